section
-- ===== PART A: goes FIRST, ahead of the names: the tables' words, and 'selects' of the private methods out of them =====
/-- a private method of a class that the tables say can be made, by its rows of tables_1 -/
def lw_okq (q : MethodName × Nat) : Prop := (q.1.cls ≠ "java/lang/invoke/MethodHandle" ∧ q.1.cls ≠ "java/lang/invoke/VarHandle") ∧ Cond.instantiable q.1.cls q.2 ∈ tables_1 ∧ Cond.privateMethod q.1 ∈ tables_1 ∧ Cond.instanceMethod q.1 ∈ tables_1
theorem lw_p0 : lw_okq (⟨"MatchForge", "give", "(III)V"⟩, 11) := ⟨⟨by decide +kernel, by decide +kernel⟩, List.mem_of_getElem? (i := 16) (by decide +kernel), List.mem_of_getElem? (i := 314) (by decide +kernel), List.mem_of_getElem? (i := 315) (by decide +kernel)⟩
theorem lw_p1 : lw_okq (⟨"MatchForge$Types", "settlePlain", "()V"⟩, 7) := ⟨⟨by decide +kernel, by decide +kernel⟩, List.mem_of_getElem? (i := 24) (by decide +kernel), List.mem_of_getElem? (i := 330) (by decide +kernel), List.mem_of_getElem? (i := 331) (by decide +kernel)⟩
theorem lw_p2 : lw_okq (⟨"MatchForge$Types", "settlePlainOf", "(I)V"⟩, 7) := ⟨⟨by decide +kernel, by decide +kernel⟩, List.mem_of_getElem? (i := 24) (by decide +kernel), List.mem_of_getElem? (i := 334) (by decide +kernel), List.mem_of_getElem? (i := 335) (by decide +kernel)⟩
theorem lw_p3 : lw_okq (⟨"MatchForge$Types", "smallestBy", "(II)I"⟩, 7) := ⟨⟨by decide +kernel, by decide +kernel⟩, List.mem_of_getElem? (i := 24) (by decide +kernel), List.mem_of_getElem? (i := 338) (by decide +kernel), List.mem_of_getElem? (i := 339) (by decide +kernel)⟩
theorem lw_p4 : lw_okq (⟨"MatchForge$Terms", "join", "(II)V"⟩, 11) := ⟨⟨by decide +kernel, by decide +kernel⟩, List.mem_of_getElem? (i := 58) (by decide +kernel), List.mem_of_getElem? (i := 362) (by decide +kernel), List.mem_of_getElem? (i := 363) (by decide +kernel)⟩
theorem lw_p5 : lw_okq (⟨"MatchForge", "addMade", "(LMatchForge$Terms;II)I"⟩, 11) := ⟨⟨by decide +kernel, by decide +kernel⟩, List.mem_of_getElem? (i := 16) (by decide +kernel), List.mem_of_getElem? (i := 370) (by decide +kernel), List.mem_of_getElem? (i := 371) (by decide +kernel)⟩
theorem lw_p6 : lw_okq (⟨"MatchForge", "isMatch", "(I)Z"⟩, 11) := ⟨⟨by decide +kernel, by decide +kernel⟩, List.mem_of_getElem? (i := 16) (by decide +kernel), List.mem_of_getElem? (i := 568) (by decide +kernel), List.mem_of_getElem? (i := 569) (by decide +kernel)⟩
theorem lw_p7 : lw_okq (⟨"MatchForge", "isGuard", "(III)Z"⟩, 11) := ⟨⟨by decide +kernel, by decide +kernel⟩, List.mem_of_getElem? (i := 16) (by decide +kernel), List.mem_of_getElem? (i := 577) (by decide +kernel), List.mem_of_getElem? (i := 578) (by decide +kernel)⟩
theorem lw_p8 : lw_okq (⟨"MatchForge$Builder", "begin", "(LMatchForge$Match;)V"⟩, 18) := ⟨⟨by decide +kernel, by decide +kernel⟩, List.mem_of_getElem? (i := 113) (by decide +kernel), List.mem_of_getElem? (i := 597) (by decide +kernel), List.mem_of_getElem? (i := 598) (by decide +kernel)⟩
theorem lw_p9 : lw_okq (⟨"MatchForge$Builder", "putParts", "(III)I"⟩, 18) := ⟨⟨by decide +kernel, by decide +kernel⟩, List.mem_of_getElem? (i := 113) (by decide +kernel), List.mem_of_getElem? (i := 638) (by decide +kernel), List.mem_of_getElem? (i := 639) (by decide +kernel)⟩
theorem lw_p10 : lw_okq (⟨"MatchForge$Builder", "stripNames", "(II)I"⟩, 18) := ⟨⟨by decide +kernel, by decide +kernel⟩, List.mem_of_getElem? (i := 113) (by decide +kernel), List.mem_of_getElem? (i := 642) (by decide +kernel), List.mem_of_getElem? (i := 643) (by decide +kernel)⟩
theorem lw_p11 : lw_okq (⟨"MatchForge$Builder", "keep", "(II)V"⟩, 18) := ⟨⟨by decide +kernel, by decide +kernel⟩, List.mem_of_getElem? (i := 113) (by decide +kernel), List.mem_of_getElem? (i := 650) (by decide +kernel), List.mem_of_getElem? (i := 651) (by decide +kernel)⟩
theorem lw_p12 : lw_okq (⟨"MatchForge$Builder", "putOff", "(II)V"⟩, 18) := ⟨⟨by decide +kernel, by decide +kernel⟩, List.mem_of_getElem? (i := 113) (by decide +kernel), List.mem_of_getElem? (i := 654) (by decide +kernel), List.mem_of_getElem? (i := 655) (by decide +kernel)⟩
theorem lw_p13 : lw_okq (⟨"MatchForge$Builder", "loadRows", "(I)V"⟩, 18) := ⟨⟨by decide +kernel, by decide +kernel⟩, List.mem_of_getElem? (i := 113) (by decide +kernel), List.mem_of_getElem? (i := 658) (by decide +kernel), List.mem_of_getElem? (i := 659) (by decide +kernel)⟩
theorem lw_p14 : lw_okq (⟨"MatchForge$Builder", "splitFirst", "()V"⟩, 18) := ⟨⟨by decide +kernel, by decide +kernel⟩, List.mem_of_getElem? (i := 113) (by decide +kernel), List.mem_of_getElem? (i := 663) (by decide +kernel), List.mem_of_getElem? (i := 664) (by decide +kernel)⟩
theorem lw_p15 : lw_okq (⟨"MatchForge$Builder", "placeThatCounts", "()I"⟩, 18) := ⟨⟨by decide +kernel, by decide +kernel⟩, List.mem_of_getElem? (i := 113) (by decide +kernel), List.mem_of_getElem? (i := 667) (by decide +kernel), List.mem_of_getElem? (i := 668) (by decide +kernel)⟩
def lw_privs_1 : List (MethodName × Nat) := [(⟨"MatchForge", "give", "(III)V"⟩, 11), (⟨"MatchForge$Types", "settlePlain", "()V"⟩, 7), (⟨"MatchForge$Types", "settlePlainOf", "(I)V"⟩, 7), (⟨"MatchForge$Types", "smallestBy", "(II)I"⟩, 7), (⟨"MatchForge$Terms", "join", "(II)V"⟩, 11), (⟨"MatchForge", "addMade", "(LMatchForge$Terms;II)I"⟩, 11), (⟨"MatchForge", "isMatch", "(I)Z"⟩, 11), (⟨"MatchForge", "isGuard", "(III)Z"⟩, 11), (⟨"MatchForge$Builder", "begin", "(LMatchForge$Match;)V"⟩, 18), (⟨"MatchForge$Builder", "putParts", "(III)I"⟩, 18), (⟨"MatchForge$Builder", "stripNames", "(II)I"⟩, 18), (⟨"MatchForge$Builder", "keep", "(II)V"⟩, 18), (⟨"MatchForge$Builder", "putOff", "(II)V"⟩, 18), (⟨"MatchForge$Builder", "loadRows", "(I)V"⟩, 18), (⟨"MatchForge$Builder", "splitFirst", "()V"⟩, 18), (⟨"MatchForge$Builder", "placeThatCounts", "()I"⟩, 18)]
theorem lw_r1 : ∀ q ∈ lw_privs_1, lw_okq q := List.forall_mem_cons.mpr ⟨lw_p0, List.forall_mem_cons.mpr ⟨lw_p1, List.forall_mem_cons.mpr ⟨lw_p2, List.forall_mem_cons.mpr ⟨lw_p3, List.forall_mem_cons.mpr ⟨lw_p4, List.forall_mem_cons.mpr ⟨lw_p5, List.forall_mem_cons.mpr ⟨lw_p6, List.forall_mem_cons.mpr ⟨lw_p7, List.forall_mem_cons.mpr ⟨lw_p8, List.forall_mem_cons.mpr ⟨lw_p9, List.forall_mem_cons.mpr ⟨lw_p10, List.forall_mem_cons.mpr ⟨lw_p11, List.forall_mem_cons.mpr ⟨lw_p12, List.forall_mem_cons.mpr ⟨lw_p13, List.forall_mem_cons.mpr ⟨lw_p14, List.forall_mem_cons.mpr ⟨lw_p15, fun _ h => absurd h List.not_mem_nil⟩⟩⟩⟩⟩⟩⟩⟩⟩⟩⟩⟩⟩⟩⟩⟩
theorem lw_p16 : lw_okq (⟨"MatchForge$Builder", "isEither", "(II)Z"⟩, 18) := ⟨⟨by decide +kernel, by decide +kernel⟩, List.mem_of_getElem? (i := 113) (by decide +kernel), List.mem_of_getElem? (i := 671) (by decide +kernel), List.mem_of_getElem? (i := 672) (by decide +kernel)⟩
theorem lw_p17 : lw_okq (⟨"MatchForge$Builder", "patternAt", "(II)I"⟩, 18) := ⟨⟨by decide +kernel, by decide +kernel⟩, List.mem_of_getElem? (i := 113) (by decide +kernel), List.mem_of_getElem? (i := 675) (by decide +kernel), List.mem_of_getElem? (i := 676) (by decide +kernel)⟩
theorem lw_p18 : lw_okq (⟨"MatchForge$Builder", "split", "(II)V"⟩, 18) := ⟨⟨by decide +kernel, by decide +kernel⟩, List.mem_of_getElem? (i := 113) (by decide +kernel), List.mem_of_getElem? (i := 679) (by decide +kernel), List.mem_of_getElem? (i := 680) (by decide +kernel)⟩
theorem lw_p19 : lw_okq (⟨"MatchForge$Builder", "splitAll", "(I)V"⟩, 18) := ⟨⟨by decide +kernel, by decide +kernel⟩, List.mem_of_getElem? (i := 113) (by decide +kernel), List.mem_of_getElem? (i := 683) (by decide +kernel), List.mem_of_getElem? (i := 684) (by decide +kernel)⟩
theorem lw_p20 : lw_okq (⟨"MatchForge$Builder", "endNode", "(I)V"⟩, 18) := ⟨⟨by decide +kernel, by decide +kernel⟩, List.mem_of_getElem? (i := 113) (by decide +kernel), List.mem_of_getElem? (i := 687) (by decide +kernel), List.mem_of_getElem? (i := 688) (by decide +kernel)⟩
theorem lw_p21 : lw_okq (⟨"MatchForge$Builder", "tellNames", "(II)V"⟩, 18) := ⟨⟨by decide +kernel, by decide +kernel⟩, List.mem_of_getElem? (i := 113) (by decide +kernel), List.mem_of_getElem? (i := 695) (by decide +kernel), List.mem_of_getElem? (i := 696) (by decide +kernel)⟩
theorem lw_p22 : lw_okq (⟨"MatchForge$Builder", "growTest", "(II)V"⟩, 18) := ⟨⟨by decide +kernel, by decide +kernel⟩, List.mem_of_getElem? (i := 113) (by decide +kernel), List.mem_of_getElem? (i := 703) (by decide +kernel), List.mem_of_getElem? (i := 704) (by decide +kernel)⟩
theorem lw_p23 : lw_okq (⟨"MatchForge$Builder", "gatherLabels", "(I)V"⟩, 18) := ⟨⟨by decide +kernel, by decide +kernel⟩, List.mem_of_getElem? (i := 113) (by decide +kernel), List.mem_of_getElem? (i := 707) (by decide +kernel), List.mem_of_getElem? (i := 708) (by decide +kernel)⟩
theorem lw_p24 : lw_okq (⟨"MatchForge$Builder", "gatherLabel", "(I)V"⟩, 18) := ⟨⟨by decide +kernel, by decide +kernel⟩, List.mem_of_getElem? (i := 113) (by decide +kernel), List.mem_of_getElem? (i := 711) (by decide +kernel), List.mem_of_getElem? (i := 712) (by decide +kernel)⟩
theorem lw_p25 : lw_okq (⟨"MatchForge$Builder", "growBranch", "(IIIZ)V"⟩, 18) := ⟨⟨by decide +kernel, by decide +kernel⟩, List.mem_of_getElem? (i := 113) (by decide +kernel), List.mem_of_getElem? (i := 715) (by decide +kernel), List.mem_of_getElem? (i := 716) (by decide +kernel)⟩
theorem lw_p26 : lw_okq (⟨"MatchForge$Builder", "leastAbsent", "()I"⟩, 18) := ⟨⟨by decide +kernel, by decide +kernel⟩, List.mem_of_getElem? (i := 113) (by decide +kernel), List.mem_of_getElem? (i := 721) (by decide +kernel), List.mem_of_getElem? (i := 722) (by decide +kernel)⟩
theorem lw_p27 : lw_okq (⟨"MatchForge$Walk", "branchOf", "(LMatchForge$Tree;I)I"⟩, 5) := ⟨⟨by decide +kernel, by decide +kernel⟩, List.mem_of_getElem? (i := 197) (by decide +kernel), List.mem_of_getElem? (i := 731) (by decide +kernel), List.mem_of_getElem? (i := 732) (by decide +kernel)⟩
theorem lw_p28 : lw_okq (⟨"MatchForge$Walk", "openParts", "(II)V"⟩, 5) := ⟨⟨by decide +kernel, by decide +kernel⟩, List.mem_of_getElem? (i := 197) (by decide +kernel), List.mem_of_getElem? (i := 735) (by decide +kernel), List.mem_of_getElem? (i := 736) (by decide +kernel)⟩
theorem lw_p29 : lw_okq (⟨"MatchForge$Walk", "asks", "(LMatchForge$Match;I)Z"⟩, 5) := ⟨⟨by decide +kernel, by decide +kernel⟩, List.mem_of_getElem? (i := 197) (by decide +kernel), List.mem_of_getElem? (i := 740) (by decide +kernel), List.mem_of_getElem? (i := 741) (by decide +kernel)⟩
theorem lw_p30 : lw_okq (⟨"MatchForge$Walk", "bind", "(LMatchForge$Tree;I)V"⟩, 5) := ⟨⟨by decide +kernel, by decide +kernel⟩, List.mem_of_getElem? (i := 197) (by decide +kernel), List.mem_of_getElem? (i := 748) (by decide +kernel), List.mem_of_getElem? (i := 749) (by decide +kernel)⟩
theorem lw_p31 : lw_okq (⟨"MatchForge$Teller", "markWay", "(LMatchForge$Tree;)V"⟩, 6) := ⟨⟨by decide +kernel, by decide +kernel⟩, List.mem_of_getElem? (i := 241) (by decide +kernel), List.mem_of_getElem? (i := 768) (by decide +kernel), List.mem_of_getElem? (i := 769) (by decide +kernel)⟩
def lw_privs_2 : List (MethodName × Nat) := [(⟨"MatchForge$Builder", "isEither", "(II)Z"⟩, 18), (⟨"MatchForge$Builder", "patternAt", "(II)I"⟩, 18), (⟨"MatchForge$Builder", "split", "(II)V"⟩, 18), (⟨"MatchForge$Builder", "splitAll", "(I)V"⟩, 18), (⟨"MatchForge$Builder", "endNode", "(I)V"⟩, 18), (⟨"MatchForge$Builder", "tellNames", "(II)V"⟩, 18), (⟨"MatchForge$Builder", "growTest", "(II)V"⟩, 18), (⟨"MatchForge$Builder", "gatherLabels", "(I)V"⟩, 18), (⟨"MatchForge$Builder", "gatherLabel", "(I)V"⟩, 18), (⟨"MatchForge$Builder", "growBranch", "(IIIZ)V"⟩, 18), (⟨"MatchForge$Builder", "leastAbsent", "()I"⟩, 18), (⟨"MatchForge$Walk", "branchOf", "(LMatchForge$Tree;I)I"⟩, 5), (⟨"MatchForge$Walk", "openParts", "(II)V"⟩, 5), (⟨"MatchForge$Walk", "asks", "(LMatchForge$Match;I)Z"⟩, 5), (⟨"MatchForge$Walk", "bind", "(LMatchForge$Tree;I)V"⟩, 5), (⟨"MatchForge$Teller", "markWay", "(LMatchForge$Tree;)V"⟩, 6)]
theorem lw_r2 : ∀ q ∈ lw_privs_2, lw_okq q := List.forall_mem_cons.mpr ⟨lw_p16, List.forall_mem_cons.mpr ⟨lw_p17, List.forall_mem_cons.mpr ⟨lw_p18, List.forall_mem_cons.mpr ⟨lw_p19, List.forall_mem_cons.mpr ⟨lw_p20, List.forall_mem_cons.mpr ⟨lw_p21, List.forall_mem_cons.mpr ⟨lw_p22, List.forall_mem_cons.mpr ⟨lw_p23, List.forall_mem_cons.mpr ⟨lw_p24, List.forall_mem_cons.mpr ⟨lw_p25, List.forall_mem_cons.mpr ⟨lw_p26, List.forall_mem_cons.mpr ⟨lw_p27, List.forall_mem_cons.mpr ⟨lw_p28, List.forall_mem_cons.mpr ⟨lw_p29, List.forall_mem_cons.mpr ⟨lw_p30, List.forall_mem_cons.mpr ⟨lw_p31, fun _ h => absurd h List.not_mem_nil⟩⟩⟩⟩⟩⟩⟩⟩⟩⟩⟩⟩⟩⟩⟩⟩
theorem lw_p32 : lw_okq (⟨"MatchForge$Teller", "spell", "(LMatchForge$Match;)I"⟩, 6) := ⟨⟨by decide +kernel, by decide +kernel⟩, List.mem_of_getElem? (i := 241) (by decide +kernel), List.mem_of_getElem? (i := 773) (by decide +kernel), List.mem_of_getElem? (i := 774) (by decide +kernel)⟩
theorem lw_p33 : lw_okq (⟨"MatchForge", "allRows", "()I"⟩, 11) := ⟨⟨by decide +kernel, by decide +kernel⟩, List.mem_of_getElem? (i := 16) (by decide +kernel), List.mem_of_getElem? (i := 791) (by decide +kernel), List.mem_of_getElem? (i := 792) (by decide +kernel)⟩
theorem lw_p34 : lw_okq (⟨"MatchForge", "agrees", "(LMatchForge$Match;)Z"⟩, 11) := ⟨⟨by decide +kernel, by decide +kernel⟩, List.mem_of_getElem? (i := 16) (by decide +kernel), List.mem_of_getElem? (i := 803) (by decide +kernel), List.mem_of_getElem? (i := 804) (by decide +kernel)⟩
theorem lw_p35 : lw_okq (⟨"MatchForge$Judge", "allFit", "(LMatchForge$Match;I[I)Z"⟩, 3) := ⟨⟨by decide +kernel, by decide +kernel⟩, List.mem_of_getElem? (i := 225) (by decide +kernel), List.mem_of_getElem? (i := 814) (by decide +kernel), List.mem_of_getElem? (i := 815) (by decide +kernel)⟩
theorem lw_p36 : lw_okq (⟨"MatchForge$Judge", "fits", "(III)Z"⟩, 3) := ⟨⟨by decide +kernel, by decide +kernel⟩, List.mem_of_getElem? (i := 225) (by decide +kernel), List.mem_of_getElem? (i := 819) (by decide +kernel), List.mem_of_getElem? (i := 820) (by decide +kernel)⟩
theorem lw_p37 : lw_okq (⟨"MatchForge$Judge", "partsFit", "(III)Z"⟩, 3) := ⟨⟨by decide +kernel, by decide +kernel⟩, List.mem_of_getElem? (i := 225) (by decide +kernel), List.mem_of_getElem? (i := 824) (by decide +kernel), List.mem_of_getElem? (i := 825) (by decide +kernel)⟩
theorem lw_p38 : lw_okq (⟨"MatchForge$Judge", "holds", "(LMatchForge$Match;I)Z"⟩, 3) := ⟨⟨by decide +kernel, by decide +kernel⟩, List.mem_of_getElem? (i := 225) (by decide +kernel), List.mem_of_getElem? (i := 829) (by decide +kernel), List.mem_of_getElem? (i := 830) (by decide +kernel)⟩
theorem lw_p39 : lw_okq (⟨"MatchForgeModel", "isType", "(I)Z"⟩, 56) := ⟨⟨by decide +kernel, by decide +kernel⟩, List.mem_of_getElem? (i := 833) (by decide +kernel), List.mem_of_getElem? (i := 1020) (by decide +kernel), List.mem_of_getElem? (i := 1021) (by decide +kernel)⟩
theorem lw_p40 : lw_okq (⟨"MatchForgeModel", "findPlains", "()V"⟩, 56) := ⟨⟨by decide +kernel, by decide +kernel⟩, List.mem_of_getElem? (i := 833) (by decide +kernel), List.mem_of_getElem? (i := 1024) (by decide +kernel), List.mem_of_getElem? (i := 1025) (by decide +kernel)⟩
theorem lw_p41 : lw_okq (⟨"MatchForgeModel", "madeSize", "(II)I"⟩, 56) := ⟨⟨by decide +kernel, by decide +kernel⟩, List.mem_of_getElem? (i := 833) (by decide +kernel), List.mem_of_getElem? (i := 1028) (by decide +kernel), List.mem_of_getElem? (i := 1029) (by decide +kernel)⟩
theorem lw_p42 : lw_okq (⟨"MatchForgeModel", "addValue", "(III)I"⟩, 56) := ⟨⟨by decide +kernel, by decide +kernel⟩, List.mem_of_getElem? (i := 833) (by decide +kernel), List.mem_of_getElem? (i := 1036) (by decide +kernel), List.mem_of_getElem? (i := 1037) (by decide +kernel)⟩
theorem lw_p43 : lw_okq (⟨"MatchForgeModel", "isMaker", "(II)Z"⟩, 56) := ⟨⟨by decide +kernel, by decide +kernel⟩, List.mem_of_getElem? (i := 833) (by decide +kernel), List.mem_of_getElem? (i := 1044) (by decide +kernel), List.mem_of_getElem? (i := 1045) (by decide +kernel)⟩
theorem lw_p44 : lw_okq (⟨"MatchForgeModel", "countOf", "(II)I"⟩, 56) := ⟨⟨by decide +kernel, by decide +kernel⟩, List.mem_of_getElem? (i := 833) (by decide +kernel), List.mem_of_getElem? (i := 1048) (by decide +kernel), List.mem_of_getElem? (i := 1049) (by decide +kernel)⟩
theorem lw_p45 : lw_okq (⟨"MatchForgeModel", "partType", "(III)I"⟩, 56) := ⟨⟨by decide +kernel, by decide +kernel⟩, List.mem_of_getElem? (i := 833) (by decide +kernel), List.mem_of_getElem? (i := 1055) (by decide +kernel), List.mem_of_getElem? (i := 1056) (by decide +kernel)⟩
theorem lw_p46 : lw_okq (⟨"MatchForgeModel", "isValueOf", "(II)Z"⟩, 56) := ⟨⟨by decide +kernel, by decide +kernel⟩, List.mem_of_getElem? (i := 833) (by decide +kernel), List.mem_of_getElem? (i := 1059) (by decide +kernel), List.mem_of_getElem? (i := 1060) (by decide +kernel)⟩
theorem lw_p47 : lw_okq (⟨"MatchForgeModel", "addPattern", "(IIIIIZ)I"⟩, 56) := ⟨⟨by decide +kernel, by decide +kernel⟩, List.mem_of_getElem? (i := 833) (by decide +kernel), List.mem_of_getElem? (i := 1070) (by decide +kernel), List.mem_of_getElem? (i := 1071) (by decide +kernel)⟩
def lw_privs_3 : List (MethodName × Nat) := [(⟨"MatchForge$Teller", "spell", "(LMatchForge$Match;)I"⟩, 6), (⟨"MatchForge", "allRows", "()I"⟩, 11), (⟨"MatchForge", "agrees", "(LMatchForge$Match;)Z"⟩, 11), (⟨"MatchForge$Judge", "allFit", "(LMatchForge$Match;I[I)Z"⟩, 3), (⟨"MatchForge$Judge", "fits", "(III)Z"⟩, 3), (⟨"MatchForge$Judge", "partsFit", "(III)Z"⟩, 3), (⟨"MatchForge$Judge", "holds", "(LMatchForge$Match;I)Z"⟩, 3), (⟨"MatchForgeModel", "isType", "(I)Z"⟩, 56), (⟨"MatchForgeModel", "findPlains", "()V"⟩, 56), (⟨"MatchForgeModel", "madeSize", "(II)I"⟩, 56), (⟨"MatchForgeModel", "addValue", "(III)I"⟩, 56), (⟨"MatchForgeModel", "isMaker", "(II)Z"⟩, 56), (⟨"MatchForgeModel", "countOf", "(II)I"⟩, 56), (⟨"MatchForgeModel", "partType", "(III)I"⟩, 56), (⟨"MatchForgeModel", "isValueOf", "(II)Z"⟩, 56), (⟨"MatchForgeModel", "addPattern", "(IIIIIZ)I"⟩, 56)]
theorem lw_r3 : ∀ q ∈ lw_privs_3, lw_okq q := List.forall_mem_cons.mpr ⟨lw_p32, List.forall_mem_cons.mpr ⟨lw_p33, List.forall_mem_cons.mpr ⟨lw_p34, List.forall_mem_cons.mpr ⟨lw_p35, List.forall_mem_cons.mpr ⟨lw_p36, List.forall_mem_cons.mpr ⟨lw_p37, List.forall_mem_cons.mpr ⟨lw_p38, List.forall_mem_cons.mpr ⟨lw_p39, List.forall_mem_cons.mpr ⟨lw_p40, List.forall_mem_cons.mpr ⟨lw_p41, List.forall_mem_cons.mpr ⟨lw_p42, List.forall_mem_cons.mpr ⟨lw_p43, List.forall_mem_cons.mpr ⟨lw_p44, List.forall_mem_cons.mpr ⟨lw_p45, List.forall_mem_cons.mpr ⟨lw_p46, List.forall_mem_cons.mpr ⟨lw_p47, fun _ h => absurd h List.not_mem_nil⟩⟩⟩⟩⟩⟩⟩⟩⟩⟩⟩⟩⟩⟩⟩⟩
theorem lw_p48 : lw_okq (⟨"MatchForgeModel", "isPattern", "(I)Z"⟩, 56) := ⟨⟨by decide +kernel, by decide +kernel⟩, List.mem_of_getElem? (i := 833) (by decide +kernel), List.mem_of_getElem? (i := 1078) (by decide +kernel), List.mem_of_getElem? (i := 1079) (by decide +kernel)⟩
theorem lw_p49 : lw_okq (⟨"MatchForgeModel", "hasName", "(II)Z"⟩, 56) := ⟨⟨by decide +kernel, by decide +kernel⟩, List.mem_of_getElem? (i := 833) (by decide +kernel), List.mem_of_getElem? (i := 1082) (by decide +kernel), List.mem_of_getElem? (i := 1083) (by decide +kernel)⟩
theorem lw_p50 : lw_okq (⟨"MatchForgeModel", "isMatch", "(I)Z"⟩, 56) := ⟨⟨by decide +kernel, by decide +kernel⟩, List.mem_of_getElem? (i := 833) (by decide +kernel), List.mem_of_getElem? (i := 1106) (by decide +kernel), List.mem_of_getElem? (i := 1107) (by decide +kernel)⟩
theorem lw_p51 : lw_okq (⟨"MatchForgeModel", "typeOfName", "(II)I"⟩, 56) := ⟨⟨by decide +kernel, by decide +kernel⟩, List.mem_of_getElem? (i := 833) (by decide +kernel), List.mem_of_getElem? (i := 1110) (by decide +kernel), List.mem_of_getElem? (i := 1111) (by decide +kernel)⟩
theorem lw_p52 : lw_okq (⟨"MatchForgeModel", "forget", "()V"⟩, 56) := ⟨⟨by decide +kernel, by decide +kernel⟩, List.mem_of_getElem? (i := 833) (by decide +kernel), List.mem_of_getElem? (i := 1118) (by decide +kernel), List.mem_of_getElem? (i := 1119) (by decide +kernel)⟩
theorem lw_p53 : lw_okq (⟨"MatchForgeModel", "look", "(I)V"⟩, 56) := ⟨⟨by decide +kernel, by decide +kernel⟩, List.mem_of_getElem? (i := 833) (by decide +kernel), List.mem_of_getElem? (i := 1122) (by decide +kernel), List.mem_of_getElem? (i := 1123) (by decide +kernel)⟩
theorem lw_p54 : lw_okq (⟨"MatchForgeModel", "goThrough", "(IZIII)V"⟩, 56) := ⟨⟨by decide +kernel, by decide +kernel⟩, List.mem_of_getElem? (i := 833) (by decide +kernel), List.mem_of_getElem? (i := 1126) (by decide +kernel), List.mem_of_getElem? (i := 1127) (by decide +kernel)⟩
theorem lw_p55 : lw_okq (⟨"MatchForgeModel", "newPlace", "(II)I"⟩, 56) := ⟨⟨by decide +kernel, by decide +kernel⟩, List.mem_of_getElem? (i := 833) (by decide +kernel), List.mem_of_getElem? (i := 1130) (by decide +kernel), List.mem_of_getElem? (i := 1131) (by decide +kernel)⟩
theorem lw_p56 : lw_okq (⟨"MatchForgeModel", "pushRow", "(II)I"⟩, 56) := ⟨⟨by decide +kernel, by decide +kernel⟩, List.mem_of_getElem? (i := 833) (by decide +kernel), List.mem_of_getElem? (i := 1134) (by decide +kernel), List.mem_of_getElem? (i := 1135) (by decide +kernel)⟩
theorem lw_p57 : lw_okq (⟨"MatchForgeModel", "patternOf", "(III)I"⟩, 56) := ⟨⟨by decide +kernel, by decide +kernel⟩, List.mem_of_getElem? (i := 833) (by decide +kernel), List.mem_of_getElem? (i := 1138) (by decide +kernel), List.mem_of_getElem? (i := 1139) (by decide +kernel)⟩
theorem lw_p58 : lw_okq (⟨"MatchForgeModel", "setCell", "(IIII)V"⟩, 56) := ⟨⟨by decide +kernel, by decide +kernel⟩, List.mem_of_getElem? (i := 833) (by decide +kernel), List.mem_of_getElem? (i := 1142) (by decide +kernel), List.mem_of_getElem? (i := 1143) (by decide +kernel)⟩
theorem lw_p59 : lw_okq (⟨"MatchForgeModel", "node", "(III)V"⟩, 56) := ⟨⟨by decide +kernel, by decide +kernel⟩, List.mem_of_getElem? (i := 833) (by decide +kernel), List.mem_of_getElem? (i := 1146) (by decide +kernel), List.mem_of_getElem? (i := 1147) (by decide +kernel)⟩
theorem lw_p60 : lw_okq (⟨"MatchForgeModel", "firstOpen", "(II)I"⟩, 56) := ⟨⟨by decide +kernel, by decide +kernel⟩, List.mem_of_getElem? (i := 833) (by decide +kernel), List.mem_of_getElem? (i := 1150) (by decide +kernel), List.mem_of_getElem? (i := 1151) (by decide +kernel)⟩
theorem lw_p61 : lw_okq (⟨"MatchForgeModel", "cell", "(II)I"⟩, 56) := ⟨⟨by decide +kernel, by decide +kernel⟩, List.mem_of_getElem? (i := 833) (by decide +kernel), List.mem_of_getElem? (i := 1154) (by decide +kernel), List.mem_of_getElem? (i := 1155) (by decide +kernel)⟩
theorem lw_p62 : lw_okq (⟨"MatchForgeModel", "isEither", "(II)Z"⟩, 56) := ⟨⟨by decide +kernel, by decide +kernel⟩, List.mem_of_getElem? (i := 833) (by decide +kernel), List.mem_of_getElem? (i := 1158) (by decide +kernel), List.mem_of_getElem? (i := 1159) (by decide +kernel)⟩
theorem lw_p63 : lw_okq (⟨"MatchForgeModel", "split", "(IIIII)V"⟩, 56) := ⟨⟨by decide +kernel, by decide +kernel⟩, List.mem_of_getElem? (i := 833) (by decide +kernel), List.mem_of_getElem? (i := 1162) (by decide +kernel), List.mem_of_getElem? (i := 1163) (by decide +kernel)⟩
def lw_privs_4 : List (MethodName × Nat) := [(⟨"MatchForgeModel", "isPattern", "(I)Z"⟩, 56), (⟨"MatchForgeModel", "hasName", "(II)Z"⟩, 56), (⟨"MatchForgeModel", "isMatch", "(I)Z"⟩, 56), (⟨"MatchForgeModel", "typeOfName", "(II)I"⟩, 56), (⟨"MatchForgeModel", "forget", "()V"⟩, 56), (⟨"MatchForgeModel", "look", "(I)V"⟩, 56), (⟨"MatchForgeModel", "goThrough", "(IZIII)V"⟩, 56), (⟨"MatchForgeModel", "newPlace", "(II)I"⟩, 56), (⟨"MatchForgeModel", "pushRow", "(II)I"⟩, 56), (⟨"MatchForgeModel", "patternOf", "(III)I"⟩, 56), (⟨"MatchForgeModel", "setCell", "(IIII)V"⟩, 56), (⟨"MatchForgeModel", "node", "(III)V"⟩, 56), (⟨"MatchForgeModel", "firstOpen", "(II)I"⟩, 56), (⟨"MatchForgeModel", "cell", "(II)I"⟩, 56), (⟨"MatchForgeModel", "isEither", "(II)Z"⟩, 56), (⟨"MatchForgeModel", "split", "(IIIII)V"⟩, 56)]
theorem lw_r4 : ∀ q ∈ lw_privs_4, lw_okq q := List.forall_mem_cons.mpr ⟨lw_p48, List.forall_mem_cons.mpr ⟨lw_p49, List.forall_mem_cons.mpr ⟨lw_p50, List.forall_mem_cons.mpr ⟨lw_p51, List.forall_mem_cons.mpr ⟨lw_p52, List.forall_mem_cons.mpr ⟨lw_p53, List.forall_mem_cons.mpr ⟨lw_p54, List.forall_mem_cons.mpr ⟨lw_p55, List.forall_mem_cons.mpr ⟨lw_p56, List.forall_mem_cons.mpr ⟨lw_p57, List.forall_mem_cons.mpr ⟨lw_p58, List.forall_mem_cons.mpr ⟨lw_p59, List.forall_mem_cons.mpr ⟨lw_p60, List.forall_mem_cons.mpr ⟨lw_p61, List.forall_mem_cons.mpr ⟨lw_p62, List.forall_mem_cons.mpr ⟨lw_p63, fun _ h => absurd h List.not_mem_nil⟩⟩⟩⟩⟩⟩⟩⟩⟩⟩⟩⟩⟩⟩⟩⟩
theorem lw_p64 : lw_okq (⟨"MatchForgeModel", "copyRow", "(III)V"⟩, 56) := ⟨⟨by decide +kernel, by decide +kernel⟩, List.mem_of_getElem? (i := 833) (by decide +kernel), List.mem_of_getElem? (i := 1166) (by decide +kernel), List.mem_of_getElem? (i := 1167) (by decide +kernel)⟩
theorem lw_p65 : lw_okq (⟨"MatchForgeModel", "failure", "()V"⟩, 56) := ⟨⟨by decide +kernel, by decide +kernel⟩, List.mem_of_getElem? (i := 833) (by decide +kernel), List.mem_of_getElem? (i := 1170) (by decide +kernel), List.mem_of_getElem? (i := 1171) (by decide +kernel)⟩
theorem lw_p66 : lw_okq (⟨"MatchForgeModel", "countNode", "(I)Z"⟩, 56) := ⟨⟨by decide +kernel, by decide +kernel⟩, List.mem_of_getElem? (i := 833) (by decide +kernel), List.mem_of_getElem? (i := 1174) (by decide +kernel), List.mem_of_getElem? (i := 1175) (by decide +kernel)⟩
theorem lw_p67 : lw_okq (⟨"MatchForgeModel", "tell", "(I)V"⟩, 56) := ⟨⟨by decide +kernel, by decide +kernel⟩, List.mem_of_getElem? (i := 833) (by decide +kernel), List.mem_of_getElem? (i := 1178) (by decide +kernel), List.mem_of_getElem? (i := 1179) (by decide +kernel)⟩
theorem lw_p68 : lw_okq (⟨"MatchForgeModel", "tellPlain", "(I)V"⟩, 56) := ⟨⟨by decide +kernel, by decide +kernel⟩, List.mem_of_getElem? (i := 833) (by decide +kernel), List.mem_of_getElem? (i := 1182) (by decide +kernel), List.mem_of_getElem? (i := 1183) (by decide +kernel)⟩
theorem lw_p69 : lw_okq (⟨"MatchForgeModel", "put", "(I)V"⟩, 56) := ⟨⟨by decide +kernel, by decide +kernel⟩, List.mem_of_getElem? (i := 833) (by decide +kernel), List.mem_of_getElem? (i := 1186) (by decide +kernel), List.mem_of_getElem? (i := 1187) (by decide +kernel)⟩
theorem lw_p70 : lw_okq (⟨"MatchForgeModel", "leaf", "(III)V"⟩, 56) := ⟨⟨by decide +kernel, by decide +kernel⟩, List.mem_of_getElem? (i := 833) (by decide +kernel), List.mem_of_getElem? (i := 1190) (by decide +kernel), List.mem_of_getElem? (i := 1191) (by decide +kernel)⟩
theorem lw_p71 : lw_okq (⟨"MatchForgeModel", "test", "(IIII)V"⟩, 56) := ⟨⟨by decide +kernel, by decide +kernel⟩, List.mem_of_getElem? (i := 833) (by decide +kernel), List.mem_of_getElem? (i := 1194) (by decide +kernel), List.mem_of_getElem? (i := 1195) (by decide +kernel)⟩
theorem lw_p72 : lw_okq (⟨"MatchForgeModel", "branch", "(IIIIZII)V"⟩, 56) := ⟨⟨by decide +kernel, by decide +kernel⟩, List.mem_of_getElem? (i := 833) (by decide +kernel), List.mem_of_getElem? (i := 1198) (by decide +kernel), List.mem_of_getElem? (i := 1199) (by decide +kernel)⟩
theorem lw_p73 : lw_okq (⟨"MatchForgeModel", "leastOther", "(III)I"⟩, 56) := ⟨⟨by decide +kernel, by decide +kernel⟩, List.mem_of_getElem? (i := 833) (by decide +kernel), List.mem_of_getElem? (i := 1202) (by decide +kernel), List.mem_of_getElem? (i := 1203) (by decide +kernel)⟩
theorem lw_p74 : lw_okq (⟨"MatchForgeModel", "takes", "(IIIII)Z"⟩, 56) := ⟨⟨by decide +kernel, by decide +kernel⟩, List.mem_of_getElem? (i := 833) (by decide +kernel), List.mem_of_getElem? (i := 1206) (by decide +kernel), List.mem_of_getElem? (i := 1207) (by decide +kernel)⟩
theorem lw_p75 : lw_okq (⟨"MatchForgeModel", "doesMatch", "(II)Z"⟩, 56) := ⟨⟨by decide +kernel, by decide +kernel⟩, List.mem_of_getElem? (i := 833) (by decide +kernel), List.mem_of_getElem? (i := 1210) (by decide +kernel), List.mem_of_getElem? (i := 1211) (by decide +kernel)⟩
def lw_privs_5 : List (MethodName × Nat) := [(⟨"MatchForgeModel", "copyRow", "(III)V"⟩, 56), (⟨"MatchForgeModel", "failure", "()V"⟩, 56), (⟨"MatchForgeModel", "countNode", "(I)Z"⟩, 56), (⟨"MatchForgeModel", "tell", "(I)V"⟩, 56), (⟨"MatchForgeModel", "tellPlain", "(I)V"⟩, 56), (⟨"MatchForgeModel", "put", "(I)V"⟩, 56), (⟨"MatchForgeModel", "leaf", "(III)V"⟩, 56), (⟨"MatchForgeModel", "test", "(IIII)V"⟩, 56), (⟨"MatchForgeModel", "branch", "(IIIIZII)V"⟩, 56), (⟨"MatchForgeModel", "leastOther", "(III)I"⟩, 56), (⟨"MatchForgeModel", "takes", "(IIIII)Z"⟩, 56), (⟨"MatchForgeModel", "doesMatch", "(II)Z"⟩, 56)]
theorem lw_r5 : ∀ q ∈ lw_privs_5, lw_okq q := List.forall_mem_cons.mpr ⟨lw_p64, List.forall_mem_cons.mpr ⟨lw_p65, List.forall_mem_cons.mpr ⟨lw_p66, List.forall_mem_cons.mpr ⟨lw_p67, List.forall_mem_cons.mpr ⟨lw_p68, List.forall_mem_cons.mpr ⟨lw_p69, List.forall_mem_cons.mpr ⟨lw_p70, List.forall_mem_cons.mpr ⟨lw_p71, List.forall_mem_cons.mpr ⟨lw_p72, List.forall_mem_cons.mpr ⟨lw_p73, List.forall_mem_cons.mpr ⟨lw_p74, List.forall_mem_cons.mpr ⟨lw_p75, fun _ h => absurd h List.not_mem_nil⟩⟩⟩⟩⟩⟩⟩⟩⟩⟩⟩⟩
def lw_privs : List (MethodName × Nat) := lw_privs_1 ++ (lw_privs_2 ++ (lw_privs_3 ++ (lw_privs_4 ++ (lw_privs_5))))
def lw_tbl : List Cond := k2_sels lw_privs ++ tables_1
theorem lw_privs_ok : ∀ q ∈ lw_privs, lw_okq q := by
  show ∀ q ∈ lw_privs_1 ++ (lw_privs_2 ++ (lw_privs_3 ++ (lw_privs_4 ++ (lw_privs_5)))), lw_okq q
  exact List.forall_mem_append.mpr ⟨lw_r1, List.forall_mem_append.mpr ⟨lw_r2, List.forall_mem_append.mpr ⟨lw_r3, List.forall_mem_append.mpr ⟨lw_r4, lw_r5⟩⟩⟩⟩
end
section
def RX0 : String := "MatchForge$Builder"
def TX0 : u_T := fun k => match k with
  | 0 => ("MatchForge$Builder", "types", "LMatchForge$Types;", true)
  | 1 => ("MatchForge$Builder", "patterns", "LMatchForge$Terms;", true)
  | 2 => ("MatchForge$Builder", "states", "LMatchForge$Cells;", true)
  | 3 => ("MatchForge$Builder", "lists", "LMatchForge$Cells;", true)
  | 4 => ("MatchForge$Builder", "pending", "[I", true)
  | 5 => ("MatchForge$Builder", "waiting", "I", false)
  | 6 => ("MatchForge$Builder", "nodeRows", "[I", true)
  | 7 => ("MatchForge$Builder", "nodeRowCount", "[I", true)
  | 8 => ("MatchForge$Builder", "rows", "[I", true)
  | 9 => ("MatchForge$Builder", "rowCount", "I", false)
  | 10 => ("MatchForge$Builder", "labels", "[I", true)
  | 11 => ("MatchForge$Builder", "labelCount", "I", false)
  | 12 => ("MatchForge$Builder", "parts", "[I", true)
  | 13 => ("MatchForge$Builder", "partCount", "I", false)
  | 14 => ("MatchForge$Builder", "before", "[I", true)
  | 15 => ("MatchForge$Builder", "names", "I", false)
  | 16 => ("MatchForge$Builder", "match", "LMatchForge$Match;", false)
  | _ => ("MatchForge$Builder", "tree", "LMatchForge$Tree;", false)
def tyX0 : Nat → FieldType := fun k => match k with
  | 0 => .object "MatchForge$Types"
  | 1 => .object "MatchForge$Terms"
  | 2 => .object "MatchForge$Cells"
  | 3 => .object "MatchForge$Cells"
  | 4 => .array .int
  | 5 => .int
  | 6 => .array .int
  | 7 => .array .int
  | 8 => .array .int
  | 9 => .int
  | 10 => .array .int
  | 11 => .int
  | 12 => .array .int
  | 13 => .int
  | 14 => .array .int
  | 15 => .int
  | 16 => .object "MatchForge$Match"
  | _ => .object "MatchForge$Tree"
theorem nmX0 : ∀ a, a < 18 → ∀ b, b < 18 → a ≠ b → (TX0 a).2.1 ≠ (TX0 b).2.1 := by decide +kernel
theorem tyX0_ok : ∀ k, k < 18 → parseFieldDescriptor (TX0 k).2.2.1 = some (tyX0 k) := by decide +kernel
abbrev cX0_init : ByteArray := prog_2_method_1_code
def yX0_init : MethodName := ⟨RX0, "<init>", "(LMatchForge$Types;LMatchForge$Terms;)V"⟩
abbrev cX0_stands : ByteArray := prog_2_method_2_code
def yX0_stands : MethodName := ⟨RX0, "stands", "(LMatchForge$Match;)Z"⟩
abbrev cX0_begin : ByteArray := prog_2_method_3_code
def yX0_begin : MethodName := ⟨RX0, "begin", "(LMatchForge$Match;)V"⟩
abbrev cX0_keep : ByteArray := prog_2_method_4_code
def yX0_keep : MethodName := ⟨RX0, "keep", "(II)V"⟩
abbrev cX0_putOff : ByteArray := prog_2_method_5_code
def yX0_putOff : MethodName := ⟨RX0, "putOff", "(II)V"⟩
abbrev cX0_loadRows : ByteArray := prog_2_method_6_code
def yX0_loadRows : MethodName := ⟨RX0, "loadRows", "(I)V"⟩
abbrev cX0_placeThatCounts : ByteArray := prog_2_method_7_code
def yX0_placeThatCounts : MethodName := ⟨RX0, "placeThatCounts", "()I"⟩
abbrev cX0_splitFirst : ByteArray := prog_2_method_8_code
def yX0_splitFirst : MethodName := ⟨RX0, "splitFirst", "()V"⟩
abbrev cX0_splitAll : ByteArray := prog_2_method_9_code
def yX0_splitAll : MethodName := ⟨RX0, "splitAll", "(I)V"⟩
abbrev cX0_isEither : ByteArray := prog_2_method_10_code
def yX0_isEither : MethodName := ⟨RX0, "isEither", "(II)Z"⟩
abbrev cX0_split : ByteArray := prog_2_method_11_code
def yX0_split : MethodName := ⟨RX0, "split", "(II)V"⟩
abbrev cX0_patternAt : ByteArray := prog_2_method_12_code
def yX0_patternAt : MethodName := ⟨RX0, "patternAt", "(II)I"⟩
abbrev cX0_putParts : ByteArray := prog_2_method_13_code
def yX0_putParts : MethodName := ⟨RX0, "putParts", "(III)I"⟩
abbrev cX0_stripNames : ByteArray := prog_2_method_14_code
def yX0_stripNames : MethodName := ⟨RX0, "stripNames", "(II)I"⟩
abbrev cX0_endNode : ByteArray := prog_2_method_15_code
def yX0_endNode : MethodName := ⟨RX0, "endNode", "(I)V"⟩
abbrev cX0_tellNames : ByteArray := prog_2_method_16_code
def yX0_tellNames : MethodName := ⟨RX0, "tellNames", "(II)V"⟩
abbrev cX0_growTest : ByteArray := prog_2_method_17_code
def yX0_growTest : MethodName := ⟨RX0, "growTest", "(II)V"⟩
abbrev cX0_gatherLabels : ByteArray := prog_2_method_18_code
def yX0_gatherLabels : MethodName := ⟨RX0, "gatherLabels", "(I)V"⟩
abbrev cX0_gatherLabel : ByteArray := prog_2_method_19_code
def yX0_gatherLabel : MethodName := ⟨RX0, "gatherLabel", "(I)V"⟩
abbrev cX0_leastAbsent : ByteArray := prog_2_method_20_code
def yX0_leastAbsent : MethodName := ⟨RX0, "leastAbsent", "()I"⟩
abbrev cX0_growBranch : ByteArray := prog_2_method_21_code
def yX0_growBranch : MethodName := ⟨RX0, "growBranch", "(IIIZ)V"⟩
def RX1 : String := "MatchForge$Cells"
def TX1 : u_T := fun k => match k with
  | 0 => ("MatchForge$Cells", "size", "I", false)
  | 1 => ("MatchForge$Cells", "first", "[I", false)
  | 2 => ("MatchForge$Cells", "second", "[I", false)
  | _ => ("MatchForge$Cells", "third", "[I", false)
def tyX1 : Nat → FieldType := fun k => match k with
  | 0 => .int
  | 1 => .array .int
  | 2 => .array .int
  | _ => .array .int
theorem nmX1 : ∀ a, a < 4 → ∀ b, b < 4 → a ≠ b → (TX1 a).2.1 ≠ (TX1 b).2.1 := by decide +kernel
theorem tyX1_ok : ∀ k, k < 4 → parseFieldDescriptor (TX1 k).2.2.1 = some (tyX1 k) := by decide +kernel
abbrev cX1_init : ByteArray := prog_3_method_1_code
def yX1_init : MethodName := ⟨RX1, "<init>", "()V"⟩
abbrev cX1_add : ByteArray := prog_3_method_2_code
def yX1_add : MethodName := ⟨RX1, "add", "(III)I"⟩
def RX2 : String := "MatchForge$Judge"
def TX2 : u_T := fun k => match k with
  | 0 => ("MatchForge$Judge", "patterns", "LMatchForge$Terms;", true)
  | 1 => ("MatchForge$Judge", "values", "LMatchForge$Terms;", true)
  | _ => ("MatchForge$Judge", "standsFor", "[I", true)
def tyX2 : Nat → FieldType := fun k => match k with
  | 0 => .object "MatchForge$Terms"
  | 1 => .object "MatchForge$Terms"
  | _ => .array .int
theorem nmX2 : ∀ a, a < 3 → ∀ b, b < 3 → a ≠ b → (TX2 a).2.1 ≠ (TX2 b).2.1 := by decide +kernel
theorem tyX2_ok : ∀ k, k < 3 → parseFieldDescriptor (TX2 k).2.2.1 = some (tyX2 k) := by decide +kernel
abbrev cX2_init : ByteArray := prog_4_method_1_code
def yX2_init : MethodName := ⟨RX2, "<init>", "(LMatchForge$Terms;LMatchForge$Terms;)V"⟩
abbrev cX2_rowFor : ByteArray := prog_4_method_2_code
def yX2_rowFor : MethodName := ⟨RX2, "rowFor", "(LMatchForge$Match;[I)I"⟩
abbrev cX2_allFit : ByteArray := prog_4_method_3_code
def yX2_allFit : MethodName := ⟨RX2, "allFit", "(LMatchForge$Match;I[I)Z"⟩
abbrev cX2_holds : ByteArray := prog_4_method_4_code
def yX2_holds : MethodName := ⟨RX2, "holds", "(LMatchForge$Match;I)Z"⟩
abbrev cX2_fits : ByteArray := prog_4_method_5_code
def yX2_fits : MethodName := ⟨RX2, "fits", "(III)Z"⟩
abbrev cX2_partsFit : ByteArray := prog_4_method_6_code
def yX2_partsFit : MethodName := ⟨RX2, "partsFit", "(III)Z"⟩
def RX3 : String := "MatchForge$Match"
def TX3 : u_T := fun k => match k with
  | 0 => ("MatchForge$Match", "places", "I", true)
  | 1 => ("MatchForge$Match", "types", "[I", true)
  | 2 => ("MatchForge$Match", "rows", "I", false)
  | 3 => ("MatchForge$Match", "patterns", "[I", true)
  | 4 => ("MatchForge$Match", "less", "[I", true)
  | 5 => ("MatchForge$Match", "more", "[I", true)
  | 6 => ("MatchForge$Match", "tree", "LMatchForge$Tree;", true)
  | _ => ("MatchForge$Match", "stale", "Z", false)
def tyX3 : Nat → FieldType := fun k => match k with
  | 0 => .int
  | 1 => .array .int
  | 2 => .int
  | 3 => .array .int
  | 4 => .array .int
  | 5 => .array .int
  | 6 => .object "MatchForge$Tree"
  | _ => .boolean
theorem nmX3 : ∀ a, a < 8 → ∀ b, b < 8 → a ≠ b → (TX3 a).2.1 ≠ (TX3 b).2.1 := by decide +kernel
theorem tyX3_ok : ∀ k, k < 8 → parseFieldDescriptor (TX3 k).2.2.1 = some (tyX3 k) := by decide +kernel
abbrev cX3_init : ByteArray := prog_5_method_1_code
def yX3_init : MethodName := ⟨RX3, "<init>", "(I[I)V"⟩
abbrev cX3_addRow : ByteArray := prog_5_method_2_code
def yX3_addRow : MethodName := ⟨RX3, "addRow", "([III)I"⟩
abbrev cX3_patternOf : ByteArray := prog_5_method_3_code
def yX3_patternOf : MethodName := ⟨RX3, "patternOf", "(II)I"⟩
abbrev cX3_isGuarded : ByteArray := prog_5_method_4_code
def yX3_isGuarded : MethodName := ⟨RX3, "isGuarded", "(I)Z"⟩
abbrev cX3_isOfOneType : ByteArray := prog_5_method_5_code
def yX3_isOfOneType : MethodName := ⟨RX3, "isOfOneType", "()Z"⟩
def RX4 : String := "MatchForge$Teller"
def TX4 : u_T := fun k => match k with
  | 0 => ("MatchForge$Teller", "types", "LMatchForge$Types;", true)
  | 1 => ("MatchForge$Teller", "told", "[I", false)
  | 2 => ("MatchForge$Teller", "draft", "[I", false)
  | 3 => ("MatchForge$Teller", "size", "I", false)
  | 4 => ("MatchForge$Teller", "branchAt", "[I", true)
  | _ => ("MatchForge$Teller", "open", "[I", true)
def tyX4 : Nat → FieldType := fun k => match k with
  | 0 => .object "MatchForge$Types"
  | 1 => .array .int
  | 2 => .array .int
  | 3 => .int
  | 4 => .array .int
  | _ => .array .int
theorem nmX4 : ∀ a, a < 6 → ∀ b, b < 6 → a ≠ b → (TX4 a).2.1 ≠ (TX4 b).2.1 := by decide +kernel
theorem tyX4_ok : ∀ k, k < 6 → parseFieldDescriptor (TX4 k).2.2.1 = some (tyX4 k) := by decide +kernel
abbrev cX4_init : ByteArray := prog_6_method_1_code
def yX4_init : MethodName := ⟨RX4, "<init>", "(LMatchForge$Types;)V"⟩
abbrev cX4_tell : ByteArray := prog_6_method_2_code
def yX4_tell : MethodName := ⟨RX4, "tell", "(LMatchForge$Match;)I"⟩
abbrev cX4_markWay : ByteArray := prog_6_method_3_code
def yX4_markWay : MethodName := ⟨RX4, "markWay", "(LMatchForge$Tree;)V"⟩
abbrev cX4_spell : ByteArray := prog_6_method_4_code
def yX4_spell : MethodName := ⟨RX4, "spell", "(LMatchForge$Match;)I"⟩
def RX5 : String := "MatchForge$Terms"
def TX5 : u_T := fun k => match k with
  | 0 => ("MatchForge$Terms", "largest", "I", true)
  | 1 => ("MatchForge$Terms", "size", "I", false)
  | 2 => ("MatchForge$Terms", "kind", "[I", true)
  | 3 => ("MatchForge$Terms", "typeOf", "[I", true)
  | 4 => ("MatchForge$Terms", "label", "[I", true)
  | 5 => ("MatchForge$Terms", "weight", "[I", true)
  | 6 => ("MatchForge$Terms", "partCount", "[I", true)
  | 7 => ("MatchForge$Terms", "parts", "[I", true)
  | 8 => ("MatchForge$Terms", "names", "[I", true)
  | 9 => ("MatchForge$Terms", "numberNames", "[I", true)
  | _ => ("MatchForge$Terms", "forks", "[Z", true)
def tyX5 : Nat → FieldType := fun k => match k with
  | 0 => .int
  | 1 => .int
  | 2 => .array .int
  | 3 => .array .int
  | 4 => .array .int
  | 5 => .array .int
  | 6 => .array .int
  | 7 => .array .int
  | 8 => .array .int
  | 9 => .array .int
  | _ => .array .boolean
theorem nmX5 : ∀ a, a < 11 → ∀ b, b < 11 → a ≠ b → (TX5 a).2.1 ≠ (TX5 b).2.1 := by decide +kernel
theorem tyX5_ok : ∀ k, k < 11 → parseFieldDescriptor (TX5 k).2.2.1 = some (tyX5 k) := by decide +kernel
abbrev cX5_init : ByteArray := prog_7_method_1_code
def yX5_init : MethodName := ⟨RX5, "<init>", "(I)V"⟩
abbrev cX5_has : ByteArray := prog_7_method_2_code
def yX5_has : MethodName := ⟨RX5, "has", "(I)Z"⟩
abbrev cX5_isOf : ByteArray := prog_7_method_3_code
def yX5_isOf : MethodName := ⟨RX5, "isOf", "(II)Z"⟩
abbrev cX5_areOf : ByteArray := prog_7_method_4_code
def yX5_areOf : MethodName := ⟨RX5, "areOf", "([I[II)Z"⟩
abbrev cX5_areAlike : ByteArray := prog_7_method_5_code
def yX5_areAlike : MethodName := ⟨RX5, "areAlike", "(II)Z"⟩
abbrev cX5_haveNamesApart : ByteArray := prog_7_method_6_code
def yX5_haveNamesApart : MethodName := ⟨RX5, "haveNamesApart", "([II)Z"⟩
abbrev cX5_partOf : ByteArray := prog_7_method_7_code
def yX5_partOf : MethodName := ⟨RX5, "partOf", "(II)I"⟩
abbrev cX5_add : ByteArray := prog_7_method_8_code
def yX5_add : MethodName := ⟨RX5, "add", "(III[II)I"⟩
abbrev cX5_join : ByteArray := prog_7_method_9_code
def yX5_join : MethodName := ⟨RX5, "join", "(II)V"⟩
def RX6 : String := "MatchForge$Tree"
def TX6 : u_T := fun k => match k with
  | 0 => ("MatchForge$Tree", "tooLarge", "Z", false)
  | 1 => ("MatchForge$Tree", "size", "I", false)
  | 2 => ("MatchForge$Tree", "needed", "I", false)
  | 3 => ("MatchForge$Tree", "firstFailure", "I", false)
  | 4 => ("MatchForge$Tree", "placeCount", "I", false)
  | 5 => ("MatchForge$Tree", "tally", "[I", true)
  | 6 => ("MatchForge$Tree", "placeType", "[I", true)
  | 7 => ("MatchForge$Tree", "kind", "[I", true)
  | 8 => ("MatchForge$Tree", "row", "[I", true)
  | 9 => ("MatchForge$Tree", "place", "[I", true)
  | 10 => ("MatchForge$Tree", "parent", "[I", true)
  | 11 => ("MatchForge$Tree", "firstBranch", "[I", true)
  | 12 => ("MatchForge$Tree", "branches", "[I", true)
  | 13 => ("MatchForge$Tree", "label", "[I", true)
  | 14 => ("MatchForge$Tree", "others", "[Z", true)
  | 15 => ("MatchForge$Tree", "firstPlace", "[I", true)
  | _ => ("MatchForge$Tree", "nameAt", "[I", true)
def tyX6 : Nat → FieldType := fun k => match k with
  | 0 => .boolean
  | 1 => .int
  | 2 => .int
  | 3 => .int
  | 4 => .int
  | 5 => .array .int
  | 6 => .array .int
  | 7 => .array .int
  | 8 => .array .int
  | 9 => .array .int
  | 10 => .array .int
  | 11 => .array .int
  | 12 => .array .int
  | 13 => .array .int
  | 14 => .array .boolean
  | 15 => .array .int
  | _ => .array .int
theorem nmX6 : ∀ a, a < 17 → ∀ b, b < 17 → a ≠ b → (TX6 a).2.1 ≠ (TX6 b).2.1 := by decide +kernel
theorem tyX6_ok : ∀ k, k < 17 → parseFieldDescriptor (TX6 k).2.2.1 = some (tyX6 k) := by decide +kernel
abbrev cX6_init : ByteArray := prog_8_method_1_code
def yX6_init : MethodName := ⟨RX6, "<init>", "()V"⟩
abbrev cX6_clear : ByteArray := prog_8_method_2_code
def yX6_clear : MethodName := ⟨RX6, "clear", "()V"⟩
abbrev cX6_become : ByteArray := prog_8_method_3_code
def yX6_become : MethodName := ⟨RX6, "become", "(II)V"⟩
abbrev cX6_addPlace : ByteArray := prog_8_method_4_code
def yX6_addPlace : MethodName := ⟨RX6, "addPlace", "(I)V"⟩
abbrev cX6_addBranches : ByteArray := prog_8_method_5_code
def yX6_addBranches : MethodName := ⟨RX6, "addBranches", "(II)I"⟩
abbrev cX6_placeOfName : ByteArray := prog_8_method_6_code
def yX6_placeOfName : MethodName := ⟨RX6, "placeOfName", "(II)I"⟩
def RX7 : String := "MatchForge$Types"
def TX7 : u_T := fun k => match k with
  | 0 => ("MatchForge$Types", "size", "I", false)
  | 1 => ("MatchForge$Types", "allMakers", "I", false)
  | 2 => ("MatchForge$Types", "makers", "[I", true)
  | 3 => ("MatchForge$Types", "partCount", "[I", true)
  | 4 => ("MatchForge$Types", "partType", "[I", true)
  | 5 => ("MatchForge$Types", "plainSize", "[I", true)
  | _ => ("MatchForge$Types", "plainMaker", "[I", true)
def tyX7 : Nat → FieldType := fun k => match k with
  | 0 => .int
  | 1 => .int
  | 2 => .array .int
  | 3 => .array .int
  | 4 => .array .int
  | 5 => .array .int
  | _ => .array .int
theorem nmX7 : ∀ a, a < 7 → ∀ b, b < 7 → a ≠ b → (TX7 a).2.1 ≠ (TX7 b).2.1 := by decide +kernel
theorem tyX7_ok : ∀ k, k < 7 → parseFieldDescriptor (TX7 k).2.2.1 = some (tyX7 k) := by decide +kernel
abbrev cX7_init : ByteArray := prog_9_method_1_code
def yX7_init : MethodName := ⟨RX7, "<init>", "()V"⟩
abbrev cX7_isType : ByteArray := prog_9_method_2_code
def yX7_isType : MethodName := ⟨RX7, "isType", "(I)Z"⟩
abbrev cX7_isMaker : ByteArray := prog_9_method_3_code
def yX7_isMaker : MethodName := ⟨RX7, "isMaker", "(II)Z"⟩
abbrev cX7_partsOf : ByteArray := prog_9_method_4_code
def yX7_partsOf : MethodName := ⟨RX7, "partsOf", "(II)I"⟩
abbrev cX7_partTypeOf : ByteArray := prog_9_method_5_code
def yX7_partTypeOf : MethodName := ⟨RX7, "partTypeOf", "(III)I"⟩
abbrev cX7_areTypes : ByteArray := prog_9_method_6_code
def yX7_areTypes : MethodName := ⟨RX7, "areTypes", "([II)Z"⟩
abbrev cX7_allHaveValues : ByteArray := prog_9_method_7_code
def yX7_allHaveValues : MethodName := ⟨RX7, "allHaveValues", "()Z"⟩
abbrev cX7_addType : ByteArray := prog_9_method_8_code
def yX7_addType : MethodName := ⟨RX7, "addType", "()I"⟩
abbrev cX7_addMaker : ByteArray := prog_9_method_9_code
def yX7_addMaker : MethodName := ⟨RX7, "addMaker", "(II[I)I"⟩
abbrev cX7_settlePlain : ByteArray := prog_9_method_10_code
def yX7_settlePlain : MethodName := ⟨RX7, "settlePlain", "()V"⟩
abbrev cX7_settlePlainOf : ByteArray := prog_9_method_11_code
def yX7_settlePlainOf : MethodName := ⟨RX7, "settlePlainOf", "(I)V"⟩
abbrev cX7_smallestBy : ByteArray := prog_9_method_12_code
def yX7_smallestBy : MethodName := ⟨RX7, "smallestBy", "(II)I"⟩
def RX8 : String := "MatchForge$Walk"
def TX8 : u_T := fun k => match k with
  | 0 => ("MatchForge$Walk", "values", "LMatchForge$Terms;", true)
  | 1 => ("MatchForge$Walk", "standsFor", "[I", true)
  | 2 => ("MatchForge$Walk", "tests", "I", false)
  | 3 => ("MatchForge$Walk", "questions", "I", false)
  | _ => ("MatchForge$Walk", "at", "[I", true)
def tyX8 : Nat → FieldType := fun k => match k with
  | 0 => .object "MatchForge$Terms"
  | 1 => .array .int
  | 2 => .int
  | 3 => .int
  | _ => .array .int
theorem nmX8 : ∀ a, a < 5 → ∀ b, b < 5 → a ≠ b → (TX8 a).2.1 ≠ (TX8 b).2.1 := by decide +kernel
theorem tyX8_ok : ∀ k, k < 5 → parseFieldDescriptor (TX8 k).2.2.1 = some (tyX8 k) := by decide +kernel
abbrev cX8_init : ByteArray := prog_10_method_1_code
def yX8_init : MethodName := ⟨RX8, "<init>", "(LMatchForge$Terms;)V"⟩
abbrev cX8_clear : ByteArray := prog_10_method_2_code
def yX8_clear : MethodName := ⟨RX8, "clear", "()V"⟩
abbrev cX8_follow : ByteArray := prog_10_method_3_code
def yX8_follow : MethodName := ⟨RX8, "follow", "(LMatchForge$Match;[I)I"⟩
abbrev cX8_branchOf : ByteArray := prog_10_method_4_code
def yX8_branchOf : MethodName := ⟨RX8, "branchOf", "(LMatchForge$Tree;I)I"⟩
abbrev cX8_openParts : ByteArray := prog_10_method_5_code
def yX8_openParts : MethodName := ⟨RX8, "openParts", "(II)V"⟩
abbrev cX8_asks : ByteArray := prog_10_method_6_code
def yX8_asks : MethodName := ⟨RX8, "asks", "(LMatchForge$Match;I)Z"⟩
abbrev cX8_bind : ByteArray := prog_10_method_7_code
def yX8_bind : MethodName := ⟨RX8, "bind", "(LMatchForge$Tree;I)V"⟩
def RX9 : String := "MatchForge"
def TX9 : u_T := fun k => match k with
  | 0 => ("MatchForge", "types", "LMatchForge$Types;", true)
  | 1 => ("MatchForge", "values", "LMatchForge$Terms;", true)
  | 2 => ("MatchForge", "patterns", "LMatchForge$Terms;", true)
  | 3 => ("MatchForge", "matches", "[LMatchForge$Match;", true)
  | 4 => ("MatchForge", "matchCount", "I", false)
  | 5 => ("MatchForge", "builder", "LMatchForge$Builder;", true)
  | 6 => ("MatchForge", "latest", "LMatchForge$Walk;", true)
  | 7 => ("MatchForge", "trial", "LMatchForge$Walk;", true)
  | 8 => ("MatchForge", "judge", "LMatchForge$Judge;", true)
  | 9 => ("MatchForge", "teller", "LMatchForge$Teller;", true)
  | _ => ("MatchForge", "given", "[I", true)
def tyX9 : Nat → FieldType := fun k => match k with
  | 0 => .object "MatchForge$Types"
  | 1 => .object "MatchForge$Terms"
  | 2 => .object "MatchForge$Terms"
  | 3 => .array (.object "MatchForge$Match")
  | 4 => .int
  | 5 => .object "MatchForge$Builder"
  | 6 => .object "MatchForge$Walk"
  | 7 => .object "MatchForge$Walk"
  | 8 => .object "MatchForge$Judge"
  | 9 => .object "MatchForge$Teller"
  | _ => .array .int
theorem nmX9 : ∀ a, a < 11 → ∀ b, b < 11 → a ≠ b → (TX9 a).2.1 ≠ (TX9 b).2.1 := by decide +kernel
theorem tyX9_ok : ∀ k, k < 11 → parseFieldDescriptor (TX9 k).2.2.1 = some (tyX9 k) := by decide +kernel
abbrev cX9_init : ByteArray := prog_1_method_1_code
def yX9_init : MethodName := ⟨RX9, "<init>", "()V"⟩
abbrev cX9_type : ByteArray := prog_1_method_2_code
def yX9_type : MethodName := ⟨RX9, "type", "()I"⟩
abbrev cX9_maker : ByteArray := prog_1_method_3_code
def yX9_maker : MethodName := ⟨RX9, "maker", "(IIIII)I"⟩
abbrev cX9_number : ByteArray := prog_1_method_4_code
def yX9_number : MethodName := ⟨RX9, "number", "(I)I"⟩
abbrev cX9_make : ByteArray := prog_1_method_5_code
def yX9_make : MethodName := ⟨RX9, "make", "(IIIII)I"⟩
abbrev cX9_any : ByteArray := prog_1_method_6_code
def yX9_any : MethodName := ⟨RX9, "any", "(II)I"⟩
abbrev cX9_also : ByteArray := prog_1_method_7_code
def yX9_also : MethodName := ⟨RX9, "also", "(II)I"⟩
abbrev cX9_exactly : ByteArray := prog_1_method_8_code
def yX9_exactly : MethodName := ⟨RX9, "exactly", "(I)I"⟩
abbrev cX9_made : ByteArray := prog_1_method_9_code
def yX9_made : MethodName := ⟨RX9, "made", "(IIIII)I"⟩
abbrev cX9_either : ByteArray := prog_1_method_10_code
def yX9_either : MethodName := ⟨RX9, "either", "(II)I"⟩
abbrev cX9_match : ByteArray := prog_1_method_11_code
def yX9_match : MethodName := ⟨RX9, "match", "(IIII)I"⟩
abbrev cX9_row : ByteArray := prog_1_method_12_code
def yX9_row : MethodName := ⟨RX9, "row", "(IIIIII)I"⟩
abbrev cX9_run : ByteArray := prog_1_method_13_code
def yX9_run : MethodName := ⟨RX9, "run", "(IIII)I"⟩
abbrev cX9_took : ByteArray := prog_1_method_14_code
def yX9_took : MethodName := ⟨RX9, "took", "(I)I"⟩
abbrev cX9_tree : ByteArray := prog_1_method_15_code
def yX9_tree : MethodName := ⟨RX9, "tree", "(II)I"⟩
abbrev cX9_missing : ByteArray := prog_1_method_16_code
def yX9_missing : MethodName := ⟨RX9, "missing", "(I)I"⟩
abbrev cX9_part : ByteArray := prog_1_method_17_code
def yX9_part : MethodName := ⟨RX9, "part", "(I)I"⟩
abbrev cX9_plain : ByteArray := prog_1_method_18_code
def yX9_plain : MethodName := ⟨RX9, "plain", "(I)I"⟩
abbrev cX9_count : ByteArray := prog_1_method_19_code
def yX9_count : MethodName := ⟨RX9, "count", "(I)I"⟩
abbrev cX9_check : ByteArray := prog_1_method_20_code
def yX9_check : MethodName := ⟨RX9, "check", "()I"⟩
abbrev cX9_give : ByteArray := prog_1_method_21_code
def yX9_give : MethodName := ⟨RX9, "give", "(III)V"⟩
abbrev cX9_addMade : ByteArray := prog_1_method_22_code
def yX9_addMade : MethodName := ⟨RX9, "addMade", "(LMatchForge$Terms;II)I"⟩
abbrev cX9_isMatch : ByteArray := prog_1_method_23_code
def yX9_isMatch : MethodName := ⟨RX9, "isMatch", "(I)Z"⟩
abbrev cX9_isName : ByteArray := prog_1_method_24_code
def yX9_isName : MethodName := ⟨RX9, "isName", "(I)Z"⟩
abbrev cX9_inBits : ByteArray := prog_1_method_25_code
def yX9_inBits : MethodName := ⟨RX9, "inBits", "(II)Z"⟩
abbrev cX9_isGuard : ByteArray := prog_1_method_26_code
def yX9_isGuard : MethodName := ⟨RX9, "isGuard", "(III)Z"⟩
abbrev cX9_allRows : ByteArray := prog_1_method_27_code
def yX9_allRows : MethodName := ⟨RX9, "allRows", "()I"⟩
abbrev cX9_agrees : ByteArray := prog_1_method_28_code
def yX9_agrees : MethodName := ⟨RX9, "agrees", "(LMatchForge$Match;)Z"⟩
def RX10 : String := "MatchForgeModel"
def TX10 : u_T := fun k => match k with
  | 0 => ("MatchForgeModel", "thrown", "I", false)
  | 1 => ("MatchForgeModel", "types", "I", false)
  | 2 => ("MatchForgeModel", "makers", "[I", true)
  | 3 => ("MatchForgeModel", "counts", "[I", true)
  | 4 => ("MatchForgeModel", "parts", "[I", true)
  | 5 => ("MatchForgeModel", "plains", "[I", true)
  | 6 => ("MatchForgeModel", "valueTypes", "[I", true)
  | 7 => ("MatchForgeModel", "valueHeads", "[I", true)
  | 8 => ("MatchForgeModel", "valueParts", "[I", true)
  | 9 => ("MatchForgeModel", "valueSizes", "[I", true)
  | 10 => ("MatchForgeModel", "values", "I", false)
  | 11 => ("MatchForgeModel", "kinds", "[I", true)
  | 12 => ("MatchForgeModel", "patternTypes", "[I", true)
  | 13 => ("MatchForgeModel", "heads", "[I", true)
  | 14 => ("MatchForgeModel", "patternParts", "[I", true)
  | 15 => ("MatchForgeModel", "sizes", "[I", true)
  | 16 => ("MatchForgeModel", "names", "[I", true)
  | 17 => ("MatchForgeModel", "eithers", "[Z", true)
  | 18 => ("MatchForgeModel", "patterns", "I", false)
  | 19 => ("MatchForgeModel", "widths", "[I", true)
  | 20 => ("MatchForgeModel", "matchTypes", "[I", true)
  | 21 => ("MatchForgeModel", "rows", "[I", true)
  | 22 => ("MatchForgeModel", "rowPatterns", "[I", true)
  | 23 => ("MatchForgeModel", "lesser", "[I", true)
  | 24 => ("MatchForgeModel", "greater", "[I", true)
  | 25 => ("MatchForgeModel", "matches", "I", false)
  | 26 => ("MatchForgeModel", "took", "[I", true)
  | 27 => ("MatchForgeModel", "stands", "[I", true)
  | 28 => ("MatchForgeModel", "rowNumbers", "[I", true)
  | 29 => ("MatchForgeModel", "cellsFrom", "[I", true)
  | 30 => ("MatchForgeModel", "placesOfNames", "[I", true)
  | 31 => ("MatchForgeModel", "high", "I", false)
  | 32 => ("MatchForgeModel", "cells", "[S", true)
  | 33 => ("MatchForgeModel", "cellHigh", "I", false)
  | 34 => ("MatchForgeModel", "lists", "[I", true)
  | 35 => ("MatchForgeModel", "listHigh", "I", false)
  | 36 => ("MatchForgeModel", "placeTypes", "[I", true)
  | 37 => ("MatchForgeModel", "isTested", "[Z", true)
  | 38 => ("MatchForgeModel", "tested", "[I", true)
  | 39 => ("MatchForgeModel", "wasOthers", "[Z", true)
  | 40 => ("MatchForgeModel", "firstPart", "[I", true)
  | 41 => ("MatchForgeModel", "placeValues", "[I", true)
  | 42 => ("MatchForgeModel", "places", "I", false)
  | 43 => ("MatchForgeModel", "match", "I", false)
  | 44 => ("MatchForgeModel", "follows", "Z", false)
  | 45 => ("MatchForgeModel", "tooLarge", "Z", false)
  | 46 => ("MatchForgeModel", "nodes", "I", false)
  | 47 => ("MatchForgeModel", "sums", "[I", true)
  | 48 => ("MatchForgeModel", "found", "Z", false)
  | 49 => ("MatchForgeModel", "draft", "[I", true)
  | 50 => ("MatchForgeModel", "draftSize", "I", false)
  | 51 => ("MatchForgeModel", "looked", "[Z", true)
  | 52 => ("MatchForgeModel", "large", "[Z", true)
  | 53 => ("MatchForgeModel", "results", "[I", true)
  | 54 => ("MatchForgeModel", "missing", "[I", true)
  | _ => ("MatchForgeModel", "missingSize", "I", false)
def tyX10 : Nat → FieldType := fun k => match k with
  | 0 => .int
  | 1 => .int
  | 2 => .array .int
  | 3 => .array .int
  | 4 => .array .int
  | 5 => .array .int
  | 6 => .array .int
  | 7 => .array .int
  | 8 => .array .int
  | 9 => .array .int
  | 10 => .int
  | 11 => .array .int
  | 12 => .array .int
  | 13 => .array .int
  | 14 => .array .int
  | 15 => .array .int
  | 16 => .array .int
  | 17 => .array .boolean
  | 18 => .int
  | 19 => .array .int
  | 20 => .array .int
  | 21 => .array .int
  | 22 => .array .int
  | 23 => .array .int
  | 24 => .array .int
  | 25 => .int
  | 26 => .array .int
  | 27 => .array .int
  | 28 => .array .int
  | 29 => .array .int
  | 30 => .array .int
  | 31 => .int
  | 32 => .array .short
  | 33 => .int
  | 34 => .array .int
  | 35 => .int
  | 36 => .array .int
  | 37 => .array .boolean
  | 38 => .array .int
  | 39 => .array .boolean
  | 40 => .array .int
  | 41 => .array .int
  | 42 => .int
  | 43 => .int
  | 44 => .boolean
  | 45 => .boolean
  | 46 => .int
  | 47 => .array .int
  | 48 => .boolean
  | 49 => .array .int
  | 50 => .int
  | 51 => .array .boolean
  | 52 => .array .boolean
  | 53 => .array .int
  | 54 => .array .int
  | _ => .int
theorem nmX10 : ∀ a, a < 56 → ∀ b, b < 56 → a ≠ b → (TX10 a).2.1 ≠ (TX10 b).2.1 := by decide +kernel
theorem tyX10_ok : ∀ k, k < 56 → parseFieldDescriptor (TX10 k).2.2.1 = some (tyX10 k) := by decide +kernel
abbrev cX10_init : ByteArray := prog_12_method_1_code
def yX10_init : MethodName := ⟨RX10, "<init>", "()V"⟩
abbrev cX10_isType : ByteArray := prog_12_method_3_code
def yX10_isType : MethodName := ⟨RX10, "isType", "(I)Z"⟩
abbrev cX10_type : ByteArray := prog_12_method_4_code
def yX10_type : MethodName := ⟨RX10, "type", "()I"⟩
abbrev cX10_maker : ByteArray := prog_12_method_5_code
def yX10_maker : MethodName := ⟨RX10, "maker", "(IIIII)I"⟩
abbrev cX10_madeSize : ByteArray := prog_12_method_6_code
def yX10_madeSize : MethodName := ⟨RX10, "madeSize", "(II)I"⟩
abbrev cX10_findPlains : ByteArray := prog_12_method_7_code
def yX10_findPlains : MethodName := ⟨RX10, "findPlains", "()V"⟩
abbrev cX10_isMaker : ByteArray := prog_12_method_8_code
def yX10_isMaker : MethodName := ⟨RX10, "isMaker", "(II)Z"⟩
abbrev cX10_countOf : ByteArray := prog_12_method_9_code
def yX10_countOf : MethodName := ⟨RX10, "countOf", "(II)I"⟩
abbrev cX10_partType : ByteArray := prog_12_method_10_code
def yX10_partType : MethodName := ⟨RX10, "partType", "(III)I"⟩
abbrev cX10_addValue : ByteArray := prog_12_method_11_code
def yX10_addValue : MethodName := ⟨RX10, "addValue", "(III)I"⟩
abbrev cX10_number : ByteArray := prog_12_method_12_code
def yX10_number : MethodName := ⟨RX10, "number", "(I)I"⟩
abbrev cX10_isValueOf : ByteArray := prog_12_method_13_code
def yX10_isValueOf : MethodName := ⟨RX10, "isValueOf", "(II)Z"⟩
abbrev cX10_pick : ByteArray := prog_12_method_14_code
def yX10_pick : MethodName := ⟨RX10, "pick", "(IIII)I"⟩
abbrev cX10_make : ByteArray := prog_12_method_15_code
def yX10_make : MethodName := ⟨RX10, "make", "(IIIII)I"⟩
abbrev cX10_addPattern : ByteArray := prog_12_method_16_code
def yX10_addPattern : MethodName := ⟨RX10, "addPattern", "(IIIIIZ)I"⟩
abbrev cX10_isName : ByteArray := prog_12_method_17_code
def yX10_isName : MethodName := ⟨RX10, "isName", "(I)Z"⟩
abbrev cX10_isPattern : ByteArray := prog_12_method_18_code
def yX10_isPattern : MethodName := ⟨RX10, "isPattern", "(I)Z"⟩
abbrev cX10_hasName : ByteArray := prog_12_method_19_code
def yX10_hasName : MethodName := ⟨RX10, "hasName", "(II)Z"⟩
abbrev cX10_any : ByteArray := prog_12_method_20_code
def yX10_any : MethodName := ⟨RX10, "any", "(II)I"⟩
abbrev cX10_also : ByteArray := prog_12_method_21_code
def yX10_also : MethodName := ⟨RX10, "also", "(II)I"⟩
abbrev cX10_exactly : ByteArray := prog_12_method_22_code
def yX10_exactly : MethodName := ⟨RX10, "exactly", "(I)I"⟩
abbrev cX10_made : ByteArray := prog_12_method_23_code
def yX10_made : MethodName := ⟨RX10, "made", "(IIIII)I"⟩
abbrev cX10_either : ByteArray := prog_12_method_24_code
def yX10_either : MethodName := ⟨RX10, "either", "(II)I"⟩
abbrev cX10_match : ByteArray := prog_12_method_25_code
def yX10_match : MethodName := ⟨RX10, "match", "(IIII)I"⟩
abbrev cX10_isMatch : ByteArray := prog_12_method_26_code
def yX10_isMatch : MethodName := ⟨RX10, "isMatch", "(I)Z"⟩
abbrev cX10_patternOf : ByteArray := prog_12_method_27_code
def yX10_patternOf : MethodName := ⟨RX10, "patternOf", "(III)I"⟩
abbrev cX10_typeOfName : ByteArray := prog_12_method_28_code
def yX10_typeOfName : MethodName := ⟨RX10, "typeOfName", "(II)I"⟩
abbrev cX10_row : ByteArray := prog_12_method_29_code
def yX10_row : MethodName := ⟨RX10, "row", "(IIIIII)I"⟩
abbrev cX10_doesMatch : ByteArray := prog_12_method_30_code
def yX10_doesMatch : MethodName := ⟨RX10, "doesMatch", "(II)Z"⟩
abbrev cX10_takes : ByteArray := prog_12_method_31_code
def yX10_takes : MethodName := ⟨RX10, "takes", "(IIIII)Z"⟩
abbrev cX10_newPlace : ByteArray := prog_12_method_32_code
def yX10_newPlace : MethodName := ⟨RX10, "newPlace", "(II)I"⟩
abbrev cX10_pushRow : ByteArray := prog_12_method_33_code
def yX10_pushRow : MethodName := ⟨RX10, "pushRow", "(II)I"⟩
abbrev cX10_cell : ByteArray := prog_12_method_34_code
def yX10_cell : MethodName := ⟨RX10, "cell", "(II)I"⟩
abbrev cX10_setCell : ByteArray := prog_12_method_35_code
def yX10_setCell : MethodName := ⟨RX10, "setCell", "(IIII)V"⟩
abbrev cX10_copyRow : ByteArray := prog_12_method_36_code
def yX10_copyRow : MethodName := ⟨RX10, "copyRow", "(III)V"⟩
abbrev cX10_goThrough : ByteArray := prog_12_method_37_code
def yX10_goThrough : MethodName := ⟨RX10, "goThrough", "(IZIII)V"⟩
abbrev cX10_countNode : ByteArray := prog_12_method_38_code
def yX10_countNode : MethodName := ⟨RX10, "countNode", "(I)Z"⟩
abbrev cX10_firstOpen : ByteArray := prog_12_method_39_code
def yX10_firstOpen : MethodName := ⟨RX10, "firstOpen", "(II)I"⟩
abbrev cX10_isEither : ByteArray := prog_12_method_40_code
def yX10_isEither : MethodName := ⟨RX10, "isEither", "(II)Z"⟩
abbrev cX10_split : ByteArray := prog_12_method_41_code
def yX10_split : MethodName := ⟨RX10, "split", "(IIIII)V"⟩
abbrev cX10_node : ByteArray := prog_12_method_42_code
def yX10_node : MethodName := ⟨RX10, "node", "(III)V"⟩
abbrev cX10_failure : ByteArray := prog_12_method_43_code
def yX10_failure : MethodName := ⟨RX10, "failure", "()V"⟩
abbrev cX10_leaf : ByteArray := prog_12_method_44_code
def yX10_leaf : MethodName := ⟨RX10, "leaf", "(III)V"⟩
abbrev cX10_test : ByteArray := prog_12_method_45_code
def yX10_test : MethodName := ⟨RX10, "test", "(IIII)V"⟩
abbrev cX10_leastOther : ByteArray := prog_12_method_46_code
def yX10_leastOther : MethodName := ⟨RX10, "leastOther", "(III)I"⟩
abbrev cX10_branch : ByteArray := prog_12_method_47_code
def yX10_branch : MethodName := ⟨RX10, "branch", "(IIIIZII)V"⟩
abbrev cX10_put : ByteArray := prog_12_method_48_code
def yX10_put : MethodName := ⟨RX10, "put", "(I)V"⟩
abbrev cX10_tellPlain : ByteArray := prog_12_method_49_code
def yX10_tellPlain : MethodName := ⟨RX10, "tellPlain", "(I)V"⟩
abbrev cX10_tell : ByteArray := prog_12_method_50_code
def yX10_tell : MethodName := ⟨RX10, "tell", "(I)V"⟩
abbrev cX10_look : ByteArray := prog_12_method_51_code
def yX10_look : MethodName := ⟨RX10, "look", "(I)V"⟩
abbrev cX10_forget : ByteArray := prog_12_method_52_code
def yX10_forget : MethodName := ⟨RX10, "forget", "()V"⟩
abbrev cX10_run : ByteArray := prog_12_method_53_code
def yX10_run : MethodName := ⟨RX10, "run", "(IIII)I"⟩
abbrev cX10_took : ByteArray := prog_12_method_54_code
def yX10_took : MethodName := ⟨RX10, "took", "(I)I"⟩
abbrev cX10_tree : ByteArray := prog_12_method_55_code
def yX10_tree : MethodName := ⟨RX10, "tree", "(II)I"⟩
abbrev cX10_missing : ByteArray := prog_12_method_56_code
def yX10_missing : MethodName := ⟨RX10, "missing", "(I)I"⟩
abbrev cX10_part : ByteArray := prog_12_method_57_code
def yX10_part : MethodName := ⟨RX10, "part", "(I)I"⟩
abbrev cX10_plain : ByteArray := prog_12_method_58_code
def yX10_plain : MethodName := ⟨RX10, "plain", "(I)I"⟩
abbrev cX10_sumOf : ByteArray := prog_12_method_59_code
def yX10_sumOf : MethodName := ⟨RX10, "sumOf", "([II)I"⟩
abbrev cX10_count : ByteArray := prog_12_method_60_code
def yX10_count : MethodName := ⟨RX10, "count", "(I)I"⟩
abbrev cX10_check : ByteArray := prog_12_method_61_code
def yX10_check : MethodName := ⟨RX10, "check", "()I"⟩
def RJx8e188 : String := "java/lang/Cloneable"
def TJx8e188 : u_T := fun k => match k with
  | _ => ("", "", "", false)
def tyJx8e188 : Nat → FieldType := fun k => match k with
  | _ => .int
theorem nmJx8e188 : ∀ a, a < 0 → ∀ b, b < 0 → a ≠ b → (TJx8e188 a).2.1 ≠ (TJx8e188 b).2.1 := by decide +kernel
theorem tyJx8e188_ok : ∀ k, k < 0 → parseFieldDescriptor (TJx8e188 k).2.2.1 = some (tyJx8e188 k) := by decide +kernel
def RJ9 : String := "java/lang/Math"
def TJ9 : u_T := fun k => match k with
  | _ => ("", "", "", false)
def tyJ9 : Nat → FieldType := fun k => match k with
  | _ => .int
theorem nmJ9 : ∀ a, a < 0 → ∀ b, b < 0 → a ≠ b → (TJ9 a).2.1 ≠ (TJ9 b).2.1 := by decide +kernel
theorem tyJ9_ok : ∀ k, k < 0 → parseFieldDescriptor (TJ9 k).2.2.1 = some (tyJ9 k) := by decide +kernel
abbrev cJ9_max_7cf53 : ByteArray := prog_14_method_65_code
def yJ9_max_7cf53 : MethodName := ⟨RJ9, "max", "(II)I"⟩
abbrev cJ9_min_7cf53 : ByteArray := prog_14_method_69_code
def yJ9_min_7cf53 : MethodName := ⟨RJ9, "min", "(II)I"⟩
def RJ10 : String := "java/lang/System"
def TJ10 : u_T := fun k => match k with
  | _ => ("", "", "", false)
def tyJ10 : Nat → FieldType := fun k => match k with
  | _ => .int
theorem nmJ10 : ∀ a, a < 0 → ∀ b, b < 0 → a ≠ b → (TJ10 a).2.1 ≠ (TJ10 b).2.1 := by decide +kernel
theorem tyJ10_ok : ∀ k, k < 0 → parseFieldDescriptor (TJ10 k).2.2.1 = some (tyJ10 k) := by decide +kernel
def RJ7 : String := "java/util/Arrays"
def TJ7 : u_T := fun k => match k with
  | _ => ("", "", "", false)
def tyJ7 : Nat → FieldType := fun k => match k with
  | _ => .int
theorem nmJ7 : ∀ a, a < 0 → ∀ b, b < 0 → a ≠ b → (TJ7 a).2.1 ≠ (TJ7 b).2.1 := by decide +kernel
theorem tyJ7_ok : ∀ k, k < 0 → parseFieldDescriptor (TJ7 k).2.2.1 = some (tyJ7 k) := by decide +kernel
abbrev cJ7_fill_53178 : ByteArray := prog_16_method_103_code
def yJ7_fill_53178 : MethodName := ⟨RJ7, "fill", "([II)V"⟩
abbrev cJ7_copyOf_59c91 : ByteArray := prog_16_method_123_code
def yJ7_copyOf_59c91 : MethodName := ⟨RJ7, "copyOf", "([II)[I"⟩
def RL : String := "MatchForgeLaw"
abbrev cL_law : ByteArray := code
def yL_law : MethodName := ⟨RL, "law", "([I)Z"⟩
abbrev vwCl : List vw_C := [(RX0, TX0, 18), (RX1, TX1, 4), (RX2, TX2, 3), (RX3, TX3, 8), (RX4, TX4, 6), (RX5, TX5, 11), (RX6, TX6, 17), (RX7, TX7, 7), (RX8, TX8, 5), (RX9, TX9, 11), (RX10, TX10, 56)]
end
section
/-! ===== A SMALL MACHINE over logical cells: values, memory, one stretch of code, methods by number. Pure: nothing of the JVM but its Instr ===== -/
abbrev xV : Type := Int ⊕ Option Nat
abbrev xM : Type := Nat → Int → Int
/-- cells made, slots made, shapes (kind, length), contents -/
abbrev xS : Type := Nat × Nat × (Nat → Nat × Nat) × xM
/-- pc, instruction, two numbers that the tables resolve -/
abbrev xI : Type := Nat × Instr × Nat × Nat
abbrev xL : Type := List (Option xV)
/-- an Int as the int that it stands for -/
def wr (x : Int) : Int := (Int32.ofInt x).toInt
def xref (x : Int) : Option Nat := if x < 0 then none else some x.toNat
def xenc : Option Nat → Int
  | none => -1
  | some k => (k : Int)
def xup (M : xM) (k : Nat) (i v : Int) : xM := fun k' i' => if k' = k ∧ i' = i then v else M k' i'
def xnew {α : Type} (M : Nat → α) (n : Nat) (f : α) : Nat → α := fun k => if k = n then f else M k
def xcpy (M : xM) (s : Nat) (sp : Int) (d : Nat) (dp n : Int) : xM := fun k i => if k = d ∧ dp ≤ i ∧ i < dp + n then M s (sp + (i - dp)) else M k i
def xc : ClassFile.Cond → Int → Int → Prop
  | .eq, x, y => x = y
  | .ne, x, y => ¬ x = y
  | .lt, x, y => x < y
  | .ge, x, y => y ≤ x
  | .gt, x, y => y < x
  | .le, x, y => x ≤ y
def xor32 (x y : Int) : Int := (Int32.ofInt x ||| Int32.ofInt y).toInt
def xand32 (x y : Int) : Int := (Int32.ofInt x &&& Int32.ofInt y).toInt
def xxor32 (x y : Int) : Int := (Int32.ofInt x ^^^ Int32.ofInt y).toInt
def xshl32 (x y : Int) : Int := (Int32.ofInt x <<< (Int32.ofInt y &&& 31)).toInt
def xshr32 (x y : Int) : Int := (Int32.ofInt x >>> (Int32.ofInt y &&& 31)).toInt
def xi2s (x : Int) : Int := (Int32.ofInt x).toInt16.toInt32.toInt
/-- an int as it is -/
def rg (x : Int) : Prop := -2147483648 ≤ x ∧ x ≤ 2147483647
/-- an index within an array of the kind t -/
def xin (S : xS) (k t : Nat) (i : Int) : Prop := k < S.1 ∧ (S.2.2.1 k).1 = t ∧ 0 ≤ i ∧ i < ((S.2.2.1 k).2 : Int) ∧ i ≤ 2147483647
/-- an object of the class code a -/
def xob (S : xS) (k a : Nat) : Prop := k < S.1 ∧ (S.2.2.1 k).1 = 10 + a
abbrev xR : Type := Option Prop × xL × List xV × xS
/-- what one field holds -/
def xget (T : Nat → Nat → Nat × Nat) (a j k : Nat) (M : xM) : xV := match (T a j).1 with
  | 0 => .inl (M k (j : Int))
  | 4 => .inl (M k (j : Int))
  | 1 => .inr (some (k + (T a j).2))
  | 2 => .inr (some (T a j).2)
  | _ => .inr (xref (M k (j : Int)))
/-- what may be put into one field, as a number -/
def xput (T : Nat → Nat → Nat × Nat) (a j : Nat) (S : xS) (v : xV) : Option (Option Prop × Int) := match (T a j).1, v with
  | 0, .inl x => some (none, x)
  | 4, .inl x => some (some (x = 0 ∨ x = 1), x)
  | 3, .inr none => some (none, -1)
  | 3, .inr (some t) => some (some (t < S.1), (t : Int))
  | _, _ => none
def xseal (T : Nat → Nat → Nat × Nat) (N : Nat → Nat) (a k : Nat) (M : xM) : Prop := ∀ j, j < N a → ((T a j).1 = 1 → M k (j : Int) = ((k + (T a j).2 : Nat) : Int)) ∧ ((T a j).1 = 2 → M k (j : Int) = ((T a j).2 : Int))
/-- a new object's numbers: null for references -/
def xfresh (T : Nat → Nat → Nat × Nat) (a : Nat) : Int → Int := fun i => if (T a i.toNat).1 = 0 ∨ (T a i.toNat).1 = 4 then 0 else -1
/-- the instructions without a road of their own -/
def xsim (T : Nat → Nat → Nat × Nat) (N : Nat → Nat) (ins : Instr) (a b : Nat) (ls : xL) (st : List xV) (S : xS) : Option xR := match ins with
  | .iconst n => some (none, ls, .inl n :: st, S)
  | .bipush n => some (none, ls, .inl n :: st, S)
  | .sipush n => some (none, ls, .inl n :: st, S)
  | .ldc _ => some (none, ls, .inl (a : Int) :: st, S)
  | .aconst_null => some (none, ls, .inr none :: st, S)
  | .iload_n k => match ls[(k : Nat)]? with
    | some (some (.inl x)) => some (none, ls, .inl x :: st, S)
    | _ => none
  | .iload k => match ls[k]? with
    | some (some (.inl x)) => some (none, ls, .inl x :: st, S)
    | _ => none
  | .aload_n k => match ls[(k : Nat)]? with
    | some (some (.inr x)) => some (none, ls, .inr x :: st, S)
    | _ => none
  | .aload k => match ls[k]? with
    | some (some (.inr x)) => some (none, ls, .inr x :: st, S)
    | _ => none
  | .istore_n k => match st with
    | .inl x :: st => some (none, ls.set (k : Nat) (some (.inl x)), st, S)
    | _ => none
  | .istore k => match st with
    | .inl x :: st => some (none, ls.set k (some (.inl x)), st, S)
    | _ => none
  | .astore_n k => match st with
    | .inr x :: st => some (none, ls.set (k : Nat) (some (.inr x)), st, S)
    | _ => none
  | .astore k => match st with
    | .inr x :: st => some (none, ls.set k (some (.inr x)), st, S)
    | _ => none
  | .iinc k n => match ls[k]? with
    | some (some (.inl x)) => some (none, ls.set k (some (.inl (x + n))), st, S)
    | _ => none
  | .iadd => match st with
    | .inl y :: .inl x :: st => some (none, ls, .inl (x + y) :: st, S)
    | _ => none
  | .isub => match st with
    | .inl y :: .inl x :: st => some (none, ls, .inl (x - y) :: st, S)
    | _ => none
  | .imul => match st with
    | .inl y :: .inl x :: st => some (none, ls, .inl (x * y) :: st, S)
    | _ => none
  | .iand => match st with
    | .inl y :: .inl x :: st => some (none, ls, .inl (xand32 x y) :: st, S)
    | _ => none
  | .ior => match st with
    | .inl y :: .inl x :: st => some (none, ls, .inl (xor32 x y) :: st, S)
    | _ => none
  | .ixor => match st with
    | .inl y :: .inl x :: st => some (none, ls, .inl (xxor32 x y) :: st, S)
    | _ => none
  | .ishl => match st with
    | .inl y :: .inl x :: st => some (none, ls, .inl (xshl32 x y) :: st, S)
    | _ => none
  | .ishr => match st with
    | .inl y :: .inl x :: st => some (none, ls, .inl (xshr32 x y) :: st, S)
    | _ => none
  | .i2s => match st with
    | .inl x :: st => some (none, ls, .inl (xi2s x) :: st, S)
    | _ => none
  | .dup => match st with
    | v :: st => some (none, ls, v :: v :: st, S)
    | _ => none
  | .dup2 => match st with
    | v :: w :: st => some (none, ls, v :: w :: v :: w :: st, S)
    | _ => none
  | .getfield _ => match st with
    | .inr (some k) :: st => some (some (0 < k ∧ xob S k a), ls, xget T a b k S.2.2.2 :: st, S)
    | _ => none
  | .putfield _ => match st with
    | v :: .inr (some k) :: st => match xput T a b S v with
      | some (some g, x) => some (some (0 < k ∧ xob S k a ∧ g), ls, st, (S.1, S.2.1, S.2.2.1, xup S.2.2.2 k (b : Int) x))
      | some (none, x) => some (some (0 < k ∧ xob S k a), ls, st, (S.1, S.2.1, S.2.2.1, xup S.2.2.2 k (b : Int) x))
      | none => none
    | _ => none
  | .iaload => match st with
    | .inl i :: .inr (some k) :: st => some (some (xin S k (if k = 0 then 5 else 1) i), ls, .inl (S.2.2.2 k i) :: st, S)
    | _ => none
  | .baload => match st with
    | .inl i :: .inr (some k) :: st => some (some (0 < k ∧ xin S k 2 i), ls, .inl (S.2.2.2 k i) :: st, S)
    | _ => none
  | .saload => match st with
    | .inl i :: .inr (some k) :: st => some (some (0 < k ∧ xin S k 3 i), ls, .inl (S.2.2.2 k i) :: st, S)
    | _ => none
  | .aaload => match st with
    | .inl i :: .inr (some k) :: st => some (some (0 < k ∧ xin S k 4 i), ls, .inr (xref (S.2.2.2 k i)) :: st, S)
    | _ => none
  | .iastore => match st with
    | .inl x :: .inl i :: .inr (some k) :: st => some (some (0 < k ∧ xin S k 1 i), ls, st, (S.1, S.2.1, S.2.2.1, xup S.2.2.2 k i x))
    | _ => none
  | .bastore => match st with
    | .inl x :: .inl i :: .inr (some k) :: st => some (some (0 < k ∧ xin S k 2 i ∧ (x = 0 ∨ x = 1)), ls, st, (S.1, S.2.1, S.2.2.1, xup S.2.2.2 k i x))
    | _ => none
  | .sastore => match st with
    | .inl x :: .inl i :: .inr (some k) :: st => some (some (0 < k ∧ xin S k 3 i ∧ (-32768 ≤ x ∧ x ≤ 32767)), ls, st, (S.1, S.2.1, S.2.2.1, xup S.2.2.2 k i x))
    | _ => none
  | .aastore => match st with
    | .inr (some v) :: .inl i :: .inr (some k) :: st => some (some (0 < k ∧ xin S k 4 i ∧ 0 < v ∧ xob S v a), ls, st, (S.1, S.2.1, S.2.2.1, xup S.2.2.2 k i (v : Int)))
    | _ => none
  | .arraylength => match st with
    | .inr (some k) :: st => some (some (k < S.1 ∧ (S.2.2.1 k).1 = (if k = 0 then 5 else 1)), ls, .inl ((S.2.2.1 k).2 : Int) :: st, S)
    | _ => none
  | .newarray _ => match st with
    | .inl n :: st => some (some (0 ≤ n ∧ n ≤ 50000000), ls, .inr (some S.1) :: st, (S.1 + 1, S.2.1 + n.toNat, xnew S.2.2.1 S.1 (a, n.toNat), xnew S.2.2.2 S.1 (fun _ => 0)))
    | _ => none
  | .anewarray _ => match st with
    | .inl n :: st => some (some (0 ≤ n ∧ n ≤ 50000000), ls, .inr (some S.1) :: st, (S.1 + 1, S.2.1 + n.toNat, xnew S.2.2.1 S.1 (4, n.toNat), xnew S.2.2.2 S.1 (fun _ => -1)))
    | _ => none
  | .new _ => some (none, ls, .inr (some S.1) :: st, (S.1 + 1, S.2.1 + N a, xnew S.2.2.1 S.1 (10 + a, 0), xnew S.2.2.2 S.1 (xfresh T a)))
  | .invokespecial _ => match a, st with
    | 1000, .inr (some _) :: st => some (some (st.length ≤ 8), ls, st, S)
    | _, _ => none
  | .invokestatic _ => match a, st with
    | 1001, .inl n :: .inl dp :: .inr (some d) :: .inl sp :: .inr (some s) :: st => some (some ((0 < s ∧ s < S.1 ∧ (S.2.2.1 s).1 = 1) ∧ (0 < d ∧ d < S.1 ∧ (S.2.2.1 d).1 = 1) ∧ ¬ s = d ∧ (0 ≤ sp ∧ 0 ≤ dp ∧ 0 ≤ n ∧ sp + n ≤ ((S.2.2.1 s).2 : Int) ∧ dp + n ≤ ((S.2.2.1 d).2 : Int)) ∧ ((S.2.2.1 s).2 ≤ 50000000 ∧ (S.2.2.1 d).2 ≤ 50000000) ∧ st.length ≤ 8), ls, st, (S.1, S.2.1, S.2.2.1, xcpy S.2.2.2 s sp d dp n))
    | 1002, .inl y :: .inl x :: st => some (some (st.length ≤ 8 ∧ rg x ∧ rg y), ls, .inl (if x < y then y else x) :: st, S)
    | 1003, .inl y :: .inl x :: st => some (some (st.length ≤ 8 ∧ rg x ∧ rg y), ls, .inl (if y < x then y else x) :: st, S)
    | _, _ => none
  | .nop => match a, ls with
    | 2, some (.inr (some k)) :: _ => some (some (0 < k ∧ xob S k (30 + b) ∧ xseal T N b k S.2.2.2), ls, st, (S.1, S.2.1, xnew S.2.2.1 k (10 + b, 0), S.2.2.2))
    | _, _ => none
  | _ => none
/-- a method by number: how many arguments (this one too), what it answers (0 nothing, 1 int, 2 boolean, 3 reference), its receiver's class code (1000: static), how many locals -/
abbrev xMt : Type := Nat → Nat × Nat × Nat × Nat
def xrecv (S : xS) (a : Nat) (as : List xV) : Prop := match a, as with
  | 1000, _ => True
  | a, .inr (some k) :: _ => 0 < k ∧ xob S k a
  | _, _ => False
/-- the instructions that have roads, calls or an end. go: on in this stretch, so many instructions passed over -/
def xctl (mt : xMt) (C : Nat → List xV → xS → (xV → xS → Prop) → Prop) (K : Nat → xL → List xV → xS → Prop) (Q : xV → xS → Prop) (go : Nat → xL → List xV → xS → Prop) (pc : Nat) (ins : Instr) (a b : Nat) (ls : xL) (st : List xV) (S : xS) : Prop := match ins, st with
  | .if_icmp c _, .inl y :: .inl x :: st' => (rg x ∧ rg y) ∧ ((xc c x y → match a with
    | 0 => go b ls st' S
    | _ => K b ls st' S) ∧ (¬ xc c x y → go 0 ls st' S))
  | .ifCond c _, .inl x :: st' => rg x ∧ ((xc c x 0 → match a with
    | 0 => go b ls st' S
    | _ => K b ls st' S) ∧ (¬ xc c x 0 → go 0 ls st' S))
  | .goto _, st' => match a with
    | 0 => go b ls st' S
    | _ => K b ls st' S
  | .nop, st' => match a with
    | 1 => K pc ls st' S
    | _ => False
  | .tableswitch d lo hi offs, .inl x :: st' => rg x ∧ (((x < lo ∨ hi < x) → K ((pc : Int) + d).toNat ls st' S) ∧ (¬ (x < lo ∨ hi < x) → K ((pc : Int) + offs.getD (x - lo).toNat 0).toNat ls st' S))
  | .ireturn, [.inl x] => match a with
    | 2 => (x = 0 ∨ x = 1) ∧ Q (.inl x) S
    | _ => Q (.inl x) S
  | .areturn, [.inr r] => Q (.inr r) S
  | .return_, [] => Q (.inl 0) S
  | .invokevirtual _, st' => ((mt a).1 ≤ st'.length ∧ st'.length ≤ (mt a).1 + 8 ∧ xrecv S (mt a).2.2.1 (st'.take (mt a).1).reverse) ∧ C a (st'.take (mt a).1).reverse S (fun r S' => go 0 ls (match (mt a).2.1 with
    | 0 => st'.drop (mt a).1
    | _ => r :: st'.drop (mt a).1) S')
  | .invokespecial _, st' => ((mt a).1 ≤ st'.length ∧ st'.length ≤ (mt a).1 + 8 ∧ xrecv S (mt a).2.2.1 (st'.take (mt a).1).reverse) ∧ C a (st'.take (mt a).1).reverse S (fun r S' => go 0 ls (match (mt a).2.1 with
    | 0 => st'.drop (mt a).1
    | _ => r :: st'.drop (mt a).1) S')
  | .invokestatic _, st' => ((mt a).1 ≤ st'.length ∧ st'.length ≤ (mt a).1 + 8 ∧ xrecv S (mt a).2.2.1 (st'.take (mt a).1).reverse) ∧ C a (st'.take (mt a).1).reverse S (fun r S' => go 0 ls (match (mt a).2.1 with
    | 0 => st'.drop (mt a).1
    | _ => r :: st'.drop (mt a).1) S')
  | _, _ => False
/-- a stretch of code: sk instructions are passed over first. C: calls; K: roads to other stretches; Q: the end -/
def xgo (T : Nat → Nat → Nat × Nat) (N : Nat → Nat) (mt : xMt) (C : Nat → List xV → xS → (xV → xS → Prop) → Prop) (K : Nat → xL → List xV → xS → Prop) (Q : xV → xS → Prop) : List xI → Nat → xL → List xV → xS → Prop
  | [], _, _, _, _ => False
  | _ :: rest, sk + 1, ls, st, S => xgo T N mt C K Q rest sk ls st S
  | (pc, ins, a, b) :: rest, 0, ls, st, S => match xsim T N ins a b ls st S with
    | some (none, ls', st', S') => xgo T N mt C K Q rest 0 ls' st' S'
    | some (some g, ls', st', S') => g ∧ xgo T N mt C K Q rest 0 ls' st' S'
    | none => xctl mt C K Q (fun sk ls st S => xgo T N mt C K Q rest sk ls st S) pc ins a b ls st S
/-- a whole method, stretch by stretch -/
def xloop (T : Nat → Nat → Nat × Nat) (N : Nat → Nat) (mt : xMt) (tr : Nat → Nat → List xI) (C : Nat → List xV → xS → (xV → xS → Prop) → Prop) (mu : Nat) (Q : xV → xS → Prop) : Nat → Nat → xL → List xV → xS → Prop
  | 0, _, _, _, _ => False
  | n + 1, pc, ls, st, S => xgo T N mt C (fun pc ls st S => xloop T N mt tr C mu Q n pc ls st S) Q (tr mu pc) 0 ls st S
def xent (as : List xV) (n : Nat) : xL := as.map some ++ List.replicate (n - as.length) none
/-- a call with d frames below it -/
def xcall (T : Nat → Nat → Nat × Nat) (N : Nat → Nat) (mt : xMt) (tr : Nat → Nat → List xI) : Nat → Nat → List xV → xS → (xV → xS → Prop) → Prop
  | 0, _, _, _, _ => False
  | d + 1, mu, as, S, Q => ∃ n, xloop T N mt tr (xcall T N mt tr d) mu Q n 0 (xent as (mt mu).2.2.2) [] S
end
section
/-! ===== the small machine has one end: what holds behind it holds of one answer and one state; cells and slots only grow ===== -/
def xPt (S : xS) (T : (xV → xS → Prop) → Prop) : Prop := ∀ Q, T Q → ∃ r S', Q r S' ∧ S.1 ≤ S'.1 ∧ S.2.1 ≤ S'.2.1 ∧ ∀ Q' : xV → xS → Prop, Q' r S' → T Q'
theorem xPt.and {S : xS} {T : (xV → xS → Prop) → Prop} {g : Prop} (h : xPt S T) : xPt S (fun Q => g ∧ T Q) := by
  intro Q ⟨hg, ht⟩
  obtain ⟨r, S', a, b, c, d⟩ := h Q ht
  exact ⟨r, S', a, b, c, fun Q' q => ⟨hg, d Q' q⟩⟩
theorem xPt.br {S : xS} {A B : (xV → xS → Prop) → Prop} {c : Prop} (ha : xPt S A) (hb : xPt S B) : xPt S (fun Q => (c → A Q) ∧ (¬ c → B Q)) := by
  intro Q ⟨h1, h2⟩
  by_cases hc : c
  · obtain ⟨r, S', a, b, e, d⟩ := ha Q (h1 hc)
    exact ⟨r, S', a, b, e, fun Q' q => ⟨fun _ => d Q' q, fun h => absurd hc h⟩⟩
  · obtain ⟨r, S', a, b, e, d⟩ := hb Q (h2 hc)
    exact ⟨r, S', a, b, e, fun Q' q => ⟨fun h => absurd h hc, fun _ => d Q' q⟩⟩
theorem xPt.up {S S1 : xS} {T : (xV → xS → Prop) → Prop} (h : xPt S1 T) (h1 : S.1 ≤ S1.1) (h2 : S.2.1 ≤ S1.2.1) : xPt S T := by
  intro Q ht
  obtain ⟨r, S', a, b, c, d⟩ := h Q ht
  exact ⟨r, S', a, Nat.le_trans h1 b, Nat.le_trans h2 c, d⟩
theorem xPt.q {S : xS} {r : xV} : xPt S (fun Q => Q r S) := fun _ h => ⟨r, S, h, Nat.le_refl _, Nat.le_refl _, fun _ q => q⟩
theorem xPt.no {S : xS} : xPt S (fun _ => False) := fun _ h => h.elim
theorem xPt.bind {S : xS} {T : (xV → xS → Prop) → Prop} {K : xV → xS → (xV → xS → Prop) → Prop} (h : xPt S T) (hk : ∀ r S', xPt S' (K r S')) : xPt S (fun Q => T (fun r S' => K r S' Q)) := by
  intro Q ht
  obtain ⟨r, S', a, b, c, d⟩ := h _ ht
  obtain ⟨r2, S2, a2, b2, c2, d2⟩ := hk r S' Q a
  exact ⟨r2, S2, a2, Nat.le_trans b b2, Nat.le_trans c c2, fun Q' q => d _ (d2 Q' q)⟩
theorem xPt.ex {S : xS} {T : Nat → (xV → xS → Prop) → Prop} (h : ∀ n, xPt S (T n)) : xPt S (fun Q => ∃ n, T n Q) := by
  intro Q ⟨n, ht⟩
  obtain ⟨r, S', a, b, c, d⟩ := h n Q ht
  exact ⟨r, S', a, b, c, fun Q' q => ⟨n, d Q' q⟩⟩
theorem xsim_up {T : Nat → Nat → Nat × Nat} {N : Nat → Nat} {ins : Instr} {a b : Nat} {ls ls' : xL} {st st' : List xV} {S S' : xS} {g : Option Prop} (h : xsim T N ins a b ls st S = some (g, ls', st', S')) : S.1 ≤ S'.1 ∧ S.2.1 ≤ S'.2.1 := by
  unfold xsim at h
  split at h
  all_goals (try (split at h))
  all_goals (try (split at h))
  all_goals (first | (cases h; done) | (simp only [Option.some.injEq, Prod.mk.injEq] at h; obtain ⟨-, -, -, rfl⟩ := h; exact ⟨by simp, by simp⟩))
section PT
variable {T : Nat → Nat → Nat × Nat} {N : Nat → Nat} {mt : xMt} {C : Nat → List xV → xS → (xV → xS → Prop) → Prop} {K : (xV → xS → Prop) → Nat → xL → List xV → xS → Prop}
theorem xctl_pt {go : (xV → xS → Prop) → Nat → xL → List xV → xS → Prop} (hC : ∀ a as S, xPt S (C a as S)) (hK : ∀ pc ls st S, xPt S (fun Q => K Q pc ls st S)) (hg : ∀ sk ls st S, xPt S (fun Q => go Q sk ls st S)) (pc : Nat) (ins : Instr) (a b : Nat) (ls : xL) (st : List xV) (S : xS) :
    xPt S (fun Q => xctl mt C (K Q) Q (go Q) pc ins a b ls st S) := by
  cases ins with
  | if_icmp c o =>
    rcases st with _ | ⟨y | y, _ | ⟨x | x, st⟩⟩
    all_goals first | exact xPt.no | skip
    refine xPt.and (xPt.br ?_ (hg _ _ _ _))
    cases a with
    | zero => exact hg _ _ _ _
    | succ n => exact hK _ _ _ _
  | ifCond c o =>
    rcases st with _ | ⟨x | x, st⟩
    all_goals first | exact xPt.no | skip
    refine xPt.and (xPt.br ?_ (hg _ _ _ _))
    cases a with
    | zero => exact hg _ _ _ _
    | succ n => exact hK _ _ _ _
  | goto o =>
    cases a with
    | zero => exact hg _ _ _ _
    | succ n => exact hK _ _ _ _
  | nop =>
    rcases a with _ | _ | a
    · exact xPt.no
    · exact hK _ _ _ _
    · exact xPt.no
  | tableswitch d lo hi offs =>
    rcases st with _ | ⟨x | x, st⟩
    all_goals first | exact xPt.no | skip
    exact xPt.and (xPt.br (hK _ _ _ _) (hK _ _ _ _))
  | ireturn =>
    rcases st with _ | ⟨x | x, _ | ⟨y, st⟩⟩
    all_goals first | exact xPt.no | skip
    rcases a with _ | _ | _ | a
    · exact xPt.q
    · exact xPt.q
    · exact xPt.and xPt.q
    · exact xPt.q
  | areturn =>
    rcases st with _ | ⟨x | x, _ | ⟨y, st⟩⟩
    all_goals first | exact xPt.no | skip
    exact xPt.q
  | return_ =>
    cases st with
    | nil => exact xPt.q
    | cons _ _ => exact xPt.no
  | invokevirtual o => exact xPt.and (xPt.bind (hC _ _ _) (fun r S' => hg _ _ _ _))
  | invokespecial o => exact xPt.and (xPt.bind (hC _ _ _) (fun r S' => hg _ _ _ _))
  | invokestatic o => exact xPt.and (xPt.bind (hC _ _ _) (fun r S' => hg _ _ _ _))
  | _ => exact xPt.no
theorem xgo_pt (hC : ∀ a as S, xPt S (C a as S)) (hK : ∀ pc ls st S, xPt S (fun Q => K Q pc ls st S)) : ∀ (L : List xI) (sk : Nat) (ls : xL) (st : List xV) (S : xS), xPt S (fun Q => xgo T N mt C (K Q) Q L sk ls st S) := by
  intro L
  induction L with
  | nil => intro sk ls st S; simp only [xgo]; exact xPt.no
  | cons e rest ih =>
    intro sk ls st S
    cases sk with
    | succ sk => simp only [xgo]; exact ih sk ls st S
    | zero =>
      obtain ⟨pc, ins, a, b⟩ := e
      simp only [xgo]
      cases hx : xsim T N ins a b ls st S with
      | none => exact xctl_pt hC hK (fun sk ls st S => ih sk ls st S) pc ins a b ls st S
      | some q =>
        obtain ⟨g, ls', st', S'⟩ := q
        obtain ⟨h1, h2⟩ := xsim_up hx
        cases g with
        | none => exact (ih 0 ls' st' S').up h1 h2
        | some g => exact xPt.and ((ih 0 ls' st' S').up h1 h2)
end PT
section PT2
variable {T : Nat → Nat → Nat × Nat} {N : Nat → Nat} {mt : xMt} {tr : Nat → Nat → List xI} {C : Nat → List xV → xS → (xV → xS → Prop) → Prop}
theorem xloop_pt (hC : ∀ a as S, xPt S (C a as S)) (mu : Nat) : ∀ (n pc : Nat) (ls : xL) (st : List xV) (S : xS), xPt S (fun Q => xloop T N mt tr C mu Q n pc ls st S) := by
  intro n
  induction n with
  | zero => intro pc ls st S; exact xPt.no
  | succ n ih =>
    intro pc ls st S
    exact xgo_pt (K := fun Q pc ls st S => xloop T N mt tr C mu Q n pc ls st S) hC (fun pc ls st S => ih pc ls st S) _ _ _ _ _
theorem xcall_pt : ∀ (d mu : Nat) (as : List xV) (S : xS), xPt S (fun Q => xcall T N mt tr d mu as S Q) := by
  intro d
  induction d with
  | zero => intro mu as S; exact xPt.no
  | succ d ih =>
    intro mu as S
    exact xPt.ex (fun n => xloop_pt ih mu n 0 _ [] S)
/-- a method's road from a stretch on, with d frames below it: no fuel to be seen -/
def xGo (T : Nat → Nat → Nat × Nat) (N : Nat → Nat) (mt : xMt) (tr : Nat → Nat → List xI) (d mu pc : Nat) (ls : xL) (st : List xV) (S : xS) (Q : xV → xS → Prop) : Prop := ∃ n, xloop T N mt tr (xcall T N mt tr d) mu Q n pc ls st S
/-- more posts, other roads: monotone -/
theorem xctl_mono {K K' : Nat → xL → List xV → xS → Prop} {Q Q' : xV → xS → Prop} {C C' : Nat → List xV → xS → (xV → xS → Prop) → Prop} {go go' : Nat → xL → List xV → xS → Prop}
    (hC : ∀ a as S P P', (∀ r S', P r S' → P' r S') → C a as S P → C' a as S P') (hK : ∀ pc ls st S, K pc ls st S → K' pc ls st S) (hQ : ∀ r S, Q r S → Q' r S) (hg : ∀ sk ls st S, go sk ls st S → go' sk ls st S) (pc : Nat) (ins : Instr) (a b : Nat) (ls : xL) (st : List xV) (S : xS)
    (h : xctl mt C K Q go pc ins a b ls st S) : xctl mt C' K' Q' go' pc ins a b ls st S := by
  cases ins with
  | if_icmp c o =>
    rcases st with _ | ⟨y | y, _ | ⟨x | x, st⟩⟩
    all_goals first | exact h.elim | skip
    refine ⟨h.1, fun z => ?_, fun z => hg _ _ _ _ (h.2.2 z)⟩
    have h1 := h.2.1 z
    cases a with
    | zero => exact hg _ _ _ _ h1
    | succ n => exact hK _ _ _ _ h1
  | ifCond c o =>
    rcases st with _ | ⟨x | x, st⟩
    all_goals first | exact h.elim | skip
    refine ⟨h.1, fun z => ?_, fun z => hg _ _ _ _ (h.2.2 z)⟩
    have h1 := h.2.1 z
    cases a with
    | zero => exact hg _ _ _ _ h1
    | succ n => exact hK _ _ _ _ h1
  | goto o =>
    cases a with
    | zero => exact hg _ _ _ _ h
    | succ n => exact hK _ _ _ _ h
  | nop =>
    rcases a with _ | _ | a
    · exact h.elim
    · exact hK _ _ _ _ h
    · exact h.elim
  | tableswitch d lo hi offs =>
    rcases st with _ | ⟨x | x, st⟩
    all_goals first | exact h.elim | skip
    exact ⟨h.1, fun z => hK _ _ _ _ (h.2.1 z), fun z => hK _ _ _ _ (h.2.2 z)⟩
  | ireturn =>
    rcases st with _ | ⟨x | x, _ | ⟨y, st⟩⟩
    all_goals first | exact h.elim | skip
    rcases a with _ | _ | _ | a
    · exact hQ _ _ h
    · exact hQ _ _ h
    · exact ⟨h.1, hQ _ _ h.2⟩
    · exact hQ _ _ h
  | areturn =>
    rcases st with _ | ⟨x | x, _ | ⟨y, st⟩⟩
    all_goals first | exact h.elim | skip
    exact hQ _ _ h
  | return_ =>
    cases st with
    | nil => exact hQ _ _ h
    | cons _ _ => exact h.elim
  | invokevirtual o => exact ⟨h.1, hC _ _ _ _ _ (fun r S' q => hg _ _ _ _ q) h.2⟩
  | invokespecial o => exact ⟨h.1, hC _ _ _ _ _ (fun r S' q => hg _ _ _ _ q) h.2⟩
  | invokestatic o => exact ⟨h.1, hC _ _ _ _ _ (fun r S' q => hg _ _ _ _ q) h.2⟩
  | _ => exact h.elim
theorem xgo_mono {K K' : Nat → xL → List xV → xS → Prop} {Q Q' : xV → xS → Prop} {C C' : Nat → List xV → xS → (xV → xS → Prop) → Prop}
    (hC : ∀ a as S P P', (∀ r S', P r S' → P' r S') → C a as S P → C' a as S P') (hK : ∀ pc ls st S, K pc ls st S → K' pc ls st S) (hQ : ∀ r S, Q r S → Q' r S) : ∀ (L : List xI) (sk : Nat) (ls : xL) (st : List xV) (S : xS), xgo T N mt C K Q L sk ls st S → xgo T N mt C' K' Q' L sk ls st S := by
  intro L
  induction L with
  | nil => intro sk ls st S h; simp only [xgo] at h
  | cons e rest ih =>
    intro sk ls st S h
    cases sk with
    | succ sk => simp only [xgo] at h ⊢; exact ih sk ls st S h
    | zero =>
      obtain ⟨pc, ins, a, b⟩ := e
      simp only [xgo] at h ⊢
      cases hx : xsim T N ins a b ls st S with
      | none => rw [hx] at h; exact xctl_mono hC hK hQ (fun sk ls st S => ih sk ls st S) pc ins a b ls st S h
      | some q =>
        obtain ⟨g, ls', st', S'⟩ := q
        rw [hx] at h
        cases g with
        | none => exact ih 0 ls' st' S' h
        | some g => exact ⟨h.1, ih 0 ls' st' S' h.2⟩
theorem xloop_mono {Q Q' : xV → xS → Prop} {C C' : Nat → List xV → xS → (xV → xS → Prop) → Prop} (hC : ∀ a as S P P', (∀ r S', P r S' → P' r S') → C a as S P → C' a as S P') (hQ : ∀ r S, Q r S → Q' r S) (mu : Nat) : ∀ (n k pc : Nat) (ls : xL) (st : List xV) (S : xS), n ≤ k → xloop T N mt tr C mu Q n pc ls st S → xloop T N mt tr C' mu Q' k pc ls st S := by
  intro n
  induction n with
  | zero => intro k pc ls st S _ h; exact h.elim
  | succ n ih =>
    intro k pc ls st S hk h
    obtain ⟨k, rfl⟩ : ∃ j, k = j + 1 := ⟨k - 1, by omega⟩
    exact xgo_mono hC (fun pc ls st S q => ih k pc ls st S (by omega) q) hQ _ _ _ _ _ h
theorem xcall_mono : ∀ (d k mu : Nat) (as : List xV) (S : xS) (P P' : xV → xS → Prop), d ≤ k → (∀ r S', P r S' → P' r S') → xcall T N mt tr d mu as S P → xcall T N mt tr k mu as S P' := by
  intro d
  induction d with
  | zero => intro k mu as S P P' _ _ h; exact h.elim
  | succ d ih =>
    intro k mu as S P P' hk hP h
    obtain ⟨k, rfl⟩ : ∃ j, k = j + 1 := ⟨k - 1, by omega⟩
    obtain ⟨n, h⟩ := h
    exact ⟨n, xloop_mono (fun a as S P P' hp q => ih k a as S P P' (by omega) hp q) hP mu n n 0 _ _ _ (Nat.le_refl _) h⟩
theorem xGo.mono {d k mu pc : Nat} {ls : xL} {st : List xV} {S : xS} {Q Q' : xV → xS → Prop} (h : xGo T N mt tr d mu pc ls st S Q) (hd : d ≤ k) (hQ : ∀ r S, Q r S → Q' r S) : xGo T N mt tr k mu pc ls st S Q' := by
  obtain ⟨n, h⟩ := h
  exact ⟨n, xloop_mono (fun a as S P P' hp q => xcall_mono d k a as S P P' hd hp q) hQ mu n n pc _ _ _ (Nat.le_refl _) h⟩
/-- on from a stretch: its own text, with the roads as xGo -/
theorem xGo.in {d mu pc : Nat} {ls : xL} {st : List xV} {S : xS} {Q : xV → xS → Prop} (h : xgo T N mt (xcall T N mt tr d) (fun pc ls st S => xGo T N mt tr d mu pc ls st S Q) Q (tr mu pc) 0 ls st S) : xGo T N mt tr d mu pc ls st S Q := by
  have hp : ∀ (L : List xI) (sk : Nat) (ls : xL) (st : List xV) (S : xS), xgo T N mt (xcall T N mt tr d) (fun pc ls st S => xGo T N mt tr d mu pc ls st S Q) Q L sk ls st S → ∃ n, xgo T N mt (xcall T N mt tr d) (fun pc ls st S => xloop T N mt tr (xcall T N mt tr d) mu Q n pc ls st S) Q L sk ls st S := by
    intro L sk ls st S h
    have h2 := xgo_pt (T := T) (N := N) (mt := mt) (C := xcall T N mt tr d) (K := fun Q' pc ls st S => xGo T N mt tr d mu pc ls st S Q') (xcall_pt d) (fun pc ls st S => xPt.ex (fun n => xloop_pt (xcall_pt d) mu n pc ls st S)) L sk ls st S Q h
    clear h2
    induction L generalizing sk ls st S with
    | nil => simp only [xgo] at h
    | cons e rest ih =>
      cases sk with
      | succ sk => simp only [xgo] at h ⊢; exact ih sk ls st S h
      | zero =>
        obtain ⟨pc, ins, a, b⟩ := e
        simp only [xgo] at h ⊢
        cases hx : xsim T N ins a b ls st S with
        | some q =>
          obtain ⟨g, ls', st', S'⟩ := q
          rw [hx] at h
          cases g with
          | none => exact ih 0 ls' st' S' h
          | some g => obtain ⟨n, q⟩ := ih 0 ls' st' S' h.2; exact ⟨n, h.1, q⟩
        | none =>
          rw [hx] at h
          have call : ∀ (m' : Nat) (as : List xV) (F : xV → xS → List xV), xcall T N mt tr d m' as S (fun r S' => xgo T N mt (xcall T N mt tr d) (fun pc ls st S => xGo T N mt tr d mu pc ls st S Q) Q rest 0 ls (F r S') S') → ∃ n, xcall T N mt tr d m' as S (fun r S' => xgo T N mt (xcall T N mt tr d) (fun pc ls st S => xloop T N mt tr (xcall T N mt tr d) mu Q n pc ls st S) Q rest 0 ls (F r S') S') := by
            intro m' as F hc
            obtain ⟨r, S', a1, -, -, a4⟩ := xcall_pt d m' as S _ hc
            obtain ⟨n, q⟩ := ih 0 _ _ _ a1
            exact ⟨n, a4 _ q⟩
          cases ins with
          | if_icmp c o =>
            rcases st with _ | ⟨y | y, _ | ⟨x | x, st⟩⟩
            all_goals first | exact h.elim | skip
            by_cases hc : xc c x y
            · have h1 := h.2.1 hc
              cases a with
              | zero => obtain ⟨n, q⟩ := ih _ _ _ _ h1; exact ⟨n, h.1, fun _ => q, fun z => absurd hc z⟩
              | succ k => obtain ⟨n, q⟩ := h1; exact ⟨n, h.1, fun _ => q, fun z => absurd hc z⟩
            · obtain ⟨n, q⟩ := ih _ _ _ _ (h.2.2 hc); exact ⟨n, h.1, fun z => absurd z hc, fun _ => q⟩
          | ifCond c o =>
            rcases st with _ | ⟨x | x, st⟩
            all_goals first | exact h.elim | skip
            by_cases hc : xc c x 0
            · have h1 := h.2.1 hc
              cases a with
              | zero => obtain ⟨n, q⟩ := ih _ _ _ _ h1; exact ⟨n, h.1, fun _ => q, fun z => absurd hc z⟩
              | succ k => obtain ⟨n, q⟩ := h1; exact ⟨n, h.1, fun _ => q, fun z => absurd hc z⟩
            · obtain ⟨n, q⟩ := ih _ _ _ _ (h.2.2 hc); exact ⟨n, h.1, fun z => absurd z hc, fun _ => q⟩
          | goto o =>
            cases a with
            | zero => obtain ⟨n, q⟩ := ih _ _ _ _ h; exact ⟨n, q⟩
            | succ k => obtain ⟨n, q⟩ := h; exact ⟨n, q⟩
          | nop =>
            rcases a with _ | _ | a
            · exact h.elim
            · obtain ⟨n, q⟩ := h; exact ⟨n, q⟩
            · exact h.elim
          | tableswitch d lo hi offs =>
            rcases st with _ | ⟨x | x, st⟩
            all_goals first | exact h.elim | skip
            by_cases hc : x < lo ∨ hi < x
            · obtain ⟨n, q⟩ := h.2.1 hc; exact ⟨n, h.1, fun _ => q, fun z => absurd hc z⟩
            · obtain ⟨n, q⟩ := h.2.2 hc; exact ⟨n, h.1, fun z => absurd z hc, fun _ => q⟩
          | ireturn =>
            rcases st with _ | ⟨x | x, _ | ⟨y, st⟩⟩
            all_goals first | exact h.elim | skip
            rcases a with _ | _ | _ | a
            all_goals exact ⟨0, h⟩
          | areturn =>
            rcases st with _ | ⟨x | x, _ | ⟨y, st⟩⟩
            all_goals first | exact h.elim | skip
            exact ⟨0, h⟩
          | return_ =>
            cases st with
            | nil => exact ⟨0, h⟩
            | cons _ _ => exact h.elim
          | invokevirtual o => obtain ⟨n, q⟩ := call _ _ _ h.2; exact ⟨n, h.1, q⟩
          | invokespecial o => obtain ⟨n, q⟩ := call _ _ _ h.2; exact ⟨n, h.1, q⟩
          | invokestatic o => obtain ⟨n, q⟩ := call _ _ _ h.2; exact ⟨n, h.1, q⟩
          | _ => exact h.elim
  obtain ⟨n, q⟩ := hp _ _ _ _ _ h
  exact ⟨n + 1, q⟩
theorem xcall_of {d mu : Nat} {as : List xV} {S : xS} {Q : xV → xS → Prop} (h : xGo T N mt tr d mu 0 (xent as (mt mu).2.2.2) [] S Q) : xcall T N mt tr (d + 1) mu as S Q := h
end PT2
end
section
/-! ===== laid by gen.py: classes, fields, tags, methods by number ===== -/
def xRX : Nat → String := fun k => (bif Nat.blt k 5 then (bif Nat.blt k 2 then (bif Nat.blt k 1 then RX0 else RX1) else (bif Nat.blt k 3 then RX2 else (bif Nat.blt k 4 then RX3 else RX4))) else (bif Nat.blt k 8 then (bif Nat.blt k 6 then RX5 else (bif Nat.blt k 7 then RX6 else RX7)) else (bif Nat.blt k 9 then RX8 else (bif Nat.blt k 10 then RX9 else RX10))))
def xTX : Nat → u_T := fun k => (bif Nat.blt k 5 then (bif Nat.blt k 2 then (bif Nat.blt k 1 then TX0 else TX1) else (bif Nat.blt k 3 then TX2 else (bif Nat.blt k 4 then TX3 else TX4))) else (bif Nat.blt k 8 then (bif Nat.blt k 6 then TX5 else (bif Nat.blt k 7 then TX6 else TX7)) else (bif Nat.blt k 9 then TX8 else (bif Nat.blt k 10 then TX9 else TX10))))
def xTy : Nat → (Nat → FieldType) := fun k => (bif Nat.blt k 5 then (bif Nat.blt k 2 then (bif Nat.blt k 1 then tyX0 else tyX1) else (bif Nat.blt k 3 then tyX2 else (bif Nat.blt k 4 then tyX3 else tyX4))) else (bif Nat.blt k 8 then (bif Nat.blt k 6 then tyX5 else (bif Nat.blt k 7 then tyX6 else tyX7)) else (bif Nat.blt k 9 then tyX8 else (bif Nat.blt k 10 then tyX9 else tyX10))))
def xNf : Nat → Nat := fun a => (fun k => (bif Nat.blt k 5 then (bif Nat.blt k 2 then (bif Nat.blt k 1 then 18 else 4) else (bif Nat.blt k 3 then 3 else (bif Nat.blt k 4 then 8 else 6))) else (bif Nat.blt k 8 then (bif Nat.blt k 6 then 11 else (bif Nat.blt k 7 then 17 else 7)) else (bif Nat.blt k 9 then 5 else (bif Nat.blt k 10 then 11 else 56))))) (a % 30)
def xft_0 : Nat → Nat × Nat := fun j => (bif Nat.blt j 9 then (bif Nat.blt j 4 then (bif Nat.blt j 2 then (bif Nat.blt j 1 then (2, 2) else (2, 18)) else (bif Nat.blt j 3 then (1, 1) else (1, 5))) else (bif Nat.blt j 6 then (bif Nat.blt j 5 then (1, 9) else (0, 0)) else (bif Nat.blt j 7 then (1, 10) else (bif Nat.blt j 8 then (1, 11) else (1, 12))))) else (bif Nat.blt j 13 then (bif Nat.blt j 11 then (bif Nat.blt j 10 then (0, 0) else (1, 13)) else (bif Nat.blt j 12 then (0, 0) else (1, 14))) else (bif Nat.blt j 15 then (bif Nat.blt j 14 then (0, 0) else (1, 15)) else (bif Nat.blt j 16 then (0, 0) else (bif Nat.blt j 17 then (3, 0) else (3, 0))))))
def xft_1 : Nat → Nat × Nat := fun j => (bif Nat.blt j 2 then (bif Nat.blt j 1 then (0, 0) else (3, 0)) else (bif Nat.blt j 3 then (3, 0) else (3, 0)))
def xft_2 : Nat → Nat × Nat := fun j => (bif Nat.blt j 1 then (2, 18) else (bif Nat.blt j 2 then (2, 8) else (1, 1)))
def xft_3 : Nat → Nat × Nat := fun j => (bif Nat.blt j 4 then (bif Nat.blt j 2 then (bif Nat.blt j 1 then (0, 0) else (1, 1)) else (bif Nat.blt j 3 then (0, 0) else (1, 2))) else (bif Nat.blt j 6 then (bif Nat.blt j 5 then (1, 3) else (1, 4)) else (bif Nat.blt j 7 then (1, 5) else (4, 0))))
def xft_4 : Nat → Nat × Nat := fun j => (bif Nat.blt j 3 then (bif Nat.blt j 1 then (2, 2) else (bif Nat.blt j 2 then (3, 0) else (3, 0))) else (bif Nat.blt j 4 then (0, 0) else (bif Nat.blt j 5 then (1, 3) else (1, 4))))
def xft_5 : Nat → Nat × Nat := fun j => (bif Nat.blt j 5 then (bif Nat.blt j 2 then (bif Nat.blt j 1 then (0, 0) else (0, 0)) else (bif Nat.blt j 3 then (1, 1) else (bif Nat.blt j 4 then (1, 2) else (1, 3)))) else (bif Nat.blt j 8 then (bif Nat.blt j 6 then (1, 4) else (bif Nat.blt j 7 then (1, 5) else (1, 6))) else (bif Nat.blt j 9 then (1, 7) else (bif Nat.blt j 10 then (1, 8) else (1, 9)))))
def xft_6 : Nat → Nat × Nat := fun j => (bif Nat.blt j 8 then (bif Nat.blt j 4 then (bif Nat.blt j 2 then (bif Nat.blt j 1 then (4, 0) else (0, 0)) else (bif Nat.blt j 3 then (0, 0) else (0, 0))) else (bif Nat.blt j 6 then (bif Nat.blt j 5 then (0, 0) else (1, 1)) else (bif Nat.blt j 7 then (1, 2) else (1, 3)))) else (bif Nat.blt j 12 then (bif Nat.blt j 10 then (bif Nat.blt j 9 then (1, 4) else (1, 5)) else (bif Nat.blt j 11 then (1, 6) else (1, 7))) else (bif Nat.blt j 14 then (bif Nat.blt j 13 then (1, 8) else (1, 9)) else (bif Nat.blt j 15 then (1, 10) else (bif Nat.blt j 16 then (1, 11) else (1, 12))))))
def xft_7 : Nat → Nat × Nat := fun j => (bif Nat.blt j 3 then (bif Nat.blt j 1 then (0, 0) else (bif Nat.blt j 2 then (0, 0) else (1, 1))) else (bif Nat.blt j 5 then (bif Nat.blt j 4 then (1, 2) else (1, 3)) else (bif Nat.blt j 6 then (1, 4) else (1, 5))))
def xft_8 : Nat → Nat × Nat := fun j => (bif Nat.blt j 2 then (bif Nat.blt j 1 then (2, 8) else (1, 1)) else (bif Nat.blt j 3 then (0, 0) else (bif Nat.blt j 4 then (0, 0) else (1, 2))))
def xft_9 : Nat → Nat × Nat := fun j => (bif Nat.blt j 5 then (bif Nat.blt j 2 then (bif Nat.blt j 1 then (1, 1) else (1, 7)) else (bif Nat.blt j 3 then (1, 17) else (bif Nat.blt j 4 then (1, 27) else (0, 0)))) else (bif Nat.blt j 8 then (bif Nat.blt j 6 then (1, 28) else (bif Nat.blt j 7 then (1, 44) else (1, 47))) else (bif Nat.blt j 9 then (1, 50) else (bif Nat.blt j 10 then (1, 52) else (1, 57)))))
def xft_10 : Nat → Nat × Nat := fun j => (bif Nat.blt j 28 then (bif Nat.blt j 14 then (bif Nat.blt j 7 then (bif Nat.blt j 3 then (bif Nat.blt j 1 then (0, 0) else (bif Nat.blt j 2 then (0, 0) else (1, 1))) else (bif Nat.blt j 5 then (bif Nat.blt j 4 then (1, 2) else (1, 3)) else (bif Nat.blt j 6 then (1, 4) else (1, 5)))) else (bif Nat.blt j 10 then (bif Nat.blt j 8 then (1, 6) else (bif Nat.blt j 9 then (1, 7) else (1, 8))) else (bif Nat.blt j 12 then (bif Nat.blt j 11 then (0, 0) else (1, 9)) else (bif Nat.blt j 13 then (1, 10) else (1, 11))))) else (bif Nat.blt j 21 then (bif Nat.blt j 17 then (bif Nat.blt j 15 then (1, 12) else (bif Nat.blt j 16 then (1, 13) else (1, 14))) else (bif Nat.blt j 19 then (bif Nat.blt j 18 then (1, 15) else (0, 0)) else (bif Nat.blt j 20 then (1, 16) else (1, 17)))) else (bif Nat.blt j 24 then (bif Nat.blt j 22 then (1, 18) else (bif Nat.blt j 23 then (1, 19) else (1, 20))) else (bif Nat.blt j 26 then (bif Nat.blt j 25 then (1, 21) else (0, 0)) else (bif Nat.blt j 27 then (1, 22) else (1, 23)))))) else (bif Nat.blt j 42 then (bif Nat.blt j 35 then (bif Nat.blt j 31 then (bif Nat.blt j 29 then (1, 24) else (bif Nat.blt j 30 then (1, 25) else (1, 26))) else (bif Nat.blt j 33 then (bif Nat.blt j 32 then (0, 0) else (1, 27)) else (bif Nat.blt j 34 then (0, 0) else (1, 28)))) else (bif Nat.blt j 38 then (bif Nat.blt j 36 then (0, 0) else (bif Nat.blt j 37 then (1, 29) else (1, 30))) else (bif Nat.blt j 40 then (bif Nat.blt j 39 then (1, 31) else (1, 32)) else (bif Nat.blt j 41 then (1, 33) else (1, 34))))) else (bif Nat.blt j 49 then (bif Nat.blt j 45 then (bif Nat.blt j 43 then (0, 0) else (bif Nat.blt j 44 then (0, 0) else (4, 0))) else (bif Nat.blt j 47 then (bif Nat.blt j 46 then (4, 0) else (0, 0)) else (bif Nat.blt j 48 then (1, 35) else (4, 0)))) else (bif Nat.blt j 52 then (bif Nat.blt j 50 then (1, 36) else (bif Nat.blt j 51 then (0, 0) else (1, 37))) else (bif Nat.blt j 54 then (bif Nat.blt j 53 then (1, 38) else (1, 39)) else (bif Nat.blt j 55 then (1, 40) else (0, 0)))))))
def xft0 : Nat → Nat → Nat × Nat := fun c => (bif Nat.blt c 5 then (bif Nat.blt c 2 then (bif Nat.blt c 1 then xft_0 else xft_1) else (bif Nat.blt c 3 then xft_2 else (bif Nat.blt c 4 then xft_3 else xft_4))) else (bif Nat.blt c 8 then (bif Nat.blt c 6 then xft_5 else (bif Nat.blt c 7 then xft_6 else xft_7)) else (bif Nat.blt c 9 then xft_8 else (bif Nat.blt c 10 then xft_9 else xft_10))))
/-- below 30: a made object; from 30 on: one that is being made, its references all as data -/
def xft : Nat → Nat → Nat × Nat := fun a j => bif Nat.blt a 30 then xft0 a j else (bif Nat.beq (xft0 (a - 30) j).1 0 then (0, 0) else bif Nat.beq (xft0 (a - 30) j).1 4 then (4, 0) else (3, 0))
def xy : Nat → MethodName := fun k => (bif Nat.blt k 81 then (bif Nat.blt k 40 then (bif Nat.blt k 20 then (bif Nat.blt k 10 then (bif Nat.blt k 5 then (bif Nat.blt k 2 then (bif Nat.blt k 1 then yX0_init else yX0_stands) else (bif Nat.blt k 3 then yX0_begin else (bif Nat.blt k 4 then yX0_keep else yX0_putOff))) else (bif Nat.blt k 7 then (bif Nat.blt k 6 then yX0_loadRows else yX0_placeThatCounts) else (bif Nat.blt k 8 then yX0_splitFirst else (bif Nat.blt k 9 then yX0_splitAll else yX0_isEither)))) else (bif Nat.blt k 15 then (bif Nat.blt k 12 then (bif Nat.blt k 11 then yX0_split else yX0_patternAt) else (bif Nat.blt k 13 then yX0_putParts else (bif Nat.blt k 14 then yX0_stripNames else yX0_endNode))) else (bif Nat.blt k 17 then (bif Nat.blt k 16 then yX0_tellNames else yX0_growTest) else (bif Nat.blt k 18 then yX0_gatherLabels else (bif Nat.blt k 19 then yX0_gatherLabel else yX0_leastAbsent))))) else (bif Nat.blt k 30 then (bif Nat.blt k 25 then (bif Nat.blt k 22 then (bif Nat.blt k 21 then yX0_growBranch else yX1_init) else (bif Nat.blt k 23 then yX1_add else (bif Nat.blt k 24 then yX2_init else yX2_rowFor))) else (bif Nat.blt k 27 then (bif Nat.blt k 26 then yX2_allFit else yX2_holds) else (bif Nat.blt k 28 then yX2_fits else (bif Nat.blt k 29 then yX2_partsFit else yX3_init)))) else (bif Nat.blt k 35 then (bif Nat.blt k 32 then (bif Nat.blt k 31 then yX3_addRow else yX3_patternOf) else (bif Nat.blt k 33 then yX3_isGuarded else (bif Nat.blt k 34 then yX3_isOfOneType else yX4_init))) else (bif Nat.blt k 37 then (bif Nat.blt k 36 then yX4_tell else yX4_markWay) else (bif Nat.blt k 38 then yX4_spell else (bif Nat.blt k 39 then yX5_init else yX5_has)))))) else (bif Nat.blt k 60 then (bif Nat.blt k 50 then (bif Nat.blt k 45 then (bif Nat.blt k 42 then (bif Nat.blt k 41 then yX5_isOf else yX5_areOf) else (bif Nat.blt k 43 then yX5_areAlike else (bif Nat.blt k 44 then yX5_haveNamesApart else yX5_partOf))) else (bif Nat.blt k 47 then (bif Nat.blt k 46 then yX5_add else yX5_join) else (bif Nat.blt k 48 then yX6_init else (bif Nat.blt k 49 then yX6_clear else yX6_become)))) else (bif Nat.blt k 55 then (bif Nat.blt k 52 then (bif Nat.blt k 51 then yX6_addPlace else yX6_addBranches) else (bif Nat.blt k 53 then yX6_placeOfName else (bif Nat.blt k 54 then yX7_init else yX7_isType))) else (bif Nat.blt k 57 then (bif Nat.blt k 56 then yX7_isMaker else yX7_partsOf) else (bif Nat.blt k 58 then yX7_partTypeOf else (bif Nat.blt k 59 then yX7_areTypes else yX7_allHaveValues))))) else (bif Nat.blt k 70 then (bif Nat.blt k 65 then (bif Nat.blt k 62 then (bif Nat.blt k 61 then yX7_addType else yX7_addMaker) else (bif Nat.blt k 63 then yX7_settlePlain else (bif Nat.blt k 64 then yX7_settlePlainOf else yX7_smallestBy))) else (bif Nat.blt k 67 then (bif Nat.blt k 66 then yX8_init else yX8_clear) else (bif Nat.blt k 68 then yX8_follow else (bif Nat.blt k 69 then yX8_branchOf else yX8_openParts)))) else (bif Nat.blt k 75 then (bif Nat.blt k 72 then (bif Nat.blt k 71 then yX8_asks else yX8_bind) else (bif Nat.blt k 73 then yX9_init else (bif Nat.blt k 74 then yX9_type else yX9_maker))) else (bif Nat.blt k 78 then (bif Nat.blt k 76 then yX9_number else (bif Nat.blt k 77 then yX9_make else yX9_any)) else (bif Nat.blt k 79 then yX9_also else (bif Nat.blt k 80 then yX9_exactly else yX9_made))))))) else (bif Nat.blt k 122 then (bif Nat.blt k 101 then (bif Nat.blt k 91 then (bif Nat.blt k 86 then (bif Nat.blt k 83 then (bif Nat.blt k 82 then yX9_either else yX9_match) else (bif Nat.blt k 84 then yX9_row else (bif Nat.blt k 85 then yX9_run else yX9_took))) else (bif Nat.blt k 88 then (bif Nat.blt k 87 then yX9_tree else yX9_missing) else (bif Nat.blt k 89 then yX9_part else (bif Nat.blt k 90 then yX9_plain else yX9_count)))) else (bif Nat.blt k 96 then (bif Nat.blt k 93 then (bif Nat.blt k 92 then yX9_check else yX9_give) else (bif Nat.blt k 94 then yX9_addMade else (bif Nat.blt k 95 then yX9_isMatch else yX9_isName))) else (bif Nat.blt k 98 then (bif Nat.blt k 97 then yX9_inBits else yX9_isGuard) else (bif Nat.blt k 99 then yX9_allRows else (bif Nat.blt k 100 then yX9_agrees else yX10_init))))) else (bif Nat.blt k 111 then (bif Nat.blt k 106 then (bif Nat.blt k 103 then (bif Nat.blt k 102 then yX10_isType else yX10_type) else (bif Nat.blt k 104 then yX10_maker else (bif Nat.blt k 105 then yX10_madeSize else yX10_findPlains))) else (bif Nat.blt k 108 then (bif Nat.blt k 107 then yX10_isMaker else yX10_countOf) else (bif Nat.blt k 109 then yX10_partType else (bif Nat.blt k 110 then yX10_addValue else yX10_number)))) else (bif Nat.blt k 116 then (bif Nat.blt k 113 then (bif Nat.blt k 112 then yX10_isValueOf else yX10_pick) else (bif Nat.blt k 114 then yX10_make else (bif Nat.blt k 115 then yX10_addPattern else yX10_isName))) else (bif Nat.blt k 119 then (bif Nat.blt k 117 then yX10_isPattern else (bif Nat.blt k 118 then yX10_hasName else yX10_any)) else (bif Nat.blt k 120 then yX10_also else (bif Nat.blt k 121 then yX10_exactly else yX10_made)))))) else (bif Nat.blt k 142 then (bif Nat.blt k 132 then (bif Nat.blt k 127 then (bif Nat.blt k 124 then (bif Nat.blt k 123 then yX10_either else yX10_match) else (bif Nat.blt k 125 then yX10_isMatch else (bif Nat.blt k 126 then yX10_patternOf else yX10_typeOfName))) else (bif Nat.blt k 129 then (bif Nat.blt k 128 then yX10_row else yX10_doesMatch) else (bif Nat.blt k 130 then yX10_takes else (bif Nat.blt k 131 then yX10_newPlace else yX10_pushRow)))) else (bif Nat.blt k 137 then (bif Nat.blt k 134 then (bif Nat.blt k 133 then yX10_cell else yX10_setCell) else (bif Nat.blt k 135 then yX10_copyRow else (bif Nat.blt k 136 then yX10_goThrough else yX10_countNode))) else (bif Nat.blt k 139 then (bif Nat.blt k 138 then yX10_firstOpen else yX10_isEither) else (bif Nat.blt k 140 then yX10_split else (bif Nat.blt k 141 then yX10_node else yX10_failure))))) else (bif Nat.blt k 152 then (bif Nat.blt k 147 then (bif Nat.blt k 144 then (bif Nat.blt k 143 then yX10_leaf else yX10_test) else (bif Nat.blt k 145 then yX10_leastOther else (bif Nat.blt k 146 then yX10_branch else yX10_put))) else (bif Nat.blt k 149 then (bif Nat.blt k 148 then yX10_tellPlain else yX10_tell) else (bif Nat.blt k 150 then yX10_look else (bif Nat.blt k 151 then yX10_forget else yX10_run)))) else (bif Nat.blt k 157 then (bif Nat.blt k 154 then (bif Nat.blt k 153 then yX10_took else yX10_tree) else (bif Nat.blt k 155 then yX10_missing else (bif Nat.blt k 156 then yX10_part else yX10_plain))) else (bif Nat.blt k 160 then (bif Nat.blt k 158 then yX10_sumOf else (bif Nat.blt k 159 then yX10_count else yX10_check)) else (bif Nat.blt k 161 then yJ7_fill_53178 else (bif Nat.blt k 162 then yJ7_copyOf_59c91 else yL_law))))))))
def xcc : Nat → ByteArray := fun k => (bif Nat.blt k 81 then (bif Nat.blt k 40 then (bif Nat.blt k 20 then (bif Nat.blt k 10 then (bif Nat.blt k 5 then (bif Nat.blt k 2 then (bif Nat.blt k 1 then cX0_init else cX0_stands) else (bif Nat.blt k 3 then cX0_begin else (bif Nat.blt k 4 then cX0_keep else cX0_putOff))) else (bif Nat.blt k 7 then (bif Nat.blt k 6 then cX0_loadRows else cX0_placeThatCounts) else (bif Nat.blt k 8 then cX0_splitFirst else (bif Nat.blt k 9 then cX0_splitAll else cX0_isEither)))) else (bif Nat.blt k 15 then (bif Nat.blt k 12 then (bif Nat.blt k 11 then cX0_split else cX0_patternAt) else (bif Nat.blt k 13 then cX0_putParts else (bif Nat.blt k 14 then cX0_stripNames else cX0_endNode))) else (bif Nat.blt k 17 then (bif Nat.blt k 16 then cX0_tellNames else cX0_growTest) else (bif Nat.blt k 18 then cX0_gatherLabels else (bif Nat.blt k 19 then cX0_gatherLabel else cX0_leastAbsent))))) else (bif Nat.blt k 30 then (bif Nat.blt k 25 then (bif Nat.blt k 22 then (bif Nat.blt k 21 then cX0_growBranch else cX1_init) else (bif Nat.blt k 23 then cX1_add else (bif Nat.blt k 24 then cX2_init else cX2_rowFor))) else (bif Nat.blt k 27 then (bif Nat.blt k 26 then cX2_allFit else cX2_holds) else (bif Nat.blt k 28 then cX2_fits else (bif Nat.blt k 29 then cX2_partsFit else cX3_init)))) else (bif Nat.blt k 35 then (bif Nat.blt k 32 then (bif Nat.blt k 31 then cX3_addRow else cX3_patternOf) else (bif Nat.blt k 33 then cX3_isGuarded else (bif Nat.blt k 34 then cX3_isOfOneType else cX4_init))) else (bif Nat.blt k 37 then (bif Nat.blt k 36 then cX4_tell else cX4_markWay) else (bif Nat.blt k 38 then cX4_spell else (bif Nat.blt k 39 then cX5_init else cX5_has)))))) else (bif Nat.blt k 60 then (bif Nat.blt k 50 then (bif Nat.blt k 45 then (bif Nat.blt k 42 then (bif Nat.blt k 41 then cX5_isOf else cX5_areOf) else (bif Nat.blt k 43 then cX5_areAlike else (bif Nat.blt k 44 then cX5_haveNamesApart else cX5_partOf))) else (bif Nat.blt k 47 then (bif Nat.blt k 46 then cX5_add else cX5_join) else (bif Nat.blt k 48 then cX6_init else (bif Nat.blt k 49 then cX6_clear else cX6_become)))) else (bif Nat.blt k 55 then (bif Nat.blt k 52 then (bif Nat.blt k 51 then cX6_addPlace else cX6_addBranches) else (bif Nat.blt k 53 then cX6_placeOfName else (bif Nat.blt k 54 then cX7_init else cX7_isType))) else (bif Nat.blt k 57 then (bif Nat.blt k 56 then cX7_isMaker else cX7_partsOf) else (bif Nat.blt k 58 then cX7_partTypeOf else (bif Nat.blt k 59 then cX7_areTypes else cX7_allHaveValues))))) else (bif Nat.blt k 70 then (bif Nat.blt k 65 then (bif Nat.blt k 62 then (bif Nat.blt k 61 then cX7_addType else cX7_addMaker) else (bif Nat.blt k 63 then cX7_settlePlain else (bif Nat.blt k 64 then cX7_settlePlainOf else cX7_smallestBy))) else (bif Nat.blt k 67 then (bif Nat.blt k 66 then cX8_init else cX8_clear) else (bif Nat.blt k 68 then cX8_follow else (bif Nat.blt k 69 then cX8_branchOf else cX8_openParts)))) else (bif Nat.blt k 75 then (bif Nat.blt k 72 then (bif Nat.blt k 71 then cX8_asks else cX8_bind) else (bif Nat.blt k 73 then cX9_init else (bif Nat.blt k 74 then cX9_type else cX9_maker))) else (bif Nat.blt k 78 then (bif Nat.blt k 76 then cX9_number else (bif Nat.blt k 77 then cX9_make else cX9_any)) else (bif Nat.blt k 79 then cX9_also else (bif Nat.blt k 80 then cX9_exactly else cX9_made))))))) else (bif Nat.blt k 122 then (bif Nat.blt k 101 then (bif Nat.blt k 91 then (bif Nat.blt k 86 then (bif Nat.blt k 83 then (bif Nat.blt k 82 then cX9_either else cX9_match) else (bif Nat.blt k 84 then cX9_row else (bif Nat.blt k 85 then cX9_run else cX9_took))) else (bif Nat.blt k 88 then (bif Nat.blt k 87 then cX9_tree else cX9_missing) else (bif Nat.blt k 89 then cX9_part else (bif Nat.blt k 90 then cX9_plain else cX9_count)))) else (bif Nat.blt k 96 then (bif Nat.blt k 93 then (bif Nat.blt k 92 then cX9_check else cX9_give) else (bif Nat.blt k 94 then cX9_addMade else (bif Nat.blt k 95 then cX9_isMatch else cX9_isName))) else (bif Nat.blt k 98 then (bif Nat.blt k 97 then cX9_inBits else cX9_isGuard) else (bif Nat.blt k 99 then cX9_allRows else (bif Nat.blt k 100 then cX9_agrees else cX10_init))))) else (bif Nat.blt k 111 then (bif Nat.blt k 106 then (bif Nat.blt k 103 then (bif Nat.blt k 102 then cX10_isType else cX10_type) else (bif Nat.blt k 104 then cX10_maker else (bif Nat.blt k 105 then cX10_madeSize else cX10_findPlains))) else (bif Nat.blt k 108 then (bif Nat.blt k 107 then cX10_isMaker else cX10_countOf) else (bif Nat.blt k 109 then cX10_partType else (bif Nat.blt k 110 then cX10_addValue else cX10_number)))) else (bif Nat.blt k 116 then (bif Nat.blt k 113 then (bif Nat.blt k 112 then cX10_isValueOf else cX10_pick) else (bif Nat.blt k 114 then cX10_make else (bif Nat.blt k 115 then cX10_addPattern else cX10_isName))) else (bif Nat.blt k 119 then (bif Nat.blt k 117 then cX10_isPattern else (bif Nat.blt k 118 then cX10_hasName else cX10_any)) else (bif Nat.blt k 120 then cX10_also else (bif Nat.blt k 121 then cX10_exactly else cX10_made)))))) else (bif Nat.blt k 142 then (bif Nat.blt k 132 then (bif Nat.blt k 127 then (bif Nat.blt k 124 then (bif Nat.blt k 123 then cX10_either else cX10_match) else (bif Nat.blt k 125 then cX10_isMatch else (bif Nat.blt k 126 then cX10_patternOf else cX10_typeOfName))) else (bif Nat.blt k 129 then (bif Nat.blt k 128 then cX10_row else cX10_doesMatch) else (bif Nat.blt k 130 then cX10_takes else (bif Nat.blt k 131 then cX10_newPlace else cX10_pushRow)))) else (bif Nat.blt k 137 then (bif Nat.blt k 134 then (bif Nat.blt k 133 then cX10_cell else cX10_setCell) else (bif Nat.blt k 135 then cX10_copyRow else (bif Nat.blt k 136 then cX10_goThrough else cX10_countNode))) else (bif Nat.blt k 139 then (bif Nat.blt k 138 then cX10_firstOpen else cX10_isEither) else (bif Nat.blt k 140 then cX10_split else (bif Nat.blt k 141 then cX10_node else cX10_failure))))) else (bif Nat.blt k 152 then (bif Nat.blt k 147 then (bif Nat.blt k 144 then (bif Nat.blt k 143 then cX10_leaf else cX10_test) else (bif Nat.blt k 145 then cX10_leastOther else (bif Nat.blt k 146 then cX10_branch else cX10_put))) else (bif Nat.blt k 149 then (bif Nat.blt k 148 then cX10_tellPlain else cX10_tell) else (bif Nat.blt k 150 then cX10_look else (bif Nat.blt k 151 then cX10_forget else cX10_run)))) else (bif Nat.blt k 157 then (bif Nat.blt k 154 then (bif Nat.blt k 153 then cX10_took else cX10_tree) else (bif Nat.blt k 155 then cX10_missing else (bif Nat.blt k 156 then cX10_part else cX10_plain))) else (bif Nat.blt k 160 then (bif Nat.blt k 158 then cX10_sumOf else (bif Nat.blt k 159 then cX10_count else cX10_check)) else (bif Nat.blt k 161 then cJ7_fill_53178 else (bif Nat.blt k 162 then cJ7_copyOf_59c91 else cL_law))))))))
def xret : Nat → (Option FieldType) := fun k => (bif Nat.blt k 81 then (bif Nat.blt k 40 then (bif Nat.blt k 20 then (bif Nat.blt k 10 then (bif Nat.blt k 5 then (bif Nat.blt k 2 then (bif Nat.blt k 1 then none else (some .boolean)) else (bif Nat.blt k 3 then none else (bif Nat.blt k 4 then none else none))) else (bif Nat.blt k 7 then (bif Nat.blt k 6 then none else (some .int)) else (bif Nat.blt k 8 then none else (bif Nat.blt k 9 then none else (some .boolean))))) else (bif Nat.blt k 15 then (bif Nat.blt k 12 then (bif Nat.blt k 11 then none else (some .int)) else (bif Nat.blt k 13 then (some .int) else (bif Nat.blt k 14 then (some .int) else none))) else (bif Nat.blt k 17 then (bif Nat.blt k 16 then none else none) else (bif Nat.blt k 18 then none else (bif Nat.blt k 19 then none else (some .int)))))) else (bif Nat.blt k 30 then (bif Nat.blt k 25 then (bif Nat.blt k 22 then (bif Nat.blt k 21 then none else none) else (bif Nat.blt k 23 then (some .int) else (bif Nat.blt k 24 then none else (some .int)))) else (bif Nat.blt k 27 then (bif Nat.blt k 26 then (some .boolean) else (some .boolean)) else (bif Nat.blt k 28 then (some .boolean) else (bif Nat.blt k 29 then (some .boolean) else none)))) else (bif Nat.blt k 35 then (bif Nat.blt k 32 then (bif Nat.blt k 31 then (some .int) else (some .int)) else (bif Nat.blt k 33 then (some .boolean) else (bif Nat.blt k 34 then (some .boolean) else none))) else (bif Nat.blt k 37 then (bif Nat.blt k 36 then (some .int) else none) else (bif Nat.blt k 38 then (some .int) else (bif Nat.blt k 39 then none else (some .boolean))))))) else (bif Nat.blt k 60 then (bif Nat.blt k 50 then (bif Nat.blt k 45 then (bif Nat.blt k 42 then (bif Nat.blt k 41 then (some .boolean) else (some .boolean)) else (bif Nat.blt k 43 then (some .boolean) else (bif Nat.blt k 44 then (some .boolean) else (some .int)))) else (bif Nat.blt k 47 then (bif Nat.blt k 46 then (some .int) else none) else (bif Nat.blt k 48 then none else (bif Nat.blt k 49 then none else none)))) else (bif Nat.blt k 55 then (bif Nat.blt k 52 then (bif Nat.blt k 51 then none else (some .int)) else (bif Nat.blt k 53 then (some .int) else (bif Nat.blt k 54 then none else (some .boolean)))) else (bif Nat.blt k 57 then (bif Nat.blt k 56 then (some .boolean) else (some .int)) else (bif Nat.blt k 58 then (some .int) else (bif Nat.blt k 59 then (some .boolean) else (some .boolean)))))) else (bif Nat.blt k 70 then (bif Nat.blt k 65 then (bif Nat.blt k 62 then (bif Nat.blt k 61 then (some .int) else (some .int)) else (bif Nat.blt k 63 then none else (bif Nat.blt k 64 then none else (some .int)))) else (bif Nat.blt k 67 then (bif Nat.blt k 66 then none else none) else (bif Nat.blt k 68 then (some .int) else (bif Nat.blt k 69 then (some .int) else none)))) else (bif Nat.blt k 75 then (bif Nat.blt k 72 then (bif Nat.blt k 71 then (some .boolean) else none) else (bif Nat.blt k 73 then none else (bif Nat.blt k 74 then (some .int) else (some .int)))) else (bif Nat.blt k 78 then (bif Nat.blt k 76 then (some .int) else (bif Nat.blt k 77 then (some .int) else (some .int))) else (bif Nat.blt k 79 then (some .int) else (bif Nat.blt k 80 then (some .int) else (some .int)))))))) else (bif Nat.blt k 122 then (bif Nat.blt k 101 then (bif Nat.blt k 91 then (bif Nat.blt k 86 then (bif Nat.blt k 83 then (bif Nat.blt k 82 then (some .int) else (some .int)) else (bif Nat.blt k 84 then (some .int) else (bif Nat.blt k 85 then (some .int) else (some .int)))) else (bif Nat.blt k 88 then (bif Nat.blt k 87 then (some .int) else (some .int)) else (bif Nat.blt k 89 then (some .int) else (bif Nat.blt k 90 then (some .int) else (some .int))))) else (bif Nat.blt k 96 then (bif Nat.blt k 93 then (bif Nat.blt k 92 then (some .int) else none) else (bif Nat.blt k 94 then (some .int) else (bif Nat.blt k 95 then (some .boolean) else (some .boolean)))) else (bif Nat.blt k 98 then (bif Nat.blt k 97 then (some .boolean) else (some .boolean)) else (bif Nat.blt k 99 then (some .int) else (bif Nat.blt k 100 then (some .boolean) else none))))) else (bif Nat.blt k 111 then (bif Nat.blt k 106 then (bif Nat.blt k 103 then (bif Nat.blt k 102 then (some .boolean) else (some .int)) else (bif Nat.blt k 104 then (some .int) else (bif Nat.blt k 105 then (some .int) else none))) else (bif Nat.blt k 108 then (bif Nat.blt k 107 then (some .boolean) else (some .int)) else (bif Nat.blt k 109 then (some .int) else (bif Nat.blt k 110 then (some .int) else (some .int))))) else (bif Nat.blt k 116 then (bif Nat.blt k 113 then (bif Nat.blt k 112 then (some .boolean) else (some .int)) else (bif Nat.blt k 114 then (some .int) else (bif Nat.blt k 115 then (some .int) else (some .boolean)))) else (bif Nat.blt k 119 then (bif Nat.blt k 117 then (some .boolean) else (bif Nat.blt k 118 then (some .boolean) else (some .int))) else (bif Nat.blt k 120 then (some .int) else (bif Nat.blt k 121 then (some .int) else (some .int))))))) else (bif Nat.blt k 142 then (bif Nat.blt k 132 then (bif Nat.blt k 127 then (bif Nat.blt k 124 then (bif Nat.blt k 123 then (some .int) else (some .int)) else (bif Nat.blt k 125 then (some .boolean) else (bif Nat.blt k 126 then (some .int) else (some .int)))) else (bif Nat.blt k 129 then (bif Nat.blt k 128 then (some .int) else (some .boolean)) else (bif Nat.blt k 130 then (some .boolean) else (bif Nat.blt k 131 then (some .int) else (some .int))))) else (bif Nat.blt k 137 then (bif Nat.blt k 134 then (bif Nat.blt k 133 then (some .int) else none) else (bif Nat.blt k 135 then none else (bif Nat.blt k 136 then none else (some .boolean)))) else (bif Nat.blt k 139 then (bif Nat.blt k 138 then (some .int) else (some .boolean)) else (bif Nat.blt k 140 then none else (bif Nat.blt k 141 then none else none))))) else (bif Nat.blt k 152 then (bif Nat.blt k 147 then (bif Nat.blt k 144 then (bif Nat.blt k 143 then none else none) else (bif Nat.blt k 145 then (some .int) else (bif Nat.blt k 146 then none else none))) else (bif Nat.blt k 149 then (bif Nat.blt k 148 then none else none) else (bif Nat.blt k 150 then none else (bif Nat.blt k 151 then none else (some .int))))) else (bif Nat.blt k 157 then (bif Nat.blt k 154 then (bif Nat.blt k 153 then (some .int) else (some .int)) else (bif Nat.blt k 155 then (some .int) else (bif Nat.blt k 156 then (some .int) else (some .int)))) else (bif Nat.blt k 160 then (bif Nat.blt k 158 then (some .int) else (bif Nat.blt k 159 then (some .int) else (some .int))) else (bif Nat.blt k 161 then none else (bif Nat.blt k 162 then (some (.array .int)) else (some .boolean)))))))))
def xown : Nat → String := fun k => (bif Nat.blt k 81 then (bif Nat.blt k 40 then (bif Nat.blt k 20 then (bif Nat.blt k 10 then (bif Nat.blt k 5 then (bif Nat.blt k 2 then (bif Nat.blt k 1 then RX0 else RX0) else (bif Nat.blt k 3 then RX0 else (bif Nat.blt k 4 then RX0 else RX0))) else (bif Nat.blt k 7 then (bif Nat.blt k 6 then RX0 else RX0) else (bif Nat.blt k 8 then RX0 else (bif Nat.blt k 9 then RX0 else RX0)))) else (bif Nat.blt k 15 then (bif Nat.blt k 12 then (bif Nat.blt k 11 then RX0 else RX0) else (bif Nat.blt k 13 then RX0 else (bif Nat.blt k 14 then RX0 else RX0))) else (bif Nat.blt k 17 then (bif Nat.blt k 16 then RX0 else RX0) else (bif Nat.blt k 18 then RX0 else (bif Nat.blt k 19 then RX0 else RX0))))) else (bif Nat.blt k 30 then (bif Nat.blt k 25 then (bif Nat.blt k 22 then (bif Nat.blt k 21 then RX0 else RX1) else (bif Nat.blt k 23 then RX1 else (bif Nat.blt k 24 then RX2 else RX2))) else (bif Nat.blt k 27 then (bif Nat.blt k 26 then RX2 else RX2) else (bif Nat.blt k 28 then RX2 else (bif Nat.blt k 29 then RX2 else RX3)))) else (bif Nat.blt k 35 then (bif Nat.blt k 32 then (bif Nat.blt k 31 then RX3 else RX3) else (bif Nat.blt k 33 then RX3 else (bif Nat.blt k 34 then RX3 else RX4))) else (bif Nat.blt k 37 then (bif Nat.blt k 36 then RX4 else RX4) else (bif Nat.blt k 38 then RX4 else (bif Nat.blt k 39 then RX5 else RX5)))))) else (bif Nat.blt k 60 then (bif Nat.blt k 50 then (bif Nat.blt k 45 then (bif Nat.blt k 42 then (bif Nat.blt k 41 then RX5 else RX5) else (bif Nat.blt k 43 then RX5 else (bif Nat.blt k 44 then RX5 else RX5))) else (bif Nat.blt k 47 then (bif Nat.blt k 46 then RX5 else RX5) else (bif Nat.blt k 48 then RX6 else (bif Nat.blt k 49 then RX6 else RX6)))) else (bif Nat.blt k 55 then (bif Nat.blt k 52 then (bif Nat.blt k 51 then RX6 else RX6) else (bif Nat.blt k 53 then RX6 else (bif Nat.blt k 54 then RX7 else RX7))) else (bif Nat.blt k 57 then (bif Nat.blt k 56 then RX7 else RX7) else (bif Nat.blt k 58 then RX7 else (bif Nat.blt k 59 then RX7 else RX7))))) else (bif Nat.blt k 70 then (bif Nat.blt k 65 then (bif Nat.blt k 62 then (bif Nat.blt k 61 then RX7 else RX7) else (bif Nat.blt k 63 then RX7 else (bif Nat.blt k 64 then RX7 else RX7))) else (bif Nat.blt k 67 then (bif Nat.blt k 66 then RX8 else RX8) else (bif Nat.blt k 68 then RX8 else (bif Nat.blt k 69 then RX8 else RX8)))) else (bif Nat.blt k 75 then (bif Nat.blt k 72 then (bif Nat.blt k 71 then RX8 else RX8) else (bif Nat.blt k 73 then RX9 else (bif Nat.blt k 74 then RX9 else RX9))) else (bif Nat.blt k 78 then (bif Nat.blt k 76 then RX9 else (bif Nat.blt k 77 then RX9 else RX9)) else (bif Nat.blt k 79 then RX9 else (bif Nat.blt k 80 then RX9 else RX9))))))) else (bif Nat.blt k 122 then (bif Nat.blt k 101 then (bif Nat.blt k 91 then (bif Nat.blt k 86 then (bif Nat.blt k 83 then (bif Nat.blt k 82 then RX9 else RX9) else (bif Nat.blt k 84 then RX9 else (bif Nat.blt k 85 then RX9 else RX9))) else (bif Nat.blt k 88 then (bif Nat.blt k 87 then RX9 else RX9) else (bif Nat.blt k 89 then RX9 else (bif Nat.blt k 90 then RX9 else RX9)))) else (bif Nat.blt k 96 then (bif Nat.blt k 93 then (bif Nat.blt k 92 then RX9 else RX9) else (bif Nat.blt k 94 then RX9 else (bif Nat.blt k 95 then RX9 else RX9))) else (bif Nat.blt k 98 then (bif Nat.blt k 97 then RX9 else RX9) else (bif Nat.blt k 99 then RX9 else (bif Nat.blt k 100 then RX9 else RX10))))) else (bif Nat.blt k 111 then (bif Nat.blt k 106 then (bif Nat.blt k 103 then (bif Nat.blt k 102 then RX10 else RX10) else (bif Nat.blt k 104 then RX10 else (bif Nat.blt k 105 then RX10 else RX10))) else (bif Nat.blt k 108 then (bif Nat.blt k 107 then RX10 else RX10) else (bif Nat.blt k 109 then RX10 else (bif Nat.blt k 110 then RX10 else RX10)))) else (bif Nat.blt k 116 then (bif Nat.blt k 113 then (bif Nat.blt k 112 then RX10 else RX10) else (bif Nat.blt k 114 then RX10 else (bif Nat.blt k 115 then RX10 else RX10))) else (bif Nat.blt k 119 then (bif Nat.blt k 117 then RX10 else (bif Nat.blt k 118 then RX10 else RX10)) else (bif Nat.blt k 120 then RX10 else (bif Nat.blt k 121 then RX10 else RX10)))))) else (bif Nat.blt k 142 then (bif Nat.blt k 132 then (bif Nat.blt k 127 then (bif Nat.blt k 124 then (bif Nat.blt k 123 then RX10 else RX10) else (bif Nat.blt k 125 then RX10 else (bif Nat.blt k 126 then RX10 else RX10))) else (bif Nat.blt k 129 then (bif Nat.blt k 128 then RX10 else RX10) else (bif Nat.blt k 130 then RX10 else (bif Nat.blt k 131 then RX10 else RX10)))) else (bif Nat.blt k 137 then (bif Nat.blt k 134 then (bif Nat.blt k 133 then RX10 else RX10) else (bif Nat.blt k 135 then RX10 else (bif Nat.blt k 136 then RX10 else RX10))) else (bif Nat.blt k 139 then (bif Nat.blt k 138 then RX10 else RX10) else (bif Nat.blt k 140 then RX10 else (bif Nat.blt k 141 then RX10 else RX10))))) else (bif Nat.blt k 152 then (bif Nat.blt k 147 then (bif Nat.blt k 144 then (bif Nat.blt k 143 then RX10 else RX10) else (bif Nat.blt k 145 then RX10 else (bif Nat.blt k 146 then RX10 else RX10))) else (bif Nat.blt k 149 then (bif Nat.blt k 148 then RX10 else RX10) else (bif Nat.blt k 150 then RX10 else (bif Nat.blt k 151 then RX10 else RX10)))) else (bif Nat.blt k 157 then (bif Nat.blt k 154 then (bif Nat.blt k 153 then RX10 else RX10) else (bif Nat.blt k 155 then RX10 else (bif Nat.blt k 156 then RX10 else RX10))) else (bif Nat.blt k 160 then (bif Nat.blt k 158 then RX10 else (bif Nat.blt k 159 then RX10 else RX10)) else (bif Nat.blt k 161 then RJ7 else (bif Nat.blt k 162 then RJ7 else RL))))))))
def xmt : xMt := fun k => (bif Nat.blt k 81 then (bif Nat.blt k 40 then (bif Nat.blt k 20 then (bif Nat.blt k 10 then (bif Nat.blt k 5 then (bif Nat.blt k 2 then (bif Nat.blt k 1 then (3, 0, 30, 3) else (2, 2, 0, 5)) else (bif Nat.blt k 3 then (2, 0, 0, 5) else (bif Nat.blt k 4 then (3, 0, 0, 3) else (3, 0, 0, 4)))) else (bif Nat.blt k 7 then (bif Nat.blt k 6 then (2, 0, 0, 2) else (1, 1, 0, 1)) else (bif Nat.blt k 8 then (1, 0, 0, 3) else (bif Nat.blt k 9 then (2, 0, 0, 4) else (3, 2, 0, 4))))) else (bif Nat.blt k 15 then (bif Nat.blt k 12 then (bif Nat.blt k 11 then (3, 0, 0, 6) else (3, 1, 0, 5)) else (bif Nat.blt k 13 then (4, 1, 0, 9) else (bif Nat.blt k 14 then (3, 1, 0, 5) else (2, 0, 0, 6)))) else (bif Nat.blt k 17 then (bif Nat.blt k 16 then (3, 0, 0, 6) else (3, 0, 0, 8)) else (bif Nat.blt k 18 then (2, 0, 0, 4) else (bif Nat.blt k 19 then (2, 0, 0, 4) else (1, 1, 0, 3)))))) else (bif Nat.blt k 30 then (bif Nat.blt k 25 then (bif Nat.blt k 22 then (bif Nat.blt k 21 then (5, 0, 0, 10) else (1, 0, 31, 1)) else (bif Nat.blt k 23 then (4, 1, 1, 4) else (bif Nat.blt k 24 then (3, 0, 32, 3) else (3, 1, 2, 4)))) else (bif Nat.blt k 27 then (bif Nat.blt k 26 then (4, 2, 2, 5) else (3, 2, 2, 5)) else (bif Nat.blt k 28 then (4, 2, 2, 4) else (bif Nat.blt k 29 then (4, 2, 2, 6) else (3, 0, 33, 4))))) else (bif Nat.blt k 35 then (bif Nat.blt k 32 then (bif Nat.blt k 31 then (4, 1, 3, 5) else (3, 1, 3, 3)) else (bif Nat.blt k 33 then (2, 2, 3, 2) else (bif Nat.blt k 34 then (1, 2, 3, 2) else (2, 0, 34, 2)))) else (bif Nat.blt k 37 then (bif Nat.blt k 36 then (2, 1, 4, 4) else (2, 0, 4, 5)) else (bif Nat.blt k 38 then (2, 1, 4, 10) else (bif Nat.blt k 39 then (2, 0, 35, 2) else (2, 2, 5, 2))))))) else (bif Nat.blt k 60 then (bif Nat.blt k 50 then (bif Nat.blt k 45 then (bif Nat.blt k 42 then (bif Nat.blt k 41 then (3, 2, 5, 3) else (4, 2, 5, 5)) else (bif Nat.blt k 43 then (3, 2, 5, 3) else (bif Nat.blt k 44 then (3, 2, 5, 5) else (3, 1, 5, 3)))) else (bif Nat.blt k 47 then (bif Nat.blt k 46 then (6, 1, 5, 9) else (3, 0, 5, 3)) else (bif Nat.blt k 48 then (1, 0, 36, 1) else (bif Nat.blt k 49 then (1, 0, 6, 1) else (3, 0, 6, 3))))) else (bif Nat.blt k 55 then (bif Nat.blt k 52 then (bif Nat.blt k 51 then (2, 0, 6, 2) else (3, 1, 6, 5)) else (bif Nat.blt k 53 then (3, 1, 6, 3) else (bif Nat.blt k 54 then (1, 0, 37, 1) else (2, 2, 7, 2)))) else (bif Nat.blt k 57 then (bif Nat.blt k 56 then (3, 2, 7, 3) else (3, 1, 7, 3)) else (bif Nat.blt k 58 then (4, 1, 7, 4) else (bif Nat.blt k 59 then (3, 2, 7, 4) else (1, 2, 7, 2)))))) else (bif Nat.blt k 70 then (bif Nat.blt k 65 then (bif Nat.blt k 62 then (bif Nat.blt k 61 then (1, 1, 7, 1) else (4, 1, 7, 6)) else (bif Nat.blt k 63 then (1, 0, 7, 3) else (bif Nat.blt k 64 then (2, 0, 7, 5) else (3, 1, 7, 6)))) else (bif Nat.blt k 67 then (bif Nat.blt k 66 then (2, 0, 38, 2) else (1, 0, 8, 1)) else (bif Nat.blt k 68 then (3, 1, 8, 6) else (bif Nat.blt k 69 then (3, 1, 8, 6) else (3, 0, 8, 4))))) else (bif Nat.blt k 75 then (bif Nat.blt k 72 then (bif Nat.blt k 71 then (3, 2, 8, 6) else (3, 0, 8, 5)) else (bif Nat.blt k 73 then (1, 0, 39, 4) else (bif Nat.blt k 74 then (1, 1, 9, 1) else (6, 1, 9, 6)))) else (bif Nat.blt k 78 then (bif Nat.blt k 76 then (2, 1, 9, 2) else (bif Nat.blt k 77 then (6, 1, 9, 6) else (3, 1, 9, 3))) else (bif Nat.blt k 79 then (3, 1, 9, 3) else (bif Nat.blt k 80 then (2, 1, 9, 2) else (6, 1, 9, 6)))))))) else (bif Nat.blt k 122 then (bif Nat.blt k 101 then (bif Nat.blt k 91 then (bif Nat.blt k 86 then (bif Nat.blt k 83 then (bif Nat.blt k 82 then (3, 1, 9, 3) else (5, 1, 9, 5)) else (bif Nat.blt k 84 then (7, 1, 9, 8) else (bif Nat.blt k 85 then (5, 1, 9, 5) else (2, 1, 9, 2)))) else (bif Nat.blt k 88 then (bif Nat.blt k 87 then (3, 1, 9, 4) else (2, 1, 9, 2)) else (bif Nat.blt k 89 then (2, 1, 9, 2) else (bif Nat.blt k 90 then (2, 1, 9, 2) else (2, 1, 9, 2))))) else (bif Nat.blt k 96 then (bif Nat.blt k 93 then (bif Nat.blt k 92 then (1, 1, 9, 3) else (4, 0, 9, 4)) else (bif Nat.blt k 94 then (4, 1, 9, 6) else (bif Nat.blt k 95 then (2, 2, 9, 2) else (1, 2, 1000, 1)))) else (bif Nat.blt k 98 then (bif Nat.blt k 97 then (2, 2, 1000, 2) else (4, 2, 9, 6)) else (bif Nat.blt k 99 then (1, 1, 9, 3) else (bif Nat.blt k 100 then (2, 2, 9, 4) else (1, 0, 40, 2)))))) else (bif Nat.blt k 111 then (bif Nat.blt k 106 then (bif Nat.blt k 103 then (bif Nat.blt k 102 then (2, 2, 10, 2) else (1, 1, 10, 1)) else (bif Nat.blt k 104 then (6, 1, 10, 7) else (bif Nat.blt k 105 then (3, 1, 10, 6) else (1, 0, 10, 5)))) else (bif Nat.blt k 108 then (bif Nat.blt k 107 then (3, 2, 10, 3) else (3, 1, 10, 3)) else (bif Nat.blt k 109 then (4, 1, 10, 4) else (bif Nat.blt k 110 then (4, 1, 10, 4) else (2, 1, 10, 2))))) else (bif Nat.blt k 116 then (bif Nat.blt k 113 then (bif Nat.blt k 112 then (3, 2, 10, 3) else (4, 1, 1000, 4)) else (bif Nat.blt k 114 then (6, 1, 10, 9) else (bif Nat.blt k 115 then (7, 1, 10, 7) else (1, 2, 1000, 1)))) else (bif Nat.blt k 119 then (bif Nat.blt k 117 then (2, 2, 10, 2) else (bif Nat.blt k 118 then (3, 2, 10, 3) else (3, 1, 10, 3))) else (bif Nat.blt k 120 then (3, 1, 10, 3) else (bif Nat.blt k 121 then (2, 1, 10, 2) else (6, 1, 10, 11))))))) else (bif Nat.blt k 142 then (bif Nat.blt k 132 then (bif Nat.blt k 127 then (bif Nat.blt k 124 then (bif Nat.blt k 123 then (3, 1, 10, 3) else (5, 1, 10, 6)) else (bif Nat.blt k 125 then (2, 2, 10, 2) else (bif Nat.blt k 126 then (4, 1, 10, 4) else (3, 1, 10, 6)))) else (bif Nat.blt k 129 then (bif Nat.blt k 128 then (7, 1, 10, 13) else (3, 2, 10, 6)) else (bif Nat.blt k 130 then (6, 2, 10, 7) else (bif Nat.blt k 131 then (3, 1, 10, 3) else (3, 1, 10, 3))))) else (bif Nat.blt k 137 then (bif Nat.blt k 134 then (bif Nat.blt k 133 then (3, 1, 10, 3) else (5, 0, 10, 6)) else (bif Nat.blt k 135 then (4, 0, 10, 5) else (bif Nat.blt k 136 then (6, 0, 10, 9) else (2, 2, 10, 2)))) else (bif Nat.blt k 139 then (bif Nat.blt k 138 then (3, 1, 10, 4) else (3, 2, 10, 3)) else (bif Nat.blt k 140 then (6, 0, 10, 8) else (bif Nat.blt k 141 then (4, 0, 10, 7) else (1, 0, 10, 2)))))) else (bif Nat.blt k 152 then (bif Nat.blt k 147 then (bif Nat.blt k 144 then (bif Nat.blt k 143 then (4, 0, 10, 9) else (5, 0, 10, 17)) else (bif Nat.blt k 145 then (4, 1, 10, 7) else (bif Nat.blt k 146 then (8, 0, 10, 17) else (2, 0, 10, 2)))) else (bif Nat.blt k 149 then (bif Nat.blt k 148 then (2, 0, 10, 4) else (2, 0, 10, 5)) else (bif Nat.blt k 150 then (2, 0, 10, 3) else (bif Nat.blt k 151 then (1, 0, 10, 2) else (5, 1, 10, 8))))) else (bif Nat.blt k 157 then (bif Nat.blt k 154 then (bif Nat.blt k 153 then (2, 1, 10, 2) else (3, 1, 10, 3)) else (bif Nat.blt k 155 then (2, 1, 10, 3) else (bif Nat.blt k 156 then (2, 1, 10, 2) else (2, 1, 10, 2)))) else (bif Nat.blt k 160 then (bif Nat.blt k 158 then (2, 1, 1000, 4) else (bif Nat.blt k 159 then (2, 1, 10, 2) else (1, 1, 10, 1))) else (bif Nat.blt k 161 then (2, 0, 1000, 4) else (bif Nat.blt k 162 then (2, 3, 1000, 3) else (1, 2, 1000, 4)))))))))
def xlaw : Nat := 162
def xall : Nat := 163
end
section
/-! ===== laid by gen.py: the stretches of every method ===== -/
def tr_0_0 : List xI := [(0, .aload_n 0, 0, 0), (1, .invokespecial 3, 1000, 0), (4, .aload_n 0, 0, 0), (5, .new 9, 31, 0), (8, .dup, 0, 0), (9, .invokespecial 11, 21, 0), (12, .putfield 12, 30, 2), (15, .aload_n 0, 0, 0), (16, .new 9, 31, 0), (19, .dup, 0, 0), (20, .invokespecial 11, 21, 0), (23, .putfield 18, 30, 3), (26, .aload_n 0, 0, 0), (27, .bipush 120, 0, 0), (29, .newarray .int, 1, 0), (31, .putfield 23, 30, 4), (34, .aload_n 0, 0, 0), (35, .iconst 0, 0, 0), (36, .putfield 27, 30, 5), (39, .aload_n 0, 0, 0), (40, .sipush 2880, 0, 0), (43, .newarray .int, 1, 0), (45, .putfield 31, 30, 6), (48, .aload_n 0, 0, 0), (49, .bipush 120, 0, 0), (51, .newarray .int, 1, 0), (53, .putfield 34, 30, 7), (56, .aload_n 0, 0, 0), (57, .bipush 24, 0, 0), (59, .newarray .int, 1, 0), (61, .putfield 37, 30, 8), (64, .aload_n 0, 0, 0), (65, .iconst 0, 0, 0), (66, .putfield 40, 30, 9), (69, .aload_n 0, 0, 0), (70, .bipush 24, 0, 0), (72, .newarray .int, 1, 0), (74, .putfield 43, 30, 10), (77, .aload_n 0, 0, 0), (78, .iconst 0, 0, 0), (79, .putfield 46, 30, 11), (82, .aload_n 0, 0, 0), (83, .iconst 3, 0, 0), (84, .newarray .int, 1, 0), (86, .putfield 49, 30, 12), (89, .aload_n 0, 0, 0), (90, .iconst 0, 0, 0), (91, .putfield 52, 30, 13), (94, .aload_n 0, 0, 0), (95, .bipush 120, 0, 0), (97, .newarray .int, 1, 0), (99, .putfield 55, 30, 14), (102, .aload_n 0, 0, 0), (103, .iconst (-1), 0, 0), (104, .putfield 58, 30, 15), (107, .aload_n 0, 0, 0), (108, .aconst_null, 0, 0), (109, .putfield 61, 30, 16), (112, .aload_n 0, 0, 0), (113, .aconst_null, 0, 0), (114, .putfield 65, 30, 17), (117, .aload_n 0, 0, 0), (118, .aload_n 1, 0, 0), (119, .putfield 69, 30, 0), (122, .aload_n 0, 0, 0), (123, .aload_n 2, 0, 0), (124, .putfield 73, 30, 1), (127, .nop, 2, 0), (127, .return_, 0, 0)]
def tl_0 : List (Nat × List xI) := [(0, tr_0_0)]
def tr_1_0 : List xI := [(0, .aload_n 1, 0, 0), (1, .getfield 77, 3, 7), (4, .ifCond .ne 19, 0, 8), (7, .aload_n 1, 0, 0), (8, .getfield 83, 3, 6), (11, .getfield 84, 6, 0), (14, .ifCond .ne 7, 0, 2), (17, .iconst 1, 0, 0), (18, .goto 4, 0, 1), (21, .iconst 0, 0, 0), (22, .ireturn, 2, 0), (23, .aload_n 0, 0, 0), (24, .aload_n 1, 0, 0), (25, .invokevirtual 87, 2, 0), (28, .iconst 0, 0, 0), (29, .istore_n 2, 0, 0), (30, .nop, 1, 0)]
def tr_1_30 : List xI := [(30, .iload_n 2, 0, 0), (31, .bipush 120, 0, 0), (33, .if_icmp .ge 88, 1, 121), (36, .aload_n 0, 0, 0), (37, .getfield 27, 0, 5), (40, .ifCond .le 81, 1, 121), (43, .aload_n 0, 0, 0), (44, .getfield 65, 0, 17), (47, .getfield 84, 6, 0), (50, .ifCond .ne 71, 1, 121), (53, .aload_n 0, 0, 0), (54, .dup, 0, 0), (55, .getfield 27, 0, 5), (58, .iconst 1, 0, 0), (59, .isub, 0, 0), (60, .putfield 27, 0, 5), (63, .aload_n 0, 0, 0), (64, .getfield 23, 0, 4), (67, .aload_n 0, 0, 0), (68, .getfield 27, 0, 5), (71, .iaload, 0, 0), (72, .istore_n 3, 0, 0), (73, .aload_n 0, 0, 0), (74, .iload_n 3, 0, 0), (75, .invokevirtual 91, 5, 0), (78, .aload_n 0, 0, 0), (79, .invokevirtual 95, 7, 0), (82, .aload_n 0, 0, 0), (83, .invokevirtual 98, 6, 0), (86, .istore 4, 0, 0), (88, .aload_n 0, 0, 0), (89, .iload 4, 0, 0), (91, .invokevirtual 102, 8, 0), (94, .iload 4, 0, 0), (96, .iconst (-1), 0, 0), (97, .if_icmp .ne 11, 0, 4), (100, .aload_n 0, 0, 0), (101, .iload_n 3, 0, 0), (102, .invokevirtual 105, 14, 0), (105, .goto 10, 0, 4), (108, .aload_n 0, 0, 0), (109, .iload_n 3, 0, 0), (110, .iload 4, 0, 0), (112, .invokevirtual 108, 16, 0), (115, .iinc 2 1, 0, 0), (118, .goto (-88), 1, 30)]
def tr_1_121 : List xI := [(121, .aload_n 1, 0, 0), (122, .iconst 0, 0, 0), (123, .putfield 77, 3, 7), (126, .aload_n 0, 0, 0), (127, .getfield 65, 0, 17), (130, .getfield 84, 6, 0), (133, .ifCond .ne 7, 0, 2), (136, .iconst 1, 0, 0), (137, .goto 4, 0, 1), (140, .iconst 0, 0, 0), (141, .ireturn, 2, 0)]
def tl_1 : List (Nat × List xI) := [(0, tr_1_0), (30, tr_1_30), (121, tr_1_121)]
def tr_2_0 : List xI := [(0, .aload_n 0, 0, 0), (1, .aload_n 1, 0, 0), (2, .putfield 61, 0, 16), (5, .aload_n 0, 0, 0), (6, .aload_n 1, 0, 0), (7, .getfield 83, 3, 6), (10, .putfield 65, 0, 17), (13, .aload_n 0, 0, 0), (14, .getfield 65, 0, 17), (17, .invokevirtual 112, 48, 0), (20, .aload_n 0, 0, 0), (21, .getfield 12, 0, 2), (24, .iconst 0, 0, 0), (25, .putfield 115, 1, 0), (28, .aload_n 0, 0, 0), (29, .getfield 18, 0, 3), (32, .iconst 0, 0, 0), (33, .putfield 115, 1, 0), (36, .aload_n 0, 0, 0), (37, .iconst 0, 0, 0), (38, .putfield 27, 0, 5), (41, .iconst 0, 0, 0), (42, .istore_n 2, 0, 0), (43, .nop, 1, 0)]
def tr_2_43 : List xI := [(43, .iload_n 2, 0, 0), (44, .aload_n 0, 0, 0), (45, .getfield 61, 0, 16), (48, .getfield 118, 3, 0), (51, .if_icmp .ge 25, 0, 10), (54, .aload_n 0, 0, 0), (55, .getfield 65, 0, 17), (58, .aload_n 0, 0, 0), (59, .getfield 61, 0, 16), (62, .getfield 121, 3, 1), (65, .iload_n 2, 0, 0), (66, .iaload, 0, 0), (67, .invokevirtual 123, 50, 0), (70, .iinc 2 1, 0, 0), (73, .goto (-30), 1, 43), (76, .aload_n 0, 0, 0), (77, .getfield 65, 0, 17), (80, .iconst (-1), 0, 0), (81, .iconst 1, 0, 0), (82, .invokevirtual 126, 51, 0), (85, .istore_n 2, 0, 0), (86, .aload_n 0, 0, 0), (87, .getfield 34, 0, 7), (90, .iload_n 2, 0, 0), (91, .iconst 0, 0, 0), (92, .iastore, 0, 0), (93, .iconst 0, 0, 0), (94, .istore_n 3, 0, 0), (95, .nop, 1, 0)]
def tr_2_95 : List xI := [(95, .iload_n 3, 0, 0), (96, .aload_n 0, 0, 0), (97, .getfield 61, 0, 16), (100, .getfield 130, 3, 2), (103, .if_icmp .ge 79, 0, 8), (106, .aload_n 0, 0, 0), (107, .aload_n 0, 0, 0), (108, .getfield 61, 0, 16), (111, .getfield 118, 3, 0), (114, .putfield 52, 0, 13), (117, .iconst 0, 0, 0), (118, .istore 4, 0, 0), (120, .nop, 1, 0), (182, .aload_n 0, 0, 0), (183, .iload_n 2, 0, 0), (184, .iconst 1, 0, 0), (185, .invokevirtual 145, 4, 0), (188, .return_, 0, 0)]
def tr_2_120 : List xI := [(120, .iload 4, 0, 0), (122, .aload_n 0, 0, 0), (123, .getfield 61, 0, 16), (126, .getfield 118, 3, 0), (129, .if_icmp .ge 26, 0, 11), (132, .aload_n 0, 0, 0), (133, .getfield 49, 0, 12), (136, .iload 4, 0, 0), (138, .aload_n 0, 0, 0), (139, .getfield 61, 0, 16), (142, .iload_n 3, 0, 0), (143, .iload 4, 0, 0), (145, .invokevirtual 132, 31, 0), (148, .iastore, 0, 0), (149, .iinc 4 1, 0, 0), (152, .goto (-32), 1, 120), (155, .aload_n 0, 0, 0), (156, .iload_n 2, 0, 0), (157, .aload_n 0, 0, 0), (158, .aload_n 0, 0, 0), (159, .getfield 12, 0, 2), (162, .iload_n 3, 0, 0), (163, .iconst (-1), 0, 0), (164, .iconst (-1), 0, 0), (165, .invokevirtual 135, 22, 0), (168, .iconst (-1), 0, 0), (169, .iconst 0, 0, 0), (170, .invokevirtual 139, 12, 0), (173, .invokevirtual 142, 3, 0), (176, .iinc 3 1, 0, 0), (179, .goto (-84), 1, 95)]
def tl_2 : List (Nat × List xI) := [(0, tr_2_0), (43, tr_2_43), (95, tr_2_95), (120, tr_2_120)]
def tr_3_0 : List xI := [(0, .aload_n 0, 0, 0), (1, .getfield 31, 0, 6), (4, .iload_n 1, 0, 0), (5, .bipush 24, 0, 0), (7, .imul, 0, 0), (8, .aload_n 0, 0, 0), (9, .getfield 34, 0, 7), (12, .iload_n 1, 0, 0), (13, .iaload, 0, 0), (14, .iadd, 0, 0), (15, .iload_n 2, 0, 0), (16, .iastore, 0, 0), (17, .aload_n 0, 0, 0), (18, .getfield 34, 0, 7), (21, .iload_n 1, 0, 0), (22, .dup2, 0, 0), (23, .iaload, 0, 0), (24, .iconst 1, 0, 0), (25, .iadd, 0, 0), (26, .iastore, 0, 0), (27, .return_, 0, 0)]
def tl_3 : List (Nat × List xI) := [(0, tr_3_0)]
def tr_4_0 : List xI := [(0, .iload_n 2, 0, 0), (1, .iconst 1, 0, 0), (2, .isub, 0, 0), (3, .istore_n 3, 0, 0), (4, .nop, 1, 0)]
def tr_4_4 : List xI := [(4, .iload_n 3, 0, 0), (5, .ifCond .lt 31, 0, 16), (8, .aload_n 0, 0, 0), (9, .getfield 23, 0, 4), (12, .aload_n 0, 0, 0), (13, .getfield 27, 0, 5), (16, .iload_n 1, 0, 0), (17, .iload_n 3, 0, 0), (18, .iadd, 0, 0), (19, .iastore, 0, 0), (20, .aload_n 0, 0, 0), (21, .dup, 0, 0), (22, .getfield 27, 0, 5), (25, .iconst 1, 0, 0), (26, .iadd, 0, 0), (27, .putfield 27, 0, 5), (30, .iinc 3 (-1), 0, 0), (33, .goto (-29), 1, 4), (36, .return_, 0, 0)]
def tl_4 : List (Nat × List xI) := [(0, tr_4_0), (4, tr_4_4)]
def tr_5_0 : List xI := [(0, .aload_n 0, 0, 0), (1, .aload_n 0, 0, 0), (2, .getfield 34, 0, 7), (5, .iload_n 1, 0, 0), (6, .iaload, 0, 0), (7, .putfield 40, 0, 9), (10, .aload_n 0, 0, 0), (11, .getfield 31, 0, 6), (14, .iload_n 1, 0, 0), (15, .bipush 24, 0, 0), (17, .imul, 0, 0), (18, .aload_n 0, 0, 0), (19, .getfield 37, 0, 8), (22, .iconst 0, 0, 0), (23, .aload_n 0, 0, 0), (24, .getfield 40, 0, 9), (27, .invokestatic 148, 1001, 0), (30, .return_, 0, 0)]
def tl_5 : List (Nat × List xI) := [(0, tr_5_0)]
def tr_6_0 : List xI := [(0, .aload_n 0, 0, 0), (1, .getfield 40, 0, 9), (4, .ifCond .eq 21, 0, 10), (7, .aload_n 0, 0, 0), (8, .getfield 12, 0, 2), (11, .getfield 154, 1, 2), (14, .aload_n 0, 0, 0), (15, .getfield 37, 0, 8), (18, .iconst 0, 0, 0), (19, .iaload, 0, 0), (20, .iaload, 0, 0), (21, .iconst (-1), 0, 0), (22, .if_icmp .ne 5, 0, 2), (25, .iconst (-1), 0, 0), (26, .ireturn, 1, 0), (27, .aload_n 0, 0, 0), (28, .getfield 18, 0, 3), (31, .getfield 157, 1, 1), (34, .aload_n 0, 0, 0), (35, .getfield 12, 0, 2), (38, .getfield 154, 1, 2), (41, .aload_n 0, 0, 0), (42, .getfield 37, 0, 8), (45, .iconst 0, 0, 0), (46, .iaload, 0, 0), (47, .iaload, 0, 0), (48, .iaload, 0, 0), (49, .ireturn, 1, 0)]
def tl_6 : List (Nat × List xI) := [(0, tr_6_0)]
def tr_7_0 : List xI := [(0, .aload_n 0, 0, 0), (1, .invokevirtual 98, 6, 0), (4, .istore_n 1, 0, 0), (5, .iconst 0, 0, 0), (6, .istore_n 2, 0, 0), (7, .nop, 1, 0)]
def tr_7_7 : List xI := [(7, .iload_n 2, 0, 0), (8, .bipush 24, 0, 0), (10, .if_icmp .ge 39, 0, 18), (13, .aload_n 0, 0, 0), (14, .iconst 0, 0, 0), (15, .iload_n 1, 0, 0), (16, .invokevirtual 160, 9, 0), (19, .ifCond .eq 30, 0, 13), (22, .aload_n 0, 0, 0), (23, .getfield 65, 0, 17), (26, .getfield 84, 6, 0), (29, .ifCond .ne 20, 0, 9), (32, .aload_n 0, 0, 0), (33, .iconst 0, 0, 0), (34, .iload_n 1, 0, 0), (35, .invokevirtual 164, 10, 0), (38, .aload_n 0, 0, 0), (39, .invokevirtual 98, 6, 0), (42, .istore_n 1, 0, 0), (43, .iinc 2 1, 0, 0), (46, .goto (-39), 1, 7), (49, .return_, 0, 0)]
def tl_7 : List (Nat × List xI) := [(0, tr_7_0), (7, tr_7_7)]
def tr_8_0 : List xI := [(0, .iconst 0, 0, 0), (1, .istore_n 2, 0, 0), (2, .nop, 1, 0)]
def tr_8_2 : List xI := [(2, .iload_n 2, 0, 0), (3, .aload_n 0, 0, 0), (4, .getfield 40, 0, 9), (7, .if_icmp .ge 48, 0, 3), (10, .iconst 0, 0, 0), (11, .istore_n 3, 0, 0), (12, .nop, 1, 0), (55, .return_, 0, 0)]
def tr_8_12 : List xI := [(12, .iload_n 3, 0, 0), (13, .bipush 24, 0, 0), (15, .if_icmp .ge 34, 0, 15), (18, .aload_n 0, 0, 0), (19, .iload_n 2, 0, 0), (20, .iload_n 1, 0, 0), (21, .invokevirtual 160, 9, 0), (24, .ifCond .eq 25, 0, 10), (27, .aload_n 0, 0, 0), (28, .getfield 65, 0, 17), (31, .getfield 84, 6, 0), (34, .ifCond .ne 15, 0, 6), (37, .aload_n 0, 0, 0), (38, .iload_n 2, 0, 0), (39, .iload_n 1, 0, 0), (40, .invokevirtual 164, 10, 0), (43, .iinc 3 1, 0, 0), (46, .goto (-34), 1, 12), (49, .iinc 2 1, 0, 0), (52, .goto (-50), 1, 2)]
def tl_8 : List (Nat × List xI) := [(0, tr_8_0), (2, tr_8_2), (12, tr_8_12)]
def tr_9_0 : List xI := [(0, .iload_n 1, 0, 0), (1, .aload_n 0, 0, 0), (2, .getfield 40, 0, 9), (5, .if_icmp .ge 17, 0, 8), (8, .aload_n 0, 0, 0), (9, .aload_n 0, 0, 0), (10, .getfield 37, 0, 8), (13, .iload_n 1, 0, 0), (14, .iaload, 0, 0), (15, .iload_n 2, 0, 0), (16, .invokevirtual 167, 11, 0), (19, .goto 4, 1, 23), (22, .iconst (-1), 0, 0), (23, .nop, 1, 0)]
def tr_9_23 : List xI := [(23, .istore_n 3, 0, 0), (24, .iload_n 3, 0, 0), (25, .iconst (-1), 0, 0), (26, .if_icmp .eq 20, 0, 9), (29, .aload_n 0, 0, 0), (30, .getfield 73, 0, 1), (33, .getfield 170, 5, 2), (36, .iload_n 3, 0, 0), (37, .iaload, 0, 0), (38, .iconst 5, 0, 0), (39, .if_icmp .ne 7, 0, 2), (42, .iconst 1, 0, 0), (43, .goto 4, 0, 1), (46, .iconst 0, 0, 0), (47, .ireturn, 2, 0)]
def tl_9 : List (Nat × List xI) := [(0, tr_9_0), (23, tr_9_23)]
def tr_10_0 : List xI := [(0, .aload_n 0, 0, 0), (1, .getfield 40, 0, 9), (4, .bipush 24, 0, 0), (6, .if_icmp .ne 12, 0, 5), (9, .aload_n 0, 0, 0), (10, .getfield 65, 0, 17), (13, .iconst 1, 0, 0), (14, .putfield 84, 6, 0), (17, .return_, 0, 0), (18, .aload_n 0, 0, 0), (19, .getfield 37, 0, 8), (22, .iload_n 1, 0, 0), (23, .iaload, 0, 0), (24, .istore_n 3, 0, 0), (25, .aload_n 0, 0, 0), (26, .iload_n 3, 0, 0), (27, .iload_n 2, 0, 0), (28, .invokevirtual 167, 11, 0), (31, .istore 4, 0, 0), (33, .aload_n 0, 0, 0), (34, .getfield 40, 0, 9), (37, .istore 5, 0, 0), (39, .nop, 1, 0)]
def tr_10_39 : List xI := [(39, .iload 5, 0, 0), (41, .iload_n 1, 0, 0), (42, .if_icmp .le 25, 0, 12), (45, .aload_n 0, 0, 0), (46, .getfield 37, 0, 8), (49, .iload 5, 0, 0), (51, .aload_n 0, 0, 0), (52, .getfield 37, 0, 8), (55, .iload 5, 0, 0), (57, .iconst 1, 0, 0), (58, .isub, 0, 0), (59, .iaload, 0, 0), (60, .iastore, 0, 0), (61, .iinc 5 (-1), 0, 0), (64, .goto (-25), 1, 39), (67, .aload_n 0, 0, 0), (68, .dup, 0, 0), (69, .getfield 40, 0, 9), (72, .iconst 1, 0, 0), (73, .iadd, 0, 0), (74, .putfield 40, 0, 9), (77, .aload_n 0, 0, 0), (78, .iconst 1, 0, 0), (79, .putfield 52, 0, 13), (82, .aload_n 0, 0, 0), (83, .getfield 49, 0, 12), (86, .iconst 0, 0, 0), (87, .aload_n 0, 0, 0), (88, .getfield 73, 0, 1), (91, .iload 4, 0, 0), (93, .iconst 0, 0, 0), (94, .invokevirtual 175, 44, 0), (97, .iastore, 0, 0), (98, .aload_n 0, 0, 0), (99, .getfield 37, 0, 8), (102, .iload_n 1, 0, 0), (103, .aload_n 0, 0, 0), (104, .iload_n 3, 0, 0), (105, .iload_n 2, 0, 0), (106, .iload_n 2, 0, 0), (107, .invokevirtual 139, 12, 0), (110, .iastore, 0, 0), (111, .aload_n 0, 0, 0), (112, .getfield 49, 0, 12), (115, .iconst 0, 0, 0), (116, .aload_n 0, 0, 0), (117, .getfield 73, 0, 1), (120, .iload 4, 0, 0), (122, .iconst 1, 0, 0), (123, .invokevirtual 175, 44, 0), (126, .iastore, 0, 0), (127, .aload_n 0, 0, 0), (128, .getfield 37, 0, 8), (131, .iload_n 1, 0, 0), (132, .iconst 1, 0, 0), (133, .iadd, 0, 0), (134, .aload_n 0, 0, 0), (135, .iload_n 3, 0, 0), (136, .iload_n 2, 0, 0), (137, .iload_n 2, 0, 0), (138, .invokevirtual 139, 12, 0), (141, .iastore, 0, 0), (142, .return_, 0, 0)]
def tl_10 : List (Nat × List xI) := [(0, tr_10_0), (39, tr_10_39)]
def tr_11_0 : List xI := [(0, .aload_n 0, 0, 0), (1, .getfield 12, 0, 2), (4, .getfield 154, 1, 2), (7, .iload_n 1, 0, 0), (8, .iaload, 0, 0), (9, .istore_n 3, 0, 0), (10, .iconst 0, 0, 0), (11, .istore 4, 0, 0), (13, .nop, 1, 0)]
def tr_11_13 : List xI := [(13, .iload 4, 0, 0), (15, .bipush 120, 0, 0), (17, .if_icmp .ge 47, 0, 24), (20, .iload_n 3, 0, 0), (21, .iconst (-1), 0, 0), (22, .if_icmp .eq 42, 0, 21), (25, .aload_n 0, 0, 0), (26, .getfield 18, 0, 3), (29, .getfield 157, 1, 1), (32, .iload_n 3, 0, 0), (33, .iaload, 0, 0), (34, .iload_n 2, 0, 0), (35, .if_icmp .ne 13, 0, 6), (38, .aload_n 0, 0, 0), (39, .getfield 18, 0, 3), (42, .getfield 154, 1, 2), (45, .iload_n 3, 0, 0), (46, .iaload, 0, 0), (47, .ireturn, 1, 0), (48, .aload_n 0, 0, 0), (49, .getfield 18, 0, 3), (52, .getfield 178, 1, 3), (55, .iload_n 3, 0, 0), (56, .iaload, 0, 0), (57, .istore_n 3, 0, 0), (58, .iinc 4 1, 0, 0), (61, .goto (-48), 1, 13), (64, .iconst (-1), 0, 0), (65, .ireturn, 1, 0)]
def tl_11 : List (Nat × List xI) := [(0, tr_11_0), (13, tr_11_13)]
def tr_12_0 : List xI := [(0, .aload_n 0, 0, 0), (1, .getfield 12, 0, 2), (4, .getfield 154, 1, 2), (7, .iload_n 1, 0, 0), (8, .iaload, 0, 0), (9, .istore 4, 0, 0), (11, .iconst 0, 0, 0), (12, .istore 5, 0, 0), (14, .nop, 1, 0)]
def tr_12_14 : List xI := [(14, .iload 5, 0, 0), (16, .bipush 120, 0, 0), (18, .if_icmp .ge 50, 1, 68), (21, .iload 4, 0, 0), (23, .iconst (-1), 0, 0), (24, .if_icmp .eq 44, 1, 68), (27, .aload_n 0, 0, 0), (28, .getfield 18, 0, 3), (31, .getfield 157, 1, 1), (34, .iload 4, 0, 0), (36, .iaload, 0, 0), (37, .iload_n 2, 0, 0), (38, .if_icmp .eq 30, 1, 68), (41, .aload_n 0, 0, 0), (42, .getfield 55, 0, 14), (45, .iload 5, 0, 0), (47, .iload 4, 0, 0), (49, .iastore, 0, 0), (50, .iinc 5 1, 0, 0), (53, .aload_n 0, 0, 0), (54, .getfield 18, 0, 3), (57, .getfield 178, 1, 3), (60, .iload 4, 0, 0), (62, .iaload, 0, 0), (63, .istore 4, 0, 0), (65, .goto (-51), 1, 14)]
def tr_12_68 : List xI := [(68, .iload 4, 0, 0), (70, .iconst (-1), 0, 0), (71, .if_icmp .ne 7, 0, 2), (74, .iconst (-1), 0, 0), (75, .goto 13, 1, 88), (78, .aload_n 0, 0, 0), (79, .getfield 18, 0, 3), (82, .getfield 178, 1, 3), (85, .iload 4, 0, 0), (87, .iaload, 0, 0), (88, .nop, 1, 0)]
def tr_12_88 : List xI := [(88, .istore 6, 0, 0), (90, .aload_n 0, 0, 0), (91, .aload_n 0, 0, 0), (92, .getfield 12, 0, 2), (95, .getfield 178, 1, 3), (98, .iload_n 1, 0, 0), (99, .iaload, 0, 0), (100, .putfield 58, 0, 15), (103, .aload_n 0, 0, 0), (104, .getfield 52, 0, 13), (107, .iconst 1, 0, 0), (108, .isub, 0, 0), (109, .istore 7, 0, 0), (111, .nop, 1, 0)]
def tr_12_111 : List xI := [(111, .iload 7, 0, 0), (113, .ifCond .lt 49, 0, 24), (116, .aload_n 0, 0, 0), (117, .aload_n 0, 0, 0), (118, .getfield 49, 0, 12), (121, .iload 7, 0, 0), (123, .iaload, 0, 0), (124, .iload_n 3, 0, 0), (125, .iload 7, 0, 0), (127, .iadd, 0, 0), (128, .invokevirtual 181, 13, 0), (131, .istore 8, 0, 0), (133, .iload 8, 0, 0), (135, .iconst (-1), 0, 0), (136, .if_icmp .eq 20, 0, 9), (139, .aload_n 0, 0, 0), (140, .getfield 18, 0, 3), (143, .iload_n 3, 0, 0), (144, .iload 7, 0, 0), (146, .iadd, 0, 0), (147, .iload 8, 0, 0), (149, .iload 6, 0, 0), (151, .invokevirtual 135, 22, 0), (154, .istore 6, 0, 0), (156, .iinc 7 (-1), 0, 0), (159, .goto (-48), 1, 111), (162, .iload 5, 0, 0), (164, .iconst 1, 0, 0), (165, .isub, 0, 0), (166, .istore 7, 0, 0), (168, .nop, 1, 0)]
def tr_12_168 : List xI := [(168, .iload 7, 0, 0), (170, .ifCond .lt 50, 0, 23), (173, .aload_n 0, 0, 0), (174, .getfield 18, 0, 3), (177, .aload_n 0, 0, 0), (178, .getfield 18, 0, 3), (181, .getfield 157, 1, 1), (184, .aload_n 0, 0, 0), (185, .getfield 55, 0, 14), (188, .iload 7, 0, 0), (190, .iaload, 0, 0), (191, .iaload, 0, 0), (192, .aload_n 0, 0, 0), (193, .getfield 18, 0, 3), (196, .getfield 154, 1, 2), (199, .aload_n 0, 0, 0), (200, .getfield 55, 0, 14), (203, .iload 7, 0, 0), (205, .iaload, 0, 0), (206, .iaload, 0, 0), (207, .iload 6, 0, 0), (209, .invokevirtual 135, 22, 0), (212, .istore 6, 0, 0), (214, .iinc 7 (-1), 0, 0), (217, .goto (-49), 1, 168), (220, .aload_n 0, 0, 0), (221, .getfield 12, 0, 2), (224, .aload_n 0, 0, 0), (225, .getfield 12, 0, 2), (228, .getfield 157, 1, 1), (231, .iload_n 1, 0, 0), (232, .iaload, 0, 0), (233, .iload 6, 0, 0), (235, .aload_n 0, 0, 0), (236, .getfield 58, 0, 15), (239, .invokevirtual 135, 22, 0), (242, .ireturn, 1, 0)]
def tl_12 : List (Nat × List xI) := [(0, tr_12_0), (14, tr_12_14), (68, tr_12_68), (88, tr_12_88), (111, tr_12_111), (168, tr_12_168)]
def tr_13_0 : List xI := [(0, .iload_n 1, 0, 0), (1, .istore_n 3, 0, 0), (2, .iconst 0, 0, 0), (3, .istore 4, 0, 0), (5, .nop, 1, 0)]
def tr_13_5 : List xI := [(5, .iload 4, 0, 0), (7, .bipush 40, 0, 0), (9, .if_icmp .ge 57, 1, 66), (12, .aload_n 0, 0, 0), (13, .getfield 73, 0, 1), (16, .getfield 170, 5, 2), (19, .iload_n 3, 0, 0), (20, .iaload, 0, 0), (21, .iconst 2, 0, 0), (22, .if_icmp .ne 44, 1, 66), (25, .aload_n 0, 0, 0), (26, .aload_n 0, 0, 0), (27, .getfield 18, 0, 3), (30, .iload_n 2, 0, 0), (31, .aload_n 0, 0, 0), (32, .getfield 73, 0, 1), (35, .getfield 184, 5, 4), (38, .iload_n 3, 0, 0), (39, .iaload, 0, 0), (40, .aload_n 0, 0, 0), (41, .getfield 58, 0, 15), (44, .invokevirtual 135, 22, 0), (47, .putfield 58, 0, 15), (50, .aload_n 0, 0, 0), (51, .getfield 73, 0, 1), (54, .iload_n 3, 0, 0), (55, .iconst 0, 0, 0), (56, .invokevirtual 175, 44, 0), (59, .istore_n 3, 0, 0), (60, .iinc 4 1, 0, 0), (63, .goto (-58), 1, 5)]
def tr_13_66 : List xI := [(66, .aload_n 0, 0, 0), (67, .getfield 73, 0, 1), (70, .getfield 170, 5, 2), (73, .iload_n 3, 0, 0), (74, .iaload, 0, 0), (75, .iconst 1, 0, 0), (76, .if_icmp .ne 30, 0, 15), (79, .aload_n 0, 0, 0), (80, .aload_n 0, 0, 0), (81, .getfield 18, 0, 3), (84, .iload_n 2, 0, 0), (85, .aload_n 0, 0, 0), (86, .getfield 73, 0, 1), (89, .getfield 184, 5, 4), (92, .iload_n 3, 0, 0), (93, .iaload, 0, 0), (94, .aload_n 0, 0, 0), (95, .getfield 58, 0, 15), (98, .invokevirtual 135, 22, 0), (101, .putfield 58, 0, 15), (104, .iconst (-1), 0, 0), (105, .ireturn, 1, 0), (106, .aload_n 0, 0, 0), (107, .getfield 73, 0, 1), (110, .getfield 170, 5, 2), (113, .iload_n 3, 0, 0), (114, .iaload, 0, 0), (115, .ifCond .ne 7, 0, 2), (118, .iconst (-1), 0, 0), (119, .goto 4, 0, 1), (122, .iload_n 3, 0, 0), (123, .ireturn, 1, 0)]
def tl_13 : List (Nat × List xI) := [(0, tr_13_0), (5, tr_13_5), (66, tr_13_66)]
def tr_14_0 : List xI := [(0, .aload_n 0, 0, 0), (1, .getfield 65, 0, 17), (4, .getfield 84, 6, 0), (7, .ifCond .eq 4, 0, 1), (10, .return_, 0, 0), (11, .aload_n 0, 0, 0), (12, .getfield 40, 0, 9), (15, .ifCond .ne 13, 0, 6), (18, .aload_n 0, 0, 0), (19, .getfield 65, 0, 17), (22, .iload_n 1, 0, 0), (23, .iconst 3, 0, 0), (24, .invokevirtual 187, 49, 0), (27, .return_, 0, 0), (28, .aload_n 0, 0, 0), (29, .getfield 37, 0, 8), (32, .iconst 0, 0, 0), (33, .iaload, 0, 0), (34, .istore_n 2, 0, 0), (35, .aload_n 0, 0, 0), (36, .getfield 12, 0, 2), (39, .getfield 157, 1, 1), (42, .iload_n 2, 0, 0), (43, .iaload, 0, 0), (44, .istore_n 3, 0, 0), (45, .aload_n 0, 0, 0), (46, .getfield 65, 0, 17), (49, .getfield 190, 6, 8), (52, .iload_n 1, 0, 0), (53, .iload_n 3, 0, 0), (54, .iastore, 0, 0), (55, .aload_n 0, 0, 0), (56, .getfield 65, 0, 17), (59, .dup, 0, 0), (60, .getfield 193, 6, 2), (63, .iconst 1, 0, 0), (64, .iload_n 3, 0, 0), (65, .ishl, 0, 0), (66, .ior, 0, 0), (67, .putfield 193, 6, 2), (70, .aload_n 0, 0, 0), (71, .iload_n 1, 0, 0), (72, .aload_n 0, 0, 0), (73, .getfield 12, 0, 2), (76, .getfield 178, 1, 3), (79, .iload_n 2, 0, 0), (80, .iaload, 0, 0), (81, .invokevirtual 196, 15, 0), (84, .aload_n 0, 0, 0), (85, .getfield 61, 0, 16), (88, .iload_n 3, 0, 0), (89, .invokevirtual 199, 32, 0), (92, .ifCond .ne 13, 0, 6), (95, .aload_n 0, 0, 0), (96, .getfield 65, 0, 17), (99, .iload_n 1, 0, 0), (100, .iconst 2, 0, 0), (101, .invokevirtual 187, 49, 0), (104, .return_, 0, 0), (105, .aload_n 0, 0, 0), (106, .getfield 65, 0, 17), (109, .iload_n 1, 0, 0), (110, .iconst 1, 0, 0), (111, .invokevirtual 187, 49, 0), (114, .aload_n 0, 0, 0), (115, .getfield 65, 0, 17), (118, .iload_n 1, 0, 0), (119, .iconst 1, 0, 0), (120, .invokevirtual 126, 51, 0), (123, .istore 4, 0, 0), (125, .iload 4, 0, 0), (127, .iconst (-1), 0, 0), (128, .if_icmp .eq 49, 0, 8), (131, .aload_n 0, 0, 0), (132, .getfield 34, 0, 7), (135, .iload 4, 0, 0), (137, .iconst 0, 0, 0), (138, .iastore, 0, 0), (139, .iconst 1, 0, 0), (140, .istore 5, 0, 0), (142, .nop, 1, 0), (177, .return_, 0, 0)]
def tr_14_142 : List xI := [(142, .iload 5, 0, 0), (144, .aload_n 0, 0, 0), (145, .getfield 40, 0, 9), (148, .if_icmp .ge 22, 0, 9), (151, .aload_n 0, 0, 0), (152, .iload 4, 0, 0), (154, .aload_n 0, 0, 0), (155, .getfield 37, 0, 8), (158, .iload 5, 0, 0), (160, .iaload, 0, 0), (161, .invokevirtual 142, 3, 0), (164, .iinc 5 1, 0, 0), (167, .goto (-25), 1, 142), (170, .aload_n 0, 0, 0), (171, .iload 4, 0, 0), (173, .iconst 1, 0, 0), (174, .invokevirtual 145, 4, 0), (177, .return_, 0, 0)]
def tl_14 : List (Nat × List xI) := [(0, tr_14_0), (142, tr_14_142)]
def tr_15_0 : List xI := [(0, .iload_n 1, 0, 0), (1, .bipush 16, 0, 0), (3, .imul, 0, 0), (4, .istore_n 3, 0, 0), (5, .iconst 0, 0, 0), (6, .istore 4, 0, 0), (8, .nop, 1, 0)]
def tr_15_8 : List xI := [(8, .iload 4, 0, 0), (10, .bipush 16, 0, 0), (12, .if_icmp .ge 22, 0, 10), (15, .aload_n 0, 0, 0), (16, .getfield 65, 0, 17), (19, .getfield 203, 6, 16), (22, .iload_n 3, 0, 0), (23, .iload 4, 0, 0), (25, .iadd, 0, 0), (26, .iconst (-1), 0, 0), (27, .iastore, 0, 0), (28, .iinc 4 1, 0, 0), (31, .goto (-23), 1, 8), (34, .iload_n 2, 0, 0), (35, .istore 4, 0, 0), (37, .iconst 0, 0, 0), (38, .istore 5, 0, 0), (40, .nop, 1, 0)]
def tr_15_40 : List xI := [(40, .iload 5, 0, 0), (42, .bipush 16, 0, 0), (44, .if_icmp .ge 57, 0, 27), (47, .iload 4, 0, 0), (49, .iconst (-1), 0, 0), (50, .if_icmp .eq 51, 0, 24), (53, .aload_n 0, 0, 0), (54, .getfield 65, 0, 17), (57, .getfield 203, 6, 16), (60, .iload_n 3, 0, 0), (61, .aload_n 0, 0, 0), (62, .getfield 18, 0, 3), (65, .getfield 154, 1, 2), (68, .iload 4, 0, 0), (70, .iaload, 0, 0), (71, .iadd, 0, 0), (72, .aload_n 0, 0, 0), (73, .getfield 18, 0, 3), (76, .getfield 157, 1, 1), (79, .iload 4, 0, 0), (81, .iaload, 0, 0), (82, .iastore, 0, 0), (83, .aload_n 0, 0, 0), (84, .getfield 18, 0, 3), (87, .getfield 178, 1, 3), (90, .iload 4, 0, 0), (92, .iaload, 0, 0), (93, .istore 4, 0, 0), (95, .iinc 5 1, 0, 0), (98, .goto (-58), 1, 40), (101, .return_, 0, 0)]
def tl_15 : List (Nat × List xI) := [(0, tr_15_0), (8, tr_15_8), (40, tr_15_40)]
def tr_16_0 : List xI := [(0, .aload_n 0, 0, 0), (1, .getfield 65, 0, 17), (4, .getfield 84, 6, 0), (7, .ifCond .eq 4, 0, 1), (10, .return_, 0, 0), (11, .aload_n 0, 0, 0), (12, .iload_n 2, 0, 0), (13, .invokevirtual 206, 17, 0), (16, .aload_n 0, 0, 0), (17, .getfield 65, 0, 17), (20, .getfield 209, 6, 6), (23, .iload_n 2, 0, 0), (24, .iaload, 0, 0), (25, .istore_n 3, 0, 0), (26, .iload_n 3, 0, 0), (27, .ifCond .eq 19, 0, 8), (30, .aload_n 0, 0, 0), (31, .getfield 46, 0, 11), (34, .aload_n 0, 0, 0), (35, .getfield 69, 0, 0), (38, .getfield 212, 7, 2), (41, .iload_n 3, 0, 0), (42, .iaload, 0, 0), (43, .if_icmp .ge 7, 0, 2), (46, .iconst 1, 0, 0), (47, .goto 4, 1, 51), (50, .iconst 0, 0, 0), (51, .nop, 1, 0)]
def tr_16_51 : List xI := [(51, .istore 4, 0, 0), (53, .iload 4, 0, 0), (55, .ifCond .eq 12, 0, 5), (58, .aload_n 0, 0, 0), (59, .getfield 46, 0, 11), (62, .iconst 1, 0, 0), (63, .iadd, 0, 0), (64, .goto 7, 1, 71), (67, .aload_n 0, 0, 0), (68, .getfield 46, 0, 11), (71, .nop, 1, 0)]
def tr_16_71 : List xI := [(71, .istore 5, 0, 0), (73, .aload_n 0, 0, 0), (74, .getfield 65, 0, 17), (77, .iload_n 1, 0, 0), (78, .iconst 0, 0, 0), (79, .invokevirtual 187, 49, 0), (82, .aload_n 0, 0, 0), (83, .getfield 65, 0, 17), (86, .getfield 217, 6, 9), (89, .iload_n 1, 0, 0), (90, .iload_n 2, 0, 0), (91, .iastore, 0, 0), (92, .aload_n 0, 0, 0), (93, .getfield 65, 0, 17), (96, .iload_n 1, 0, 0), (97, .iload 5, 0, 0), (99, .invokevirtual 126, 51, 0), (102, .istore 6, 0, 0), (104, .iload 6, 0, 0), (106, .iconst (-1), 0, 0), (107, .if_icmp .ne 4, 0, 1), (110, .return_, 0, 0), (111, .iconst 0, 0, 0), (112, .istore 7, 0, 0), (114, .nop, 1, 0)]
def tr_16_114 : List xI := [(114, .iload 7, 0, 0), (116, .aload_n 0, 0, 0), (117, .getfield 46, 0, 11), (120, .if_icmp .ge 27, 0, 13), (123, .aload_n 0, 0, 0), (124, .iload 6, 0, 0), (126, .iload 7, 0, 0), (128, .iadd, 0, 0), (129, .iload_n 2, 0, 0), (130, .aload_n 0, 0, 0), (131, .getfield 43, 0, 10), (134, .iload 7, 0, 0), (136, .iaload, 0, 0), (137, .iconst 0, 0, 0), (138, .invokevirtual 220, 20, 0), (141, .iinc 7 1, 0, 0), (144, .goto (-30), 1, 114), (147, .iload 4, 0, 0), (149, .ifCond .eq 20, 0, 10), (152, .aload_n 0, 0, 0), (153, .iload 6, 0, 0), (155, .aload_n 0, 0, 0), (156, .getfield 46, 0, 11), (159, .iadd, 0, 0), (160, .iload_n 2, 0, 0), (161, .aload_n 0, 0, 0), (162, .invokevirtual 224, 19, 0), (165, .iconst 1, 0, 0), (166, .invokevirtual 220, 20, 0), (169, .aload_n 0, 0, 0), (170, .iload 6, 0, 0), (172, .iload 5, 0, 0), (174, .invokevirtual 145, 4, 0), (177, .return_, 0, 0)]
def tl_16 : List (Nat × List xI) := [(0, tr_16_0), (51, tr_16_51), (71, tr_16_71), (114, tr_16_114)]
def tr_17_0 : List xI := [(0, .aload_n 0, 0, 0), (1, .iconst 0, 0, 0), (2, .putfield 46, 0, 11), (5, .iconst 0, 0, 0), (6, .istore_n 2, 0, 0), (7, .nop, 1, 0)]
def tr_17_7 : List xI := [(7, .iload_n 2, 0, 0), (8, .aload_n 0, 0, 0), (9, .getfield 40, 0, 9), (12, .if_icmp .ge 39, 0, 20), (15, .aload_n 0, 0, 0), (16, .aload_n 0, 0, 0), (17, .getfield 37, 0, 8), (20, .iload_n 2, 0, 0), (21, .iaload, 0, 0), (22, .iload_n 1, 0, 0), (23, .invokevirtual 167, 11, 0), (26, .istore_n 3, 0, 0), (27, .iload_n 3, 0, 0), (28, .iconst (-1), 0, 0), (29, .if_icmp .eq 16, 0, 7), (32, .aload_n 0, 0, 0), (33, .aload_n 0, 0, 0), (34, .getfield 73, 0, 1), (37, .getfield 184, 5, 4), (40, .iload_n 3, 0, 0), (41, .iaload, 0, 0), (42, .invokevirtual 227, 18, 0), (45, .iinc 2 1, 0, 0), (48, .goto (-41), 1, 7), (51, .return_, 0, 0)]
def tl_17 : List (Nat × List xI) := [(0, tr_17_0), (7, tr_17_7)]
def tr_18_0 : List xI := [(0, .iconst 0, 0, 0), (1, .istore_n 2, 0, 0), (2, .nop, 1, 0)]
def tr_18_2 : List xI := [(2, .iload_n 2, 0, 0), (3, .aload_n 0, 0, 0), (4, .getfield 46, 0, 11), (7, .if_icmp .ge 19, 1, 26), (10, .aload_n 0, 0, 0), (11, .getfield 43, 0, 10), (14, .iload_n 2, 0, 0), (15, .iaload, 0, 0), (16, .iload_n 1, 0, 0), (17, .if_icmp .ge 9, 1, 26), (20, .iinc 2 1, 0, 0), (23, .goto (-21), 1, 2)]
def tr_18_26 : List xI := [(26, .iload_n 2, 0, 0), (27, .aload_n 0, 0, 0), (28, .getfield 46, 0, 11), (31, .if_icmp .ge 14, 0, 7), (34, .aload_n 0, 0, 0), (35, .getfield 43, 0, 10), (38, .iload_n 2, 0, 0), (39, .iaload, 0, 0), (40, .iload_n 1, 0, 0), (41, .if_icmp .ne 4, 0, 1), (44, .return_, 0, 0), (45, .aload_n 0, 0, 0), (46, .getfield 46, 0, 11), (49, .istore_n 3, 0, 0), (50, .nop, 1, 0)]
def tr_18_50 : List xI := [(50, .iload_n 3, 0, 0), (51, .iload_n 2, 0, 0), (52, .if_icmp .le 23, 0, 12), (55, .aload_n 0, 0, 0), (56, .getfield 43, 0, 10), (59, .iload_n 3, 0, 0), (60, .aload_n 0, 0, 0), (61, .getfield 43, 0, 10), (64, .iload_n 3, 0, 0), (65, .iconst 1, 0, 0), (66, .isub, 0, 0), (67, .iaload, 0, 0), (68, .iastore, 0, 0), (69, .iinc 3 (-1), 0, 0), (72, .goto (-22), 1, 50), (75, .aload_n 0, 0, 0), (76, .getfield 43, 0, 10), (79, .iload_n 2, 0, 0), (80, .iload_n 1, 0, 0), (81, .iastore, 0, 0), (82, .aload_n 0, 0, 0), (83, .dup, 0, 0), (84, .getfield 46, 0, 11), (87, .iconst 1, 0, 0), (88, .iadd, 0, 0), (89, .putfield 46, 0, 11), (92, .return_, 0, 0)]
def tl_18 : List (Nat × List xI) := [(0, tr_18_0), (2, tr_18_2), (26, tr_18_26), (50, tr_18_50)]
def tr_19_0 : List xI := [(0, .iconst 0, 0, 0), (1, .istore_n 1, 0, 0), (2, .iconst 0, 0, 0), (3, .istore_n 2, 0, 0), (4, .nop, 1, 0)]
def tr_19_4 : List xI := [(4, .iload_n 2, 0, 0), (5, .aload_n 0, 0, 0), (6, .getfield 46, 0, 11), (9, .if_icmp .ge 22, 0, 9), (12, .aload_n 0, 0, 0), (13, .getfield 43, 0, 10), (16, .iload_n 2, 0, 0), (17, .iaload, 0, 0), (18, .iload_n 1, 0, 0), (19, .if_icmp .ne 6, 0, 1), (22, .iinc 1 1, 0, 0), (25, .iinc 2 1, 0, 0), (28, .goto (-24), 1, 4), (31, .iload_n 1, 0, 0), (32, .ireturn, 1, 0)]
def tl_19 : List (Nat × List xI) := [(0, tr_19_0), (4, tr_19_4)]
def tr_20_0 : List xI := [(0, .aload_n 0, 0, 0), (1, .getfield 65, 0, 17), (4, .getfield 230, 6, 13), (7, .iload_n 1, 0, 0), (8, .iload_n 3, 0, 0), (9, .iastore, 0, 0), (10, .aload_n 0, 0, 0), (11, .getfield 65, 0, 17), (14, .getfield 231, 6, 14), (17, .iload_n 1, 0, 0), (18, .iload 4, 0, 0), (20, .bastore, 0, 0), (21, .aload_n 0, 0, 0), (22, .getfield 65, 0, 17), (25, .getfield 235, 6, 15), (28, .iload_n 1, 0, 0), (29, .aload_n 0, 0, 0), (30, .getfield 65, 0, 17), (33, .getfield 238, 6, 4), (36, .iastore, 0, 0), (37, .aload_n 0, 0, 0), (38, .getfield 65, 0, 17), (41, .getfield 209, 6, 6), (44, .iload_n 2, 0, 0), (45, .iaload, 0, 0), (46, .istore 5, 0, 0), (48, .aload_n 0, 0, 0), (49, .getfield 69, 0, 0), (52, .iload 5, 0, 0), (54, .iload_n 3, 0, 0), (55, .invokevirtual 241, 56, 0), (58, .istore 6, 0, 0), (60, .iconst 0, 0, 0), (61, .istore 7, 0, 0), (63, .nop, 1, 0)]
def tr_20_63 : List xI := [(63, .iload 7, 0, 0), (65, .iload 6, 0, 0), (67, .if_icmp .ge 28, 0, 11), (70, .aload_n 0, 0, 0), (71, .getfield 65, 0, 17), (74, .aload_n 0, 0, 0), (75, .getfield 69, 0, 0), (78, .iload 5, 0, 0), (80, .iload_n 3, 0, 0), (81, .iload 7, 0, 0), (83, .invokevirtual 244, 57, 0), (86, .invokevirtual 123, 50, 0), (89, .iinc 7 1, 0, 0), (92, .goto (-29), 1, 63), (95, .aload_n 0, 0, 0), (96, .getfield 34, 0, 7), (99, .iload_n 1, 0, 0), (100, .iconst 0, 0, 0), (101, .iastore, 0, 0), (102, .iconst 0, 0, 0), (103, .istore 7, 0, 0), (105, .nop, 1, 0)]
def tr_20_105 : List xI := [(105, .iload 7, 0, 0), (107, .aload_n 0, 0, 0), (108, .getfield 40, 0, 9), (111, .if_icmp .ge 129, 0, 36), (114, .aload_n 0, 0, 0), (115, .aload_n 0, 0, 0), (116, .getfield 37, 0, 8), (119, .iload 7, 0, 0), (121, .iaload, 0, 0), (122, .iload_n 2, 0, 0), (123, .invokevirtual 167, 11, 0), (126, .istore 8, 0, 0), (128, .iload 8, 0, 0), (130, .iconst (-1), 0, 0), (131, .if_icmp .ne 18, 0, 8), (134, .aload_n 0, 0, 0), (135, .iload_n 1, 0, 0), (136, .aload_n 0, 0, 0), (137, .getfield 37, 0, 8), (140, .iload 7, 0, 0), (142, .iaload, 0, 0), (143, .invokevirtual 142, 3, 0), (146, .goto 88, 0, 15), (149, .iload 4, 0, 0), (151, .ifCond .ne 83, 0, 13), (154, .aload_n 0, 0, 0), (155, .getfield 73, 0, 1), (158, .getfield 184, 5, 4), (161, .iload 8, 0, 0), (163, .iaload, 0, 0), (164, .iload_n 3, 0, 0), (165, .if_icmp .ne 69, 0, 6), (168, .aload_n 0, 0, 0), (169, .iload 6, 0, 0), (171, .putfield 52, 0, 13), (174, .iconst 0, 0, 0), (175, .istore 9, 0, 0), (177, .nop, 1, 0), (234, .iinc 7 1, 0, 0), (237, .goto (-132), 1, 105), (240, .return_, 0, 0)]
def tr_20_177 : List xI := [(177, .iload 9, 0, 0), (179, .iload 6, 0, 0), (181, .if_icmp .ge 27, 0, 11), (184, .aload_n 0, 0, 0), (185, .getfield 49, 0, 12), (188, .iload 9, 0, 0), (190, .aload_n 0, 0, 0), (191, .getfield 73, 0, 1), (194, .iload 8, 0, 0), (196, .iload 9, 0, 0), (198, .invokevirtual 175, 44, 0), (201, .iastore, 0, 0), (202, .iinc 9 1, 0, 0), (205, .goto (-28), 1, 177), (208, .aload_n 0, 0, 0), (209, .iload_n 1, 0, 0), (210, .aload_n 0, 0, 0), (211, .aload_n 0, 0, 0), (212, .getfield 37, 0, 8), (215, .iload 7, 0, 0), (217, .iaload, 0, 0), (218, .iload_n 2, 0, 0), (219, .aload_n 0, 0, 0), (220, .getfield 65, 0, 17), (223, .getfield 235, 6, 15), (226, .iload_n 1, 0, 0), (227, .iaload, 0, 0), (228, .invokevirtual 139, 12, 0), (231, .invokevirtual 142, 3, 0), (234, .iinc 7 1, 0, 0), (237, .goto (-132), 1, 105)]
def tl_20 : List (Nat × List xI) := [(0, tr_20_0), (63, tr_20_63), (105, tr_20_105), (177, tr_20_177)]
def tr_21_0 : List xI := [(0, .aload_n 0, 0, 0), (1, .invokespecial 1, 1000, 0), (4, .aload_n 0, 0, 0), (5, .iconst 0, 0, 0), (6, .putfield 7, 31, 0), (9, .aload_n 0, 0, 0), (10, .sipush 256, 0, 0), (13, .newarray .int, 1, 0), (15, .putfield 13, 31, 1), (18, .aload_n 0, 0, 0), (19, .sipush 256, 0, 0), (22, .newarray .int, 1, 0), (24, .putfield 17, 31, 2), (27, .aload_n 0, 0, 0), (28, .sipush 256, 0, 0), (31, .newarray .int, 1, 0), (33, .putfield 20, 31, 3), (36, .nop, 2, 1), (36, .return_, 0, 0)]
def tl_21 : List (Nat × List xI) := [(0, tr_21_0)]
def tr_22_0 : List xI := [(0, .aload_n 0, 0, 0), (1, .getfield 7, 1, 0), (4, .aload_n 0, 0, 0), (5, .getfield 13, 1, 1), (8, .arraylength, 0, 0), (9, .if_icmp .ne 54, 1, 63), (12, .aload_n 0, 0, 0), (13, .aload_n 0, 0, 0), (14, .getfield 13, 1, 1), (17, .aload_n 0, 0, 0), (18, .getfield 7, 1, 0), (21, .iconst 2, 0, 0), (22, .imul, 0, 0), (23, .invokestatic 23, 161, 0), (26, .putfield 13, 1, 1), (29, .aload_n 0, 0, 0), (30, .aload_n 0, 0, 0), (31, .getfield 17, 1, 2), (34, .aload_n 0, 0, 0), (35, .getfield 7, 1, 0), (38, .iconst 2, 0, 0), (39, .imul, 0, 0), (40, .invokestatic 23, 161, 0), (43, .putfield 17, 1, 2), (46, .aload_n 0, 0, 0), (47, .aload_n 0, 0, 0), (48, .getfield 20, 1, 3), (51, .aload_n 0, 0, 0), (52, .getfield 7, 1, 0), (55, .iconst 2, 0, 0), (56, .imul, 0, 0), (57, .invokestatic 23, 161, 0), (60, .putfield 20, 1, 3), (63, .nop, 1, 0)]
def tr_22_63 : List xI := [(63, .aload_n 0, 0, 0), (64, .getfield 13, 1, 1), (67, .aload_n 0, 0, 0), (68, .getfield 7, 1, 0), (71, .iload_n 1, 0, 0), (72, .iastore, 0, 0), (73, .aload_n 0, 0, 0), (74, .getfield 17, 1, 2), (77, .aload_n 0, 0, 0), (78, .getfield 7, 1, 0), (81, .iload_n 2, 0, 0), (82, .iastore, 0, 0), (83, .aload_n 0, 0, 0), (84, .getfield 20, 1, 3), (87, .aload_n 0, 0, 0), (88, .getfield 7, 1, 0), (91, .iload_n 3, 0, 0), (92, .iastore, 0, 0), (93, .aload_n 0, 0, 0), (94, .dup, 0, 0), (95, .getfield 7, 1, 0), (98, .iconst 1, 0, 0), (99, .iadd, 0, 0), (100, .putfield 7, 1, 0), (103, .aload_n 0, 0, 0), (104, .getfield 7, 1, 0), (107, .iconst 1, 0, 0), (108, .isub, 0, 0), (109, .ireturn, 1, 0)]
def tl_22 : List (Nat × List xI) := [(0, tr_22_0), (63, tr_22_63)]
def tr_23_0 : List xI := [(0, .aload_n 0, 0, 0), (1, .invokespecial 3, 1000, 0), (4, .aload_n 0, 0, 0), (5, .bipush 16, 0, 0), (7, .newarray .int, 1, 0), (9, .putfield 9, 32, 2), (12, .aload_n 0, 0, 0), (13, .aload_n 1, 0, 0), (14, .putfield 15, 32, 0), (17, .aload_n 0, 0, 0), (18, .aload_n 2, 0, 0), (19, .putfield 19, 32, 1), (22, .nop, 2, 2), (22, .return_, 0, 0)]
def tl_23 : List (Nat × List xI) := [(0, tr_23_0)]
def tr_24_0 : List xI := [(0, .iconst 0, 0, 0), (1, .istore_n 3, 0, 0), (2, .nop, 1, 0)]
def tr_24_2 : List xI := [(2, .iload_n 3, 0, 0), (3, .aload_n 1, 0, 0), (4, .getfield 22, 3, 2), (7, .if_icmp .ge 38, 0, 19), (10, .aload_n 0, 0, 0), (11, .aload_n 1, 0, 0), (12, .iload_n 3, 0, 0), (13, .aload_n 2, 0, 0), (14, .invokevirtual 28, 25, 0), (17, .ifCond .eq 22, 0, 11), (20, .aload_n 1, 0, 0), (21, .iload_n 3, 0, 0), (22, .invokevirtual 32, 32, 0), (25, .ifCond .eq 12, 0, 5), (28, .aload_n 0, 0, 0), (29, .aload_n 1, 0, 0), (30, .iload_n 3, 0, 0), (31, .invokevirtual 36, 26, 0), (34, .ifCond .eq 5, 0, 2), (37, .iload_n 3, 0, 0), (38, .ireturn, 1, 0), (39, .iinc 3 1, 0, 0), (42, .goto (-40), 1, 2), (45, .iconst (-1), 0, 0), (46, .ireturn, 1, 0)]
def tl_24 : List (Nat × List xI) := [(0, tr_24_0), (2, tr_24_2)]
def tr_25_0 : List xI := [(0, .iconst 0, 0, 0), (1, .istore 4, 0, 0), (3, .nop, 1, 0)]
def tr_25_3 : List xI := [(3, .iload 4, 0, 0), (5, .aload_n 1, 0, 0), (6, .getfield 40, 3, 0), (9, .if_icmp .ge 30, 0, 15), (12, .aload_n 0, 0, 0), (13, .aload_n 1, 0, 0), (14, .iload_n 2, 0, 0), (15, .iload 4, 0, 0), (17, .invokevirtual 43, 31, 0), (20, .aload_n 3, 0, 0), (21, .iload 4, 0, 0), (23, .iaload, 0, 0), (24, .iconst 0, 0, 0), (25, .invokevirtual 47, 27, 0), (28, .ifCond .ne 5, 0, 2), (31, .iconst 0, 0, 0), (32, .ireturn, 2, 0), (33, .iinc 4 1, 0, 0), (36, .goto (-33), 1, 3), (39, .iconst 1, 0, 0), (40, .ireturn, 2, 0)]
def tl_25 : List (Nat × List xI) := [(0, tr_25_0), (3, tr_25_3)]
def tr_26_0 : List xI := [(0, .aload_n 0, 0, 0), (1, .getfield 9, 2, 2), (4, .aload_n 1, 0, 0), (5, .getfield 51, 3, 4), (8, .iload_n 2, 0, 0), (9, .iaload, 0, 0), (10, .iaload, 0, 0), (11, .istore_n 3, 0, 0), (12, .aload_n 0, 0, 0), (13, .getfield 9, 2, 2), (16, .aload_n 1, 0, 0), (17, .getfield 54, 3, 5), (20, .iload_n 2, 0, 0), (21, .iaload, 0, 0), (22, .iaload, 0, 0), (23, .istore 4, 0, 0), (25, .aload_n 0, 0, 0), (26, .getfield 19, 2, 1), (29, .getfield 57, 5, 4), (32, .iload_n 3, 0, 0), (33, .iaload, 0, 0), (34, .aload_n 0, 0, 0), (35, .getfield 19, 2, 1), (38, .getfield 57, 5, 4), (41, .iload 4, 0, 0), (43, .iaload, 0, 0), (44, .if_icmp .ge 7, 0, 2), (47, .iconst 1, 0, 0), (48, .goto 4, 0, 1), (51, .iconst 0, 0, 0), (52, .ireturn, 2, 0)]
def tl_26 : List (Nat × List xI) := [(0, tr_26_0)]
def tr_27_0 : List xI := [(0, .iload_n 3, 0, 0), (1, .bipush 40, 0, 0), (3, .if_icmp .le 5, 0, 2), (6, .iconst 0, 0, 0), (7, .ireturn, 2, 0), (8, .aload_n 0, 0, 0), (9, .getfield 15, 2, 0), (12, .getfield 62, 5, 2), (15, .iload_n 1, 0, 0), (16, .iaload, 0, 0), (17, .tableswitch 164 0 5 #[39, 41, 58, 137, 164, 91], 0, 39)]
def tr_27_56 : List xI := [(56, .iconst 1, 0, 0), (57, .ireturn, 2, 0)]
def tr_27_58 : List xI := [(58, .aload_n 0, 0, 0), (59, .getfield 9, 2, 2), (62, .aload_n 0, 0, 0), (63, .getfield 15, 2, 0), (66, .getfield 57, 5, 4), (69, .iload_n 1, 0, 0), (70, .iaload, 0, 0), (71, .iload_n 2, 0, 0), (72, .iastore, 0, 0), (73, .iconst 1, 0, 0), (74, .ireturn, 2, 0)]
def tr_27_75 : List xI := [(75, .aload_n 0, 0, 0), (76, .getfield 9, 2, 2), (79, .aload_n 0, 0, 0), (80, .getfield 15, 2, 0), (83, .getfield 57, 5, 4), (86, .iload_n 1, 0, 0), (87, .iaload, 0, 0), (88, .iload_n 2, 0, 0), (89, .iastore, 0, 0), (90, .aload_n 0, 0, 0), (91, .aload_n 0, 0, 0), (92, .getfield 15, 2, 0), (95, .iload_n 1, 0, 0), (96, .iconst 0, 0, 0), (97, .invokevirtual 65, 44, 0), (100, .iload_n 2, 0, 0), (101, .iload_n 3, 0, 0), (102, .iconst 1, 0, 0), (103, .iadd, 0, 0), (104, .invokevirtual 47, 27, 0), (107, .ireturn, 2, 0)]
def tr_27_108 : List xI := [(108, .aload_n 0, 0, 0), (109, .aload_n 0, 0, 0), (110, .getfield 15, 2, 0), (113, .iload_n 1, 0, 0), (114, .iconst 0, 0, 0), (115, .invokevirtual 65, 44, 0), (118, .iload_n 2, 0, 0), (119, .iload_n 3, 0, 0), (120, .iconst 1, 0, 0), (121, .iadd, 0, 0), (122, .invokevirtual 47, 27, 0), (125, .ifCond .ne 23, 0, 12), (128, .aload_n 0, 0, 0), (129, .aload_n 0, 0, 0), (130, .getfield 15, 2, 0), (133, .iload_n 1, 0, 0), (134, .iconst 1, 0, 0), (135, .invokevirtual 65, 44, 0), (138, .iload_n 2, 0, 0), (139, .iload_n 3, 0, 0), (140, .iconst 1, 0, 0), (141, .iadd, 0, 0), (142, .invokevirtual 47, 27, 0), (145, .ifCond .eq 7, 0, 2), (148, .iconst 1, 0, 0), (149, .goto 4, 0, 1), (152, .iconst 0, 0, 0), (153, .ireturn, 2, 0)]
def tr_27_154 : List xI := [(154, .aload_n 0, 0, 0), (155, .getfield 15, 2, 0), (158, .getfield 57, 5, 4), (161, .iload_n 1, 0, 0), (162, .iaload, 0, 0), (163, .aload_n 0, 0, 0), (164, .getfield 19, 2, 1), (167, .getfield 57, 5, 4), (170, .iload_n 2, 0, 0), (171, .iaload, 0, 0), (172, .if_icmp .ne 7, 0, 2), (175, .iconst 1, 0, 0), (176, .goto 4, 0, 1), (179, .iconst 0, 0, 0), (180, .ireturn, 2, 0)]
def tr_27_181 : List xI := [(181, .aload_n 0, 0, 0), (182, .getfield 15, 2, 0), (185, .getfield 57, 5, 4), (188, .iload_n 1, 0, 0), (189, .iaload, 0, 0), (190, .aload_n 0, 0, 0), (191, .getfield 19, 2, 1), (194, .getfield 57, 5, 4), (197, .iload_n 2, 0, 0), (198, .iaload, 0, 0), (199, .if_icmp .ne 17, 0, 8), (202, .aload_n 0, 0, 0), (203, .iload_n 1, 0, 0), (204, .iload_n 2, 0, 0), (205, .iload_n 3, 0, 0), (206, .invokevirtual 68, 28, 0), (209, .ifCond .eq 7, 0, 2), (212, .iconst 1, 0, 0), (213, .goto 4, 0, 1), (216, .iconst 0, 0, 0), (217, .ireturn, 2, 0)]
def tl_27 : List (Nat × List xI) := [(0, tr_27_0), (56, tr_27_56), (58, tr_27_58), (75, tr_27_75), (108, tr_27_108), (154, tr_27_154), (181, tr_27_181)]
def tr_28_0 : List xI := [(0, .aload_n 0, 0, 0), (1, .getfield 15, 2, 0), (4, .getfield 71, 5, 6), (7, .iload_n 1, 0, 0), (8, .iaload, 0, 0), (9, .istore 4, 0, 0), (11, .iconst 0, 0, 0), (12, .istore 5, 0, 0), (14, .nop, 1, 0)]
def tr_28_14 : List xI := [(14, .iload 5, 0, 0), (16, .iload 4, 0, 0), (18, .if_icmp .ge 41, 0, 20), (21, .aload_n 0, 0, 0), (22, .aload_n 0, 0, 0), (23, .getfield 15, 2, 0), (26, .iload_n 1, 0, 0), (27, .iload 5, 0, 0), (29, .invokevirtual 65, 44, 0), (32, .aload_n 0, 0, 0), (33, .getfield 19, 2, 1), (36, .iload_n 2, 0, 0), (37, .iload 5, 0, 0), (39, .invokevirtual 65, 44, 0), (42, .iload_n 3, 0, 0), (43, .iconst 1, 0, 0), (44, .iadd, 0, 0), (45, .invokevirtual 47, 27, 0), (48, .ifCond .ne 5, 0, 2), (51, .iconst 0, 0, 0), (52, .ireturn, 2, 0), (53, .iinc 5 1, 0, 0), (56, .goto (-42), 1, 14), (59, .iconst 1, 0, 0), (60, .ireturn, 2, 0)]
def tl_28 : List (Nat × List xI) := [(0, tr_28_0), (14, tr_28_14)]
def tr_29_0 : List xI := [(0, .aload_n 0, 0, 0), (1, .invokespecial 3, 1000, 0), (4, .aload_n 0, 0, 0), (5, .iconst 3, 0, 0), (6, .newarray .int, 1, 0), (8, .putfield 9, 33, 1), (11, .aload_n 0, 0, 0), (12, .iconst 0, 0, 0), (13, .putfield 15, 33, 2), (16, .aload_n 0, 0, 0), (17, .bipush 36, 0, 0), (19, .newarray .int, 1, 0), (21, .putfield 19, 33, 3), (24, .aload_n 0, 0, 0), (25, .bipush 12, 0, 0), (27, .newarray .int, 1, 0), (29, .putfield 22, 33, 4), (32, .aload_n 0, 0, 0), (33, .bipush 12, 0, 0), (35, .newarray .int, 1, 0), (37, .putfield 25, 33, 5), (40, .aload_n 0, 0, 0), (41, .new 28, 36, 0), (44, .dup, 0, 0), (45, .invokespecial 30, 47, 0), (48, .putfield 31, 33, 6), (51, .aload_n 0, 0, 0), (52, .iconst 1, 0, 0), (53, .putfield 35, 33, 7), (56, .aload_n 0, 0, 0), (57, .iload_n 1, 0, 0), (58, .putfield 39, 33, 0), (61, .iconst 0, 0, 0), (62, .istore_n 3, 0, 0), (63, .nop, 1, 0)]
def tr_29_63 : List xI := [(63, .iload_n 3, 0, 0), (64, .iload_n 1, 0, 0), (65, .if_icmp .ge 18, 0, 9), (68, .aload_n 0, 0, 0), (69, .getfield 9, 33, 1), (72, .iload_n 3, 0, 0), (73, .aload_n 2, 0, 0), (74, .iload_n 3, 0, 0), (75, .iaload, 0, 0), (76, .iastore, 0, 0), (77, .iinc 3 1, 0, 0), (80, .goto (-17), 1, 63), (83, .nop, 2, 3), (83, .return_, 0, 0)]
def tl_29 : List (Nat × List xI) := [(0, tr_29_0), (63, tr_29_63)]
def tr_30_0 : List xI := [(0, .aload_n 0, 0, 0), (1, .getfield 15, 3, 2), (4, .bipush 12, 0, 0), (6, .if_icmp .ne 5, 0, 2), (9, .iconst (-1), 0, 0), (10, .ireturn, 1, 0), (11, .iconst 0, 0, 0), (12, .istore 4, 0, 0), (14, .nop, 1, 0)]
def tr_30_14 : List xI := [(14, .iload 4, 0, 0), (16, .aload_n 0, 0, 0), (17, .getfield 39, 3, 0), (20, .if_icmp .ge 27, 0, 14), (23, .aload_n 0, 0, 0), (24, .getfield 19, 3, 3), (27, .aload_n 0, 0, 0), (28, .getfield 15, 3, 2), (31, .iconst 3, 0, 0), (32, .imul, 0, 0), (33, .iload 4, 0, 0), (35, .iadd, 0, 0), (36, .aload_n 1, 0, 0), (37, .iload 4, 0, 0), (39, .iaload, 0, 0), (40, .iastore, 0, 0), (41, .iinc 4 1, 0, 0), (44, .goto (-30), 1, 14), (47, .aload_n 0, 0, 0), (48, .getfield 22, 3, 4), (51, .aload_n 0, 0, 0), (52, .getfield 15, 3, 2), (55, .iload_n 2, 0, 0), (56, .iastore, 0, 0), (57, .aload_n 0, 0, 0), (58, .getfield 25, 3, 5), (61, .aload_n 0, 0, 0), (62, .getfield 15, 3, 2), (65, .iload_n 3, 0, 0), (66, .iastore, 0, 0), (67, .aload_n 0, 0, 0), (68, .iconst 1, 0, 0), (69, .putfield 35, 3, 7), (72, .aload_n 0, 0, 0), (73, .dup, 0, 0), (74, .getfield 15, 3, 2), (77, .iconst 1, 0, 0), (78, .iadd, 0, 0), (79, .putfield 15, 3, 2), (82, .aload_n 0, 0, 0), (83, .getfield 15, 3, 2), (86, .iconst 1, 0, 0), (87, .isub, 0, 0), (88, .ireturn, 1, 0)]
def tl_30 : List (Nat × List xI) := [(0, tr_30_0), (14, tr_30_14)]
def tr_31_0 : List xI := [(0, .aload_n 0, 0, 0), (1, .getfield 19, 3, 3), (4, .iload_n 1, 0, 0), (5, .iconst 3, 0, 0), (6, .imul, 0, 0), (7, .iload_n 2, 0, 0), (8, .iadd, 0, 0), (9, .iaload, 0, 0), (10, .ireturn, 1, 0)]
def tl_31 : List (Nat × List xI) := [(0, tr_31_0)]
def tr_32_0 : List xI := [(0, .aload_n 0, 0, 0), (1, .getfield 22, 3, 4), (4, .iload_n 1, 0, 0), (5, .iaload, 0, 0), (6, .iconst (-1), 0, 0), (7, .if_icmp .eq 7, 0, 2), (10, .iconst 1, 0, 0), (11, .goto 4, 0, 1), (14, .iconst 0, 0, 0), (15, .ireturn, 2, 0)]
def tl_32 : List (Nat × List xI) := [(0, tr_32_0)]
def tr_33_0 : List xI := [(0, .iconst 1, 0, 0), (1, .istore_n 1, 0, 0), (2, .nop, 1, 0)]
def tr_33_2 : List xI := [(2, .iload_n 1, 0, 0), (3, .aload_n 0, 0, 0), (4, .getfield 39, 3, 0), (7, .if_icmp .ge 26, 0, 13), (10, .aload_n 0, 0, 0), (11, .getfield 9, 3, 1), (14, .iload_n 1, 0, 0), (15, .iaload, 0, 0), (16, .aload_n 0, 0, 0), (17, .getfield 9, 3, 1), (20, .iconst 0, 0, 0), (21, .iaload, 0, 0), (22, .if_icmp .eq 5, 0, 2), (25, .iconst 0, 0, 0), (26, .ireturn, 2, 0), (27, .iinc 1 1, 0, 0), (30, .goto (-28), 1, 2), (33, .iconst 1, 0, 0), (34, .ireturn, 2, 0)]
def tl_33 : List (Nat × List xI) := [(0, tr_33_0), (2, tr_33_2)]
def tr_34_0 : List xI := [(0, .aload_n 0, 0, 0), (1, .invokespecial 3, 1000, 0), (4, .aload_n 0, 0, 0), (5, .sipush 4000, 0, 0), (8, .newarray .int, 1, 0), (10, .putfield 11, 34, 1), (13, .aload_n 0, 0, 0), (14, .sipush 4000, 0, 0), (17, .newarray .int, 1, 0), (19, .putfield 15, 34, 2), (22, .aload_n 0, 0, 0), (23, .iconst 0, 0, 0), (24, .putfield 18, 34, 3), (27, .aload_n 0, 0, 0), (28, .sipush 360, 0, 0), (31, .newarray .int, 1, 0), (33, .putfield 24, 34, 4), (36, .aload_n 0, 0, 0), (37, .sipush 160, 0, 0), (40, .newarray .int, 1, 0), (42, .putfield 27, 34, 5), (45, .aload_n 0, 0, 0), (46, .aload_n 1, 0, 0), (47, .putfield 30, 34, 0), (50, .nop, 2, 4), (50, .return_, 0, 0)]
def tl_34 : List (Nat × List xI) := [(0, tr_34_0)]
def tr_35_0 : List xI := [(0, .aload_n 1, 0, 0), (1, .getfield 34, 3, 6), (4, .getfield 40, 6, 3), (7, .iconst (-1), 0, 0), (8, .if_icmp .ne 10, 0, 5), (11, .aload_n 0, 0, 0), (12, .iconst 0, 0, 0), (13, .putfield 18, 4, 3), (16, .iconst 0, 0, 0), (17, .ireturn, 1, 0), (18, .aload_n 0, 0, 0), (19, .aload_n 1, 0, 0), (20, .getfield 34, 3, 6), (23, .invokevirtual 43, 36, 0), (26, .aload_n 0, 0, 0), (27, .aload_n 1, 0, 0), (28, .invokevirtual 47, 37, 0), (31, .istore_n 2, 0, 0), (32, .iload_n 2, 0, 0), (33, .sipush 4000, 0, 0), (36, .if_icmp .le 6, 0, 2), (39, .bipush (-2), 0, 0), (41, .ireturn, 1, 0), (42, .aload_n 0, 0, 0), (43, .getfield 11, 4, 1), (46, .astore_n 3, 0, 0), (47, .aload_n 0, 0, 0), (48, .aload_n 0, 0, 0), (49, .getfield 15, 4, 2), (52, .putfield 11, 4, 1), (55, .aload_n 0, 0, 0), (56, .aload_n 3, 0, 0), (57, .putfield 15, 4, 2), (60, .aload_n 0, 0, 0), (61, .iload_n 2, 0, 0), (62, .putfield 18, 4, 3), (65, .iload_n 2, 0, 0), (66, .ireturn, 1, 0)]
def tl_35 : List (Nat × List xI) := [(0, tr_35_0)]
def tr_36_0 : List xI := [(0, .aload_n 0, 0, 0), (1, .getfield 24, 4, 4), (4, .iconst (-1), 0, 0), (5, .invokestatic 51, 160, 0), (8, .aload_n 1, 0, 0), (9, .getfield 40, 6, 3), (12, .istore_n 2, 0, 0), (13, .iconst 0, 0, 0), (14, .istore_n 3, 0, 0), (15, .nop, 1, 0)]
def tr_36_15 : List xI := [(15, .iload_n 3, 0, 0), (16, .bipush 120, 0, 0), (18, .if_icmp .ge 53, 0, 28), (21, .aload_n 1, 0, 0), (22, .getfield 57, 6, 10), (25, .iload_n 2, 0, 0), (26, .iaload, 0, 0), (27, .iconst (-1), 0, 0), (28, .if_icmp .eq 43, 0, 22), (31, .aload_n 1, 0, 0), (32, .getfield 57, 6, 10), (35, .iload_n 2, 0, 0), (36, .iaload, 0, 0), (37, .istore 4, 0, 0), (39, .aload_n 1, 0, 0), (40, .getfield 60, 6, 7), (43, .iload 4, 0, 0), (45, .iaload, 0, 0), (46, .ifCond .ne 16, 0, 8), (49, .aload_n 0, 0, 0), (50, .getfield 24, 4, 4), (53, .aload_n 1, 0, 0), (54, .getfield 63, 6, 9), (57, .iload 4, 0, 0), (59, .iaload, 0, 0), (60, .iload_n 2, 0, 0), (61, .iastore, 0, 0), (62, .iload 4, 0, 0), (64, .istore_n 2, 0, 0), (65, .iinc 3 1, 0, 0), (68, .goto (-53), 1, 15), (71, .return_, 0, 0)]
def tl_36 : List (Nat × List xI) := [(0, tr_36_0), (15, tr_36_15)]
def tr_37_0 : List xI := [(0, .aload_n 1, 0, 0), (1, .getfield 34, 3, 6), (4, .astore_n 2, 0, 0), (5, .iconst 0, 0, 0), (6, .istore_n 3, 0, 0), (7, .aload_n 1, 0, 0), (8, .getfield 66, 3, 0), (11, .iconst 1, 0, 0), (12, .isub, 0, 0), (13, .istore 4, 0, 0), (15, .nop, 1, 0)]
def tr_37_15 : List xI := [(15, .iload 4, 0, 0), (17, .ifCond .lt 20, 0, 8), (20, .aload_n 0, 0, 0), (21, .getfield 27, 4, 5), (24, .iload_n 3, 0, 0), (25, .iload 4, 0, 0), (27, .iastore, 0, 0), (28, .iinc 3 1, 0, 0), (31, .iinc 4 (-1), 0, 0), (34, .goto (-19), 1, 15), (37, .iconst 0, 0, 0), (38, .istore 4, 0, 0), (40, .nop, 1, 0)]
def tr_37_40 : List xI := [(40, .iload_n 3, 0, 0), (41, .ifCond .le 188, 0, 20), (44, .iload 4, 0, 0), (46, .sipush 4000, 0, 0), (49, .if_icmp .gt 180, 0, 17), (52, .iinc 3 (-1), 0, 0), (55, .aload_n 0, 0, 0), (56, .getfield 27, 4, 5), (59, .iload_n 3, 0, 0), (60, .iaload, 0, 0), (61, .istore 5, 0, 0), (63, .iload 5, 0, 0), (65, .ifCond .ge 10, 0, 4), (68, .iload 5, 0, 0), (70, .iconst (-1), 0, 0), (71, .ixor, 0, 0), (72, .goto 10, 1, 82), (75, .aload_n 2, 0, 0), (76, .getfield 69, 6, 6), (79, .iload 5, 0, 0), (81, .iaload, 0, 0), (82, .nop, 1, 0), (229, .iload 4, 0, 0), (231, .ireturn, 1, 0)]
def tr_37_82 : List xI := [(82, .istore 6, 0, 0), (84, .iload 5, 0, 0), (86, .ifCond .ge 7, 0, 2), (89, .iconst (-1), 0, 0), (90, .goto 10, 1, 100), (93, .aload_n 0, 0, 0), (94, .getfield 24, 4, 4), (97, .iload 5, 0, 0), (99, .iaload, 0, 0), (100, .nop, 1, 0)]
def tr_37_100 : List xI := [(100, .istore 7, 0, 0), (102, .iload 7, 0, 0), (104, .iconst (-1), 0, 0), (105, .if_icmp .ne 16, 0, 6), (108, .aload_n 0, 0, 0), (109, .getfield 30, 4, 0), (112, .getfield 72, 7, 6), (115, .iload 6, 0, 0), (117, .iaload, 0, 0), (118, .goto 10, 1, 128), (121, .aload_n 2, 0, 0), (122, .getfield 77, 6, 13), (125, .iload 7, 0, 0), (127, .iaload, 0, 0), (128, .nop, 1, 0)]
def tr_37_128 : List xI := [(128, .istore 8, 0, 0), (130, .iload 4, 0, 0), (132, .sipush 4000, 0, 0), (135, .if_icmp .ge 12, 1, 147), (138, .aload_n 0, 0, 0), (139, .getfield 15, 4, 2), (142, .iload 4, 0, 0), (144, .iload 8, 0, 0), (146, .iastore, 0, 0), (147, .nop, 1, 0)]
def tr_37_147 : List xI := [(147, .iinc 4 1, 0, 0), (150, .aload_n 0, 0, 0), (151, .getfield 30, 4, 0), (154, .iload 6, 0, 0), (156, .iload 8, 0, 0), (158, .invokevirtual 80, 56, 0), (161, .iconst 1, 0, 0), (162, .isub, 0, 0), (163, .istore 9, 0, 0), (165, .nop, 1, 0)]
def tr_37_165 : List xI := [(165, .iload 9, 0, 0), (167, .ifCond .lt 59, 0, 28), (170, .iload_n 3, 0, 0), (171, .sipush 160, 0, 0), (174, .if_icmp .ge 52, 0, 25), (177, .aload_n 0, 0, 0), (178, .getfield 27, 4, 5), (181, .iload_n 3, 0, 0), (182, .iload 7, 0, 0), (184, .iconst (-1), 0, 0), (185, .if_icmp .ne 21, 0, 9), (188, .aload_n 0, 0, 0), (189, .getfield 30, 4, 0), (192, .iload 6, 0, 0), (194, .iload 8, 0, 0), (196, .iload 9, 0, 0), (198, .invokevirtual 84, 57, 0), (201, .iconst (-1), 0, 0), (202, .ixor, 0, 0), (203, .goto 13, 0, 6), (206, .aload_n 2, 0, 0), (207, .getfield 88, 6, 15), (210, .iload 7, 0, 0), (212, .iaload, 0, 0), (213, .iload 9, 0, 0), (215, .iadd, 0, 0), (216, .iastore, 0, 0), (217, .iinc 3 1, 0, 0), (220, .iinc 9 (-1), 0, 0), (223, .goto (-58), 1, 165), (226, .goto (-186), 1, 40)]
def tl_37 : List (Nat × List xI) := [(0, tr_37_0), (15, tr_37_15), (40, tr_37_40), (82, tr_37_82), (100, tr_37_100), (128, tr_37_128), (147, tr_37_147), (165, tr_37_165)]
def tr_38_0 : List xI := [(0, .aload_n 0, 0, 0), (1, .invokespecial 3, 1000, 0), (4, .aload_n 0, 0, 0), (5, .iconst 0, 0, 0), (6, .putfield 9, 35, 1), (9, .aload_n 0, 0, 0), (10, .sipush 300, 0, 0), (13, .newarray .int, 1, 0), (15, .putfield 15, 35, 2), (18, .aload_n 0, 0, 0), (19, .sipush 300, 0, 0), (22, .newarray .int, 1, 0), (24, .putfield 19, 35, 3), (27, .aload_n 0, 0, 0), (28, .sipush 300, 0, 0), (31, .newarray .int, 1, 0), (33, .putfield 22, 35, 4), (36, .aload_n 0, 0, 0), (37, .sipush 300, 0, 0), (40, .newarray .int, 1, 0), (42, .putfield 25, 35, 5), (45, .aload_n 0, 0, 0), (46, .sipush 300, 0, 0), (49, .newarray .int, 1, 0), (51, .putfield 28, 35, 6), (54, .aload_n 0, 0, 0), (55, .sipush 900, 0, 0), (58, .newarray .int, 1, 0), (60, .putfield 31, 35, 7), (63, .aload_n 0, 0, 0), (64, .sipush 300, 0, 0), (67, .newarray .int, 1, 0), (69, .putfield 34, 35, 8), (72, .aload_n 0, 0, 0), (73, .sipush 300, 0, 0), (76, .newarray .int, 1, 0), (78, .putfield 37, 35, 9), (81, .aload_n 0, 0, 0), (82, .sipush 300, 0, 0), (85, .newarray .boolean, 2, 0), (87, .putfield 40, 35, 10), (90, .aload_n 0, 0, 0), (91, .iload_n 1, 0, 0), (92, .putfield 44, 35, 0), (95, .nop, 2, 5), (95, .return_, 0, 0)]
def tl_38 : List (Nat × List xI) := [(0, tr_38_0)]
def tr_39_0 : List xI := [(0, .iload_n 1, 0, 0), (1, .ifCond .lt 15, 0, 6), (4, .iload_n 1, 0, 0), (5, .aload_n 0, 0, 0), (6, .getfield 9, 5, 1), (9, .if_icmp .ge 7, 0, 2), (12, .iconst 1, 0, 0), (13, .goto 4, 0, 1), (16, .iconst 0, 0, 0), (17, .ireturn, 2, 0)]
def tl_39 : List (Nat × List xI) := [(0, tr_39_0)]
def tr_40_0 : List xI := [(0, .aload_n 0, 0, 0), (1, .iload_n 1, 0, 0), (2, .invokevirtual 47, 39, 0), (5, .ifCond .eq 17, 0, 8), (8, .aload_n 0, 0, 0), (9, .getfield 19, 5, 3), (12, .iload_n 1, 0, 0), (13, .iaload, 0, 0), (14, .iload_n 2, 0, 0), (15, .if_icmp .ne 7, 0, 2), (18, .iconst 1, 0, 0), (19, .goto 4, 0, 1), (22, .iconst 0, 0, 0), (23, .ireturn, 2, 0)]
def tl_40 : List (Nat × List xI) := [(0, tr_40_0)]
def tr_41_0 : List xI := [(0, .iconst 0, 0, 0), (1, .istore 4, 0, 0), (3, .nop, 1, 0)]
def tr_41_3 : List xI := [(3, .iload 4, 0, 0), (5, .iload_n 3, 0, 0), (6, .if_icmp .ge 26, 0, 13), (9, .aload_n 0, 0, 0), (10, .aload_n 2, 0, 0), (11, .iload 4, 0, 0), (13, .iaload, 0, 0), (14, .aload_n 1, 0, 0), (15, .iload 4, 0, 0), (17, .iaload, 0, 0), (18, .invokevirtual 51, 40, 0), (21, .ifCond .ne 5, 0, 2), (24, .iconst 0, 0, 0), (25, .ireturn, 2, 0), (26, .iinc 4 1, 0, 0), (29, .goto (-26), 1, 3), (32, .iconst 1, 0, 0), (33, .ireturn, 2, 0)]
def tl_41 : List (Nat × List xI) := [(0, tr_41_0), (3, tr_41_3)]
def tr_42_0 : List xI := [(0, .aload_n 0, 0, 0), (1, .getfield 19, 5, 3), (4, .iload_n 1, 0, 0), (5, .iaload, 0, 0), (6, .aload_n 0, 0, 0), (7, .getfield 19, 5, 3), (10, .iload_n 2, 0, 0), (11, .iaload, 0, 0), (12, .if_icmp .ne 22, 0, 11), (15, .aload_n 0, 0, 0), (16, .getfield 34, 5, 8), (19, .iload_n 1, 0, 0), (20, .iaload, 0, 0), (21, .aload_n 0, 0, 0), (22, .getfield 34, 5, 8), (25, .iload_n 2, 0, 0), (26, .iaload, 0, 0), (27, .if_icmp .ne 7, 0, 2), (30, .iconst 1, 0, 0), (31, .goto 4, 0, 1), (34, .iconst 0, 0, 0), (35, .ireturn, 2, 0)]
def tl_42 : List (Nat × List xI) := [(0, tr_42_0)]
def tr_43_0 : List xI := [(0, .iconst 0, 0, 0), (1, .istore_n 3, 0, 0), (2, .iconst 0, 0, 0), (3, .istore 4, 0, 0), (5, .nop, 1, 0)]
def tr_43_5 : List xI := [(5, .iload 4, 0, 0), (7, .iload_n 2, 0, 0), (8, .if_icmp .ge 37, 0, 22), (11, .iload_n 3, 0, 0), (12, .aload_n 0, 0, 0), (13, .getfield 34, 5, 8), (16, .aload_n 1, 0, 0), (17, .iload 4, 0, 0), (19, .iaload, 0, 0), (20, .iaload, 0, 0), (21, .iand, 0, 0), (22, .ifCond .eq 5, 0, 2), (25, .iconst 0, 0, 0), (26, .ireturn, 2, 0), (27, .iload_n 3, 0, 0), (28, .aload_n 0, 0, 0), (29, .getfield 34, 5, 8), (32, .aload_n 1, 0, 0), (33, .iload 4, 0, 0), (35, .iaload, 0, 0), (36, .iaload, 0, 0), (37, .ior, 0, 0), (38, .istore_n 3, 0, 0), (39, .iinc 4 1, 0, 0), (42, .goto (-37), 1, 5), (45, .iconst 1, 0, 0), (46, .ireturn, 2, 0)]
def tl_43 : List (Nat × List xI) := [(0, tr_43_0), (5, tr_43_5)]
def tr_44_0 : List xI := [(0, .aload_n 0, 0, 0), (1, .getfield 31, 5, 7), (4, .iload_n 1, 0, 0), (5, .iconst 3, 0, 0), (6, .imul, 0, 0), (7, .iload_n 2, 0, 0), (8, .iadd, 0, 0), (9, .iaload, 0, 0), (10, .ireturn, 1, 0)]
def tl_44 : List (Nat × List xI) := [(0, tr_44_0)]
def tr_45_0 : List xI := [(0, .iconst 1, 0, 0), (1, .istore 6, 0, 0), (3, .iconst 0, 0, 0), (4, .istore 7, 0, 0), (6, .nop, 1, 0)]
def tr_45_6 : List xI := [(6, .iload 7, 0, 0), (8, .iload 5, 0, 0), (10, .if_icmp .ge 24, 0, 11), (13, .iload 6, 0, 0), (15, .aload_n 0, 0, 0), (16, .getfield 25, 5, 5), (19, .aload 4, 0, 0), (21, .iload 7, 0, 0), (23, .iaload, 0, 0), (24, .iaload, 0, 0), (25, .iadd, 0, 0), (26, .istore 6, 0, 0), (28, .iinc 7 1, 0, 0), (31, .goto (-25), 1, 6), (34, .aload_n 0, 0, 0), (35, .getfield 9, 5, 1), (38, .sipush 300, 0, 0), (41, .if_icmp .eq 12, 0, 4), (44, .iload 6, 0, 0), (46, .aload_n 0, 0, 0), (47, .getfield 44, 5, 0), (50, .if_icmp .le 5, 0, 2), (53, .iconst (-1), 0, 0), (54, .ireturn, 1, 0), (55, .iload_n 1, 0, 0), (56, .iconst 1, 0, 0), (57, .if_icmp .eq 8, 0, 3), (60, .iload_n 1, 0, 0), (61, .iconst 2, 0, 0), (62, .if_icmp .ne 9, 0, 4), (65, .iconst 1, 0, 0), (66, .iload_n 3, 0, 0), (67, .ishl, 0, 0), (68, .goto 4, 1, 72), (71, .iconst 0, 0, 0), (72, .nop, 1, 0)]
def tr_45_72 : List xI := [(72, .istore 7, 0, 0), (74, .aload_n 0, 0, 0), (75, .getfield 15, 5, 2), (78, .aload_n 0, 0, 0), (79, .getfield 9, 5, 1), (82, .iload_n 1, 0, 0), (83, .iastore, 0, 0), (84, .aload_n 0, 0, 0), (85, .getfield 19, 5, 3), (88, .aload_n 0, 0, 0), (89, .getfield 9, 5, 1), (92, .iload_n 2, 0, 0), (93, .iastore, 0, 0), (94, .aload_n 0, 0, 0), (95, .getfield 22, 5, 4), (98, .aload_n 0, 0, 0), (99, .getfield 9, 5, 1), (102, .iload_n 3, 0, 0), (103, .iastore, 0, 0), (104, .aload_n 0, 0, 0), (105, .getfield 25, 5, 5), (108, .aload_n 0, 0, 0), (109, .getfield 9, 5, 1), (112, .iload 6, 0, 0), (114, .iastore, 0, 0), (115, .aload_n 0, 0, 0), (116, .getfield 28, 5, 6), (119, .aload_n 0, 0, 0), (120, .getfield 9, 5, 1), (123, .iload 5, 0, 0), (125, .iastore, 0, 0), (126, .aload_n 0, 0, 0), (127, .getfield 34, 5, 8), (130, .aload_n 0, 0, 0), (131, .getfield 9, 5, 1), (134, .iload 7, 0, 0), (136, .iastore, 0, 0), (137, .aload_n 0, 0, 0), (138, .getfield 37, 5, 9), (141, .aload_n 0, 0, 0), (142, .getfield 9, 5, 1), (145, .iload_n 2, 0, 0), (146, .ifCond .ne 8, 0, 2), (149, .iload 7, 0, 0), (151, .goto 4, 1, 155), (154, .iconst 0, 0, 0), (155, .nop, 1, 0)]
def tr_45_155 : List xI := [(155, .iastore, 0, 0), (156, .aload_n 0, 0, 0), (157, .getfield 40, 5, 10), (160, .aload_n 0, 0, 0), (161, .getfield 9, 5, 1), (164, .iload_n 1, 0, 0), (165, .iconst 5, 0, 0), (166, .if_icmp .ne 7, 0, 2), (169, .iconst 1, 0, 0), (170, .goto 4, 0, 1), (173, .iconst 0, 0, 0), (174, .bastore, 0, 0), (175, .iconst 0, 0, 0), (176, .istore 8, 0, 0), (178, .nop, 1, 0)]
def tr_45_178 : List xI := [(178, .iload 8, 0, 0), (180, .iload 5, 0, 0), (182, .if_icmp .ge 20, 0, 8), (185, .aload_n 0, 0, 0), (186, .iload 8, 0, 0), (188, .aload 4, 0, 0), (190, .iload 8, 0, 0), (192, .iaload, 0, 0), (193, .invokevirtual 55, 46, 0), (196, .iinc 8 1, 0, 0), (199, .goto (-21), 1, 178), (202, .aload_n 0, 0, 0), (203, .dup, 0, 0), (204, .getfield 9, 5, 1), (207, .iconst 1, 0, 0), (208, .iadd, 0, 0), (209, .putfield 9, 5, 1), (212, .aload_n 0, 0, 0), (213, .getfield 9, 5, 1), (216, .iconst 1, 0, 0), (217, .isub, 0, 0), (218, .ireturn, 1, 0)]
def tl_45 : List (Nat × List xI) := [(0, tr_45_0), (6, tr_45_6), (72, tr_45_72), (155, tr_45_155), (178, tr_45_178)]
def tr_46_0 : List xI := [(0, .aload_n 0, 0, 0), (1, .getfield 31, 5, 7), (4, .aload_n 0, 0, 0), (5, .getfield 9, 5, 1), (8, .iconst 3, 0, 0), (9, .imul, 0, 0), (10, .iload_n 1, 0, 0), (11, .iadd, 0, 0), (12, .iload_n 2, 0, 0), (13, .iastore, 0, 0), (14, .aload_n 0, 0, 0), (15, .getfield 34, 5, 8), (18, .aload_n 0, 0, 0), (19, .getfield 9, 5, 1), (22, .dup2, 0, 0), (23, .iaload, 0, 0), (24, .aload_n 0, 0, 0), (25, .getfield 34, 5, 8), (28, .iload_n 2, 0, 0), (29, .iaload, 0, 0), (30, .ior, 0, 0), (31, .iastore, 0, 0), (32, .aload_n 0, 0, 0), (33, .getfield 37, 5, 9), (36, .aload_n 0, 0, 0), (37, .getfield 9, 5, 1), (40, .dup2, 0, 0), (41, .iaload, 0, 0), (42, .aload_n 0, 0, 0), (43, .getfield 37, 5, 9), (46, .iload_n 2, 0, 0), (47, .iaload, 0, 0), (48, .ior, 0, 0), (49, .iastore, 0, 0), (50, .aload_n 0, 0, 0), (51, .getfield 40, 5, 10), (54, .aload_n 0, 0, 0), (55, .getfield 9, 5, 1), (58, .aload_n 0, 0, 0), (59, .getfield 40, 5, 10), (62, .aload_n 0, 0, 0), (63, .getfield 9, 5, 1), (66, .baload, 0, 0), (67, .ifCond .ne 12, 0, 5), (70, .aload_n 0, 0, 0), (71, .getfield 40, 5, 10), (74, .iload_n 2, 0, 0), (75, .baload, 0, 0), (76, .ifCond .eq 7, 0, 2), (79, .iconst 1, 0, 0), (80, .goto 4, 0, 1), (83, .iconst 0, 0, 0), (84, .bastore, 0, 0), (85, .return_, 0, 0)]
def tl_46 : List (Nat × List xI) := [(0, tr_46_0)]
def tr_47_0 : List xI := [(0, .aload_n 0, 0, 0), (1, .invokespecial 5, 1000, 0), (4, .aload_n 0, 0, 0), (5, .iconst 0, 0, 0), (6, .putfield 11, 36, 0), (9, .aload_n 0, 0, 0), (10, .iconst 0, 0, 0), (11, .putfield 15, 36, 1), (14, .aload_n 0, 0, 0), (15, .iconst 0, 0, 0), (16, .putfield 19, 36, 2), (19, .aload_n 0, 0, 0), (20, .iconst (-1), 0, 0), (21, .putfield 22, 36, 3), (24, .aload_n 0, 0, 0), (25, .iconst 0, 0, 0), (26, .putfield 25, 36, 4), (29, .aload_n 0, 0, 0), (30, .iconst 4, 0, 0), (31, .newarray .int, 1, 0), (33, .putfield 28, 36, 5), (36, .aload_n 0, 0, 0), (37, .sipush 360, 0, 0), (40, .newarray .int, 1, 0), (42, .putfield 32, 36, 6), (45, .aload_n 0, 0, 0), (46, .bipush 120, 0, 0), (48, .newarray .int, 1, 0), (50, .putfield 35, 36, 7), (53, .aload_n 0, 0, 0), (54, .bipush 120, 0, 0), (56, .newarray .int, 1, 0), (58, .putfield 38, 36, 8), (61, .aload_n 0, 0, 0), (62, .bipush 120, 0, 0), (64, .newarray .int, 1, 0), (66, .putfield 41, 36, 9), (69, .aload_n 0, 0, 0), (70, .bipush 120, 0, 0), (72, .newarray .int, 1, 0), (74, .putfield 44, 36, 10), (77, .aload_n 0, 0, 0), (78, .bipush 120, 0, 0), (80, .newarray .int, 1, 0), (82, .putfield 47, 36, 11), (85, .aload_n 0, 0, 0), (86, .bipush 120, 0, 0), (88, .newarray .int, 1, 0), (90, .putfield 50, 36, 12), (93, .aload_n 0, 0, 0), (94, .bipush 120, 0, 0), (96, .newarray .int, 1, 0), (98, .putfield 53, 36, 13), (101, .aload_n 0, 0, 0), (102, .bipush 120, 0, 0), (104, .newarray .boolean, 2, 0), (106, .putfield 56, 36, 14), (109, .aload_n 0, 0, 0), (110, .bipush 120, 0, 0), (112, .newarray .int, 1, 0), (114, .putfield 60, 36, 15), (117, .aload_n 0, 0, 0), (118, .sipush 1920, 0, 0), (121, .newarray .int, 1, 0), (123, .putfield 63, 36, 16), (126, .nop, 2, 6), (126, .return_, 0, 0)]
def tl_47 : List (Nat × List xI) := [(0, tr_47_0)]
def tr_48_0 : List xI := [(0, .aload_n 0, 0, 0), (1, .iconst 0, 0, 0), (2, .putfield 11, 6, 0), (5, .aload_n 0, 0, 0), (6, .iconst 0, 0, 0), (7, .putfield 15, 6, 1), (10, .aload_n 0, 0, 0), (11, .iconst 0, 0, 0), (12, .putfield 19, 6, 2), (15, .aload_n 0, 0, 0), (16, .iconst (-1), 0, 0), (17, .putfield 22, 6, 3), (20, .aload_n 0, 0, 0), (21, .iconst 0, 0, 0), (22, .putfield 25, 6, 4), (25, .aload_n 0, 0, 0), (26, .getfield 28, 6, 5), (29, .iconst 0, 0, 0), (30, .invokestatic 66, 160, 0), (33, .return_, 0, 0)]
def tl_48 : List (Nat × List xI) := [(0, tr_48_0)]
def tr_49_0 : List xI := [(0, .aload_n 0, 0, 0), (1, .getfield 35, 6, 7), (4, .iload_n 1, 0, 0), (5, .iload_n 2, 0, 0), (6, .iastore, 0, 0), (7, .aload_n 0, 0, 0), (8, .getfield 28, 6, 5), (11, .iload_n 2, 0, 0), (12, .dup2, 0, 0), (13, .iaload, 0, 0), (14, .iconst 1, 0, 0), (15, .iadd, 0, 0), (16, .iastore, 0, 0), (17, .iload_n 2, 0, 0), (18, .iconst 3, 0, 0), (19, .if_icmp .ne 16, 0, 7), (22, .aload_n 0, 0, 0), (23, .getfield 22, 6, 3), (26, .iconst (-1), 0, 0), (27, .if_icmp .ne 8, 0, 3), (30, .aload_n 0, 0, 0), (31, .iload_n 1, 0, 0), (32, .putfield 22, 6, 3), (35, .return_, 0, 0)]
def tl_49 : List (Nat × List xI) := [(0, tr_49_0)]
def tr_50_0 : List xI := [(0, .aload_n 0, 0, 0), (1, .getfield 32, 6, 6), (4, .aload_n 0, 0, 0), (5, .getfield 25, 6, 4), (8, .iload_n 1, 0, 0), (9, .iastore, 0, 0), (10, .aload_n 0, 0, 0), (11, .dup, 0, 0), (12, .getfield 25, 6, 4), (15, .iconst 1, 0, 0), (16, .iadd, 0, 0), (17, .putfield 25, 6, 4), (20, .return_, 0, 0)]
def tl_50 : List (Nat × List xI) := [(0, tr_50_0)]
def tr_51_0 : List xI := [(0, .aload_n 0, 0, 0), (1, .getfield 15, 6, 1), (4, .iload_n 2, 0, 0), (5, .iadd, 0, 0), (6, .bipush 120, 0, 0), (8, .if_icmp .le 10, 0, 5), (11, .aload_n 0, 0, 0), (12, .iconst 1, 0, 0), (13, .putfield 11, 6, 0), (16, .iconst (-1), 0, 0), (17, .ireturn, 1, 0), (18, .aload_n 0, 0, 0), (19, .getfield 15, 6, 1), (22, .istore_n 3, 0, 0), (23, .iconst 0, 0, 0), (24, .istore 4, 0, 0), (26, .nop, 1, 0)]
def tr_51_26 : List xI := [(26, .iload 4, 0, 0), (28, .iload_n 2, 0, 0), (29, .if_icmp .ge 29, 0, 14), (32, .aload_n 0, 0, 0), (33, .getfield 44, 6, 10), (36, .aload_n 0, 0, 0), (37, .getfield 15, 6, 1), (40, .iload_n 1, 0, 0), (41, .iastore, 0, 0), (42, .aload_n 0, 0, 0), (43, .dup, 0, 0), (44, .getfield 15, 6, 1), (47, .iconst 1, 0, 0), (48, .iadd, 0, 0), (49, .putfield 15, 6, 1), (52, .iinc 4 1, 0, 0), (55, .goto (-29), 1, 26), (58, .iload_n 1, 0, 0), (59, .iconst (-1), 0, 0), (60, .if_icmp .eq 17, 0, 10), (63, .aload_n 0, 0, 0), (64, .getfield 47, 6, 11), (67, .iload_n 1, 0, 0), (68, .iload_n 3, 0, 0), (69, .iastore, 0, 0), (70, .aload_n 0, 0, 0), (71, .getfield 50, 6, 12), (74, .iload_n 1, 0, 0), (75, .iload_n 2, 0, 0), (76, .iastore, 0, 0), (77, .iload_n 3, 0, 0), (78, .ireturn, 1, 0)]
def tl_51 : List (Nat × List xI) := [(0, tr_51_0), (26, tr_51_26)]
def tr_52_0 : List xI := [(0, .aload_n 0, 0, 0), (1, .getfield 63, 6, 16), (4, .iload_n 1, 0, 0), (5, .bipush 16, 0, 0), (7, .imul, 0, 0), (8, .iload_n 2, 0, 0), (9, .iadd, 0, 0), (10, .iaload, 0, 0), (11, .ireturn, 1, 0)]
def tl_52 : List (Nat × List xI) := [(0, tr_52_0)]
def tr_53_0 : List xI := [(0, .aload_n 0, 0, 0), (1, .invokespecial 3, 1000, 0), (4, .aload_n 0, 0, 0), (5, .iconst 1, 0, 0), (6, .putfield 9, 37, 0), (9, .aload_n 0, 0, 0), (10, .iconst 0, 0, 0), (11, .putfield 15, 37, 1), (14, .aload_n 0, 0, 0), (15, .bipush 8, 0, 0), (17, .newarray .int, 1, 0), (19, .putfield 18, 37, 2), (22, .aload_n 0, 0, 0), (23, .bipush 48, 0, 0), (25, .newarray .int, 1, 0), (27, .putfield 22, 37, 3), (30, .aload_n 0, 0, 0), (31, .sipush 144, 0, 0), (34, .newarray .int, 1, 0), (36, .putfield 25, 37, 4), (39, .aload_n 0, 0, 0), (40, .bipush 8, 0, 0), (42, .newarray .int, 1, 0), (44, .putfield 28, 37, 5), (47, .aload_n 0, 0, 0), (48, .bipush 8, 0, 0), (50, .newarray .int, 1, 0), (52, .putfield 31, 37, 6), (55, .aload_n 0, 0, 0), (56, .getfield 28, 37, 5), (59, .iconst 0, 0, 0), (60, .iconst 1, 0, 0), (61, .iastore, 0, 0), (62, .nop, 2, 7), (62, .return_, 0, 0)]
def tl_53 : List (Nat × List xI) := [(0, tr_53_0)]
def tr_54_0 : List xI := [(0, .iload_n 1, 0, 0), (1, .ifCond .lt 15, 0, 6), (4, .iload_n 1, 0, 0), (5, .aload_n 0, 0, 0), (6, .getfield 9, 7, 0), (9, .if_icmp .ge 7, 0, 2), (12, .iconst 1, 0, 0), (13, .goto 4, 0, 1), (16, .iconst 0, 0, 0), (17, .ireturn, 2, 0)]
def tl_54 : List (Nat × List xI) := [(0, tr_54_0)]
def tr_55_0 : List xI := [(0, .aload_n 0, 0, 0), (1, .iload_n 1, 0, 0), (2, .invokevirtual 34, 54, 0), (5, .ifCond .eq 21, 0, 10), (8, .iload_n 2, 0, 0), (9, .ifCond .lt 17, 0, 8), (12, .iload_n 2, 0, 0), (13, .aload_n 0, 0, 0), (14, .getfield 18, 7, 2), (17, .iload_n 1, 0, 0), (18, .iaload, 0, 0), (19, .if_icmp .ge 7, 0, 2), (22, .iconst 1, 0, 0), (23, .goto 4, 0, 1), (26, .iconst 0, 0, 0), (27, .ireturn, 2, 0)]
def tl_55 : List (Nat × List xI) := [(0, tr_55_0)]
def tr_56_0 : List xI := [(0, .aload_n 0, 0, 0), (1, .iload_n 1, 0, 0), (2, .iload_n 2, 0, 0), (3, .invokevirtual 38, 55, 0), (6, .ifCond .eq 17, 0, 9), (9, .aload_n 0, 0, 0), (10, .getfield 22, 7, 3), (13, .iload_n 1, 0, 0), (14, .bipush 6, 0, 0), (16, .imul, 0, 0), (17, .iload_n 2, 0, 0), (18, .iadd, 0, 0), (19, .iaload, 0, 0), (20, .goto 4, 0, 1), (23, .iconst 0, 0, 0), (24, .ireturn, 1, 0)]
def tl_56 : List (Nat × List xI) := [(0, tr_56_0)]
def tr_57_0 : List xI := [(0, .aload_n 0, 0, 0), (1, .getfield 25, 7, 4), (4, .iload_n 1, 0, 0), (5, .bipush 6, 0, 0), (7, .imul, 0, 0), (8, .iload_n 2, 0, 0), (9, .iadd, 0, 0), (10, .iconst 3, 0, 0), (11, .imul, 0, 0), (12, .iload_n 3, 0, 0), (13, .iadd, 0, 0), (14, .iaload, 0, 0), (15, .ireturn, 1, 0)]
def tl_57 : List (Nat × List xI) := [(0, tr_57_0)]
def tr_58_0 : List xI := [(0, .iconst 0, 0, 0), (1, .istore_n 3, 0, 0), (2, .nop, 1, 0)]
def tr_58_2 : List xI := [(2, .iload_n 3, 0, 0), (3, .iload_n 2, 0, 0), (4, .if_icmp .ge 21, 0, 10), (7, .aload_n 0, 0, 0), (8, .aload_n 1, 0, 0), (9, .iload_n 3, 0, 0), (10, .iaload, 0, 0), (11, .invokevirtual 34, 54, 0), (14, .ifCond .ne 5, 0, 2), (17, .iconst 0, 0, 0), (18, .ireturn, 2, 0), (19, .iinc 3 1, 0, 0), (22, .goto (-20), 1, 2), (25, .iconst 1, 0, 0), (26, .ireturn, 2, 0)]
def tl_58 : List (Nat × List xI) := [(0, tr_58_0), (2, tr_58_2)]
def tr_59_0 : List xI := [(0, .iconst 0, 0, 0), (1, .istore_n 1, 0, 0), (2, .nop, 1, 0)]
def tr_59_2 : List xI := [(2, .iload_n 1, 0, 0), (3, .aload_n 0, 0, 0), (4, .getfield 9, 7, 0), (7, .if_icmp .ge 20, 0, 9), (10, .aload_n 0, 0, 0), (11, .getfield 28, 7, 5), (14, .iload_n 1, 0, 0), (15, .iaload, 0, 0), (16, .ifCond .ne 5, 0, 2), (19, .iconst 0, 0, 0), (20, .ireturn, 2, 0), (21, .iinc 1 1, 0, 0), (24, .goto (-22), 1, 2), (27, .iconst 1, 0, 0), (28, .ireturn, 2, 0)]
def tl_59 : List (Nat × List xI) := [(0, tr_59_0), (2, tr_59_2)]
def tr_60_0 : List xI := [(0, .aload_n 0, 0, 0), (1, .getfield 9, 7, 0), (4, .bipush 8, 0, 0), (6, .if_icmp .ne 5, 0, 2), (9, .iconst (-1), 0, 0), (10, .ireturn, 1, 0), (11, .aload_n 0, 0, 0), (12, .dup, 0, 0), (13, .getfield 9, 7, 0), (16, .iconst 1, 0, 0), (17, .iadd, 0, 0), (18, .putfield 9, 7, 0), (21, .aload_n 0, 0, 0), (22, .getfield 9, 7, 0), (25, .iconst 1, 0, 0), (26, .isub, 0, 0), (27, .ireturn, 1, 0)]
def tl_60 : List (Nat × List xI) := [(0, tr_60_0)]
def tr_61_0 : List xI := [(0, .aload_n 0, 0, 0), (1, .iload_n 1, 0, 0), (2, .invokevirtual 34, 54, 0), (5, .ifCond .eq 16, 0, 7), (8, .iload_n 1, 0, 0), (9, .ifCond .eq 12, 0, 5), (12, .iload_n 2, 0, 0), (13, .ifCond .lt 8, 0, 3), (16, .iload_n 2, 0, 0), (17, .iconst 3, 0, 0), (18, .if_icmp .le 5, 0, 2), (21, .iconst (-1), 0, 0), (22, .ireturn, 1, 0), (23, .aload_n 0, 0, 0), (24, .getfield 18, 7, 2), (27, .iload_n 1, 0, 0), (28, .iaload, 0, 0), (29, .bipush 6, 0, 0), (31, .if_icmp .eq 12, 0, 5), (34, .aload_n 0, 0, 0), (35, .aload_n 3, 0, 0), (36, .iload_n 2, 0, 0), (37, .invokevirtual 42, 58, 0), (40, .ifCond .ne 5, 0, 2), (43, .iconst (-1), 0, 0), (44, .ireturn, 1, 0), (45, .aload_n 0, 0, 0), (46, .getfield 18, 7, 2), (49, .iload_n 1, 0, 0), (50, .iaload, 0, 0), (51, .istore 4, 0, 0), (53, .aload_n 0, 0, 0), (54, .getfield 22, 7, 3), (57, .iload_n 1, 0, 0), (58, .bipush 6, 0, 0), (60, .imul, 0, 0), (61, .iload 4, 0, 0), (63, .iadd, 0, 0), (64, .iload_n 2, 0, 0), (65, .iastore, 0, 0), (66, .iconst 0, 0, 0), (67, .istore 5, 0, 0), (69, .nop, 1, 0)]
def tr_61_69 : List xI := [(69, .iload 5, 0, 0), (71, .iload_n 2, 0, 0), (72, .if_icmp .ge 30, 0, 17), (75, .aload_n 0, 0, 0), (76, .getfield 25, 7, 4), (79, .iload_n 1, 0, 0), (80, .bipush 6, 0, 0), (82, .imul, 0, 0), (83, .iload 4, 0, 0), (85, .iadd, 0, 0), (86, .iconst 3, 0, 0), (87, .imul, 0, 0), (88, .iload 5, 0, 0), (90, .iadd, 0, 0), (91, .aload_n 3, 0, 0), (92, .iload 5, 0, 0), (94, .iaload, 0, 0), (95, .iastore, 0, 0), (96, .iinc 5 1, 0, 0), (99, .goto (-30), 1, 69), (102, .aload_n 0, 0, 0), (103, .getfield 18, 7, 2), (106, .iload_n 1, 0, 0), (107, .dup2, 0, 0), (108, .iaload, 0, 0), (109, .iconst 1, 0, 0), (110, .iadd, 0, 0), (111, .iastore, 0, 0), (112, .aload_n 0, 0, 0), (113, .dup, 0, 0), (114, .getfield 15, 7, 1), (117, .iconst 1, 0, 0), (118, .iadd, 0, 0), (119, .putfield 15, 7, 1), (122, .aload_n 0, 0, 0), (123, .invokevirtual 46, 62, 0), (126, .iload 4, 0, 0), (128, .ireturn, 1, 0)]
def tl_61 : List (Nat × List xI) := [(0, tr_61_0), (69, tr_61_69)]
def tr_62_0 : List xI := [(0, .iconst 0, 0, 0), (1, .istore_n 1, 0, 0), (2, .nop, 1, 0)]
def tr_62_2 : List xI := [(2, .iload_n 1, 0, 0), (3, .bipush 8, 0, 0), (5, .if_icmp .gt 30, 0, 3), (8, .iconst 1, 0, 0), (9, .istore_n 2, 0, 0), (10, .nop, 1, 0), (35, .return_, 0, 0)]
def tr_62_10 : List xI := [(10, .iload_n 2, 0, 0), (11, .aload_n 0, 0, 0), (12, .getfield 9, 7, 0), (15, .if_icmp .ge 14, 0, 5), (18, .aload_n 0, 0, 0), (19, .iload_n 2, 0, 0), (20, .invokevirtual 49, 63, 0), (23, .iinc 2 1, 0, 0), (26, .goto (-16), 1, 10), (29, .iinc 1 1, 0, 0), (32, .goto (-30), 1, 2)]
def tl_62 : List (Nat × List xI) := [(0, tr_62_0), (2, tr_62_2), (10, tr_62_10)]
def tr_63_0 : List xI := [(0, .iconst 0, 0, 0), (1, .istore_n 2, 0, 0), (2, .iconst 0, 0, 0), (3, .istore_n 3, 0, 0), (4, .nop, 1, 0)]
def tr_63_4 : List xI := [(4, .iload_n 3, 0, 0), (5, .aload_n 0, 0, 0), (6, .getfield 18, 7, 2), (9, .iload_n 1, 0, 0), (10, .iaload, 0, 0), (11, .if_icmp .ge 42, 0, 15), (14, .aload_n 0, 0, 0), (15, .iload_n 1, 0, 0), (16, .iload_n 3, 0, 0), (17, .invokevirtual 53, 64, 0), (20, .istore 4, 0, 0), (22, .iload 4, 0, 0), (24, .ifCond .le 23, 0, 6), (27, .iload_n 2, 0, 0), (28, .ifCond .eq 9, 1, 37), (31, .iload 4, 0, 0), (33, .iload_n 2, 0, 0), (34, .if_icmp .ge 13, 0, 1), (37, .nop, 1, 0), (47, .iinc 3 1, 0, 0), (50, .goto (-46), 1, 4), (53, .aload_n 0, 0, 0), (54, .getfield 28, 7, 5), (57, .iload_n 1, 0, 0), (58, .iload_n 2, 0, 0), (59, .iastore, 0, 0), (60, .return_, 0, 0)]
def tr_63_37 : List xI := [(37, .iload 4, 0, 0), (39, .istore_n 2, 0, 0), (40, .aload_n 0, 0, 0), (41, .getfield 31, 7, 6), (44, .iload_n 1, 0, 0), (45, .iload_n 3, 0, 0), (46, .iastore, 0, 0), (47, .iinc 3 1, 0, 0), (50, .goto (-46), 1, 4)]
def tl_63 : List (Nat × List xI) := [(0, tr_63_0), (4, tr_63_4), (37, tr_63_37)]
def tr_64_0 : List xI := [(0, .iconst 1, 0, 0), (1, .istore_n 3, 0, 0), (2, .iconst 0, 0, 0), (3, .istore 4, 0, 0), (5, .nop, 1, 0)]
def tr_64_5 : List xI := [(5, .iload 4, 0, 0), (7, .aload_n 0, 0, 0), (8, .iload_n 1, 0, 0), (9, .iload_n 2, 0, 0), (10, .invokevirtual 57, 56, 0), (13, .if_icmp .ge 36, 0, 19), (16, .aload_n 0, 0, 0), (17, .getfield 28, 7, 5), (20, .aload_n 0, 0, 0), (21, .iload_n 1, 0, 0), (22, .iload_n 2, 0, 0), (23, .iload 4, 0, 0), (25, .invokevirtual 60, 57, 0), (28, .iaload, 0, 0), (29, .istore 5, 0, 0), (31, .iload 5, 0, 0), (33, .ifCond .ne 5, 0, 2), (36, .iconst 0, 0, 0), (37, .ireturn, 1, 0), (38, .iload_n 3, 0, 0), (39, .iload 5, 0, 0), (41, .iadd, 0, 0), (42, .istore_n 3, 0, 0), (43, .iinc 4 1, 0, 0), (46, .goto (-41), 1, 5), (49, .iload_n 3, 0, 0), (50, .ireturn, 1, 0)]
def tl_64 : List (Nat × List xI) := [(0, tr_64_0), (5, tr_64_5)]
def tr_65_0 : List xI := [(0, .aload_n 0, 0, 0), (1, .invokespecial 3, 1000, 0), (4, .aload_n 0, 0, 0), (5, .bipush 16, 0, 0), (7, .newarray .int, 1, 0), (9, .putfield 9, 38, 1), (12, .aload_n 0, 0, 0), (13, .iconst 0, 0, 0), (14, .putfield 15, 38, 2), (17, .aload_n 0, 0, 0), (18, .iconst 0, 0, 0), (19, .putfield 19, 38, 3), (22, .aload_n 0, 0, 0), (23, .sipush 360, 0, 0), (26, .newarray .int, 1, 0), (28, .putfield 24, 38, 4), (31, .aload_n 0, 0, 0), (32, .aload_n 1, 0, 0), (33, .putfield 27, 38, 0), (36, .aload_n 0, 0, 0), (37, .getfield 9, 38, 1), (40, .iconst (-1), 0, 0), (41, .invokestatic 31, 160, 0), (44, .nop, 2, 8), (44, .return_, 0, 0)]
def tl_65 : List (Nat × List xI) := [(0, tr_65_0)]
def tr_66_0 : List xI := [(0, .aload_n 0, 0, 0), (1, .getfield 9, 8, 1), (4, .iconst (-1), 0, 0), (5, .invokestatic 31, 160, 0), (8, .aload_n 0, 0, 0), (9, .iconst 0, 0, 0), (10, .putfield 15, 8, 2), (13, .aload_n 0, 0, 0), (14, .iconst 0, 0, 0), (15, .putfield 19, 8, 3), (18, .return_, 0, 0)]
def tl_66 : List (Nat × List xI) := [(0, tr_66_0)]
def tr_67_0 : List xI := [(0, .aload_n 0, 0, 0), (1, .invokevirtual 37, 66, 0), (4, .aload_n 2, 0, 0), (5, .iconst 0, 0, 0), (6, .aload_n 0, 0, 0), (7, .getfield 24, 8, 4), (10, .iconst 0, 0, 0), (11, .aload_n 1, 0, 0), (12, .getfield 40, 3, 0), (15, .invokestatic 45, 1001, 0), (18, .aload_n 1, 0, 0), (19, .getfield 51, 3, 6), (22, .astore_n 3, 0, 0), (23, .iconst 0, 0, 0), (24, .istore 4, 0, 0), (26, .iconst 0, 0, 0), (27, .istore 5, 0, 0), (29, .nop, 1, 0)]
def tr_67_29 : List xI := [(29, .iload 5, 0, 0), (31, .bipush 120, 0, 0), (33, .if_icmp .ge 97, 0, 42), (36, .aload_n 3, 0, 0), (37, .getfield 55, 6, 7), (40, .iload 4, 0, 0), (42, .iaload, 0, 0), (43, .iconst 3, 0, 0), (44, .if_icmp .eq 86, 0, 36), (47, .aload_n 3, 0, 0), (48, .getfield 55, 6, 7), (51, .iload 4, 0, 0), (53, .iaload, 0, 0), (54, .ifCond .ne 25, 0, 12), (57, .aload_n 0, 0, 0), (58, .dup, 0, 0), (59, .getfield 15, 8, 2), (62, .iconst 1, 0, 0), (63, .iadd, 0, 0), (64, .putfield 15, 8, 2), (67, .aload_n 0, 0, 0), (68, .aload_n 3, 0, 0), (69, .iload 4, 0, 0), (71, .invokevirtual 58, 68, 0), (74, .istore 4, 0, 0), (76, .goto 48, 0, 17), (79, .aload_n 3, 0, 0), (80, .getfield 55, 6, 7), (83, .iload 4, 0, 0), (85, .iaload, 0, 0), (86, .iconst 2, 0, 0), (87, .if_icmp .eq 13, 1, 100), (90, .aload_n 0, 0, 0), (91, .aload_n 1, 0, 0), (92, .iload 4, 0, 0), (94, .invokevirtual 62, 70, 0), (97, .ifCond .eq 18, 0, 1), (100, .nop, 1, 0), (115, .aload_n 3, 0, 0), (116, .getfield 73, 6, 11), (119, .iload 4, 0, 0), (121, .iaload, 0, 0), (122, .istore 4, 0, 0), (124, .iinc 5 1, 0, 0), (127, .goto (-98), 1, 29), (130, .iconst (-1), 0, 0), (131, .ireturn, 1, 0)]
def tr_67_100 : List xI := [(100, .aload_n 0, 0, 0), (101, .aload_n 3, 0, 0), (102, .iload 4, 0, 0), (104, .invokevirtual 66, 71, 0), (107, .aload_n 3, 0, 0), (108, .getfield 70, 6, 8), (111, .iload 4, 0, 0), (113, .iaload, 0, 0), (114, .ireturn, 1, 0)]
def tl_67 : List (Nat × List xI) := [(0, tr_67_0), (29, tr_67_29), (100, tr_67_100)]
def tr_68_0 : List xI := [(0, .aload_n 0, 0, 0), (1, .getfield 24, 8, 4), (4, .aload_n 1, 0, 0), (5, .getfield 76, 6, 9), (8, .iload_n 2, 0, 0), (9, .iaload, 0, 0), (10, .iaload, 0, 0), (11, .istore_n 3, 0, 0), (12, .aload_n 1, 0, 0), (13, .getfield 73, 6, 11), (16, .iload_n 2, 0, 0), (17, .iaload, 0, 0), (18, .istore 4, 0, 0), (20, .iload 4, 0, 0), (22, .aload_n 1, 0, 0), (23, .getfield 79, 6, 12), (26, .iload_n 2, 0, 0), (27, .iaload, 0, 0), (28, .iadd, 0, 0), (29, .iconst 1, 0, 0), (30, .isub, 0, 0), (31, .istore 5, 0, 0), (33, .nop, 1, 0)]
def tr_68_33 : List xI := [(33, .iload 4, 0, 0), (35, .iload 5, 0, 0), (37, .if_icmp .ge 28, 1, 65), (40, .aload_n 1, 0, 0), (41, .getfield 82, 6, 13), (44, .iload 4, 0, 0), (46, .iaload, 0, 0), (47, .aload_n 0, 0, 0), (48, .getfield 27, 8, 0), (51, .getfield 85, 5, 4), (54, .iload_n 3, 0, 0), (55, .iaload, 0, 0), (56, .if_icmp .eq 9, 1, 65), (59, .iinc 4 1, 0, 0), (62, .goto (-29), 1, 33)]
def tr_68_65 : List xI := [(65, .aload_n 1, 0, 0), (66, .getfield 88, 6, 14), (69, .iload 4, 0, 0), (71, .baload, 0, 0), (72, .ifCond .ne 15, 0, 7), (75, .aload_n 0, 0, 0), (76, .iload_n 3, 0, 0), (77, .aload_n 1, 0, 0), (78, .getfield 92, 6, 15), (81, .iload 4, 0, 0), (83, .iaload, 0, 0), (84, .invokevirtual 95, 69, 0), (87, .iload 4, 0, 0), (89, .ireturn, 1, 0)]
def tl_68 : List (Nat × List xI) := [(0, tr_68_0), (33, tr_68_33), (65, tr_68_65)]
def tr_69_0 : List xI := [(0, .iconst 0, 0, 0), (1, .istore_n 3, 0, 0), (2, .nop, 1, 0)]
def tr_69_2 : List xI := [(2, .iload_n 3, 0, 0), (3, .aload_n 0, 0, 0), (4, .getfield 27, 8, 0), (7, .getfield 99, 5, 6), (10, .iload_n 1, 0, 0), (11, .iaload, 0, 0), (12, .if_icmp .ge 26, 0, 13), (15, .aload_n 0, 0, 0), (16, .getfield 24, 8, 4), (19, .iload_n 2, 0, 0), (20, .iload_n 3, 0, 0), (21, .iadd, 0, 0), (22, .aload_n 0, 0, 0), (23, .getfield 27, 8, 0), (26, .iload_n 1, 0, 0), (27, .iload_n 3, 0, 0), (28, .invokevirtual 102, 44, 0), (31, .iastore, 0, 0), (32, .iinc 3 1, 0, 0), (35, .goto (-33), 1, 2), (38, .return_, 0, 0)]
def tl_69 : List (Nat × List xI) := [(0, tr_69_0), (2, tr_69_2)]
def tr_70_0 : List xI := [(0, .aload_n 0, 0, 0), (1, .dup, 0, 0), (2, .getfield 19, 8, 3), (5, .iconst 1, 0, 0), (6, .iadd, 0, 0), (7, .putfield 19, 8, 3), (10, .aload_n 1, 0, 0), (11, .getfield 51, 3, 6), (14, .getfield 70, 6, 8), (17, .iload_n 2, 0, 0), (18, .iaload, 0, 0), (19, .istore_n 3, 0, 0), (20, .aload_n 1, 0, 0), (21, .getfield 51, 3, 6), (24, .iload_n 2, 0, 0), (25, .aload_n 1, 0, 0), (26, .getfield 106, 3, 4), (29, .iload_n 3, 0, 0), (30, .iaload, 0, 0), (31, .invokevirtual 109, 52, 0), (34, .istore 4, 0, 0), (36, .aload_n 1, 0, 0), (37, .getfield 51, 3, 6), (40, .iload_n 2, 0, 0), (41, .aload_n 1, 0, 0), (42, .getfield 112, 3, 5), (45, .iload_n 3, 0, 0), (46, .iaload, 0, 0), (47, .invokevirtual 109, 52, 0), (50, .istore 5, 0, 0), (52, .iload 4, 0, 0), (54, .iconst (-1), 0, 0), (55, .if_icmp .eq 46, 0, 22), (58, .iload 5, 0, 0), (60, .iconst (-1), 0, 0), (61, .if_icmp .eq 40, 0, 19), (64, .aload_n 0, 0, 0), (65, .getfield 27, 8, 0), (68, .getfield 85, 5, 4), (71, .aload_n 0, 0, 0), (72, .getfield 24, 8, 4), (75, .iload 4, 0, 0), (77, .iaload, 0, 0), (78, .iaload, 0, 0), (79, .aload_n 0, 0, 0), (80, .getfield 27, 8, 0), (83, .getfield 85, 5, 4), (86, .aload_n 0, 0, 0), (87, .getfield 24, 8, 4), (90, .iload 5, 0, 0), (92, .iaload, 0, 0), (93, .iaload, 0, 0), (94, .if_icmp .ge 7, 0, 2), (97, .iconst 1, 0, 0), (98, .goto 4, 0, 1), (101, .iconst 0, 0, 0), (102, .ireturn, 2, 0)]
def tl_70 : List (Nat × List xI) := [(0, tr_70_0)]
def tr_71_0 : List xI := [(0, .iconst 0, 0, 0), (1, .istore_n 3, 0, 0), (2, .nop, 1, 0)]
def tr_71_2 : List xI := [(2, .iload_n 3, 0, 0), (3, .bipush 16, 0, 0), (5, .if_icmp .ge 36, 0, 18), (8, .aload_n 1, 0, 0), (9, .iload_n 2, 0, 0), (10, .iload_n 3, 0, 0), (11, .invokevirtual 109, 52, 0), (14, .istore 4, 0, 0), (16, .iload 4, 0, 0), (18, .iconst (-1), 0, 0), (19, .if_icmp .eq 16, 0, 8), (22, .aload_n 0, 0, 0), (23, .getfield 9, 8, 1), (26, .iload_n 3, 0, 0), (27, .aload_n 0, 0, 0), (28, .getfield 24, 8, 4), (31, .iload 4, 0, 0), (33, .iaload, 0, 0), (34, .iastore, 0, 0), (35, .iinc 3 1, 0, 0), (38, .goto (-36), 1, 2), (41, .return_, 0, 0)]
def tl_71 : List (Nat × List xI) := [(0, tr_71_0), (2, tr_71_2)]
def tr_72_0 : List xI := [(0, .aload_n 0, 0, 0), (1, .invokespecial 1, 1000, 0), (4, .new 7, 37, 0), (7, .dup, 0, 0), (8, .invokespecial 9, 53, 0), (11, .astore_n 1, 0, 0), (12, .new 10, 35, 0), (15, .dup, 0, 0), (16, .bipush 100, 0, 0), (18, .invokespecial 14, 38, 0), (21, .astore_n 2, 0, 0), (22, .new 10, 35, 0), (25, .dup, 0, 0), (26, .bipush 40, 0, 0), (28, .invokespecial 14, 38, 0), (31, .astore_n 3, 0, 0), (32, .aload_n 0, 0, 0), (33, .aload_n 1, 0, 0), (34, .putfield 17, 39, 0), (37, .aload_n 0, 0, 0), (38, .aload_n 2, 0, 0), (39, .putfield 21, 39, 1), (42, .aload_n 0, 0, 0), (43, .aload_n 3, 0, 0), (44, .putfield 25, 39, 2), (47, .aload_n 0, 0, 0), (48, .bipush 20, 0, 0), (50, .anewarray 28, 0, 0), (53, .putfield 30, 39, 3), (56, .aload_n 0, 0, 0), (57, .iconst 0, 0, 0), (58, .putfield 34, 39, 4), (61, .aload_n 0, 0, 0), (62, .new 38, 30, 0), (65, .dup, 0, 0), (66, .aload_n 1, 0, 0), (67, .aload_n 3, 0, 0), (68, .invokespecial 40, 0, 0), (71, .putfield 43, 39, 5), (74, .aload_n 0, 0, 0), (75, .new 47, 38, 0), (78, .dup, 0, 0), (79, .aload_n 2, 0, 0), (80, .invokespecial 49, 65, 0), (83, .putfield 52, 39, 6), (86, .aload_n 0, 0, 0), (87, .new 47, 38, 0), (90, .dup, 0, 0), (91, .aload_n 2, 0, 0), (92, .invokespecial 49, 65, 0), (95, .putfield 56, 39, 7), (98, .aload_n 0, 0, 0), (99, .new 59, 32, 0), (102, .dup, 0, 0), (103, .aload_n 3, 0, 0), (104, .aload_n 2, 0, 0), (105, .invokespecial 61, 23, 0), (108, .putfield 64, 39, 8), (111, .aload_n 0, 0, 0), (112, .new 68, 34, 0), (115, .dup, 0, 0), (116, .aload_n 1, 0, 0), (117, .invokespecial 70, 34, 0), (120, .putfield 73, 39, 9), (123, .aload_n 0, 0, 0), (124, .iconst 3, 0, 0), (125, .newarray .int, 1, 0), (127, .putfield 77, 39, 10), (130, .nop, 2, 9), (130, .return_, 0, 0)]
def tl_72 : List (Nat × List xI) := [(0, tr_72_0)]
def tr_73_0 : List xI := [(0, .aload_n 0, 0, 0), (1, .getfield 17, 9, 0), (4, .invokevirtual 81, 60, 0), (7, .ireturn, 1, 0)]
def tl_73 : List (Nat × List xI) := [(0, tr_73_0)]
def tr_74_0 : List xI := [(0, .aload_n 0, 0, 0), (1, .getfield 21, 9, 1), (4, .getfield 85, 5, 1), (7, .ifCond .gt 20, 0, 7), (10, .aload_n 0, 0, 0), (11, .getfield 25, 9, 2), (14, .getfield 85, 5, 1), (17, .ifCond .gt 10, 0, 3), (20, .aload_n 0, 0, 0), (21, .getfield 34, 9, 4), (24, .ifCond .le 5, 0, 2), (27, .iconst (-1), 0, 0), (28, .ireturn, 1, 0), (29, .aload_n 0, 0, 0), (30, .iload_n 3, 0, 0), (31, .iload 4, 0, 0), (33, .iload 5, 0, 0), (35, .invokevirtual 88, 92, 0), (38, .aload_n 0, 0, 0), (39, .getfield 17, 9, 0), (42, .iload_n 1, 0, 0), (43, .iload_n 2, 0, 0), (44, .aload_n 0, 0, 0), (45, .getfield 77, 9, 10), (48, .invokevirtual 92, 61, 0), (51, .ireturn, 1, 0)]
def tl_74 : List (Nat × List xI) := [(0, tr_74_0)]
def tr_75_0 : List xI := [(0, .aload_n 0, 0, 0), (1, .getfield 21, 9, 1), (4, .iconst 3, 0, 0), (5, .iconst 0, 0, 0), (6, .iload_n 1, 0, 0), (7, .aload_n 0, 0, 0), (8, .getfield 77, 9, 10), (11, .iconst 0, 0, 0), (12, .invokevirtual 96, 45, 0), (15, .ireturn, 1, 0)]
def tl_75 : List (Nat × List xI) := [(0, tr_75_0)]
def tr_76_0 : List xI := [(0, .aload_n 0, 0, 0), (1, .iload_n 3, 0, 0), (2, .iload 4, 0, 0), (4, .iload 5, 0, 0), (6, .invokevirtual 88, 92, 0), (9, .aload_n 0, 0, 0), (10, .aload_n 0, 0, 0), (11, .getfield 21, 9, 1), (14, .iload_n 1, 0, 0), (15, .iload_n 2, 0, 0), (16, .invokevirtual 100, 93, 0), (19, .ireturn, 1, 0)]
def tl_76 : List (Nat × List xI) := [(0, tr_76_0)]
def tr_77_0 : List xI := [(0, .aload_n 0, 0, 0), (1, .getfield 17, 9, 0), (4, .iload_n 1, 0, 0), (5, .invokevirtual 104, 54, 0), (8, .ifCond .ne 5, 0, 2), (11, .iconst (-1), 0, 0), (12, .ireturn, 1, 0), (13, .iload_n 2, 0, 0), (14, .iconst (-1), 0, 0), (15, .if_icmp .ne 19, 0, 10), (18, .aload_n 0, 0, 0), (19, .getfield 25, 9, 2), (22, .iconst 0, 0, 0), (23, .iload_n 1, 0, 0), (24, .iconst (-1), 0, 0), (25, .aload_n 0, 0, 0), (26, .getfield 77, 9, 10), (29, .iconst 0, 0, 0), (30, .invokevirtual 96, 45, 0), (33, .ireturn, 1, 0), (34, .iload_n 2, 0, 0), (35, .invokestatic 108, 95, 0), (38, .ifCond .eq 21, 0, 10), (41, .aload_n 0, 0, 0), (42, .getfield 25, 9, 2), (45, .iconst 1, 0, 0), (46, .iload_n 1, 0, 0), (47, .iload_n 2, 0, 0), (48, .aload_n 0, 0, 0), (49, .getfield 77, 9, 10), (52, .iconst 0, 0, 0), (53, .invokevirtual 96, 45, 0), (56, .goto 4, 0, 1), (59, .iconst (-1), 0, 0), (60, .ireturn, 1, 0)]
def tl_77 : List (Nat × List xI) := [(0, tr_77_0)]
def tr_78_0 : List xI := [(0, .iload_n 1, 0, 0), (1, .invokestatic 108, 95, 0), (4, .ifCond .eq 30, 0, 13), (7, .aload_n 0, 0, 0), (8, .getfield 25, 9, 2), (11, .iload_n 2, 0, 0), (12, .invokevirtual 111, 39, 0), (15, .ifCond .eq 19, 0, 8), (18, .aload_n 0, 0, 0), (19, .getfield 25, 9, 2), (22, .getfield 114, 5, 8), (25, .iload_n 2, 0, 0), (26, .iaload, 0, 0), (27, .iload_n 1, 0, 0), (28, .invokestatic 117, 96, 0), (31, .ifCond .eq 5, 0, 2), (34, .iconst (-1), 0, 0), (35, .ireturn, 1, 0), (36, .aload_n 0, 0, 0), (37, .iload_n 2, 0, 0), (38, .iconst (-1), 0, 0), (39, .iconst (-1), 0, 0), (40, .invokevirtual 88, 92, 0), (43, .aload_n 0, 0, 0), (44, .getfield 25, 9, 2), (47, .iconst 2, 0, 0), (48, .aload_n 0, 0, 0), (49, .getfield 25, 9, 2), (52, .getfield 121, 5, 3), (55, .iload_n 2, 0, 0), (56, .iaload, 0, 0), (57, .iload_n 1, 0, 0), (58, .aload_n 0, 0, 0), (59, .getfield 77, 9, 10), (62, .iconst 1, 0, 0), (63, .invokevirtual 96, 45, 0), (66, .ireturn, 1, 0)]
def tl_78 : List (Nat × List xI) := [(0, tr_78_0)]
def tr_79_0 : List xI := [(0, .aload_n 0, 0, 0), (1, .getfield 25, 9, 2), (4, .iconst 3, 0, 0), (5, .iconst 0, 0, 0), (6, .iload_n 1, 0, 0), (7, .aload_n 0, 0, 0), (8, .getfield 77, 9, 10), (11, .iconst 0, 0, 0), (12, .invokevirtual 96, 45, 0), (15, .ireturn, 1, 0)]
def tl_79 : List (Nat × List xI) := [(0, tr_79_0)]
def tr_80_0 : List xI := [(0, .aload_n 0, 0, 0), (1, .iload_n 3, 0, 0), (2, .iload 4, 0, 0), (4, .iload 5, 0, 0), (6, .invokevirtual 88, 92, 0), (9, .aload_n 0, 0, 0), (10, .aload_n 0, 0, 0), (11, .getfield 25, 9, 2), (14, .iload_n 1, 0, 0), (15, .iload_n 2, 0, 0), (16, .invokevirtual 100, 93, 0), (19, .ireturn, 1, 0)]
def tl_80 : List (Nat × List xI) := [(0, tr_80_0)]
def tr_81_0 : List xI := [(0, .aload_n 0, 0, 0), (1, .getfield 25, 9, 2), (4, .iload_n 1, 0, 0), (5, .invokevirtual 111, 39, 0), (8, .ifCond .eq 26, 0, 11), (11, .aload_n 0, 0, 0), (12, .getfield 25, 9, 2), (15, .iload_n 2, 0, 0), (16, .invokevirtual 111, 39, 0), (19, .ifCond .eq 15, 0, 6), (22, .aload_n 0, 0, 0), (23, .getfield 25, 9, 2), (26, .iload_n 1, 0, 0), (27, .iload_n 2, 0, 0), (28, .invokevirtual 124, 42, 0), (31, .ifCond .ne 5, 0, 2), (34, .iconst (-1), 0, 0), (35, .ireturn, 1, 0), (36, .aload_n 0, 0, 0), (37, .iload_n 1, 0, 0), (38, .iload_n 2, 0, 0), (39, .iconst (-1), 0, 0), (40, .invokevirtual 88, 92, 0), (43, .aload_n 0, 0, 0), (44, .getfield 25, 9, 2), (47, .iconst 5, 0, 0), (48, .aload_n 0, 0, 0), (49, .getfield 25, 9, 2), (52, .getfield 121, 5, 3), (55, .iload_n 1, 0, 0), (56, .iaload, 0, 0), (57, .iconst (-1), 0, 0), (58, .aload_n 0, 0, 0), (59, .getfield 77, 9, 10), (62, .iconst 2, 0, 0), (63, .invokevirtual 96, 45, 0), (66, .ireturn, 1, 0)]
def tl_81 : List (Nat × List xI) := [(0, tr_81_0)]
def tr_82_0 : List xI := [(0, .aload_n 0, 0, 0), (1, .iload_n 2, 0, 0), (2, .iload_n 3, 0, 0), (3, .iload 4, 0, 0), (5, .invokevirtual 88, 92, 0), (8, .iload_n 1, 0, 0), (9, .iconst 1, 0, 0), (10, .if_icmp .lt 17, 0, 7), (13, .iload_n 1, 0, 0), (14, .iconst 3, 0, 0), (15, .if_icmp .gt 12, 0, 4), (18, .aload_n 0, 0, 0), (19, .getfield 34, 9, 4), (22, .bipush 20, 0, 0), (24, .if_icmp .ne 5, 0, 2), (27, .iconst (-1), 0, 0), (28, .ireturn, 1, 0), (29, .aload_n 0, 0, 0), (30, .getfield 17, 9, 0), (33, .aload_n 0, 0, 0), (34, .getfield 77, 9, 10), (37, .iload_n 1, 0, 0), (38, .invokevirtual 127, 58, 0), (41, .ifCond .eq 13, 0, 4), (44, .aload_n 0, 0, 0), (45, .getfield 17, 9, 0), (48, .invokevirtual 131, 59, 0), (51, .ifCond .ne 5, 0, 2), (54, .iconst (-1), 0, 0), (55, .ireturn, 1, 0), (56, .aload_n 0, 0, 0), (57, .getfield 30, 9, 3), (60, .aload_n 0, 0, 0), (61, .getfield 34, 9, 4), (64, .new 28, 33, 0), (67, .dup, 0, 0), (68, .iload_n 1, 0, 0), (69, .aload_n 0, 0, 0), (70, .getfield 77, 9, 10), (73, .invokespecial 135, 29, 0), (76, .aastore, 3, 0), (77, .aload_n 0, 0, 0), (78, .dup, 0, 0), (79, .getfield 34, 9, 4), (82, .iconst 1, 0, 0), (83, .iadd, 0, 0), (84, .putfield 34, 9, 4), (87, .aload_n 0, 0, 0), (88, .getfield 34, 9, 4), (91, .iconst 1, 0, 0), (92, .isub, 0, 0), (93, .ireturn, 1, 0)]
def tl_82 : List (Nat × List xI) := [(0, tr_82_0)]
def tr_83_0 : List xI := [(0, .aload_n 0, 0, 0), (1, .iload_n 1, 0, 0), (2, .invokevirtual 138, 94, 0), (5, .ifCond .ne 5, 0, 2), (8, .iconst (-1), 0, 0), (9, .ireturn, 1, 0), (10, .aload_n 0, 0, 0), (11, .iload_n 2, 0, 0), (12, .iload_n 3, 0, 0), (13, .iload 4, 0, 0), (15, .invokevirtual 88, 92, 0), (18, .aload_n 0, 0, 0), (19, .getfield 30, 9, 3), (22, .iload_n 1, 0, 0), (23, .aaload, 0, 0), (24, .astore 7, 0, 0), (26, .aload_n 0, 0, 0), (27, .getfield 25, 9, 2), (30, .aload 7, 0, 0), (32, .getfield 141, 3, 1), (35, .aload_n 0, 0, 0), (36, .getfield 77, 9, 10), (39, .aload 7, 0, 0), (41, .getfield 143, 3, 0), (44, .invokevirtual 146, 41, 0), (47, .ifCond .ne 5, 0, 2), (50, .iconst (-1), 0, 0), (51, .ireturn, 1, 0), (52, .aload_n 0, 0, 0), (53, .getfield 25, 9, 2), (56, .aload_n 0, 0, 0), (57, .getfield 77, 9, 10), (60, .aload 7, 0, 0), (62, .getfield 143, 3, 0), (65, .invokevirtual 150, 43, 0), (68, .ifCond .ne 5, 0, 2), (71, .iconst (-1), 0, 0), (72, .ireturn, 1, 0), (73, .iload 5, 0, 0), (75, .iconst (-1), 0, 0), (76, .if_icmp .eq 21, 1, 97), (79, .aload_n 0, 0, 0), (80, .iload 5, 0, 0), (82, .iload 6, 0, 0), (84, .aload 7, 0, 0), (86, .getfield 143, 3, 0), (89, .invokevirtual 153, 97, 0), (92, .ifCond .ne 5, 1, 97), (95, .iconst (-1), 0, 0), (96, .ireturn, 1, 0)]
def tr_83_97 : List xI := [(97, .aload 7, 0, 0), (99, .aload_n 0, 0, 0), (100, .getfield 77, 9, 10), (103, .iload 5, 0, 0), (105, .iload 6, 0, 0), (107, .invokevirtual 157, 30, 0), (110, .ireturn, 1, 0)]
def tl_83 : List (Nat × List xI) := [(0, tr_83_0), (97, tr_83_97)]
def tr_84_0 : List xI := [(0, .aload_n 0, 0, 0), (1, .iload_n 2, 0, 0), (2, .iload_n 3, 0, 0), (3, .iload 4, 0, 0), (5, .invokevirtual 88, 92, 0), (8, .aload_n 0, 0, 0), (9, .iload_n 1, 0, 0), (10, .invokevirtual 138, 94, 0), (13, .ifCond .eq 35, 0, 16), (16, .aload_n 0, 0, 0), (17, .getfield 21, 9, 1), (20, .aload_n 0, 0, 0), (21, .getfield 30, 9, 3), (24, .iload_n 1, 0, 0), (25, .aaload, 0, 0), (26, .getfield 141, 3, 1), (29, .aload_n 0, 0, 0), (30, .getfield 77, 9, 10), (33, .aload_n 0, 0, 0), (34, .getfield 30, 9, 3), (37, .iload_n 1, 0, 0), (38, .aaload, 0, 0), (39, .getfield 143, 3, 0), (42, .invokevirtual 146, 41, 0), (45, .ifCond .ne 12, 0, 5), (48, .aload_n 0, 0, 0), (49, .getfield 52, 9, 6), (52, .invokevirtual 161, 66, 0), (55, .iconst (-1), 0, 0), (56, .ireturn, 1, 0), (57, .aload_n 0, 0, 0), (58, .getfield 43, 9, 5), (61, .aload_n 0, 0, 0), (62, .getfield 30, 9, 3), (65, .iload_n 1, 0, 0), (66, .aaload, 0, 0), (67, .invokevirtual 164, 1, 0), (70, .ifCond .ne 6, 0, 2), (73, .bipush (-2), 0, 0), (75, .ireturn, 1, 0), (76, .aload_n 0, 0, 0), (77, .getfield 52, 9, 6), (80, .aload_n 0, 0, 0), (81, .getfield 30, 9, 3), (84, .iload_n 1, 0, 0), (85, .aaload, 0, 0), (86, .aload_n 0, 0, 0), (87, .getfield 77, 9, 10), (90, .invokevirtual 168, 67, 0), (93, .ireturn, 1, 0)]
def tl_84 : List (Nat × List xI) := [(0, tr_84_0)]
def tr_85_0 : List xI := [(0, .iload_n 1, 0, 0), (1, .invokestatic 108, 95, 0), (4, .ifCond .eq 13, 0, 6), (7, .aload_n 0, 0, 0), (8, .getfield 52, 9, 6), (11, .getfield 172, 8, 1), (14, .iload_n 1, 0, 0), (15, .iaload, 0, 0), (16, .ireturn, 1, 0), (17, .iload_n 1, 0, 0), (18, .bipush 16, 0, 0), (20, .if_icmp .ne 11, 0, 4), (23, .aload_n 0, 0, 0), (24, .getfield 52, 9, 6), (27, .getfield 175, 8, 2), (30, .ireturn, 1, 0), (31, .iload_n 1, 0, 0), (32, .bipush 17, 0, 0), (34, .if_icmp .ne 13, 0, 4), (37, .aload_n 0, 0, 0), (38, .getfield 52, 9, 6), (41, .getfield 178, 8, 3), (44, .goto 4, 0, 1), (47, .iconst (-1), 0, 0), (48, .ireturn, 1, 0)]
def tl_85 : List (Nat × List xI) := [(0, tr_85_0)]
def tr_86_0 : List xI := [(0, .aload_n 0, 0, 0), (1, .iload_n 1, 0, 0), (2, .invokevirtual 138, 94, 0), (5, .ifCond .eq 12, 0, 5), (8, .iload_n 2, 0, 0), (9, .ifCond .lt 8, 0, 3), (12, .iload_n 2, 0, 0), (13, .iconst 4, 0, 0), (14, .if_icmp .le 5, 0, 2), (17, .iconst (-1), 0, 0), (18, .ireturn, 1, 0), (19, .aload_n 0, 0, 0), (20, .getfield 43, 9, 5), (23, .aload_n 0, 0, 0), (24, .getfield 30, 9, 3), (27, .iload_n 1, 0, 0), (28, .aaload, 0, 0), (29, .invokevirtual 164, 1, 0), (32, .ifCond .ne 6, 0, 2), (35, .bipush (-2), 0, 0), (37, .ireturn, 1, 0), (38, .aload_n 0, 0, 0), (39, .getfield 30, 9, 3), (42, .iload_n 1, 0, 0), (43, .aaload, 0, 0), (44, .getfield 183, 3, 6), (47, .astore_n 3, 0, 0), (48, .iload_n 2, 0, 0), (49, .iconst 4, 0, 0), (50, .if_icmp .ne 10, 0, 3), (53, .aload_n 3, 0, 0), (54, .getfield 187, 6, 2), (57, .goto 9, 0, 4), (60, .aload_n 3, 0, 0), (61, .getfield 190, 6, 5), (64, .iload_n 2, 0, 0), (65, .iaload, 0, 0), (66, .ireturn, 1, 0)]
def tl_86 : List (Nat × List xI) := [(0, tr_86_0)]
def tr_87_0 : List xI := [(0, .aload_n 0, 0, 0), (1, .iload_n 1, 0, 0), (2, .invokevirtual 138, 94, 0), (5, .ifCond .ne 5, 0, 2), (8, .iconst (-1), 0, 0), (9, .ireturn, 1, 0), (10, .aload_n 0, 0, 0), (11, .getfield 43, 9, 5), (14, .aload_n 0, 0, 0), (15, .getfield 30, 9, 3), (18, .iload_n 1, 0, 0), (19, .aaload, 0, 0), (20, .invokevirtual 164, 1, 0), (23, .ifCond .eq 19, 0, 8), (26, .aload_n 0, 0, 0), (27, .getfield 73, 9, 9), (30, .aload_n 0, 0, 0), (31, .getfield 30, 9, 3), (34, .iload_n 1, 0, 0), (35, .aaload, 0, 0), (36, .invokevirtual 193, 35, 0), (39, .goto 5, 0, 1), (42, .bipush (-2), 0, 0), (44, .ireturn, 1, 0)]
def tl_87 : List (Nat × List xI) := [(0, tr_87_0)]
def tr_88_0 : List xI := [(0, .iload_n 1, 0, 0), (1, .ifCond .lt 26, 0, 11), (4, .iload_n 1, 0, 0), (5, .aload_n 0, 0, 0), (6, .getfield 73, 9, 9), (9, .getfield 197, 4, 3), (12, .if_icmp .ge 15, 0, 6), (15, .aload_n 0, 0, 0), (16, .getfield 73, 9, 9), (19, .getfield 198, 4, 1), (22, .iload_n 1, 0, 0), (23, .iaload, 0, 0), (24, .goto 4, 0, 1), (27, .iconst (-1), 0, 0), (28, .ireturn, 1, 0)]
def tl_88 : List (Nat × List xI) := [(0, tr_88_0)]
def tr_89_0 : List xI := [(0, .aload_n 0, 0, 0), (1, .getfield 17, 9, 0), (4, .iload_n 1, 0, 0), (5, .invokevirtual 104, 54, 0), (8, .ifCond .eq 15, 0, 6), (11, .aload_n 0, 0, 0), (12, .getfield 17, 9, 0), (15, .getfield 201, 7, 5), (18, .iload_n 1, 0, 0), (19, .iaload, 0, 0), (20, .goto 4, 0, 1), (23, .iconst (-1), 0, 0), (24, .ireturn, 1, 0)]
def tl_89 : List (Nat × List xI) := [(0, tr_89_0)]
def tr_90_0 : List xI := [(0, .iload_n 1, 0, 0), (1, .tableswitch 81 0 5 #[39, 47, 55, 63, 71, 76], 0, 39)]
def tr_90_40 : List xI := [(40, .aload_n 0, 0, 0), (41, .getfield 17, 9, 0), (44, .getfield 204, 7, 0), (47, .ireturn, 1, 0)]
def tr_90_48 : List xI := [(48, .aload_n 0, 0, 0), (49, .getfield 17, 9, 0), (52, .getfield 205, 7, 1), (55, .ireturn, 1, 0)]
def tr_90_56 : List xI := [(56, .aload_n 0, 0, 0), (57, .getfield 21, 9, 1), (60, .getfield 85, 5, 1), (63, .ireturn, 1, 0)]
def tr_90_64 : List xI := [(64, .aload_n 0, 0, 0), (65, .getfield 25, 9, 2), (68, .getfield 85, 5, 1), (71, .ireturn, 1, 0)]
def tr_90_72 : List xI := [(72, .aload_n 0, 0, 0), (73, .getfield 34, 9, 4), (76, .ireturn, 1, 0)]
def tr_90_77 : List xI := [(77, .aload_n 0, 0, 0), (78, .invokevirtual 208, 98, 0), (81, .ireturn, 1, 0)]
def tr_90_82 : List xI := [(82, .iconst (-1), 0, 0), (83, .ireturn, 1, 0)]
def tl_90 : List (Nat × List xI) := [(0, tr_90_0), (40, tr_90_40), (48, tr_90_48), (56, tr_90_56), (64, tr_90_64), (72, tr_90_72), (77, tr_90_77), (82, tr_90_82)]
def tr_91_0 : List xI := [(0, .iconst 0, 0, 0), (1, .istore_n 1, 0, 0), (2, .nop, 1, 0)]
def tr_91_2 : List xI := [(2, .iload_n 1, 0, 0), (3, .aload_n 0, 0, 0), (4, .getfield 34, 9, 4), (7, .if_icmp .ge 44, 0, 21), (10, .aload_n 0, 0, 0), (11, .getfield 30, 9, 3), (14, .iload_n 1, 0, 0), (15, .aaload, 0, 0), (16, .astore_n 2, 0, 0), (17, .aload_n 2, 0, 0), (18, .invokevirtual 211, 33, 0), (21, .ifCond .eq 24, 0, 11), (24, .aload_n 0, 0, 0), (25, .getfield 43, 9, 5), (28, .aload_n 2, 0, 0), (29, .invokevirtual 164, 1, 0), (32, .ifCond .eq 13, 0, 6), (35, .aload_n 0, 0, 0), (36, .aload_n 2, 0, 0), (37, .invokevirtual 214, 99, 0), (40, .ifCond .ne 5, 0, 2), (43, .iconst 0, 0, 0), (44, .ireturn, 1, 0), (45, .iinc 1 1, 0, 0), (48, .goto (-46), 1, 2), (51, .iconst 1, 0, 0), (52, .ireturn, 1, 0)]
def tl_91 : List (Nat × List xI) := [(0, tr_91_0), (2, tr_91_2)]
def tr_92_0 : List xI := [(0, .aload_n 0, 0, 0), (1, .getfield 77, 9, 10), (4, .iconst 0, 0, 0), (5, .iload_n 1, 0, 0), (6, .iastore, 0, 0), (7, .aload_n 0, 0, 0), (8, .getfield 77, 9, 10), (11, .iconst 1, 0, 0), (12, .iload_n 2, 0, 0), (13, .iastore, 0, 0), (14, .aload_n 0, 0, 0), (15, .getfield 77, 9, 10), (18, .iconst 2, 0, 0), (19, .iload_n 3, 0, 0), (20, .iastore, 0, 0), (21, .return_, 0, 0)]
def tl_92 : List (Nat × List xI) := [(0, tr_92_0)]
def tr_93_0 : List xI := [(0, .aload_n 0, 0, 0), (1, .getfield 17, 9, 0), (4, .iload_n 2, 0, 0), (5, .iload_n 3, 0, 0), (6, .invokevirtual 217, 55, 0), (9, .ifCond .ne 5, 0, 2), (12, .iconst (-1), 0, 0), (13, .ireturn, 1, 0), (14, .aload_n 0, 0, 0), (15, .getfield 17, 9, 0), (18, .iload_n 2, 0, 0), (19, .iload_n 3, 0, 0), (20, .invokevirtual 220, 56, 0), (23, .istore 4, 0, 0), (25, .iconst 0, 0, 0), (26, .istore 5, 0, 0), (28, .nop, 1, 0)]
def tr_93_28 : List xI := [(28, .iload 5, 0, 0), (30, .iload 4, 0, 0), (32, .if_icmp .ge 36, 0, 17), (35, .aload_n 1, 0, 0), (36, .aload_n 0, 0, 0), (37, .getfield 77, 9, 10), (40, .iload 5, 0, 0), (42, .iaload, 0, 0), (43, .aload_n 0, 0, 0), (44, .getfield 17, 9, 0), (47, .iload_n 2, 0, 0), (48, .iload_n 3, 0, 0), (49, .iload 5, 0, 0), (51, .invokevirtual 224, 57, 0), (54, .invokevirtual 228, 40, 0), (57, .ifCond .ne 5, 0, 2), (60, .iconst (-1), 0, 0), (61, .ireturn, 1, 0), (62, .iinc 5 1, 0, 0), (65, .goto (-37), 1, 28), (68, .aload_n 1, 0, 0), (69, .aload_n 0, 0, 0), (70, .getfield 77, 9, 10), (73, .iload 4, 0, 0), (75, .invokevirtual 150, 43, 0), (78, .ifCond .ne 5, 0, 2), (81, .iconst (-1), 0, 0), (82, .ireturn, 1, 0), (83, .aload_n 1, 0, 0), (84, .iconst 4, 0, 0), (85, .iload_n 2, 0, 0), (86, .iload_n 3, 0, 0), (87, .aload_n 0, 0, 0), (88, .getfield 77, 9, 10), (91, .iload 4, 0, 0), (93, .invokevirtual 96, 45, 0), (96, .ireturn, 1, 0)]
def tl_93 : List (Nat × List xI) := [(0, tr_93_0), (28, tr_93_28)]
def tr_94_0 : List xI := [(0, .iload_n 1, 0, 0), (1, .ifCond .lt 15, 0, 6), (4, .iload_n 1, 0, 0), (5, .aload_n 0, 0, 0), (6, .getfield 34, 9, 4), (9, .if_icmp .ge 7, 0, 2), (12, .iconst 1, 0, 0), (13, .goto 4, 0, 1), (16, .iconst 0, 0, 0), (17, .ireturn, 2, 0)]
def tl_94 : List (Nat × List xI) := [(0, tr_94_0)]
def tr_95_0 : List xI := [(0, .iload_n 0, 0, 0), (1, .ifCond .lt 13, 0, 5), (4, .iload_n 0, 0, 0), (5, .bipush 16, 0, 0), (7, .if_icmp .ge 7, 0, 2), (10, .iconst 1, 0, 0), (11, .goto 4, 0, 1), (14, .iconst 0, 0, 0), (15, .ireturn, 2, 0)]
def tl_95 : List (Nat × List xI) := [(0, tr_95_0)]
def tr_96_0 : List xI := [(0, .iload_n 0, 0, 0), (1, .iload_n 1, 0, 0), (2, .ishr, 0, 0), (3, .iconst 1, 0, 0), (4, .iand, 0, 0), (5, .iconst 1, 0, 0), (6, .if_icmp .ne 7, 0, 2), (9, .iconst 1, 0, 0), (10, .goto 4, 0, 1), (13, .iconst 0, 0, 0), (14, .ireturn, 2, 0)]
def tl_96 : List (Nat × List xI) := [(0, tr_96_0)]
def tr_97_0 : List xI := [(0, .iconst 0, 0, 0), (1, .istore 4, 0, 0), (3, .iconst 0, 0, 0), (4, .istore 5, 0, 0), (6, .nop, 1, 0)]
def tr_97_6 : List xI := [(6, .iload 5, 0, 0), (8, .iload_n 3, 0, 0), (9, .if_icmp .ge 49, 0, 24), (12, .aload_n 0, 0, 0), (13, .getfield 25, 9, 2), (16, .getfield 231, 5, 10), (19, .aload_n 0, 0, 0), (20, .getfield 77, 9, 10), (23, .iload 5, 0, 0), (25, .iaload, 0, 0), (26, .baload, 0, 0), (27, .ifCond .eq 5, 0, 2), (30, .iconst 0, 0, 0), (31, .ireturn, 2, 0), (32, .iload 4, 0, 0), (34, .aload_n 0, 0, 0), (35, .getfield 25, 9, 2), (38, .getfield 235, 5, 9), (41, .aload_n 0, 0, 0), (42, .getfield 77, 9, 10), (45, .iload 5, 0, 0), (47, .iaload, 0, 0), (48, .iaload, 0, 0), (49, .ior, 0, 0), (50, .istore 4, 0, 0), (52, .iinc 5 1, 0, 0), (55, .goto (-49), 1, 6), (58, .iload_n 1, 0, 0), (59, .invokestatic 108, 95, 0), (62, .ifCond .eq 32, 0, 13), (65, .iload_n 2, 0, 0), (66, .invokestatic 108, 95, 0), (69, .ifCond .eq 25, 0, 10), (72, .iload 4, 0, 0), (74, .iload_n 1, 0, 0), (75, .invokestatic 117, 96, 0), (78, .ifCond .eq 16, 0, 6), (81, .iload 4, 0, 0), (83, .iload_n 2, 0, 0), (84, .invokestatic 117, 96, 0), (87, .ifCond .eq 7, 0, 2), (90, .iconst 1, 0, 0), (91, .goto 4, 0, 1), (94, .iconst 0, 0, 0), (95, .ireturn, 2, 0)]
def tl_97 : List (Nat × List xI) := [(0, tr_97_0), (6, tr_97_6)]
def tr_98_0 : List xI := [(0, .iconst 0, 0, 0), (1, .istore_n 1, 0, 0), (2, .iconst 0, 0, 0), (3, .istore_n 2, 0, 0), (4, .nop, 1, 0)]
def tr_98_4 : List xI := [(4, .iload_n 2, 0, 0), (5, .aload_n 0, 0, 0), (6, .getfield 34, 9, 4), (9, .if_icmp .ge 21, 0, 10), (12, .iload_n 1, 0, 0), (13, .aload_n 0, 0, 0), (14, .getfield 30, 9, 3), (17, .iload_n 2, 0, 0), (18, .aaload, 0, 0), (19, .getfield 238, 3, 2), (22, .iadd, 0, 0), (23, .istore_n 1, 0, 0), (24, .iinc 2 1, 0, 0), (27, .goto (-23), 1, 4), (30, .iload_n 1, 0, 0), (31, .ireturn, 1, 0)]
def tl_98 : List (Nat × List xI) := [(0, tr_98_0), (4, tr_98_4)]
def tr_99_0 : List xI := [(0, .iconst 0, 0, 0), (1, .aload_n 0, 0, 0), (2, .getfield 21, 9, 1), (5, .getfield 85, 5, 1), (8, .bipush 30, 0, 0), (10, .isub, 0, 0), (11, .invokestatic 241, 1002, 0), (14, .istore_n 2, 0, 0), (15, .iload_n 2, 0, 0), (16, .istore_n 3, 0, 0), (17, .nop, 1, 0)]
def tr_99_17 : List xI := [(17, .iload_n 3, 0, 0), (18, .aload_n 0, 0, 0), (19, .getfield 21, 9, 1), (22, .getfield 85, 5, 1), (25, .if_icmp .ge 63, 0, 32), (28, .aload_n 0, 0, 0), (29, .getfield 21, 9, 1), (32, .getfield 121, 5, 3), (35, .iload_n 3, 0, 0), (36, .iaload, 0, 0), (37, .aload_n 1, 0, 0), (38, .getfield 141, 3, 1), (41, .iconst 0, 0, 0), (42, .iaload, 0, 0), (43, .if_icmp .ne 39, 0, 20), (46, .aload_n 0, 0, 0), (47, .iload_n 3, 0, 0), (48, .iload_n 3, 0, 0), (49, .iload_n 3, 0, 0), (50, .invokevirtual 88, 92, 0), (53, .aload_n 0, 0, 0), (54, .getfield 56, 9, 7), (57, .aload_n 1, 0, 0), (58, .aload_n 0, 0, 0), (59, .getfield 77, 9, 10), (62, .invokevirtual 168, 67, 0), (65, .aload_n 0, 0, 0), (66, .getfield 64, 9, 8), (69, .aload_n 1, 0, 0), (70, .aload_n 0, 0, 0), (71, .getfield 77, 9, 10), (74, .invokevirtual 246, 24, 0), (77, .if_icmp .eq 5, 0, 2), (80, .iconst 0, 0, 0), (81, .ireturn, 2, 0), (82, .iinc 3 1, 0, 0), (85, .goto (-68), 1, 17), (88, .iconst 1, 0, 0), (89, .ireturn, 2, 0)]
def tl_99 : List (Nat × List xI) := [(0, tr_99_0), (17, tr_99_17)]
def tr_100_0 : List xI := [(0, .aload_n 0, 0, 0), (1, .invokespecial 1, 1000, 0), (4, .aload_n 0, 0, 0), (5, .iconst 1, 0, 0), (6, .putfield 7, 40, 1), (9, .aload_n 0, 0, 0), (10, .bipush 8, 0, 0), (12, .newarray .int, 1, 0), (14, .putfield 13, 40, 2), (17, .aload_n 0, 0, 0), (18, .bipush 48, 0, 0), (20, .newarray .int, 1, 0), (22, .putfield 17, 40, 3), (25, .aload_n 0, 0, 0), (26, .sipush 144, 0, 0), (29, .newarray .int, 1, 0), (31, .putfield 20, 40, 4), (34, .aload_n 0, 0, 0), (35, .bipush 8, 0, 0), (37, .newarray .int, 1, 0), (39, .putfield 23, 40, 5), (42, .aload_n 0, 0, 0), (43, .sipush 300, 0, 0), (46, .newarray .int, 1, 0), (48, .putfield 26, 40, 6), (51, .aload_n 0, 0, 0), (52, .sipush 300, 0, 0), (55, .newarray .int, 1, 0), (57, .putfield 29, 40, 7), (60, .aload_n 0, 0, 0), (61, .sipush 900, 0, 0), (64, .newarray .int, 1, 0), (66, .putfield 32, 40, 8), (69, .aload_n 0, 0, 0), (70, .sipush 300, 0, 0), (73, .newarray .int, 1, 0), (75, .putfield 35, 40, 9), (78, .aload_n 0, 0, 0), (79, .sipush 300, 0, 0), (82, .newarray .int, 1, 0), (84, .putfield 38, 40, 11), (87, .aload_n 0, 0, 0), (88, .sipush 300, 0, 0), (91, .newarray .int, 1, 0), (93, .putfield 41, 40, 12), (96, .aload_n 0, 0, 0), (97, .sipush 300, 0, 0), (100, .newarray .int, 1, 0), (102, .putfield 44, 40, 13), (105, .aload_n 0, 0, 0), (106, .sipush 900, 0, 0), (109, .newarray .int, 1, 0), (111, .putfield 47, 40, 14), (114, .aload_n 0, 0, 0), (115, .sipush 300, 0, 0), (118, .newarray .int, 1, 0), (120, .putfield 50, 40, 15), (123, .aload_n 0, 0, 0), (124, .sipush 300, 0, 0), (127, .newarray .int, 1, 0), (129, .putfield 53, 40, 16), (132, .aload_n 0, 0, 0), (133, .sipush 300, 0, 0), (136, .newarray .boolean, 2, 0), (138, .putfield 56, 40, 17), (141, .aload_n 0, 0, 0), (142, .bipush 20, 0, 0), (144, .newarray .int, 1, 0), (146, .putfield 60, 40, 19), (149, .aload_n 0, 0, 0), (150, .bipush 60, 0, 0), (152, .newarray .int, 1, 0), (154, .putfield 63, 40, 20), (157, .aload_n 0, 0, 0), (158, .bipush 20, 0, 0), (160, .newarray .int, 1, 0), (162, .putfield 66, 40, 21), (165, .aload_n 0, 0, 0), (166, .sipush 720, 0, 0), (169, .newarray .int, 1, 0), (171, .putfield 69, 40, 22), (174, .aload_n 0, 0, 0), (175, .sipush 240, 0, 0), (178, .newarray .int, 1, 0), (180, .putfield 72, 40, 23), (183, .aload_n 0, 0, 0), (184, .sipush 240, 0, 0), (187, .newarray .int, 1, 0), (189, .putfield 75, 40, 24), (192, .aload_n 0, 0, 0), (193, .bipush 18, 0, 0), (195, .newarray .int, 1, 0), (197, .putfield 78, 40, 26), (200, .aload_n 0, 0, 0), (201, .bipush 16, 0, 0), (203, .newarray .int, 1, 0), (205, .putfield 81, 40, 27), (208, .aload_n 0, 0, 0), (209, .sipush 8000, 0, 0), (212, .newarray .int, 1, 0), (214, .putfield 84, 40, 28), (217, .aload_n 0, 0, 0), (218, .sipush 8000, 0, 0), (221, .newarray .int, 1, 0), (223, .putfield 87, 40, 29), (226, .aload_n 0, 0, 0), (227, .ldc 90, 128000, 0), (229, .newarray .int, 1, 0), (231, .putfield 91, 40, 30), (234, .aload_n 0, 0, 0), (235, .ldc 94, 2300000, 0), (237, .newarray .short, 3, 0), (239, .putfield 95, 40, 32), (242, .aload_n 0, 0, 0), (243, .ldc 99, 100000, 0), (245, .newarray .int, 1, 0), (247, .putfield 100, 40, 34), (250, .aload_n 0, 0, 0), (251, .sipush 1000, 0, 0), (254, .newarray .int, 1, 0), (256, .putfield 103, 40, 36), (259, .aload_n 0, 0, 0), (260, .sipush 1000, 0, 0), (263, .newarray .boolean, 2, 0), (265, .putfield 106, 40, 37), (268, .aload_n 0, 0, 0), (269, .sipush 1000, 0, 0), (272, .newarray .int, 1, 0), (274, .putfield 109, 40, 38), (277, .aload_n 0, 0, 0), (278, .sipush 1000, 0, 0), (281, .newarray .boolean, 2, 0), (283, .putfield 112, 40, 39), (286, .aload_n 0, 0, 0), (287, .sipush 1000, 0, 0), (290, .newarray .int, 1, 0), (292, .putfield 115, 40, 40), (295, .aload_n 0, 0, 0), (296, .sipush 1000, 0, 0), (299, .newarray .int, 1, 0), (301, .putfield 118, 40, 41), (304, .aload_n 0, 0, 0), (305, .iconst 5, 0, 0), (306, .newarray .int, 1, 0), (308, .putfield 121, 40, 47), (311, .aload_n 0, 0, 0), (312, .sipush 4001, 0, 0), (315, .newarray .int, 1, 0), (317, .putfield 124, 40, 49), (320, .aload_n 0, 0, 0), (321, .bipush 20, 0, 0), (323, .newarray .boolean, 2, 0), (325, .putfield 127, 40, 51), (328, .aload_n 0, 0, 0), (329, .bipush 20, 0, 0), (331, .newarray .boolean, 2, 0), (333, .putfield 130, 40, 52), (336, .aload_n 0, 0, 0), (337, .bipush 100, 0, 0), (339, .newarray .int, 1, 0), (341, .putfield 133, 40, 53), (344, .aload_n 0, 0, 0), (345, .sipush 4000, 0, 0), (348, .newarray .int, 1, 0), (350, .putfield 136, 40, 54), (353, .aload_n 0, 0, 0), (354, .getfield 23, 40, 5), (357, .iconst 0, 0, 0), (358, .iconst 1, 0, 0), (359, .iastore, 0, 0), (360, .iconst 0, 0, 0), (361, .istore_n 1, 0, 0), (362, .nop, 1, 0)]
def tr_100_362 : List xI := [(362, .iload_n 1, 0, 0), (363, .bipush 16, 0, 0), (365, .if_icmp .ge 16, 0, 7), (368, .aload_n 0, 0, 0), (369, .getfield 78, 40, 26), (372, .iload_n 1, 0, 0), (373, .iconst (-1), 0, 0), (374, .iastore, 0, 0), (375, .iinc 1 1, 0, 0), (378, .goto (-16), 1, 362), (381, .nop, 2, 10), (381, .return_, 0, 0)]
def tl_100 : List (Nat × List xI) := [(0, tr_100_0), (362, tr_100_362)]
def tr_101_0 : List xI := [(0, .iload_n 1, 0, 0), (1, .ifCond .lt 15, 0, 6), (4, .iload_n 1, 0, 0), (5, .aload_n 0, 0, 0), (6, .getfield 7, 10, 1), (9, .if_icmp .ge 7, 0, 2), (12, .iconst 1, 0, 0), (13, .goto 4, 0, 1), (16, .iconst 0, 0, 0), (17, .ireturn, 2, 0)]
def tl_101 : List (Nat × List xI) := [(0, tr_101_0)]
def tr_102_0 : List xI := [(0, .aload_n 0, 0, 0), (1, .iconst 0, 0, 0), (2, .putfield 139, 10, 0), (5, .aload_n 0, 0, 0), (6, .getfield 7, 10, 1), (9, .bipush 8, 0, 0), (11, .if_icmp .ne 5, 0, 2), (14, .iconst (-1), 0, 0), (15, .ireturn, 1, 0), (16, .aload_n 0, 0, 0), (17, .dup, 0, 0), (18, .getfield 7, 10, 1), (21, .iconst 1, 0, 0), (22, .iadd, 0, 0), (23, .putfield 7, 10, 1), (26, .aload_n 0, 0, 0), (27, .getfield 7, 10, 1), (30, .iconst 1, 0, 0), (31, .isub, 0, 0), (32, .ireturn, 1, 0)]
def tl_102 : List (Nat × List xI) := [(0, tr_102_0)]
def tr_103_0 : List xI := [(0, .aload_n 0, 0, 0), (1, .iconst 0, 0, 0), (2, .putfield 139, 10, 0), (5, .aload_n 0, 0, 0), (6, .iload_n 1, 0, 0), (7, .invokevirtual 142, 101, 0), (10, .ifCond .eq 44, 0, 22), (13, .iload_n 1, 0, 0), (14, .ifCond .eq 40, 0, 20), (17, .iload_n 2, 0, 0), (18, .ifCond .lt 36, 0, 18), (21, .iload_n 2, 0, 0), (22, .iconst 3, 0, 0), (23, .if_icmp .gt 31, 0, 15), (26, .aload_n 0, 0, 0), (27, .getfield 13, 10, 2), (30, .iload_n 1, 0, 0), (31, .iaload, 0, 0), (32, .bipush 6, 0, 0), (34, .if_icmp .eq 20, 0, 9), (37, .aload_n 0, 0, 0), (38, .getfield 146, 10, 10), (41, .aload_n 0, 0, 0), (42, .getfield 149, 10, 18), (45, .iadd, 0, 0), (46, .aload_n 0, 0, 0), (47, .getfield 152, 10, 25), (50, .iadd, 0, 0), (51, .ifCond .le 5, 0, 2), (54, .iconst (-1), 0, 0), (55, .ireturn, 1, 0), (56, .iload_n 2, 0, 0), (57, .ifCond .le 11, 1, 68), (60, .aload_n 0, 0, 0), (61, .iload_n 3, 0, 0), (62, .invokevirtual 142, 101, 0), (65, .ifCond .eq 31, 0, 1), (68, .nop, 1, 0), (96, .iconst (-1), 0, 0), (97, .ireturn, 1, 0)]
def tr_103_68 : List xI := [(68, .iload_n 2, 0, 0), (69, .iconst 1, 0, 0), (70, .if_icmp .le 12, 1, 82), (73, .aload_n 0, 0, 0), (74, .iload 4, 0, 0), (76, .invokevirtual 142, 101, 0), (79, .ifCond .eq 17, 0, 1), (82, .nop, 1, 0), (96, .iconst (-1), 0, 0), (97, .ireturn, 1, 0)]
def tr_103_82 : List xI := [(82, .iload_n 2, 0, 0), (83, .iconst 2, 0, 0), (84, .if_icmp .le 14, 1, 98), (87, .aload_n 0, 0, 0), (88, .iload 5, 0, 0), (90, .invokevirtual 142, 101, 0), (93, .ifCond .ne 5, 1, 98), (96, .iconst (-1), 0, 0), (97, .ireturn, 1, 0)]
def tr_103_98 : List xI := [(98, .bipush 6, 0, 0), (100, .iload_n 1, 0, 0), (101, .imul, 0, 0), (102, .aload_n 0, 0, 0), (103, .getfield 13, 10, 2), (106, .iload_n 1, 0, 0), (107, .iaload, 0, 0), (108, .iadd, 0, 0), (109, .istore 6, 0, 0), (111, .aload_n 0, 0, 0), (112, .getfield 17, 10, 3), (115, .iload 6, 0, 0), (117, .iload_n 2, 0, 0), (118, .iastore, 0, 0), (119, .aload_n 0, 0, 0), (120, .getfield 20, 10, 4), (123, .iconst 3, 0, 0), (124, .iload 6, 0, 0), (126, .imul, 0, 0), (127, .iload_n 3, 0, 0), (128, .iastore, 0, 0), (129, .aload_n 0, 0, 0), (130, .getfield 20, 10, 4), (133, .iconst 3, 0, 0), (134, .iload 6, 0, 0), (136, .imul, 0, 0), (137, .iconst 1, 0, 0), (138, .iadd, 0, 0), (139, .iload 4, 0, 0), (141, .iastore, 0, 0), (142, .aload_n 0, 0, 0), (143, .getfield 20, 10, 4), (146, .iconst 3, 0, 0), (147, .iload 6, 0, 0), (149, .imul, 0, 0), (150, .iconst 2, 0, 0), (151, .iadd, 0, 0), (152, .iload 5, 0, 0), (154, .iastore, 0, 0), (155, .aload_n 0, 0, 0), (156, .getfield 13, 10, 2), (159, .iload_n 1, 0, 0), (160, .dup2, 0, 0), (161, .iaload, 0, 0), (162, .iconst 1, 0, 0), (163, .iadd, 0, 0), (164, .iastore, 0, 0), (165, .aload_n 0, 0, 0), (166, .invokevirtual 155, 105, 0), (169, .aload_n 0, 0, 0), (170, .getfield 13, 10, 2), (173, .iload_n 1, 0, 0), (174, .iaload, 0, 0), (175, .iconst 1, 0, 0), (176, .isub, 0, 0), (177, .ireturn, 1, 0)]
def tl_103 : List (Nat × List xI) := [(0, tr_103_0), (68, tr_103_68), (82, tr_103_82), (98, tr_103_98)]
def tr_104_0 : List xI := [(0, .iconst 1, 0, 0), (1, .istore_n 3, 0, 0), (2, .iconst 0, 0, 0), (3, .istore 4, 0, 0), (5, .nop, 1, 0)]
def tr_104_5 : List xI := [(5, .iload 4, 0, 0), (7, .aload_n 0, 0, 0), (8, .getfield 17, 10, 3), (11, .bipush 6, 0, 0), (13, .iload_n 1, 0, 0), (14, .imul, 0, 0), (15, .iload_n 2, 0, 0), (16, .iadd, 0, 0), (17, .iaload, 0, 0), (18, .if_icmp .ge 44, 0, 26), (21, .aload_n 0, 0, 0), (22, .getfield 23, 10, 5), (25, .aload_n 0, 0, 0), (26, .getfield 20, 10, 4), (29, .iconst 3, 0, 0), (30, .bipush 6, 0, 0), (32, .iload_n 1, 0, 0), (33, .imul, 0, 0), (34, .iload_n 2, 0, 0), (35, .iadd, 0, 0), (36, .imul, 0, 0), (37, .iload 4, 0, 0), (39, .iadd, 0, 0), (40, .iaload, 0, 0), (41, .iaload, 0, 0), (42, .istore 5, 0, 0), (44, .iload 5, 0, 0), (46, .ifCond .ne 5, 0, 2), (49, .iconst 0, 0, 0), (50, .ireturn, 1, 0), (51, .iload_n 3, 0, 0), (52, .iload 5, 0, 0), (54, .iadd, 0, 0), (55, .istore_n 3, 0, 0), (56, .iinc 4 1, 0, 0), (59, .goto (-54), 1, 5), (62, .iload_n 3, 0, 0), (63, .ireturn, 1, 0)]
def tl_104 : List (Nat × List xI) := [(0, tr_104_0), (5, tr_104_5)]
def tr_105_0 : List xI := [(0, .iconst 1, 0, 0), (1, .istore_n 1, 0, 0), (2, .nop, 1, 0)]
def tr_105_2 : List xI := [(2, .iload_n 1, 0, 0), (3, .bipush 8, 0, 0), (5, .if_icmp .ge 16, 0, 7), (8, .aload_n 0, 0, 0), (9, .getfield 23, 10, 5), (12, .iload_n 1, 0, 0), (13, .iconst 0, 0, 0), (14, .iastore, 0, 0), (15, .iinc 1 1, 0, 0), (18, .goto (-16), 1, 2), (21, .iconst 1, 0, 0), (22, .istore_n 1, 0, 0), (23, .nop, 1, 0)]
def tr_105_23 : List xI := [(23, .iload_n 1, 0, 0), (24, .ifCond .eq 85, 0, 5), (27, .iconst 0, 0, 0), (28, .istore_n 1, 0, 0), (29, .iconst 1, 0, 0), (30, .istore_n 2, 0, 0), (31, .nop, 1, 0), (109, .return_, 0, 0)]
def tr_105_31 : List xI := [(31, .iload_n 2, 0, 0), (32, .aload_n 0, 0, 0), (33, .getfield 7, 10, 1), (36, .if_icmp .ge 70, 0, 3), (39, .iconst 0, 0, 0), (40, .istore_n 3, 0, 0), (41, .nop, 1, 0), (106, .goto (-83), 1, 23)]
def tr_105_41 : List xI := [(41, .iload_n 3, 0, 0), (42, .aload_n 0, 0, 0), (43, .getfield 13, 10, 2), (46, .iload_n 2, 0, 0), (47, .iaload, 0, 0), (48, .if_icmp .ge 52, 0, 21), (51, .aload_n 0, 0, 0), (52, .iload_n 2, 0, 0), (53, .iload_n 3, 0, 0), (54, .invokevirtual 158, 104, 0), (57, .istore 4, 0, 0), (59, .iload 4, 0, 0), (61, .ifCond .le 33, 0, 12), (64, .aload_n 0, 0, 0), (65, .getfield 23, 10, 5), (68, .iload_n 2, 0, 0), (69, .iaload, 0, 0), (70, .ifCond .eq 14, 1, 84), (73, .iload 4, 0, 0), (75, .aload_n 0, 0, 0), (76, .getfield 23, 10, 5), (79, .iload_n 2, 0, 0), (80, .iaload, 0, 0), (81, .if_icmp .ge 13, 0, 1), (84, .nop, 1, 0), (94, .iinc 3 1, 0, 0), (97, .goto (-56), 1, 41), (100, .iinc 2 1, 0, 0), (103, .goto (-72), 1, 31)]
def tr_105_84 : List xI := [(84, .aload_n 0, 0, 0), (85, .getfield 23, 10, 5), (88, .iload_n 2, 0, 0), (89, .iload 4, 0, 0), (91, .iastore, 0, 0), (92, .iconst 1, 0, 0), (93, .istore_n 1, 0, 0), (94, .iinc 3 1, 0, 0), (97, .goto (-56), 1, 41)]
def tl_105 : List (Nat × List xI) := [(0, tr_105_0), (2, tr_105_2), (23, tr_105_23), (31, tr_105_31), (41, tr_105_41), (84, tr_105_84)]
def tr_106_0 : List xI := [(0, .aload_n 0, 0, 0), (1, .iload_n 1, 0, 0), (2, .invokevirtual 142, 101, 0), (5, .ifCond .eq 21, 0, 10), (8, .iload_n 2, 0, 0), (9, .ifCond .lt 17, 0, 8), (12, .iload_n 2, 0, 0), (13, .aload_n 0, 0, 0), (14, .getfield 13, 10, 2), (17, .iload_n 1, 0, 0), (18, .iaload, 0, 0), (19, .if_icmp .ge 7, 0, 2), (22, .iconst 1, 0, 0), (23, .goto 4, 0, 1), (26, .iconst 0, 0, 0), (27, .ireturn, 2, 0)]
def tl_106 : List (Nat × List xI) := [(0, tr_106_0)]
def tr_107_0 : List xI := [(0, .aload_n 0, 0, 0), (1, .getfield 17, 10, 3), (4, .bipush 6, 0, 0), (6, .iload_n 1, 0, 0), (7, .imul, 0, 0), (8, .iload_n 2, 0, 0), (9, .iadd, 0, 0), (10, .iaload, 0, 0), (11, .ireturn, 1, 0)]
def tl_107 : List (Nat × List xI) := [(0, tr_107_0)]
def tr_108_0 : List xI := [(0, .aload_n 0, 0, 0), (1, .getfield 20, 10, 4), (4, .iconst 3, 0, 0), (5, .bipush 6, 0, 0), (7, .iload_n 1, 0, 0), (8, .imul, 0, 0), (9, .iload_n 2, 0, 0), (10, .iadd, 0, 0), (11, .imul, 0, 0), (12, .iload_n 3, 0, 0), (13, .iadd, 0, 0), (14, .iaload, 0, 0), (15, .ireturn, 1, 0)]
def tl_108 : List (Nat × List xI) := [(0, tr_108_0)]
def tr_109_0 : List xI := [(0, .aload_n 0, 0, 0), (1, .getfield 26, 10, 6), (4, .aload_n 0, 0, 0), (5, .getfield 146, 10, 10), (8, .iload_n 1, 0, 0), (9, .iastore, 0, 0), (10, .aload_n 0, 0, 0), (11, .getfield 29, 10, 7), (14, .aload_n 0, 0, 0), (15, .getfield 146, 10, 10), (18, .iload_n 2, 0, 0), (19, .iastore, 0, 0), (20, .aload_n 0, 0, 0), (21, .getfield 35, 10, 9), (24, .aload_n 0, 0, 0), (25, .getfield 146, 10, 10), (28, .iload_n 3, 0, 0), (29, .iastore, 0, 0), (30, .aload_n 0, 0, 0), (31, .dup, 0, 0), (32, .getfield 146, 10, 10), (35, .iconst 1, 0, 0), (36, .iadd, 0, 0), (37, .putfield 146, 10, 10), (40, .aload_n 0, 0, 0), (41, .getfield 146, 10, 10), (44, .iconst 1, 0, 0), (45, .isub, 0, 0), (46, .ireturn, 1, 0)]
def tl_109 : List (Nat × List xI) := [(0, tr_109_0)]
def tr_110_0 : List xI := [(0, .aload_n 0, 0, 0), (1, .iconst 0, 0, 0), (2, .putfield 139, 10, 0), (5, .aload_n 0, 0, 0), (6, .getfield 146, 10, 10), (9, .sipush 300, 0, 0), (12, .if_icmp .ne 7, 0, 2), (15, .iconst (-1), 0, 0), (16, .goto 10, 0, 5), (19, .aload_n 0, 0, 0), (20, .iconst 0, 0, 0), (21, .iload_n 1, 0, 0), (22, .iconst 1, 0, 0), (23, .invokevirtual 162, 109, 0), (26, .ireturn, 1, 0)]
def tl_110 : List (Nat × List xI) := [(0, tr_110_0)]
def tr_111_0 : List xI := [(0, .iload_n 1, 0, 0), (1, .ifCond .lt 25, 0, 12), (4, .iload_n 1, 0, 0), (5, .aload_n 0, 0, 0), (6, .getfield 146, 10, 10), (9, .if_icmp .ge 17, 0, 8), (12, .aload_n 0, 0, 0), (13, .getfield 26, 10, 6), (16, .iload_n 1, 0, 0), (17, .iaload, 0, 0), (18, .iload_n 2, 0, 0), (19, .if_icmp .ne 7, 0, 2), (22, .iconst 1, 0, 0), (23, .goto 4, 0, 1), (26, .iconst 0, 0, 0), (27, .ireturn, 2, 0)]
def tl_111 : List (Nat × List xI) := [(0, tr_111_0)]
def tr_112_0 : List xI := [(0, .iload_n 0, 0, 0), (1, .ifCond .ne 7, 0, 2), (4, .iload_n 1, 0, 0), (5, .goto 13, 0, 6), (8, .iload_n 0, 0, 0), (9, .iconst 1, 0, 0), (10, .if_icmp .ne 7, 0, 2), (13, .iload_n 2, 0, 0), (14, .goto 4, 0, 1), (17, .iload_n 3, 0, 0), (18, .ireturn, 1, 0)]
def tl_112 : List (Nat × List xI) := [(0, tr_112_0)]
def tr_113_0 : List xI := [(0, .aload_n 0, 0, 0), (1, .iconst 0, 0, 0), (2, .putfield 139, 10, 0), (5, .aload_n 0, 0, 0), (6, .iload_n 1, 0, 0), (7, .iload_n 2, 0, 0), (8, .invokevirtual 166, 106, 0), (11, .ifCond .eq 13, 0, 4), (14, .aload_n 0, 0, 0), (15, .getfield 146, 10, 10), (18, .sipush 300, 0, 0), (21, .if_icmp .ne 5, 0, 2), (24, .iconst (-1), 0, 0), (25, .ireturn, 1, 0), (26, .iconst 1, 0, 0), (27, .istore 6, 0, 0), (29, .iconst 0, 0, 0), (30, .istore 7, 0, 0), (32, .nop, 1, 0)]
def tr_113_32 : List xI := [(32, .iload 7, 0, 0), (34, .aload_n 0, 0, 0), (35, .iload_n 1, 0, 0), (36, .iload_n 2, 0, 0), (37, .invokevirtual 170, 107, 0), (40, .if_icmp .ge 52, 0, 26), (43, .iload 7, 0, 0), (45, .iload_n 3, 0, 0), (46, .iload 4, 0, 0), (48, .iload 5, 0, 0), (50, .invokestatic 173, 112, 0), (53, .istore 8, 0, 0), (55, .aload_n 0, 0, 0), (56, .iload 8, 0, 0), (58, .aload_n 0, 0, 0), (59, .iload_n 1, 0, 0), (60, .iload_n 2, 0, 0), (61, .iload 7, 0, 0), (63, .invokevirtual 177, 108, 0), (66, .invokevirtual 180, 111, 0), (69, .ifCond .ne 5, 0, 2), (72, .iconst (-1), 0, 0), (73, .ireturn, 1, 0), (74, .iload 6, 0, 0), (76, .aload_n 0, 0, 0), (77, .getfield 35, 10, 9), (80, .iload 8, 0, 0), (82, .iaload, 0, 0), (83, .iadd, 0, 0), (84, .istore 6, 0, 0), (86, .iinc 7 1, 0, 0), (89, .goto (-57), 1, 32), (92, .iload 6, 0, 0), (94, .bipush 100, 0, 0), (96, .if_icmp .le 5, 0, 2), (99, .iconst (-1), 0, 0), (100, .ireturn, 1, 0), (101, .aload_n 0, 0, 0), (102, .iload_n 1, 0, 0), (103, .iload_n 2, 0, 0), (104, .iload 6, 0, 0), (106, .invokevirtual 162, 109, 0), (109, .istore 7, 0, 0), (111, .iconst 0, 0, 0), (112, .istore 8, 0, 0), (114, .nop, 1, 0)]
def tr_113_114 : List xI := [(114, .iload 8, 0, 0), (116, .aload_n 0, 0, 0), (117, .iload_n 1, 0, 0), (118, .iload_n 2, 0, 0), (119, .invokevirtual 170, 107, 0), (122, .if_icmp .ge 31, 0, 15), (125, .aload_n 0, 0, 0), (126, .getfield 32, 10, 8), (129, .iconst 3, 0, 0), (130, .iload 7, 0, 0), (132, .imul, 0, 0), (133, .iload 8, 0, 0), (135, .iadd, 0, 0), (136, .iload 8, 0, 0), (138, .iload_n 3, 0, 0), (139, .iload 4, 0, 0), (141, .iload 5, 0, 0), (143, .invokestatic 173, 112, 0), (146, .iastore, 0, 0), (147, .iinc 8 1, 0, 0), (150, .goto (-36), 1, 114), (153, .iload 7, 0, 0), (155, .ireturn, 1, 0)]
def tl_113 : List (Nat × List xI) := [(0, tr_113_0), (32, tr_113_32), (114, tr_113_114)]
def tr_114_0 : List xI := [(0, .aload_n 0, 0, 0), (1, .getfield 38, 10, 11), (4, .aload_n 0, 0, 0), (5, .getfield 149, 10, 18), (8, .iload_n 1, 0, 0), (9, .iastore, 0, 0), (10, .aload_n 0, 0, 0), (11, .getfield 41, 10, 12), (14, .aload_n 0, 0, 0), (15, .getfield 149, 10, 18), (18, .iload_n 2, 0, 0), (19, .iastore, 0, 0), (20, .aload_n 0, 0, 0), (21, .getfield 44, 10, 13), (24, .aload_n 0, 0, 0), (25, .getfield 149, 10, 18), (28, .iload_n 3, 0, 0), (29, .iastore, 0, 0), (30, .aload_n 0, 0, 0), (31, .getfield 50, 10, 15), (34, .aload_n 0, 0, 0), (35, .getfield 149, 10, 18), (38, .iload 4, 0, 0), (40, .iastore, 0, 0), (41, .aload_n 0, 0, 0), (42, .getfield 53, 10, 16), (45, .aload_n 0, 0, 0), (46, .getfield 149, 10, 18), (49, .iload 5, 0, 0), (51, .iastore, 0, 0), (52, .aload_n 0, 0, 0), (53, .getfield 56, 10, 17), (56, .aload_n 0, 0, 0), (57, .getfield 149, 10, 18), (60, .iload 6, 0, 0), (62, .bastore, 0, 0), (63, .aload_n 0, 0, 0), (64, .dup, 0, 0), (65, .getfield 149, 10, 18), (68, .iconst 1, 0, 0), (69, .iadd, 0, 0), (70, .putfield 149, 10, 18), (73, .aload_n 0, 0, 0), (74, .getfield 149, 10, 18), (77, .iconst 1, 0, 0), (78, .isub, 0, 0), (79, .ireturn, 1, 0)]
def tl_114 : List (Nat × List xI) := [(0, tr_114_0)]
def tr_115_0 : List xI := [(0, .iload_n 0, 0, 0), (1, .ifCond .lt 13, 0, 5), (4, .iload_n 0, 0, 0), (5, .bipush 16, 0, 0), (7, .if_icmp .ge 7, 0, 2), (10, .iconst 1, 0, 0), (11, .goto 4, 0, 1), (14, .iconst 0, 0, 0), (15, .ireturn, 2, 0)]
def tl_115 : List (Nat × List xI) := [(0, tr_115_0)]
def tr_116_0 : List xI := [(0, .iload_n 1, 0, 0), (1, .ifCond .lt 15, 0, 6), (4, .iload_n 1, 0, 0), (5, .aload_n 0, 0, 0), (6, .getfield 149, 10, 18), (9, .if_icmp .ge 7, 0, 2), (12, .iconst 1, 0, 0), (13, .goto 4, 0, 1), (16, .iconst 0, 0, 0), (17, .ireturn, 2, 0)]
def tl_116 : List (Nat × List xI) := [(0, tr_116_0)]
def tr_117_0 : List xI := [(0, .aload_n 0, 0, 0), (1, .getfield 53, 10, 16), (4, .iload_n 1, 0, 0), (5, .iaload, 0, 0), (6, .iload_n 2, 0, 0), (7, .ishr, 0, 0), (8, .iconst 1, 0, 0), (9, .iand, 0, 0), (10, .iconst 1, 0, 0), (11, .if_icmp .ne 7, 0, 2), (14, .iconst 1, 0, 0), (15, .goto 4, 0, 1), (18, .iconst 0, 0, 0), (19, .ireturn, 2, 0)]
def tl_117 : List (Nat × List xI) := [(0, tr_117_0)]
def tr_118_0 : List xI := [(0, .aload_n 0, 0, 0), (1, .iconst 0, 0, 0), (2, .putfield 139, 10, 0), (5, .aload_n 0, 0, 0), (6, .iload_n 1, 0, 0), (7, .invokevirtual 142, 101, 0), (10, .ifCond .eq 25, 0, 7), (13, .iload_n 2, 0, 0), (14, .iconst (-1), 0, 0), (15, .if_icmp .eq 10, 1, 25), (18, .iload_n 2, 0, 0), (19, .invokestatic 183, 115, 0), (22, .ifCond .eq 13, 0, 1), (25, .nop, 1, 0), (35, .iconst (-1), 0, 0), (36, .ireturn, 1, 0)]
def tr_118_25 : List xI := [(25, .aload_n 0, 0, 0), (26, .getfield 149, 10, 18), (29, .sipush 300, 0, 0), (32, .if_icmp .ne 5, 0, 2), (35, .iconst (-1), 0, 0), (36, .ireturn, 1, 0), (37, .aload_n 0, 0, 0), (38, .iconst 0, 0, 0), (39, .iload_n 1, 0, 0), (40, .iload_n 2, 0, 0), (41, .iconst 1, 0, 0), (42, .iload_n 2, 0, 0), (43, .iconst (-1), 0, 0), (44, .if_icmp .ne 7, 0, 2), (47, .iconst 0, 0, 0), (48, .goto 6, 0, 3), (51, .iconst 1, 0, 0), (52, .iload_n 2, 0, 0), (53, .ishl, 0, 0), (54, .iconst 0, 0, 0), (55, .invokevirtual 186, 114, 0), (58, .ireturn, 1, 0)]
def tl_118 : List (Nat × List xI) := [(0, tr_118_0), (25, tr_118_25)]
def tr_119_0 : List xI := [(0, .aload_n 0, 0, 0), (1, .iconst 0, 0, 0), (2, .putfield 139, 10, 0), (5, .iload_n 1, 0, 0), (6, .invokestatic 183, 115, 0), (9, .ifCond .eq 41, 0, 19), (12, .aload_n 0, 0, 0), (13, .iload_n 2, 0, 0), (14, .invokevirtual 190, 116, 0), (17, .ifCond .eq 33, 0, 15), (20, .aload_n 0, 0, 0), (21, .getfield 149, 10, 18), (24, .sipush 300, 0, 0), (27, .if_icmp .eq 23, 0, 11), (30, .aload_n 0, 0, 0), (31, .iload_n 2, 0, 0), (32, .iload_n 1, 0, 0), (33, .invokevirtual 193, 117, 0), (36, .ifCond .ne 14, 0, 6), (39, .aload_n 0, 0, 0), (40, .getfield 50, 10, 15), (43, .iload_n 2, 0, 0), (44, .iaload, 0, 0), (45, .bipush 39, 0, 0), (47, .if_icmp .le 5, 0, 2), (50, .iconst (-1), 0, 0), (51, .ireturn, 1, 0), (52, .aload_n 0, 0, 0), (53, .getfield 47, 10, 14), (56, .iconst 3, 0, 0), (57, .aload_n 0, 0, 0), (58, .getfield 149, 10, 18), (61, .imul, 0, 0), (62, .iload_n 2, 0, 0), (63, .iastore, 0, 0), (64, .aload_n 0, 0, 0), (65, .iconst 3, 0, 0), (66, .aload_n 0, 0, 0), (67, .getfield 41, 10, 12), (70, .iload_n 2, 0, 0), (71, .iaload, 0, 0), (72, .iload_n 1, 0, 0), (73, .aload_n 0, 0, 0), (74, .getfield 50, 10, 15), (77, .iload_n 2, 0, 0), (78, .iaload, 0, 0), (79, .iconst 1, 0, 0), (80, .iadd, 0, 0), (81, .aload_n 0, 0, 0), (82, .getfield 53, 10, 16), (85, .iload_n 2, 0, 0), (86, .iaload, 0, 0), (87, .iconst 1, 0, 0), (88, .iload_n 1, 0, 0), (89, .ishl, 0, 0), (90, .ior, 0, 0), (91, .aload_n 0, 0, 0), (92, .getfield 56, 10, 17), (95, .iload_n 2, 0, 0), (96, .baload, 0, 0), (97, .invokevirtual 186, 114, 0), (100, .ireturn, 1, 0)]
def tl_119 : List (Nat × List xI) := [(0, tr_119_0)]
def tr_120_0 : List xI := [(0, .aload_n 0, 0, 0), (1, .iconst 0, 0, 0), (2, .putfield 139, 10, 0), (5, .aload_n 0, 0, 0), (6, .getfield 149, 10, 18), (9, .sipush 300, 0, 0), (12, .if_icmp .ne 7, 0, 2), (15, .iconst (-1), 0, 0), (16, .goto 13, 0, 8), (19, .aload_n 0, 0, 0), (20, .iconst 1, 0, 0), (21, .iconst 0, 0, 0), (22, .iload_n 1, 0, 0), (23, .iconst 1, 0, 0), (24, .iconst 0, 0, 0), (25, .iconst 0, 0, 0), (26, .invokevirtual 186, 114, 0), (29, .ireturn, 1, 0)]
def tl_120 : List (Nat × List xI) := [(0, tr_120_0)]
def tr_121_0 : List xI := [(0, .aload_n 0, 0, 0), (1, .iconst 0, 0, 0), (2, .putfield 139, 10, 0), (5, .aload_n 0, 0, 0), (6, .iload_n 1, 0, 0), (7, .iload_n 2, 0, 0), (8, .invokevirtual 166, 106, 0), (11, .ifCond .eq 13, 0, 4), (14, .aload_n 0, 0, 0), (15, .getfield 149, 10, 18), (18, .sipush 300, 0, 0), (21, .if_icmp .ne 5, 0, 2), (24, .iconst (-1), 0, 0), (25, .ireturn, 1, 0), (26, .iconst 1, 0, 0), (27, .istore 6, 0, 0), (29, .iconst 0, 0, 0), (30, .istore 7, 0, 0), (32, .iconst 0, 0, 0), (33, .istore 8, 0, 0), (35, .iconst 0, 0, 0), (36, .istore 9, 0, 0), (38, .nop, 1, 0)]
def tr_121_38 : List xI := [(38, .iload 9, 0, 0), (40, .aload_n 0, 0, 0), (41, .iload_n 1, 0, 0), (42, .iload_n 2, 0, 0), (43, .invokevirtual 170, 107, 0), (46, .if_icmp .ge 109, 0, 56), (49, .iload 9, 0, 0), (51, .iload_n 3, 0, 0), (52, .iload 4, 0, 0), (54, .iload 5, 0, 0), (56, .invokestatic 173, 112, 0), (59, .istore 10, 0, 0), (61, .aload_n 0, 0, 0), (62, .iload 10, 0, 0), (64, .invokevirtual 190, 116, 0), (67, .ifCond .eq 34, 0, 17), (70, .aload_n 0, 0, 0), (71, .getfield 41, 10, 12), (74, .iload 10, 0, 0), (76, .iaload, 0, 0), (77, .aload_n 0, 0, 0), (78, .iload_n 1, 0, 0), (79, .iload_n 2, 0, 0), (80, .iload 9, 0, 0), (82, .invokevirtual 177, 108, 0), (85, .if_icmp .ne 16, 0, 7), (88, .aload_n 0, 0, 0), (89, .getfield 53, 10, 16), (92, .iload 10, 0, 0), (94, .iaload, 0, 0), (95, .iload 7, 0, 0), (97, .iand, 0, 0), (98, .ifCond .eq 5, 0, 2), (101, .iconst (-1), 0, 0), (102, .ireturn, 1, 0), (103, .iload 6, 0, 0), (105, .aload_n 0, 0, 0), (106, .getfield 50, 10, 15), (109, .iload 10, 0, 0), (111, .iaload, 0, 0), (112, .iadd, 0, 0), (113, .istore 6, 0, 0), (115, .iload 7, 0, 0), (117, .aload_n 0, 0, 0), (118, .getfield 53, 10, 16), (121, .iload 10, 0, 0), (123, .iaload, 0, 0), (124, .ior, 0, 0), (125, .istore 7, 0, 0), (127, .iload 8, 0, 0), (129, .ifCond .ne 13, 0, 5), (132, .aload_n 0, 0, 0), (133, .getfield 56, 10, 17), (136, .iload 10, 0, 0), (138, .baload, 0, 0), (139, .ifCond .eq 7, 0, 2), (142, .iconst 1, 0, 0), (143, .goto 4, 0, 1), (146, .iconst 0, 0, 0), (147, .istore 8, 0, 0), (149, .iinc 9 1, 0, 0), (152, .goto (-114), 1, 38), (155, .iload 6, 0, 0), (157, .bipush 40, 0, 0), (159, .if_icmp .le 5, 0, 2), (162, .iconst (-1), 0, 0), (163, .ireturn, 1, 0), (164, .iconst 0, 0, 0), (165, .istore 9, 0, 0), (167, .nop, 1, 0)]
def tr_121_167 : List xI := [(167, .iload 9, 0, 0), (169, .aload_n 0, 0, 0), (170, .iload_n 1, 0, 0), (171, .iload_n 2, 0, 0), (172, .invokevirtual 170, 107, 0), (175, .if_icmp .ge 33, 0, 16), (178, .aload_n 0, 0, 0), (179, .getfield 47, 10, 14), (182, .iconst 3, 0, 0), (183, .aload_n 0, 0, 0), (184, .getfield 149, 10, 18), (187, .imul, 0, 0), (188, .iload 9, 0, 0), (190, .iadd, 0, 0), (191, .iload 9, 0, 0), (193, .iload_n 3, 0, 0), (194, .iload 4, 0, 0), (196, .iload 5, 0, 0), (198, .invokestatic 173, 112, 0), (201, .iastore, 0, 0), (202, .iinc 9 1, 0, 0), (205, .goto (-38), 1, 167), (208, .aload_n 0, 0, 0), (209, .iconst 2, 0, 0), (210, .iload_n 1, 0, 0), (211, .iload_n 2, 0, 0), (212, .iload 6, 0, 0), (214, .iload 7, 0, 0), (216, .iload 8, 0, 0), (218, .invokevirtual 186, 114, 0), (221, .ireturn, 1, 0)]
def tl_121 : List (Nat × List xI) := [(0, tr_121_0), (38, tr_121_38), (167, tr_121_167)]
def tr_122_0 : List xI := [(0, .aload_n 0, 0, 0), (1, .iconst 0, 0, 0), (2, .putfield 139, 10, 0), (5, .aload_n 0, 0, 0), (6, .iload_n 1, 0, 0), (7, .invokevirtual 190, 116, 0), (10, .ifCond .eq 21, 0, 8), (13, .aload_n 0, 0, 0), (14, .iload_n 2, 0, 0), (15, .invokevirtual 190, 116, 0), (18, .ifCond .eq 13, 0, 4), (21, .aload_n 0, 0, 0), (22, .getfield 149, 10, 18), (25, .sipush 300, 0, 0), (28, .if_icmp .ne 5, 0, 2), (31, .iconst (-1), 0, 0), (32, .ireturn, 1, 0), (33, .aload_n 0, 0, 0), (34, .getfield 41, 10, 12), (37, .iload_n 1, 0, 0), (38, .iaload, 0, 0), (39, .aload_n 0, 0, 0), (40, .getfield 41, 10, 12), (43, .iload_n 2, 0, 0), (44, .iaload, 0, 0), (45, .if_icmp .ne 38, 0, 22), (48, .aload_n 0, 0, 0), (49, .getfield 53, 10, 16), (52, .iload_n 1, 0, 0), (53, .iaload, 0, 0), (54, .aload_n 0, 0, 0), (55, .getfield 53, 10, 16), (58, .iload_n 2, 0, 0), (59, .iaload, 0, 0), (60, .if_icmp .ne 23, 0, 13), (63, .iconst 1, 0, 0), (64, .aload_n 0, 0, 0), (65, .getfield 50, 10, 15), (68, .iload_n 1, 0, 0), (69, .iaload, 0, 0), (70, .iadd, 0, 0), (71, .aload_n 0, 0, 0), (72, .getfield 50, 10, 15), (75, .iload_n 2, 0, 0), (76, .iaload, 0, 0), (77, .iadd, 0, 0), (78, .bipush 40, 0, 0), (80, .if_icmp .le 5, 0, 2), (83, .iconst (-1), 0, 0), (84, .ireturn, 1, 0), (85, .aload_n 0, 0, 0), (86, .getfield 47, 10, 14), (89, .iconst 3, 0, 0), (90, .aload_n 0, 0, 0), (91, .getfield 149, 10, 18), (94, .imul, 0, 0), (95, .iload_n 1, 0, 0), (96, .iastore, 0, 0), (97, .aload_n 0, 0, 0), (98, .getfield 47, 10, 14), (101, .iconst 3, 0, 0), (102, .aload_n 0, 0, 0), (103, .getfield 149, 10, 18), (106, .imul, 0, 0), (107, .iconst 1, 0, 0), (108, .iadd, 0, 0), (109, .iload_n 2, 0, 0), (110, .iastore, 0, 0), (111, .aload_n 0, 0, 0), (112, .iconst 4, 0, 0), (113, .aload_n 0, 0, 0), (114, .getfield 41, 10, 12), (117, .iload_n 1, 0, 0), (118, .iaload, 0, 0), (119, .iconst (-1), 0, 0), (120, .iconst 1, 0, 0), (121, .aload_n 0, 0, 0), (122, .getfield 50, 10, 15), (125, .iload_n 1, 0, 0), (126, .iaload, 0, 0), (127, .iadd, 0, 0), (128, .aload_n 0, 0, 0), (129, .getfield 50, 10, 15), (132, .iload_n 2, 0, 0), (133, .iaload, 0, 0), (134, .iadd, 0, 0), (135, .aload_n 0, 0, 0), (136, .getfield 53, 10, 16), (139, .iload_n 1, 0, 0), (140, .iaload, 0, 0), (141, .iconst 1, 0, 0), (142, .invokevirtual 186, 114, 0), (145, .ireturn, 1, 0)]
def tl_122 : List (Nat × List xI) := [(0, tr_122_0)]
def tr_123_0 : List xI := [(0, .aload_n 0, 0, 0), (1, .iconst 0, 0, 0), (2, .putfield 139, 10, 0), (5, .iload_n 1, 0, 0), (6, .iconst 1, 0, 0), (7, .if_icmp .lt 17, 0, 7), (10, .iload_n 1, 0, 0), (11, .iconst 3, 0, 0), (12, .if_icmp .gt 12, 0, 4), (15, .aload_n 0, 0, 0), (16, .getfield 152, 10, 25), (19, .bipush 20, 0, 0), (21, .if_icmp .ne 5, 0, 2), (24, .iconst (-1), 0, 0), (25, .ireturn, 1, 0), (26, .iconst 0, 0, 0), (27, .istore 5, 0, 0), (29, .nop, 1, 0)]
def tr_123_29 : List xI := [(29, .iload 5, 0, 0), (31, .iload_n 1, 0, 0), (32, .if_icmp .ge 50, 0, 26), (35, .aload_n 0, 0, 0), (36, .iload 5, 0, 0), (38, .iload_n 2, 0, 0), (39, .iload_n 3, 0, 0), (40, .iload 4, 0, 0), (42, .invokestatic 173, 112, 0), (45, .invokevirtual 142, 101, 0), (48, .ifCond .ne 5, 0, 2), (51, .iconst (-1), 0, 0), (52, .ireturn, 1, 0), (53, .aload_n 0, 0, 0), (54, .getfield 63, 10, 20), (57, .iconst 3, 0, 0), (58, .aload_n 0, 0, 0), (59, .getfield 152, 10, 25), (62, .imul, 0, 0), (63, .iload 5, 0, 0), (65, .iadd, 0, 0), (66, .iload 5, 0, 0), (68, .iload_n 2, 0, 0), (69, .iload_n 3, 0, 0), (70, .iload 4, 0, 0), (72, .invokestatic 173, 112, 0), (75, .iastore, 0, 0), (76, .iinc 5 1, 0, 0), (79, .goto (-50), 1, 29), (82, .iconst 0, 0, 0), (83, .istore 5, 0, 0), (85, .nop, 1, 0)]
def tr_123_85 : List xI := [(85, .iload 5, 0, 0), (87, .aload_n 0, 0, 0), (88, .getfield 7, 10, 1), (91, .if_icmp .ge 21, 0, 9), (94, .aload_n 0, 0, 0), (95, .getfield 23, 10, 5), (98, .iload 5, 0, 0), (100, .iaload, 0, 0), (101, .ifCond .ne 5, 0, 2), (104, .iconst (-1), 0, 0), (105, .ireturn, 1, 0), (106, .iinc 5 1, 0, 0), (109, .goto (-24), 1, 85), (112, .aload_n 0, 0, 0), (113, .getfield 60, 10, 19), (116, .aload_n 0, 0, 0), (117, .getfield 152, 10, 25), (120, .iload_n 1, 0, 0), (121, .iastore, 0, 0), (122, .aload_n 0, 0, 0), (123, .getfield 66, 10, 21), (126, .aload_n 0, 0, 0), (127, .getfield 152, 10, 25), (130, .iconst 0, 0, 0), (131, .iastore, 0, 0), (132, .aload_n 0, 0, 0), (133, .dup, 0, 0), (134, .getfield 152, 10, 25), (137, .iconst 1, 0, 0), (138, .iadd, 0, 0), (139, .putfield 152, 10, 25), (142, .aload_n 0, 0, 0), (143, .getfield 152, 10, 25), (146, .iconst 1, 0, 0), (147, .isub, 0, 0), (148, .ireturn, 1, 0)]
def tl_123 : List (Nat × List xI) := [(0, tr_123_0), (29, tr_123_29), (85, tr_123_85)]
def tr_124_0 : List xI := [(0, .iload_n 1, 0, 0), (1, .ifCond .lt 15, 0, 6), (4, .iload_n 1, 0, 0), (5, .aload_n 0, 0, 0), (6, .getfield 152, 10, 25), (9, .if_icmp .ge 7, 0, 2), (12, .iconst 1, 0, 0), (13, .goto 4, 0, 1), (16, .iconst 0, 0, 0), (17, .ireturn, 2, 0)]
def tl_124 : List (Nat × List xI) := [(0, tr_124_0)]
def tr_125_0 : List xI := [(0, .aload_n 0, 0, 0), (1, .getfield 69, 10, 22), (4, .bipush 36, 0, 0), (6, .iload_n 1, 0, 0), (7, .imul, 0, 0), (8, .iconst 3, 0, 0), (9, .iload_n 2, 0, 0), (10, .imul, 0, 0), (11, .iadd, 0, 0), (12, .iload_n 3, 0, 0), (13, .iadd, 0, 0), (14, .iaload, 0, 0), (15, .ireturn, 1, 0)]
def tl_125 : List (Nat × List xI) := [(0, tr_125_0)]
def tr_126_0 : List xI := [(0, .aload_n 0, 0, 0), (1, .getfield 38, 10, 11), (4, .iload_n 1, 0, 0), (5, .iaload, 0, 0), (6, .ifCond .eq 13, 1, 19), (9, .aload_n 0, 0, 0), (10, .getfield 38, 10, 11), (13, .iload_n 1, 0, 0), (14, .iaload, 0, 0), (15, .iconst 3, 0, 0), (16, .if_icmp .ne 20, 1, 36), (19, .nop, 1, 0)]
def tr_126_19 : List xI := [(19, .aload_n 0, 0, 0), (20, .getfield 44, 10, 13), (23, .iload_n 1, 0, 0), (24, .iaload, 0, 0), (25, .iload_n 2, 0, 0), (26, .if_icmp .ne 10, 1, 36), (29, .aload_n 0, 0, 0), (30, .getfield 41, 10, 12), (33, .iload_n 1, 0, 0), (34, .iaload, 0, 0), (35, .ireturn, 1, 0)]
def tr_126_36 : List xI := [(36, .aload_n 0, 0, 0), (37, .getfield 38, 10, 11), (40, .iload_n 1, 0, 0), (41, .iaload, 0, 0), (42, .iconst 2, 0, 0), (43, .if_icmp .ne 22, 0, 11), (46, .aload_n 0, 0, 0), (47, .aload_n 0, 0, 0), (48, .getfield 41, 10, 12), (51, .iload_n 1, 0, 0), (52, .iaload, 0, 0), (53, .aload_n 0, 0, 0), (54, .getfield 44, 10, 13), (57, .iload_n 1, 0, 0), (58, .iaload, 0, 0), (59, .invokevirtual 170, 107, 0), (62, .goto 4, 0, 1), (65, .iconst 1, 0, 0), (66, .istore_n 3, 0, 0), (67, .iconst 0, 0, 0), (68, .istore 4, 0, 0), (70, .nop, 1, 0)]
def tr_126_70 : List xI := [(70, .iload 4, 0, 0), (72, .iload_n 3, 0, 0), (73, .if_icmp .ge 40, 0, 21), (76, .aload_n 0, 0, 0), (77, .getfield 47, 10, 14), (80, .iconst 3, 0, 0), (81, .iload_n 1, 0, 0), (82, .imul, 0, 0), (83, .iload 4, 0, 0), (85, .iadd, 0, 0), (86, .iaload, 0, 0), (87, .istore 5, 0, 0), (89, .aload_n 0, 0, 0), (90, .iload 5, 0, 0), (92, .iload_n 2, 0, 0), (93, .invokevirtual 193, 117, 0), (96, .ifCond .eq 11, 0, 5), (99, .aload_n 0, 0, 0), (100, .iload 5, 0, 0), (102, .iload_n 2, 0, 0), (103, .invokevirtual 196, 126, 0), (106, .ireturn, 1, 0), (107, .iinc 4 1, 0, 0), (110, .goto (-40), 1, 70), (113, .iconst (-1), 0, 0), (114, .ireturn, 1, 0)]
def tl_126 : List (Nat × List xI) := [(0, tr_126_0), (19, tr_126_19), (36, tr_126_36), (70, tr_126_70)]
def tr_127_0 : List xI := [(0, .aload_n 0, 0, 0), (1, .iconst 0, 0, 0), (2, .putfield 139, 10, 0), (5, .aload_n 0, 0, 0), (6, .iload_n 1, 0, 0), (7, .invokevirtual 199, 124, 0), (10, .ifCond .eq 14, 0, 6), (13, .aload_n 0, 0, 0), (14, .getfield 66, 10, 21), (17, .iload_n 1, 0, 0), (18, .iaload, 0, 0), (19, .bipush 12, 0, 0), (21, .if_icmp .ne 5, 0, 2), (24, .iconst (-1), 0, 0), (25, .ireturn, 1, 0), (26, .iconst 0, 0, 0), (27, .istore 7, 0, 0), (29, .iconst 0, 0, 0), (30, .istore 8, 0, 0), (32, .iconst 0, 0, 0), (33, .istore 9, 0, 0), (35, .iconst 0, 0, 0), (36, .istore 10, 0, 0), (38, .iconst 0, 0, 0), (39, .istore 11, 0, 0), (41, .nop, 1, 0)]
def tr_127_41 : List xI := [(41, .iload 11, 0, 0), (43, .aload_n 0, 0, 0), (44, .getfield 60, 10, 19), (47, .iload_n 1, 0, 0), (48, .iaload, 0, 0), (49, .if_icmp .ge 183, 0, 50), (52, .iload 11, 0, 0), (54, .iload_n 2, 0, 0), (55, .iload_n 3, 0, 0), (56, .iload 4, 0, 0), (58, .invokestatic 173, 112, 0), (61, .istore 12, 0, 0), (63, .aload_n 0, 0, 0), (64, .iload 12, 0, 0), (66, .invokevirtual 190, 116, 0), (69, .ifCond .eq 37, 0, 20), (72, .aload_n 0, 0, 0), (73, .getfield 41, 10, 12), (76, .iload 12, 0, 0), (78, .iaload, 0, 0), (79, .aload_n 0, 0, 0), (80, .getfield 63, 10, 20), (83, .iconst 3, 0, 0), (84, .iload_n 1, 0, 0), (85, .imul, 0, 0), (86, .iload 11, 0, 0), (88, .iadd, 0, 0), (89, .iaload, 0, 0), (90, .if_icmp .ne 16, 0, 7), (93, .aload_n 0, 0, 0), (94, .getfield 53, 10, 16), (97, .iload 12, 0, 0), (99, .iaload, 0, 0), (100, .iload 7, 0, 0), (102, .iand, 0, 0), (103, .ifCond .eq 5, 0, 2), (106, .iconst (-1), 0, 0), (107, .ireturn, 1, 0), (108, .iload 7, 0, 0), (110, .aload_n 0, 0, 0), (111, .getfield 53, 10, 16), (114, .iload 12, 0, 0), (116, .iaload, 0, 0), (117, .ior, 0, 0), (118, .istore 7, 0, 0), (120, .iload 8, 0, 0), (122, .ifCond .ne 13, 0, 5), (125, .aload_n 0, 0, 0), (126, .getfield 56, 10, 17), (129, .iload 12, 0, 0), (131, .baload, 0, 0), (132, .ifCond .eq 7, 0, 2), (135, .iconst 1, 0, 0), (136, .goto 4, 1, 140), (139, .iconst 0, 0, 0), (140, .nop, 1, 0), (232, .iload 5, 0, 0), (234, .iconst (-1), 0, 0), (235, .if_icmp .eq 20, 0, 8), (238, .iload 8, 0, 0), (240, .ifCond .ne 13, 0, 4), (243, .iload 9, 0, 0), (245, .ifCond .eq 8, 0, 2), (248, .iload 10, 0, 0), (250, .ifCond .ne 5, 0, 2), (253, .iconst (-1), 0, 0), (254, .ireturn, 1, 0), (255, .iconst 0, 0, 0), (256, .istore 11, 0, 0), (258, .nop, 1, 0)]
def tr_127_140 : List xI := [(140, .istore 8, 0, 0), (142, .iload 9, 0, 0), (144, .ifCond .ne 33, 0, 13), (147, .iload 5, 0, 0), (149, .invokestatic 183, 115, 0), (152, .ifCond .eq 29, 0, 12), (155, .aload_n 0, 0, 0), (156, .iload 12, 0, 0), (158, .iload 5, 0, 0), (160, .invokevirtual 193, 117, 0), (163, .ifCond .eq 18, 0, 7), (166, .aload_n 0, 0, 0), (167, .iload 12, 0, 0), (169, .iload 5, 0, 0), (171, .invokevirtual 196, 126, 0), (174, .ifCond .ne 7, 0, 2), (177, .iconst 1, 0, 0), (178, .goto 4, 1, 182), (181, .iconst 0, 0, 0), (182, .nop, 1, 0)]
def tr_127_182 : List xI := [(182, .istore 9, 0, 0), (184, .iload 10, 0, 0), (186, .ifCond .ne 33, 0, 13), (189, .iload 6, 0, 0), (191, .invokestatic 183, 115, 0), (194, .ifCond .eq 29, 0, 12), (197, .aload_n 0, 0, 0), (198, .iload 12, 0, 0), (200, .iload 6, 0, 0), (202, .invokevirtual 193, 117, 0), (205, .ifCond .eq 18, 0, 7), (208, .aload_n 0, 0, 0), (209, .iload 12, 0, 0), (211, .iload 6, 0, 0), (213, .invokevirtual 196, 126, 0), (216, .ifCond .ne 7, 0, 2), (219, .iconst 1, 0, 0), (220, .goto 4, 0, 1), (223, .iconst 0, 0, 0), (224, .istore 10, 0, 0), (226, .iinc 11 1, 0, 0), (229, .goto (-188), 1, 41)]
def tr_127_258 : List xI := [(258, .iload 11, 0, 0), (260, .aload_n 0, 0, 0), (261, .getfield 60, 10, 19), (264, .iload_n 1, 0, 0), (265, .iaload, 0, 0), (266, .if_icmp .ge 39, 0, 22), (269, .aload_n 0, 0, 0), (270, .getfield 69, 10, 22), (273, .bipush 36, 0, 0), (275, .iload_n 1, 0, 0), (276, .imul, 0, 0), (277, .iconst 3, 0, 0), (278, .aload_n 0, 0, 0), (279, .getfield 66, 10, 21), (282, .iload_n 1, 0, 0), (283, .iaload, 0, 0), (284, .imul, 0, 0), (285, .iadd, 0, 0), (286, .iload 11, 0, 0), (288, .iadd, 0, 0), (289, .iload 11, 0, 0), (291, .iload_n 2, 0, 0), (292, .iload_n 3, 0, 0), (293, .iload 4, 0, 0), (295, .invokestatic 173, 112, 0), (298, .iastore, 0, 0), (299, .iinc 11 1, 0, 0), (302, .goto (-44), 1, 258), (305, .aload_n 0, 0, 0), (306, .getfield 72, 10, 23), (309, .bipush 12, 0, 0), (311, .iload_n 1, 0, 0), (312, .imul, 0, 0), (313, .aload_n 0, 0, 0), (314, .getfield 66, 10, 21), (317, .iload_n 1, 0, 0), (318, .iaload, 0, 0), (319, .iadd, 0, 0), (320, .iload 5, 0, 0), (322, .iastore, 0, 0), (323, .aload_n 0, 0, 0), (324, .getfield 75, 10, 24), (327, .bipush 12, 0, 0), (329, .iload_n 1, 0, 0), (330, .imul, 0, 0), (331, .aload_n 0, 0, 0), (332, .getfield 66, 10, 21), (335, .iload_n 1, 0, 0), (336, .iaload, 0, 0), (337, .iadd, 0, 0), (338, .iload 6, 0, 0), (340, .iastore, 0, 0), (341, .aload_n 0, 0, 0), (342, .getfield 66, 10, 21), (345, .iload_n 1, 0, 0), (346, .dup2, 0, 0), (347, .iaload, 0, 0), (348, .iconst 1, 0, 0), (349, .iadd, 0, 0), (350, .iastore, 0, 0), (351, .aload_n 0, 0, 0), (352, .getfield 127, 10, 51), (355, .iload_n 1, 0, 0), (356, .iconst 0, 0, 0), (357, .bastore, 0, 0), (358, .aload_n 0, 0, 0), (359, .getfield 66, 10, 21), (362, .iload_n 1, 0, 0), (363, .iaload, 0, 0), (364, .iconst 1, 0, 0), (365, .isub, 0, 0), (366, .ireturn, 1, 0)]
def tl_127 : List (Nat × List xI) := [(0, tr_127_0), (41, tr_127_41), (140, tr_127_140), (182, tr_127_182), (258, tr_127_258)]
def tr_128_0 : List xI := [(0, .aload_n 0, 0, 0), (1, .getfield 44, 10, 13), (4, .iload_n 1, 0, 0), (5, .iaload, 0, 0), (6, .istore_n 3, 0, 0), (7, .aload_n 0, 0, 0), (8, .getfield 38, 10, 11), (11, .iload_n 1, 0, 0), (12, .iaload, 0, 0), (13, .tableswitch 125 0 4 #[35, 48, 125, 64, 85], 0, 35)]
def tr_128_48 : List xI := [(48, .iload_n 3, 0, 0), (49, .ifCond .lt 10, 0, 5), (52, .aload_n 0, 0, 0), (53, .getfield 81, 10, 27), (56, .iload_n 3, 0, 0), (57, .iload_n 2, 0, 0), (58, .iastore, 0, 0), (59, .iconst 1, 0, 0), (60, .ireturn, 2, 0)]
def tr_128_61 : List xI := [(61, .aload_n 0, 0, 0), (62, .getfield 29, 10, 7), (65, .iload_n 2, 0, 0), (66, .iaload, 0, 0), (67, .iload_n 3, 0, 0), (68, .if_icmp .ne 7, 0, 2), (71, .iconst 1, 0, 0), (72, .goto 4, 0, 1), (75, .iconst 0, 0, 0), (76, .ireturn, 2, 0)]
def tr_128_77 : List xI := [(77, .aload_n 0, 0, 0), (78, .getfield 81, 10, 27), (81, .iload_n 3, 0, 0), (82, .iload_n 2, 0, 0), (83, .iastore, 0, 0), (84, .aload_n 0, 0, 0), (85, .aload_n 0, 0, 0), (86, .getfield 47, 10, 14), (89, .iconst 3, 0, 0), (90, .iload_n 1, 0, 0), (91, .imul, 0, 0), (92, .iaload, 0, 0), (93, .iload_n 2, 0, 0), (94, .invokevirtual 202, 128, 0), (97, .ireturn, 2, 0)]
def tr_128_98 : List xI := [(98, .aload_n 0, 0, 0), (99, .aload_n 0, 0, 0), (100, .getfield 47, 10, 14), (103, .iconst 3, 0, 0), (104, .iload_n 1, 0, 0), (105, .imul, 0, 0), (106, .iaload, 0, 0), (107, .iload_n 2, 0, 0), (108, .invokevirtual 202, 128, 0), (111, .ifCond .ne 21, 0, 12), (114, .aload_n 0, 0, 0), (115, .aload_n 0, 0, 0), (116, .getfield 47, 10, 14), (119, .iconst 3, 0, 0), (120, .iload_n 1, 0, 0), (121, .imul, 0, 0), (122, .iconst 1, 0, 0), (123, .iadd, 0, 0), (124, .iaload, 0, 0), (125, .iload_n 2, 0, 0), (126, .invokevirtual 202, 128, 0), (129, .ifCond .eq 7, 0, 2), (132, .iconst 1, 0, 0), (133, .goto 4, 0, 1), (136, .iconst 0, 0, 0), (137, .ireturn, 2, 0)]
def tr_128_138 : List xI := [(138, .aload_n 0, 0, 0), (139, .getfield 29, 10, 7), (142, .iload_n 2, 0, 0), (143, .iaload, 0, 0), (144, .iload_n 3, 0, 0), (145, .if_icmp .ne 7, 0, 2), (148, .iconst 1, 0, 0), (149, .goto 4, 0, 1), (152, .iconst 0, 0, 0), (153, .istore 4, 0, 0), (155, .iconst 0, 0, 0), (156, .istore 5, 0, 0), (158, .nop, 1, 0)]
def tr_128_158 : List xI := [(158, .iload 4, 0, 0), (160, .ifCond .eq 53, 0, 30), (163, .iload 5, 0, 0), (165, .aload_n 0, 0, 0), (166, .aload_n 0, 0, 0), (167, .getfield 41, 10, 12), (170, .iload_n 1, 0, 0), (171, .iaload, 0, 0), (172, .iload_n 3, 0, 0), (173, .invokevirtual 170, 107, 0), (176, .if_icmp .ge 37, 0, 21), (179, .aload_n 0, 0, 0), (180, .aload_n 0, 0, 0), (181, .getfield 47, 10, 14), (184, .iconst 3, 0, 0), (185, .iload_n 1, 0, 0), (186, .imul, 0, 0), (187, .iload 5, 0, 0), (189, .iadd, 0, 0), (190, .iaload, 0, 0), (191, .aload_n 0, 0, 0), (192, .getfield 32, 10, 8), (195, .iconst 3, 0, 0), (196, .iload_n 2, 0, 0), (197, .imul, 0, 0), (198, .iload 5, 0, 0), (200, .iadd, 0, 0), (201, .iaload, 0, 0), (202, .invokevirtual 202, 128, 0), (205, .istore 4, 0, 0), (207, .iinc 5 1, 0, 0), (210, .goto (-52), 1, 158), (213, .iload 4, 0, 0), (215, .ireturn, 2, 0)]
def tl_128 : List (Nat × List xI) := [(0, tr_128_0), (48, tr_128_48), (61, tr_128_61), (77, tr_128_77), (98, tr_128_98), (138, tr_128_138), (158, tr_128_158)]
def tr_129_0 : List xI := [(0, .iconst 0, 0, 0), (1, .istore 6, 0, 0), (3, .nop, 1, 0)]
def tr_129_3 : List xI := [(3, .iload 6, 0, 0), (5, .bipush 16, 0, 0), (7, .if_icmp .ge 17, 0, 7), (10, .aload_n 0, 0, 0), (11, .getfield 81, 10, 27), (14, .iload 6, 0, 0), (16, .iconst (-1), 0, 0), (17, .iastore, 0, 0), (18, .iinc 6 1, 0, 0), (21, .goto (-18), 1, 3), (24, .iconst 0, 0, 0), (25, .istore 6, 0, 0), (27, .nop, 1, 0)]
def tr_129_27 : List xI := [(27, .iload 6, 0, 0), (29, .aload_n 0, 0, 0), (30, .getfield 60, 10, 19), (33, .iload_n 1, 0, 0), (34, .iaload, 0, 0), (35, .if_icmp .ge 36, 0, 17), (38, .aload_n 0, 0, 0), (39, .aload_n 0, 0, 0), (40, .iload_n 1, 0, 0), (41, .iload_n 2, 0, 0), (42, .iload 6, 0, 0), (44, .invokevirtual 205, 125, 0), (47, .iload 6, 0, 0), (49, .iload_n 3, 0, 0), (50, .iload 4, 0, 0), (52, .iload 5, 0, 0), (54, .invokestatic 173, 112, 0), (57, .invokevirtual 202, 128, 0), (60, .ifCond .ne 5, 0, 2), (63, .iconst 0, 0, 0), (64, .ireturn, 2, 0), (65, .iinc 6 1, 0, 0), (68, .goto (-41), 1, 27), (71, .aload_n 0, 0, 0), (72, .getfield 72, 10, 23), (75, .bipush 12, 0, 0), (77, .iload_n 1, 0, 0), (78, .imul, 0, 0), (79, .iload_n 2, 0, 0), (80, .iadd, 0, 0), (81, .iaload, 0, 0), (82, .istore 6, 0, 0), (84, .iload 6, 0, 0), (86, .ifCond .lt 39, 0, 22), (89, .aload_n 0, 0, 0), (90, .getfield 29, 10, 7), (93, .aload_n 0, 0, 0), (94, .getfield 81, 10, 27), (97, .iload 6, 0, 0), (99, .iaload, 0, 0), (100, .iaload, 0, 0), (101, .aload_n 0, 0, 0), (102, .getfield 29, 10, 7), (105, .aload_n 0, 0, 0), (106, .getfield 81, 10, 27), (109, .aload_n 0, 0, 0), (110, .getfield 75, 10, 24), (113, .bipush 12, 0, 0), (115, .iload_n 1, 0, 0), (116, .imul, 0, 0), (117, .iload_n 2, 0, 0), (118, .iadd, 0, 0), (119, .iaload, 0, 0), (120, .iaload, 0, 0), (121, .iaload, 0, 0), (122, .if_icmp .ge 7, 0, 2), (125, .iconst 1, 0, 0), (126, .goto 4, 0, 1), (129, .iconst 0, 0, 0), (130, .ireturn, 2, 0)]
def tl_129 : List (Nat × List xI) := [(0, tr_129_0), (3, tr_129_3), (27, tr_129_27)]
def tr_130_0 : List xI := [(0, .aload_n 0, 0, 0), (1, .getfield 103, 10, 36), (4, .aload_n 0, 0, 0), (5, .getfield 208, 10, 42), (8, .iload_n 1, 0, 0), (9, .iastore, 0, 0), (10, .aload_n 0, 0, 0), (11, .getfield 106, 10, 37), (14, .aload_n 0, 0, 0), (15, .getfield 208, 10, 42), (18, .iconst 0, 0, 0), (19, .bastore, 0, 0), (20, .aload_n 0, 0, 0), (21, .getfield 118, 10, 41), (24, .aload_n 0, 0, 0), (25, .getfield 208, 10, 42), (28, .iload_n 2, 0, 0), (29, .iastore, 0, 0), (30, .aload_n 0, 0, 0), (31, .dup, 0, 0), (32, .getfield 208, 10, 42), (35, .iconst 1, 0, 0), (36, .iadd, 0, 0), (37, .putfield 208, 10, 42), (40, .aload_n 0, 0, 0), (41, .getfield 208, 10, 42), (44, .iconst 1, 0, 0), (45, .isub, 0, 0), (46, .ireturn, 1, 0)]
def tl_130 : List (Nat × List xI) := [(0, tr_130_0)]
def tr_131_0 : List xI := [(0, .aload_n 0, 0, 0), (1, .getfield 84, 10, 28), (4, .aload_n 0, 0, 0), (5, .getfield 211, 10, 31), (8, .iload_n 1, 0, 0), (9, .iastore, 0, 0), (10, .aload_n 0, 0, 0), (11, .getfield 87, 10, 29), (14, .aload_n 0, 0, 0), (15, .getfield 211, 10, 31), (18, .aload_n 0, 0, 0), (19, .getfield 214, 10, 33), (22, .iastore, 0, 0), (23, .aload_n 0, 0, 0), (24, .aload_n 0, 0, 0), (25, .getfield 214, 10, 33), (28, .iload_n 2, 0, 0), (29, .iadd, 0, 0), (30, .putfield 214, 10, 33), (33, .aload_n 0, 0, 0), (34, .dup, 0, 0), (35, .getfield 211, 10, 31), (38, .iconst 1, 0, 0), (39, .iadd, 0, 0), (40, .putfield 211, 10, 31), (43, .aload_n 0, 0, 0), (44, .getfield 211, 10, 31), (47, .iconst 1, 0, 0), (48, .isub, 0, 0), (49, .ireturn, 1, 0)]
def tl_131 : List (Nat × List xI) := [(0, tr_131_0)]
def tr_132_0 : List xI := [(0, .aload_n 0, 0, 0), (1, .getfield 95, 10, 32), (4, .aload_n 0, 0, 0), (5, .getfield 87, 10, 29), (8, .iload_n 1, 0, 0), (9, .iaload, 0, 0), (10, .iload_n 2, 0, 0), (11, .iadd, 0, 0), (12, .saload, 0, 0), (13, .ireturn, 1, 0)]
def tl_132 : List (Nat × List xI) := [(0, tr_132_0)]
def tr_133_0 : List xI := [(0, .iload_n 3, 0, 0), (1, .istore 5, 0, 0), (3, .nop, 1, 0)]
def tr_133_3 : List xI := [(3, .iload 5, 0, 0), (5, .ifCond .lt 82, 1, 87), (8, .aload_n 0, 0, 0), (9, .getfield 38, 10, 11), (12, .iload 5, 0, 0), (14, .iaload, 0, 0), (15, .iconst 3, 0, 0), (16, .if_icmp .eq 13, 1, 29), (19, .aload_n 0, 0, 0), (20, .getfield 38, 10, 11), (23, .iload 5, 0, 0), (25, .iaload, 0, 0), (26, .ifCond .ne 61, 1, 87), (29, .nop, 1, 0)]
def tr_133_29 : List xI := [(29, .aload_n 0, 0, 0), (30, .getfield 44, 10, 13), (33, .iload 5, 0, 0), (35, .iaload, 0, 0), (36, .ifCond .lt 22, 1, 58), (39, .aload_n 0, 0, 0), (40, .getfield 91, 10, 30), (43, .bipush 16, 0, 0), (45, .iload_n 1, 0, 0), (46, .imul, 0, 0), (47, .aload_n 0, 0, 0), (48, .getfield 44, 10, 13), (51, .iload 5, 0, 0), (53, .iaload, 0, 0), (54, .iadd, 0, 0), (55, .iload 4, 0, 0), (57, .iastore, 0, 0), (58, .nop, 1, 0)]
def tr_133_58 : List xI := [(58, .aload_n 0, 0, 0), (59, .getfield 38, 10, 11), (62, .iload 5, 0, 0), (64, .iaload, 0, 0), (65, .iconst 3, 0, 0), (66, .if_icmp .ne 15, 0, 7), (69, .aload_n 0, 0, 0), (70, .getfield 47, 10, 14), (73, .iconst 3, 0, 0), (74, .iload 5, 0, 0), (76, .imul, 0, 0), (77, .iaload, 0, 0), (78, .goto 4, 0, 1), (81, .iconst (-1), 0, 0), (82, .istore 5, 0, 0), (84, .goto (-81), 1, 3)]
def tr_133_87 : List xI := [(87, .aload_n 0, 0, 0), (88, .getfield 95, 10, 32), (91, .aload_n 0, 0, 0), (92, .getfield 87, 10, 29), (95, .iload_n 1, 0, 0), (96, .iaload, 0, 0), (97, .iload_n 2, 0, 0), (98, .iadd, 0, 0), (99, .iload 5, 0, 0), (101, .i2s, 0, 0), (102, .sastore, 0, 0), (103, .return_, 0, 0)]
def tl_133 : List (Nat × List xI) := [(0, tr_133_0), (3, tr_133_3), (29, tr_133_29), (58, tr_133_58), (87, tr_133_87)]
def tr_134_0 : List xI := [(0, .iconst 0, 0, 0), (1, .istore 4, 0, 0), (3, .nop, 1, 0)]
def tr_134_3 : List xI := [(3, .iload 4, 0, 0), (5, .bipush 16, 0, 0), (7, .if_icmp .ge 33, 0, 18), (10, .aload_n 0, 0, 0), (11, .getfield 91, 10, 30), (14, .bipush 16, 0, 0), (16, .iload_n 2, 0, 0), (17, .imul, 0, 0), (18, .iload 4, 0, 0), (20, .iadd, 0, 0), (21, .aload_n 0, 0, 0), (22, .getfield 91, 10, 30), (25, .bipush 16, 0, 0), (27, .iload_n 1, 0, 0), (28, .imul, 0, 0), (29, .iload 4, 0, 0), (31, .iadd, 0, 0), (32, .iaload, 0, 0), (33, .iastore, 0, 0), (34, .iinc 4 1, 0, 0), (37, .goto (-34), 1, 3), (40, .iconst 0, 0, 0), (41, .istore 4, 0, 0), (43, .nop, 1, 0)]
def tr_134_43 : List xI := [(43, .iload 4, 0, 0), (45, .iload_n 3, 0, 0), (46, .if_icmp .ge 37, 0, 20), (49, .aload_n 0, 0, 0), (50, .getfield 95, 10, 32), (53, .aload_n 0, 0, 0), (54, .getfield 87, 10, 29), (57, .iload_n 2, 0, 0), (58, .iaload, 0, 0), (59, .iload 4, 0, 0), (61, .iadd, 0, 0), (62, .aload_n 0, 0, 0), (63, .getfield 95, 10, 32), (66, .aload_n 0, 0, 0), (67, .getfield 87, 10, 29), (70, .iload_n 1, 0, 0), (71, .iaload, 0, 0), (72, .iload 4, 0, 0), (74, .iadd, 0, 0), (75, .saload, 0, 0), (76, .sastore, 0, 0), (77, .iinc 4 1, 0, 0), (80, .goto (-37), 1, 43), (83, .return_, 0, 0)]
def tl_134 : List (Nat × List xI) := [(0, tr_134_0), (3, tr_134_3), (43, tr_134_43)]
def tr_135_0 : List xI := [(0, .aload_n 0, 0, 0), (1, .iload_n 1, 0, 0), (2, .putfield 217, 10, 43), (5, .aload_n 0, 0, 0), (6, .iload_n 2, 0, 0), (7, .putfield 220, 10, 44), (10, .aload_n 0, 0, 0), (11, .iconst 0, 0, 0), (12, .putfield 224, 10, 45), (15, .aload_n 0, 0, 0), (16, .iconst 0, 0, 0), (17, .putfield 227, 10, 46), (20, .aload_n 0, 0, 0), (21, .iconst 0, 0, 0), (22, .putfield 230, 10, 48), (25, .iconst 0, 0, 0), (26, .istore 6, 0, 0), (28, .nop, 1, 0)]
def tr_135_28 : List xI := [(28, .iload 6, 0, 0), (30, .iconst 5, 0, 0), (31, .if_icmp .ge 17, 0, 7), (34, .aload_n 0, 0, 0), (35, .getfield 121, 10, 47), (38, .iload 6, 0, 0), (40, .iconst 0, 0, 0), (41, .iastore, 0, 0), (42, .iinc 6 1, 0, 0), (45, .goto (-17), 1, 28), (48, .aload_n 0, 0, 0), (49, .iconst 0, 0, 0), (50, .putfield 211, 10, 31), (53, .aload_n 0, 0, 0), (54, .iconst 0, 0, 0), (55, .putfield 214, 10, 33), (58, .aload_n 0, 0, 0), (59, .iconst 0, 0, 0), (60, .putfield 208, 10, 42), (63, .aload_n 0, 0, 0), (64, .aload_n 0, 0, 0), (65, .getfield 60, 10, 19), (68, .iload_n 1, 0, 0), (69, .iaload, 0, 0), (70, .putfield 233, 10, 35), (73, .iconst 0, 0, 0), (74, .istore 6, 0, 0), (76, .nop, 1, 0)]
def tr_135_76 : List xI := [(76, .iload 6, 0, 0), (78, .aload_n 0, 0, 0), (79, .getfield 60, 10, 19), (82, .iload_n 1, 0, 0), (83, .iaload, 0, 0), (84, .if_icmp .ge 41, 0, 21), (87, .aload_n 0, 0, 0), (88, .getfield 100, 10, 34), (91, .iload 6, 0, 0), (93, .aload_n 0, 0, 0), (94, .aload_n 0, 0, 0), (95, .getfield 63, 10, 20), (98, .iconst 3, 0, 0), (99, .iload_n 1, 0, 0), (100, .imul, 0, 0), (101, .iload 6, 0, 0), (103, .iadd, 0, 0), (104, .iaload, 0, 0), (105, .iload 6, 0, 0), (107, .iload_n 3, 0, 0), (108, .iload 4, 0, 0), (110, .iload 5, 0, 0), (112, .invokestatic 173, 112, 0), (115, .invokevirtual 236, 130, 0), (118, .iastore, 0, 0), (119, .iinc 6 1, 0, 0), (122, .goto (-46), 1, 76), (125, .iconst 0, 0, 0), (126, .istore 6, 0, 0), (128, .nop, 1, 0)]
def tr_135_128 : List xI := [(128, .iload 6, 0, 0), (130, .aload_n 0, 0, 0), (131, .getfield 66, 10, 21), (134, .iload_n 1, 0, 0), (135, .iaload, 0, 0), (136, .if_icmp .ge 97, 0, 11), (139, .aload_n 0, 0, 0), (140, .iload 6, 0, 0), (142, .aload_n 0, 0, 0), (143, .getfield 60, 10, 19), (146, .iload_n 1, 0, 0), (147, .iaload, 0, 0), (148, .invokevirtual 239, 131, 0), (151, .istore 7, 0, 0), (153, .iconst 0, 0, 0), (154, .istore 8, 0, 0), (156, .nop, 1, 0), (233, .aload_n 0, 0, 0), (234, .iconst 0, 0, 0), (235, .iconst 0, 0, 0), (236, .aload_n 0, 0, 0), (237, .getfield 60, 10, 19), (240, .iload_n 1, 0, 0), (241, .iaload, 0, 0), (242, .invokevirtual 246, 140, 0), (245, .return_, 0, 0)]
def tr_135_156 : List xI := [(156, .iload 8, 0, 0), (158, .bipush 16, 0, 0), (160, .if_icmp .ge 23, 0, 11), (163, .aload_n 0, 0, 0), (164, .getfield 91, 10, 30), (167, .bipush 16, 0, 0), (169, .iload 7, 0, 0), (171, .imul, 0, 0), (172, .iload 8, 0, 0), (174, .iadd, 0, 0), (175, .iconst (-1), 0, 0), (176, .iastore, 0, 0), (177, .iinc 8 1, 0, 0), (180, .goto (-24), 1, 156), (183, .iconst 0, 0, 0), (184, .istore 8, 0, 0), (186, .nop, 1, 0)]
def tr_135_186 : List xI := [(186, .iload 8, 0, 0), (188, .aload_n 0, 0, 0), (189, .getfield 60, 10, 19), (192, .iload_n 1, 0, 0), (193, .iaload, 0, 0), (194, .if_icmp .ge 33, 0, 15), (197, .aload_n 0, 0, 0), (198, .iload 7, 0, 0), (200, .iload 8, 0, 0), (202, .aload_n 0, 0, 0), (203, .iload_n 1, 0, 0), (204, .iload 6, 0, 0), (206, .iload 8, 0, 0), (208, .invokevirtual 205, 125, 0), (211, .aload_n 0, 0, 0), (212, .getfield 100, 10, 34), (215, .iload 8, 0, 0), (217, .iaload, 0, 0), (218, .invokevirtual 242, 133, 0), (221, .iinc 8 1, 0, 0), (224, .goto (-38), 1, 186), (227, .iinc 6 1, 0, 0), (230, .goto (-102), 1, 128)]
def tl_135 : List (Nat × List xI) := [(0, tr_135_0), (28, tr_135_28), (76, tr_135_76), (128, tr_135_128), (156, tr_135_156), (186, tr_135_186)]
def tr_136_0 : List xI := [(0, .aload_n 0, 0, 0), (1, .aload_n 0, 0, 0), (2, .getfield 224, 10, 45), (5, .ifCond .ne 12, 0, 4), (8, .aload_n 0, 0, 0), (9, .getfield 227, 10, 46), (12, .bipush 120, 0, 0), (14, .if_icmp .ne 7, 0, 2), (17, .iconst 1, 0, 0), (18, .goto 4, 1, 22), (21, .iconst 0, 0, 0), (22, .nop, 1, 0)]
def tr_136_22 : List xI := [(22, .putfield 224, 10, 45), (25, .aload_n 0, 0, 0), (26, .dup, 0, 0), (27, .getfield 227, 10, 46), (30, .iconst 1, 0, 0), (31, .iadd, 0, 0), (32, .putfield 227, 10, 46), (35, .aload_n 0, 0, 0), (36, .getfield 121, 10, 47), (39, .iload_n 1, 0, 0), (40, .dup2, 0, 0), (41, .iaload, 0, 0), (42, .iconst 1, 0, 0), (43, .iadd, 0, 0), (44, .iastore, 0, 0), (45, .aload_n 0, 0, 0), (46, .getfield 224, 10, 45), (49, .ifCond .ne 7, 0, 2), (52, .iconst 1, 0, 0), (53, .goto 4, 0, 1), (56, .iconst 0, 0, 0), (57, .ireturn, 2, 0)]
def tl_136 : List (Nat × List xI) := [(0, tr_136_0), (22, tr_136_22)]
def tr_137_0 : List xI := [(0, .iconst 0, 0, 0), (1, .istore_n 3, 0, 0), (2, .nop, 1, 0)]
def tr_137_2 : List xI := [(2, .iload_n 3, 0, 0), (3, .iload_n 2, 0, 0), (4, .if_icmp .ge 20, 0, 9), (7, .aload_n 0, 0, 0), (8, .iload_n 1, 0, 0), (9, .iload_n 3, 0, 0), (10, .invokevirtual 250, 132, 0), (13, .ifCond .lt 5, 0, 2), (16, .iload_n 3, 0, 0), (17, .ireturn, 1, 0), (18, .iinc 3 1, 0, 0), (21, .goto (-19), 1, 2), (24, .iconst (-1), 0, 0), (25, .ireturn, 1, 0)]
def tl_137 : List (Nat × List xI) := [(0, tr_137_0), (2, tr_137_2)]
def tr_138_0 : List xI := [(0, .aload_n 0, 0, 0), (1, .iload_n 1, 0, 0), (2, .iload_n 2, 0, 0), (3, .invokevirtual 250, 132, 0), (6, .ifCond .lt 22, 0, 11), (9, .aload_n 0, 0, 0), (10, .getfield 38, 10, 11), (13, .aload_n 0, 0, 0), (14, .iload_n 1, 0, 0), (15, .iload_n 2, 0, 0), (16, .invokevirtual 250, 132, 0), (19, .iaload, 0, 0), (20, .iconst 4, 0, 0), (21, .if_icmp .ne 7, 0, 2), (24, .iconst 1, 0, 0), (25, .goto 4, 0, 1), (28, .iconst 0, 0, 0), (29, .ireturn, 2, 0)]
def tl_138 : List (Nat × List xI) := [(0, tr_138_0)]
def tr_139_0 : List xI := [(0, .aload_n 0, 0, 0), (1, .getfield 211, 10, 31), (4, .iload_n 1, 0, 0), (5, .isub, 0, 0), (6, .bipush 24, 0, 0), (8, .if_icmp .ne 9, 0, 4), (11, .aload_n 0, 0, 0), (12, .iconst 1, 0, 0), (13, .putfield 224, 10, 45), (16, .return_, 0, 0), (17, .aload_n 0, 0, 0), (18, .iconst 0, 0, 0), (19, .iload 5, 0, 0), (21, .invokevirtual 239, 131, 0), (24, .istore 6, 0, 0), (26, .iload 6, 0, 0), (28, .istore 7, 0, 0), (30, .nop, 1, 0)]
def tr_139_30 : List xI := [(30, .iload 7, 0, 0), (32, .iload_n 2, 0, 0), (33, .if_icmp .le 37, 0, 19), (36, .aload_n 0, 0, 0), (37, .getfield 84, 10, 28), (40, .iload 7, 0, 0), (42, .aload_n 0, 0, 0), (43, .getfield 84, 10, 28), (46, .iload 7, 0, 0), (48, .iconst 1, 0, 0), (49, .isub, 0, 0), (50, .iaload, 0, 0), (51, .iastore, 0, 0), (52, .aload_n 0, 0, 0), (53, .iload 7, 0, 0), (55, .iconst 1, 0, 0), (56, .isub, 0, 0), (57, .iload 7, 0, 0), (59, .iload 5, 0, 0), (61, .invokevirtual 253, 134, 0), (64, .iinc 7 (-1), 0, 0), (67, .goto (-37), 1, 30), (70, .aload_n 0, 0, 0), (71, .iload_n 2, 0, 0), (72, .iload_n 3, 0, 0), (73, .invokevirtual 250, 132, 0), (76, .istore 7, 0, 0), (78, .aload_n 0, 0, 0), (79, .iload_n 2, 0, 0), (80, .iload_n 3, 0, 0), (81, .aload_n 0, 0, 0), (82, .getfield 47, 10, 14), (85, .iconst 3, 0, 0), (86, .iload 7, 0, 0), (88, .imul, 0, 0), (89, .iaload, 0, 0), (90, .aload_n 0, 0, 0), (91, .getfield 100, 10, 34), (94, .iload 4, 0, 0), (96, .iload_n 3, 0, 0), (97, .iadd, 0, 0), (98, .iaload, 0, 0), (99, .invokevirtual 242, 133, 0), (102, .aload_n 0, 0, 0), (103, .iload_n 2, 0, 0), (104, .iconst 1, 0, 0), (105, .iadd, 0, 0), (106, .iload_n 3, 0, 0), (107, .aload_n 0, 0, 0), (108, .getfield 47, 10, 14), (111, .iconst 3, 0, 0), (112, .iload 7, 0, 0), (114, .imul, 0, 0), (115, .iconst 1, 0, 0), (116, .iadd, 0, 0), (117, .iaload, 0, 0), (118, .aload_n 0, 0, 0), (119, .getfield 100, 10, 34), (122, .iload 4, 0, 0), (124, .iload_n 3, 0, 0), (125, .iadd, 0, 0), (126, .iaload, 0, 0), (127, .invokevirtual 242, 133, 0), (130, .return_, 0, 0)]
def tl_139 : List (Nat × List xI) := [(0, tr_139_0), (30, tr_139_30)]
def tr_140_0 : List xI := [(0, .aload_n 0, 0, 0), (1, .getfield 214, 10, 33), (4, .aload_n 0, 0, 0), (5, .getfield 211, 10, 31), (8, .iload_n 1, 0, 0), (9, .isub, 0, 0), (10, .iload_n 3, 0, 0), (11, .imul, 0, 0), (12, .isub, 0, 0), (13, .istore 4, 0, 0), (15, .iload_n 1, 0, 0), (16, .aload_n 0, 0, 0), (17, .getfield 211, 10, 31), (20, .if_icmp .ge 12, 0, 5), (23, .aload_n 0, 0, 0), (24, .iload_n 1, 0, 0), (25, .iload_n 3, 0, 0), (26, .invokevirtual 256, 137, 0), (29, .goto 4, 0, 1), (32, .iconst (-1), 0, 0), (33, .istore 5, 0, 0), (35, .nop, 1, 0)]
def tr_140_35 : List xI := [(35, .iload 5, 0, 0), (37, .ifCond .lt 41, 1, 78), (40, .aload_n 0, 0, 0), (41, .iload_n 1, 0, 0), (42, .iload 5, 0, 0), (44, .invokevirtual 259, 138, 0), (47, .ifCond .eq 31, 1, 78), (50, .aload_n 0, 0, 0), (51, .getfield 224, 10, 45), (54, .ifCond .ne 24, 1, 78), (57, .aload_n 0, 0, 0), (58, .iload_n 1, 0, 0), (59, .iload_n 1, 0, 0), (60, .iload 5, 0, 0), (62, .iload_n 2, 0, 0), (63, .iload_n 3, 0, 0), (64, .invokevirtual 262, 139, 0), (67, .aload_n 0, 0, 0), (68, .iload_n 1, 0, 0), (69, .iload_n 3, 0, 0), (70, .invokevirtual 256, 137, 0), (73, .istore 5, 0, 0), (75, .goto (-40), 1, 35)]
def tr_140_78 : List xI := [(78, .aload_n 0, 0, 0), (79, .getfield 224, 10, 45), (82, .ifCond .ne 100, 1, 182), (85, .iload_n 1, 0, 0), (86, .aload_n 0, 0, 0), (87, .getfield 211, 10, 31), (90, .if_icmp .ne 10, 0, 3), (93, .aload_n 0, 0, 0), (94, .invokevirtual 266, 141, 0), (97, .goto 85, 1, 182), (100, .iload 5, 0, 0), (102, .ifCond .ge 13, 0, 6), (105, .aload_n 0, 0, 0), (106, .iload_n 1, 0, 0), (107, .iload_n 2, 0, 0), (108, .iload_n 3, 0, 0), (109, .invokevirtual 269, 142, 0), (112, .goto 70, 1, 182), (115, .iload_n 1, 0, 0), (116, .istore 6, 0, 0), (118, .nop, 1, 0)]
def tr_140_118 : List xI := [(118, .iload 6, 0, 0), (120, .aload_n 0, 0, 0), (121, .getfield 211, 10, 31), (124, .if_icmp .ge 41, 0, 1), (127, .nop, 1, 0), (165, .aload_n 0, 0, 0), (166, .iconst 0, 0, 0), (167, .invokevirtual 272, 136, 0), (170, .ifCond .eq 12, 1, 182), (173, .aload_n 0, 0, 0), (174, .iload_n 1, 0, 0), (175, .iload 5, 0, 0), (177, .iload_n 2, 0, 0), (178, .iload_n 3, 0, 0), (179, .invokevirtual 275, 143, 0), (182, .nop, 1, 0)]
def tr_140_127 : List xI := [(127, .aload_n 0, 0, 0), (128, .iload 6, 0, 0), (130, .iload 5, 0, 0), (132, .invokevirtual 259, 138, 0), (135, .ifCond .eq 24, 0, 11), (138, .aload_n 0, 0, 0), (139, .getfield 224, 10, 45), (142, .ifCond .ne 17, 0, 8), (145, .aload_n 0, 0, 0), (146, .iload_n 1, 0, 0), (147, .iload 6, 0, 0), (149, .iload 5, 0, 0), (151, .iload_n 2, 0, 0), (152, .iload_n 3, 0, 0), (153, .invokevirtual 262, 139, 0), (156, .goto (-29), 1, 127), (159, .iinc 6 1, 0, 0), (162, .goto (-44), 1, 118)]
def tr_140_182 : List xI := [(182, .aload_n 0, 0, 0), (183, .iload_n 1, 0, 0), (184, .putfield 211, 10, 31), (187, .aload_n 0, 0, 0), (188, .iload 4, 0, 0), (190, .putfield 214, 10, 33), (193, .return_, 0, 0)]
def tl_140 : List (Nat × List xI) := [(0, tr_140_0), (35, tr_140_35), (78, tr_140_78), (118, tr_140_118), (127, tr_140_127), (182, tr_140_182)]
def tr_141_0 : List xI := [(0, .aload_n 0, 0, 0), (1, .iconst 3, 0, 0), (2, .invokevirtual 272, 136, 0), (5, .ifCond .eq 53, 0, 15), (8, .aload_n 0, 0, 0), (9, .getfield 220, 10, 44), (12, .ifCond .ne 46, 0, 12), (15, .aload_n 0, 0, 0), (16, .getfield 230, 10, 48), (19, .ifCond .ne 39, 0, 9), (22, .aload_n 0, 0, 0), (23, .iconst 1, 0, 0), (24, .putfield 230, 10, 48), (27, .aload_n 0, 0, 0), (28, .iconst 0, 0, 0), (29, .putfield 278, 10, 50), (32, .iconst 0, 0, 0), (33, .istore_n 1, 0, 0), (34, .nop, 1, 0), (58, .return_, 0, 0)]
def tr_141_34 : List xI := [(34, .iload_n 1, 0, 0), (35, .aload_n 0, 0, 0), (36, .getfield 60, 10, 19), (39, .aload_n 0, 0, 0), (40, .getfield 217, 10, 43), (43, .iaload, 0, 0), (44, .if_icmp .ge 14, 0, 5), (47, .aload_n 0, 0, 0), (48, .iload_n 1, 0, 0), (49, .invokevirtual 281, 148, 0), (52, .iinc 1 1, 0, 0), (55, .goto (-21), 1, 34), (58, .return_, 0, 0)]
def tl_141 : List (Nat × List xI) := [(0, tr_141_0), (34, tr_141_34)]
def tr_142_0 : List xI := [(0, .aload_n 0, 0, 0), (1, .getfield 84, 10, 28), (4, .iload_n 1, 0, 0), (5, .iaload, 0, 0), (6, .istore 4, 0, 0), (8, .aload_n 0, 0, 0), (9, .getfield 72, 10, 23), (12, .bipush 12, 0, 0), (14, .aload_n 0, 0, 0), (15, .getfield 217, 10, 43), (18, .imul, 0, 0), (19, .iload 4, 0, 0), (21, .iadd, 0, 0), (22, .iaload, 0, 0), (23, .istore 5, 0, 0), (25, .aload_n 0, 0, 0), (26, .getfield 121, 10, 47), (29, .iconst 4, 0, 0), (30, .aload_n 0, 0, 0), (31, .getfield 121, 10, 47), (34, .iconst 4, 0, 0), (35, .iaload, 0, 0), (36, .iconst 1, 0, 0), (37, .iload 4, 0, 0), (39, .ishl, 0, 0), (40, .ior, 0, 0), (41, .iastore, 0, 0), (42, .aload_n 0, 0, 0), (43, .iload 5, 0, 0), (45, .ifCond .ge 7, 0, 2), (48, .iconst 2, 0, 0), (49, .goto 4, 1, 53), (52, .iconst 1, 0, 0), (53, .nop, 1, 0)]
def tr_142_53 : List xI := [(53, .invokevirtual 272, 136, 0), (56, .ifCond .eq 8, 0, 2), (59, .iload 5, 0, 0), (61, .ifCond .ge 4, 0, 1), (64, .return_, 0, 0), (65, .aload_n 0, 0, 0), (66, .getfield 220, 10, 44), (69, .ifCond .eq 72, 1, 141), (72, .aload_n 0, 0, 0), (73, .getfield 118, 10, 41), (76, .aload_n 0, 0, 0), (77, .getfield 91, 10, 30), (80, .bipush 16, 0, 0), (82, .iload_n 1, 0, 0), (83, .imul, 0, 0), (84, .iload 5, 0, 0), (86, .iadd, 0, 0), (87, .iaload, 0, 0), (88, .iaload, 0, 0), (89, .istore 6, 0, 0), (91, .aload_n 0, 0, 0), (92, .getfield 118, 10, 41), (95, .aload_n 0, 0, 0), (96, .getfield 91, 10, 30), (99, .bipush 16, 0, 0), (101, .iload_n 1, 0, 0), (102, .imul, 0, 0), (103, .aload_n 0, 0, 0), (104, .getfield 75, 10, 24), (107, .bipush 12, 0, 0), (109, .aload_n 0, 0, 0), (110, .getfield 217, 10, 43), (113, .imul, 0, 0), (114, .iload 4, 0, 0), (116, .iadd, 0, 0), (117, .iaload, 0, 0), (118, .iadd, 0, 0), (119, .iaload, 0, 0), (120, .iaload, 0, 0), (121, .istore 7, 0, 0), (123, .aload_n 0, 0, 0), (124, .getfield 29, 10, 7), (127, .iload 6, 0, 0), (129, .iaload, 0, 0), (130, .aload_n 0, 0, 0), (131, .getfield 29, 10, 7), (134, .iload 7, 0, 0), (136, .iaload, 0, 0), (137, .if_icmp .ge 4, 1, 141), (140, .return_, 0, 0)]
def tr_142_141 : List xI := [(141, .aload_n 0, 0, 0), (142, .getfield 211, 10, 31), (145, .istore 6, 0, 0), (147, .iload_n 1, 0, 0), (148, .iconst 1, 0, 0), (149, .iadd, 0, 0), (150, .istore 7, 0, 0), (152, .nop, 1, 0)]
def tr_142_152 : List xI := [(152, .iload 7, 0, 0), (154, .iload 6, 0, 0), (156, .if_icmp .ge 32, 0, 15), (159, .aload_n 0, 0, 0), (160, .aload_n 0, 0, 0), (161, .getfield 84, 10, 28), (164, .iload 7, 0, 0), (166, .iaload, 0, 0), (167, .iload_n 3, 0, 0), (168, .invokevirtual 239, 131, 0), (171, .istore 8, 0, 0), (173, .aload_n 0, 0, 0), (174, .iload 7, 0, 0), (176, .iload 8, 0, 0), (178, .iload_n 3, 0, 0), (179, .invokevirtual 253, 134, 0), (182, .iinc 7 1, 0, 0), (185, .goto (-33), 1, 152), (188, .aload_n 0, 0, 0), (189, .iload 6, 0, 0), (191, .iload_n 2, 0, 0), (192, .iload_n 3, 0, 0), (193, .invokevirtual 246, 140, 0), (196, .return_, 0, 0)]
def tl_142 : List (Nat × List xI) := [(0, tr_142_0), (53, tr_142_53), (141, tr_142_141), (152, tr_142_152)]
def tr_143_0 : List xI := [(0, .aload_n 0, 0, 0), (1, .getfield 100, 10, 34), (4, .iload_n 3, 0, 0), (5, .iload_n 2, 0, 0), (6, .iadd, 0, 0), (7, .iaload, 0, 0), (8, .istore 5, 0, 0), (10, .aload_n 0, 0, 0), (11, .getfield 103, 10, 36), (14, .iload 5, 0, 0), (16, .iaload, 0, 0), (17, .istore 6, 0, 0), (19, .aload_n 0, 0, 0), (20, .getfield 211, 10, 31), (23, .istore 7, 0, 0), (25, .iconst 0, 0, 0), (26, .istore 8, 0, 0), (28, .iconst (-1), 0, 0), (29, .istore 9, 0, 0), (31, .iconst 1, 0, 0), (32, .istore 10, 0, 0), (34, .iconst 1, 0, 0), (35, .istore 11, 0, 0), (37, .iconst 0, 0, 0), (38, .istore 12, 0, 0), (40, .nop, 1, 0)]
def tr_143_40 : List xI := [(40, .iload 10, 0, 0), (42, .ifCond .eq 163, 1, 205), (45, .aload_n 0, 0, 0), (46, .getfield 224, 10, 45), (49, .ifCond .ne 156, 1, 205), (52, .iconst 0, 0, 0), (53, .istore 10, 0, 0), (55, .iconst 0, 0, 0), (56, .istore 13, 0, 0), (58, .iload_n 1, 0, 0), (59, .istore 14, 0, 0), (61, .nop, 1, 0)]
def tr_143_61 : List xI := [(61, .iload 14, 0, 0), (63, .iload 7, 0, 0), (65, .if_icmp .ge 81, 0, 19), (68, .aload_n 0, 0, 0), (69, .iload 14, 0, 0), (71, .iload_n 2, 0, 0), (72, .invokevirtual 250, 132, 0), (75, .istore 15, 0, 0), (77, .iload 15, 0, 0), (79, .ifCond .lt 24, 0, 10), (82, .iload 11, 0, 0), (84, .ifCond .ne 15, 0, 6), (87, .aload_n 0, 0, 0), (88, .getfield 44, 10, 13), (91, .iload 15, 0, 0), (93, .iaload, 0, 0), (94, .iload 9, 0, 0), (96, .if_icmp .le 7, 0, 2), (99, .iconst 1, 0, 0), (100, .goto 4, 1, 104), (103, .iconst 0, 0, 0), (104, .nop, 1, 0), (146, .iload 10, 0, 0), (148, .ifCond .eq 54, 0, 18), (151, .iinc 8 1, 0, 0), (154, .iconst 0, 0, 0), (155, .istore 11, 0, 0), (157, .iload 13, 0, 0), (159, .istore 9, 0, 0), (161, .aload_n 0, 0, 0), (162, .getfield 220, 10, 44), (165, .ifCond .eq 20, 1, 185), (168, .aload_n 0, 0, 0), (169, .getfield 29, 10, 7), (172, .aload_n 0, 0, 0), (173, .getfield 118, 10, 41), (176, .iload 5, 0, 0), (178, .iaload, 0, 0), (179, .iaload, 0, 0), (180, .iload 13, 0, 0), (182, .if_icmp .ne 20, 0, 1), (185, .nop, 1, 0), (202, .goto (-162), 1, 40)]
def tr_143_104 : List xI := [(104, .istore 16, 0, 0), (106, .iload 16, 0, 0), (108, .ifCond .eq 32, 0, 9), (111, .iload 10, 0, 0), (113, .ifCond .eq 15, 1, 128), (116, .aload_n 0, 0, 0), (117, .getfield 44, 10, 13), (120, .iload 15, 0, 0), (122, .iaload, 0, 0), (123, .iload 13, 0, 0), (125, .if_icmp .ge 15, 0, 1), (128, .nop, 1, 0), (140, .iinc 14 1, 0, 0), (143, .goto (-82), 1, 61)]
def tr_143_128 : List xI := [(128, .aload_n 0, 0, 0), (129, .getfield 44, 10, 13), (132, .iload 15, 0, 0), (134, .iaload, 0, 0), (135, .istore 13, 0, 0), (137, .iconst 1, 0, 0), (138, .istore 10, 0, 0), (140, .iinc 14 1, 0, 0), (143, .goto (-82), 1, 61)]
def tr_143_185 : List xI := [(185, .iconst 1, 0, 0), (186, .istore 12, 0, 0), (188, .aload_n 0, 0, 0), (189, .iload_n 1, 0, 0), (190, .iload 7, 0, 0), (192, .iload_n 2, 0, 0), (193, .iload 13, 0, 0), (195, .iconst 0, 0, 0), (196, .iload_n 3, 0, 0), (197, .iload 4, 0, 0), (199, .invokevirtual 285, 145, 0), (202, .goto (-162), 1, 40)]
def tr_143_205 : List xI := [(205, .iload 6, 0, 0), (207, .ifCond .eq 15, 1, 222), (210, .iload 8, 0, 0), (212, .aload_n 0, 0, 0), (213, .getfield 13, 10, 2), (216, .iload 6, 0, 0), (218, .iaload, 0, 0), (219, .if_icmp .ge 42, 0, 1), (222, .nop, 1, 0), (261, .aload_n 0, 0, 0), (262, .getfield 106, 10, 37), (265, .iload 5, 0, 0), (267, .iconst 0, 0, 0), (268, .bastore, 0, 0), (269, .return_, 0, 0)]
def tr_143_222 : List xI := [(222, .aload_n 0, 0, 0), (223, .getfield 224, 10, 45), (226, .ifCond .ne 35, 0, 6), (229, .aload_n 0, 0, 0), (230, .getfield 220, 10, 44), (233, .ifCond .eq 8, 1, 241), (236, .iload 12, 0, 0), (238, .ifCond .ne 23, 0, 1), (241, .nop, 1, 0), (261, .aload_n 0, 0, 0), (262, .getfield 106, 10, 37), (265, .iload 5, 0, 0), (267, .iconst 0, 0, 0), (268, .bastore, 0, 0), (269, .return_, 0, 0)]
def tr_143_241 : List xI := [(241, .aload_n 0, 0, 0), (242, .iload_n 1, 0, 0), (243, .iload 7, 0, 0), (245, .iload_n 2, 0, 0), (246, .aload_n 0, 0, 0), (247, .iload_n 1, 0, 0), (248, .iload 7, 0, 0), (250, .iload_n 2, 0, 0), (251, .invokevirtual 289, 144, 0), (254, .iconst 1, 0, 0), (255, .iload_n 3, 0, 0), (256, .iload 4, 0, 0), (258, .invokevirtual 285, 145, 0), (261, .aload_n 0, 0, 0), (262, .getfield 106, 10, 37), (265, .iload 5, 0, 0), (267, .iconst 0, 0, 0), (268, .bastore, 0, 0), (269, .return_, 0, 0)]
def tl_143 : List (Nat × List xI) := [(0, tr_143_0), (40, tr_143_40), (61, tr_143_61), (104, tr_143_104), (128, tr_143_128), (185, tr_143_185), (205, tr_143_205), (222, tr_143_222), (241, tr_143_241)]
def tr_144_0 : List xI := [(0, .iconst 0, 0, 0), (1, .istore 4, 0, 0), (3, .iconst 1, 0, 0), (4, .istore 5, 0, 0), (6, .nop, 1, 0)]
def tr_144_6 : List xI := [(6, .iload 5, 0, 0), (8, .ifCond .eq 79, 0, 5), (11, .iconst 0, 0, 0), (12, .istore 5, 0, 0), (14, .iload_n 1, 0, 0), (15, .istore 6, 0, 0), (17, .nop, 1, 0), (87, .iload 4, 0, 0), (89, .ireturn, 1, 0)]
def tr_144_17 : List xI := [(17, .iload 6, 0, 0), (19, .iload_n 2, 0, 0), (20, .if_icmp .ge 48, 0, 22), (23, .iload 5, 0, 0), (25, .ifCond .ne 30, 0, 14), (28, .aload_n 0, 0, 0), (29, .iload 6, 0, 0), (31, .iload_n 3, 0, 0), (32, .invokevirtual 250, 132, 0), (35, .ifCond .lt 24, 0, 11), (38, .aload_n 0, 0, 0), (39, .getfield 44, 10, 13), (42, .aload_n 0, 0, 0), (43, .iload 6, 0, 0), (45, .iload_n 3, 0, 0), (46, .invokevirtual 250, 132, 0), (49, .iaload, 0, 0), (50, .iload 4, 0, 0), (52, .if_icmp .ne 7, 0, 2), (55, .iconst 1, 0, 0), (56, .goto 4, 0, 1), (59, .iconst 0, 0, 0), (60, .istore 5, 0, 0), (62, .iinc 6 1, 0, 0), (65, .goto (-48), 1, 17), (68, .iload 5, 0, 0), (70, .ifCond .eq 10, 0, 4), (73, .iload 4, 0, 0), (75, .iconst 1, 0, 0), (76, .iadd, 0, 0), (77, .goto 5, 0, 1), (80, .iload 4, 0, 0), (82, .istore 4, 0, 0), (84, .goto (-78), 1, 6)]
def tl_144 : List (Nat × List xI) := [(0, tr_144_0), (6, tr_144_6), (17, tr_144_17)]
def tr_145_0 : List xI := [(0, .aload_n 0, 0, 0), (1, .getfield 100, 10, 34), (4, .iload 6, 0, 0), (6, .iload_n 3, 0, 0), (7, .iadd, 0, 0), (8, .iaload, 0, 0), (9, .istore 8, 0, 0), (11, .aload_n 0, 0, 0), (12, .getfield 103, 10, 36), (15, .iload 8, 0, 0), (17, .iaload, 0, 0), (18, .istore 9, 0, 0), (20, .iload 5, 0, 0), (22, .ifCond .ne 8, 0, 2), (25, .iload 9, 0, 0), (27, .ifCond .ne 7, 0, 2), (30, .iconst 0, 0, 0), (31, .goto 11, 1, 42), (34, .aload_n 0, 0, 0), (35, .iload 9, 0, 0), (37, .iload 4, 0, 0), (39, .invokevirtual 170, 107, 0), (42, .nop, 1, 0)]
def tr_145_42 : List xI := [(42, .istore 10, 0, 0), (44, .aload_n 0, 0, 0), (45, .getfield 233, 10, 35), (48, .istore 11, 0, 0), (50, .aload_n 0, 0, 0), (51, .getfield 208, 10, 42), (54, .istore 12, 0, 0), (56, .aload_n 0, 0, 0), (57, .aload_n 0, 0, 0), (58, .getfield 233, 10, 35), (61, .iload 7, 0, 0), (63, .iadd, 0, 0), (64, .iconst 1, 0, 0), (65, .isub, 0, 0), (66, .iload 10, 0, 0), (68, .iadd, 0, 0), (69, .putfield 233, 10, 35), (72, .aload_n 0, 0, 0), (73, .getfield 106, 10, 37), (76, .iload 8, 0, 0), (78, .iconst 1, 0, 0), (79, .bastore, 0, 0), (80, .aload_n 0, 0, 0), (81, .getfield 109, 10, 38), (84, .iload 8, 0, 0), (86, .iload 4, 0, 0), (88, .iastore, 0, 0), (89, .aload_n 0, 0, 0), (90, .getfield 112, 10, 39), (93, .iload 8, 0, 0), (95, .iload 5, 0, 0), (97, .bastore, 0, 0), (98, .aload_n 0, 0, 0), (99, .getfield 115, 10, 40), (102, .iload 8, 0, 0), (104, .aload_n 0, 0, 0), (105, .getfield 208, 10, 42), (108, .iastore, 0, 0), (109, .iconst 0, 0, 0), (110, .istore 13, 0, 0), (112, .nop, 1, 0)]
def tr_145_112 : List xI := [(112, .iload 13, 0, 0), (114, .iload 7, 0, 0), (116, .iconst 1, 0, 0), (117, .isub, 0, 0), (118, .iload 10, 0, 0), (120, .iadd, 0, 0), (121, .if_icmp .ge 130, 0, 12), (124, .iload 13, 0, 0), (126, .iload_n 3, 0, 0), (127, .if_icmp .lt 16, 0, 7), (130, .iload 13, 0, 0), (132, .iload_n 3, 0, 0), (133, .iload 10, 0, 0), (135, .iadd, 0, 0), (136, .if_icmp .ge 7, 0, 2), (139, .iconst 1, 0, 0), (140, .goto 4, 1, 144), (143, .iconst 0, 0, 0), (144, .nop, 1, 0), (251, .iload_n 1, 0, 0), (252, .istore 13, 0, 0), (254, .nop, 1, 0)]
def tr_145_144 : List xI := [(144, .istore 14, 0, 0), (146, .iload 14, 0, 0), (148, .ifCond .eq 32, 0, 17), (151, .aload_n 0, 0, 0), (152, .getfield 220, 10, 44), (155, .ifCond .eq 25, 0, 14), (158, .aload_n 0, 0, 0), (159, .getfield 32, 10, 8), (162, .iconst 3, 0, 0), (163, .aload_n 0, 0, 0), (164, .getfield 118, 10, 41), (167, .iload 8, 0, 0), (169, .iaload, 0, 0), (170, .imul, 0, 0), (171, .iload 13, 0, 0), (173, .iadd, 0, 0), (174, .iload_n 3, 0, 0), (175, .isub, 0, 0), (176, .iaload, 0, 0), (177, .goto 4, 1, 181), (180, .iconst (-1), 0, 0), (181, .nop, 1, 0)]
def tr_145_181 : List xI := [(181, .istore 15, 0, 0), (183, .aload_n 0, 0, 0), (184, .getfield 100, 10, 34), (187, .iload 11, 0, 0), (189, .iload 13, 0, 0), (191, .iadd, 0, 0), (192, .iload 14, 0, 0), (194, .ifCond .eq 24, 0, 11), (197, .aload_n 0, 0, 0), (198, .aload_n 0, 0, 0), (199, .iload 9, 0, 0), (201, .iload 4, 0, 0), (203, .iload 13, 0, 0), (205, .iload_n 3, 0, 0), (206, .isub, 0, 0), (207, .invokevirtual 177, 108, 0), (210, .iload 15, 0, 0), (212, .invokevirtual 236, 130, 0), (215, .goto 29, 0, 15), (218, .aload_n 0, 0, 0), (219, .getfield 100, 10, 34), (222, .iload 6, 0, 0), (224, .iload 13, 0, 0), (226, .iload_n 3, 0, 0), (227, .if_icmp .ge 8, 0, 2), (230, .iload 13, 0, 0), (232, .goto 10, 0, 5), (235, .iload 13, 0, 0), (237, .iload 10, 0, 0), (239, .isub, 0, 0), (240, .iconst 1, 0, 0), (241, .iadd, 0, 0), (242, .iadd, 0, 0), (243, .iaload, 0, 0), (244, .iastore, 0, 0), (245, .iinc 13 1, 0, 0), (248, .goto (-136), 1, 112)]
def tr_145_254 : List xI := [(254, .iload 13, 0, 0), (256, .iload_n 2, 0, 0), (257, .if_icmp .ge 228, 0, 18), (260, .aload_n 0, 0, 0), (261, .iload 13, 0, 0), (263, .iload_n 3, 0, 0), (264, .invokevirtual 250, 132, 0), (267, .istore 14, 0, 0), (269, .iload 14, 0, 0), (271, .ifCond .lt 20, 1, 291), (274, .iload 5, 0, 0), (276, .ifCond .ne 203, 0, 7), (279, .aload_n 0, 0, 0), (280, .getfield 44, 10, 13), (283, .iload 14, 0, 0), (285, .iaload, 0, 0), (286, .iload 4, 0, 0), (288, .if_icmp .ne 191, 0, 1), (291, .nop, 1, 0), (479, .iinc 13 1, 0, 0), (482, .goto (-228), 1, 254), (485, .aload_n 0, 0, 0), (486, .iload_n 2, 0, 0), (487, .iload 11, 0, 0), (489, .iload 7, 0, 0), (491, .iconst 1, 0, 0), (492, .isub, 0, 0), (493, .iload 10, 0, 0), (495, .iadd, 0, 0), (496, .invokevirtual 246, 140, 0), (499, .aload_n 0, 0, 0), (500, .iload 12, 0, 0), (502, .putfield 208, 10, 42), (505, .aload_n 0, 0, 0), (506, .iload 11, 0, 0), (508, .putfield 233, 10, 35), (511, .return_, 0, 0)]
def tr_145_291 : List xI := [(291, .aload_n 0, 0, 0), (292, .aload_n 0, 0, 0), (293, .getfield 84, 10, 28), (296, .iload 13, 0, 0), (298, .iaload, 0, 0), (299, .iload 7, 0, 0), (301, .iconst 1, 0, 0), (302, .isub, 0, 0), (303, .iload 10, 0, 0), (305, .iadd, 0, 0), (306, .invokevirtual 239, 131, 0), (309, .istore 15, 0, 0), (311, .iconst 0, 0, 0), (312, .istore 16, 0, 0), (314, .nop, 1, 0)]
def tr_145_314 : List xI := [(314, .iload 16, 0, 0), (316, .bipush 16, 0, 0), (318, .if_icmp .ge 35, 0, 18), (321, .aload_n 0, 0, 0), (322, .getfield 91, 10, 30), (325, .bipush 16, 0, 0), (327, .iload 15, 0, 0), (329, .imul, 0, 0), (330, .iload 16, 0, 0), (332, .iadd, 0, 0), (333, .aload_n 0, 0, 0), (334, .getfield 91, 10, 30), (337, .bipush 16, 0, 0), (339, .iload 13, 0, 0), (341, .imul, 0, 0), (342, .iload 16, 0, 0), (344, .iadd, 0, 0), (345, .iaload, 0, 0), (346, .iastore, 0, 0), (347, .iinc 16 1, 0, 0), (350, .goto (-36), 1, 314), (353, .iconst 0, 0, 0), (354, .istore 16, 0, 0), (356, .nop, 1, 0)]
def tr_145_356 : List xI := [(356, .iload 16, 0, 0), (358, .iload 7, 0, 0), (360, .iconst 1, 0, 0), (361, .isub, 0, 0), (362, .iload 10, 0, 0), (364, .iadd, 0, 0), (365, .if_icmp .ge 114, 0, 26), (368, .iload 16, 0, 0), (370, .iload_n 3, 0, 0), (371, .if_icmp .lt 56, 1, 427), (374, .iload 16, 0, 0), (376, .iload_n 3, 0, 0), (377, .iload 10, 0, 0), (379, .iadd, 0, 0), (380, .if_icmp .ge 47, 1, 427), (383, .aload_n 0, 0, 0), (384, .iload 15, 0, 0), (386, .iload 16, 0, 0), (388, .iload 14, 0, 0), (390, .ifCond .ge 7, 0, 2), (393, .iconst (-1), 0, 0), (394, .goto 17, 1, 411), (397, .aload_n 0, 0, 0), (398, .getfield 47, 10, 14), (401, .iconst 3, 0, 0), (402, .iload 14, 0, 0), (404, .imul, 0, 0), (405, .iload 16, 0, 0), (407, .iadd, 0, 0), (408, .iload_n 3, 0, 0), (409, .isub, 0, 0), (410, .iaload, 0, 0), (411, .nop, 1, 0), (479, .iinc 13 1, 0, 0), (482, .goto (-228), 1, 254)]
def tr_145_411 : List xI := [(411, .aload_n 0, 0, 0), (412, .getfield 100, 10, 34), (415, .iload 11, 0, 0), (417, .iload 16, 0, 0), (419, .iadd, 0, 0), (420, .iaload, 0, 0), (421, .invokevirtual 242, 133, 0), (424, .goto 49, 0, 0), (473, .iinc 16 1, 0, 0), (476, .goto (-120), 1, 356)]
def tr_145_427 : List xI := [(427, .aload_n 0, 0, 0), (428, .getfield 95, 10, 32), (431, .aload_n 0, 0, 0), (432, .getfield 87, 10, 29), (435, .iload 15, 0, 0), (437, .iaload, 0, 0), (438, .iload 16, 0, 0), (440, .iadd, 0, 0), (441, .aload_n 0, 0, 0), (442, .getfield 95, 10, 32), (445, .aload_n 0, 0, 0), (446, .getfield 87, 10, 29), (449, .iload 13, 0, 0), (451, .iaload, 0, 0), (452, .iload 16, 0, 0), (454, .iload_n 3, 0, 0), (455, .if_icmp .ge 8, 0, 2), (458, .iload 16, 0, 0), (460, .goto 10, 0, 5), (463, .iload 16, 0, 0), (465, .iload 10, 0, 0), (467, .isub, 0, 0), (468, .iconst 1, 0, 0), (469, .iadd, 0, 0), (470, .iadd, 0, 0), (471, .saload, 0, 0), (472, .sastore, 0, 0), (473, .iinc 16 1, 0, 0), (476, .goto (-120), 1, 356)]
def tl_145 : List (Nat × List xI) := [(0, tr_145_0), (42, tr_145_42), (112, tr_145_112), (144, tr_145_144), (181, tr_145_181), (254, tr_145_254), (291, tr_145_291), (314, tr_145_314), (356, tr_145_356), (411, tr_145_411), (427, tr_145_427)]
def tr_146_0 : List xI := [(0, .aload_n 0, 0, 0), (1, .getfield 278, 10, 50), (4, .sipush 4001, 0, 0), (7, .if_icmp .ge 23, 0, 12), (10, .aload_n 0, 0, 0), (11, .getfield 124, 10, 49), (14, .aload_n 0, 0, 0), (15, .getfield 278, 10, 50), (18, .iload_n 1, 0, 0), (19, .iastore, 0, 0), (20, .aload_n 0, 0, 0), (21, .dup, 0, 0), (22, .getfield 278, 10, 50), (25, .iconst 1, 0, 0), (26, .iadd, 0, 0), (27, .putfield 278, 10, 50), (30, .return_, 0, 0)]
def tl_146 : List (Nat × List xI) := [(0, tr_146_0)]
def tr_147_0 : List xI := [(0, .iload_n 1, 0, 0), (1, .ifCond .ne 9, 0, 4), (4, .aload_n 0, 0, 0), (5, .iconst 0, 0, 0), (6, .invokevirtual 292, 146, 0), (9, .return_, 0, 0), (10, .iconst 0, 0, 0), (11, .istore_n 2, 0, 0), (12, .nop, 1, 0)]
def tr_147_12 : List xI := [(12, .aload_n 0, 0, 0), (13, .iload_n 1, 0, 0), (14, .iload_n 2, 0, 0), (15, .invokevirtual 158, 104, 0), (18, .aload_n 0, 0, 0), (19, .getfield 23, 10, 5), (22, .iload_n 1, 0, 0), (23, .iaload, 0, 0), (24, .if_icmp .eq 9, 0, 2), (27, .iinc 2 1, 0, 0), (30, .goto (-18), 1, 12), (33, .aload_n 0, 0, 0), (34, .iload_n 2, 0, 0), (35, .invokevirtual 292, 146, 0), (38, .iconst 0, 0, 0), (39, .istore_n 3, 0, 0), (40, .nop, 1, 0)]
def tr_147_40 : List xI := [(40, .iload_n 3, 0, 0), (41, .aload_n 0, 0, 0), (42, .iload_n 1, 0, 0), (43, .iload_n 2, 0, 0), (44, .invokevirtual 170, 107, 0), (47, .if_icmp .ge 30, 0, 13), (50, .aload_n 0, 0, 0), (51, .getfield 278, 10, 50), (54, .sipush 4001, 0, 0), (57, .if_icmp .ge 20, 0, 9), (60, .aload_n 0, 0, 0), (61, .aload_n 0, 0, 0), (62, .iload_n 1, 0, 0), (63, .iload_n 2, 0, 0), (64, .iload_n 3, 0, 0), (65, .invokevirtual 177, 108, 0), (68, .invokevirtual 295, 147, 0), (71, .iinc 3 1, 0, 0), (74, .goto (-34), 1, 40), (77, .return_, 0, 0)]
def tl_147 : List (Nat × List xI) := [(0, tr_147_0), (12, tr_147_12), (40, tr_147_40)]
def tr_148_0 : List xI := [(0, .aload_n 0, 0, 0), (1, .getfield 103, 10, 36), (4, .iload_n 1, 0, 0), (5, .iaload, 0, 0), (6, .istore_n 2, 0, 0), (7, .aload_n 0, 0, 0), (8, .getfield 109, 10, 38), (11, .iload_n 1, 0, 0), (12, .iaload, 0, 0), (13, .istore_n 3, 0, 0), (14, .aload_n 0, 0, 0), (15, .getfield 106, 10, 37), (18, .iload_n 1, 0, 0), (19, .baload, 0, 0), (20, .ifCond .ne 9, 0, 4), (23, .aload_n 0, 0, 0), (24, .iload_n 2, 0, 0), (25, .invokevirtual 295, 147, 0), (28, .return_, 0, 0), (29, .aload_n 0, 0, 0), (30, .iload_n 3, 0, 0), (31, .invokevirtual 292, 146, 0), (34, .iconst 0, 0, 0), (35, .istore 4, 0, 0), (37, .nop, 1, 0)]
def tr_148_37 : List xI := [(37, .iload_n 2, 0, 0), (38, .ifCond .le 67, 0, 33), (41, .iload 4, 0, 0), (43, .aload_n 0, 0, 0), (44, .iload_n 2, 0, 0), (45, .iload_n 3, 0, 0), (46, .invokevirtual 170, 107, 0), (49, .if_icmp .ge 56, 0, 27), (52, .aload_n 0, 0, 0), (53, .getfield 278, 10, 50), (56, .sipush 4001, 0, 0), (59, .if_icmp .ge 46, 0, 23), (62, .aload_n 0, 0, 0), (63, .getfield 112, 10, 39), (66, .iload_n 1, 0, 0), (67, .baload, 0, 0), (68, .ifCond .eq 18, 0, 8), (71, .aload_n 0, 0, 0), (72, .aload_n 0, 0, 0), (73, .iload_n 2, 0, 0), (74, .iload_n 3, 0, 0), (75, .iload 4, 0, 0), (77, .invokevirtual 177, 108, 0), (80, .invokevirtual 295, 147, 0), (83, .goto 16, 0, 8), (86, .aload_n 0, 0, 0), (87, .aload_n 0, 0, 0), (88, .getfield 115, 10, 40), (91, .iload_n 1, 0, 0), (92, .iaload, 0, 0), (93, .iload 4, 0, 0), (95, .iadd, 0, 0), (96, .invokevirtual 281, 148, 0), (99, .iinc 4 1, 0, 0), (102, .goto (-65), 1, 37), (105, .return_, 0, 0)]
def tl_148 : List (Nat × List xI) := [(0, tr_148_0), (37, tr_148_37)]
def tr_149_0 : List xI := [(0, .aload_n 0, 0, 0), (1, .getfield 127, 10, 51), (4, .iload_n 1, 0, 0), (5, .baload, 0, 0), (6, .ifCond .ne 58, 0, 21), (9, .aload_n 0, 0, 0), (10, .iload_n 1, 0, 0), (11, .iconst 0, 0, 0), (12, .iconst (-1), 0, 0), (13, .iconst (-1), 0, 0), (14, .iconst (-1), 0, 0), (15, .invokevirtual 298, 135, 0), (18, .aload_n 0, 0, 0), (19, .getfield 127, 10, 51), (22, .iload_n 1, 0, 0), (23, .iconst 1, 0, 0), (24, .bastore, 0, 0), (25, .aload_n 0, 0, 0), (26, .getfield 130, 10, 52), (29, .iload_n 1, 0, 0), (30, .aload_n 0, 0, 0), (31, .getfield 224, 10, 45), (34, .bastore, 0, 0), (35, .iconst 0, 0, 0), (36, .istore_n 2, 0, 0), (37, .nop, 1, 0), (64, .return_, 0, 0)]
def tr_149_37 : List xI := [(37, .iload_n 2, 0, 0), (38, .iconst 5, 0, 0), (39, .if_icmp .ge 25, 0, 14), (42, .aload_n 0, 0, 0), (43, .getfield 133, 10, 53), (46, .iconst 5, 0, 0), (47, .iload_n 1, 0, 0), (48, .imul, 0, 0), (49, .iload_n 2, 0, 0), (50, .iadd, 0, 0), (51, .aload_n 0, 0, 0), (52, .getfield 121, 10, 47), (55, .iload_n 2, 0, 0), (56, .iaload, 0, 0), (57, .iastore, 0, 0), (58, .iinc 2 1, 0, 0), (61, .goto (-24), 1, 37), (64, .return_, 0, 0)]
def tl_149 : List (Nat × List xI) := [(0, tr_149_0), (37, tr_149_37)]
def tr_150_0 : List xI := [(0, .iconst 0, 0, 0), (1, .istore_n 1, 0, 0), (2, .nop, 1, 0)]
def tr_150_2 : List xI := [(2, .iload_n 1, 0, 0), (3, .bipush 16, 0, 0), (5, .if_icmp .ge 16, 0, 7), (8, .aload_n 0, 0, 0), (9, .getfield 78, 10, 26), (12, .iload_n 1, 0, 0), (13, .iconst (-1), 0, 0), (14, .iastore, 0, 0), (15, .iinc 1 1, 0, 0), (18, .goto (-16), 1, 2), (21, .aload_n 0, 0, 0), (22, .getfield 78, 10, 26), (25, .bipush 16, 0, 0), (27, .iconst 0, 0, 0), (28, .iastore, 0, 0), (29, .aload_n 0, 0, 0), (30, .getfield 78, 10, 26), (33, .bipush 17, 0, 0), (35, .iconst 0, 0, 0), (36, .iastore, 0, 0), (37, .return_, 0, 0)]
def tl_150 : List (Nat × List xI) := [(0, tr_150_0), (2, tr_150_2)]
def tr_151_0 : List xI := [(0, .aload_n 0, 0, 0), (1, .iconst 0, 0, 0), (2, .putfield 139, 10, 0), (5, .aload_n 0, 0, 0), (6, .iload_n 1, 0, 0), (7, .invokevirtual 199, 124, 0), (10, .istore 5, 0, 0), (12, .iconst 0, 0, 0), (13, .istore 6, 0, 0), (15, .nop, 1, 0)]
def tr_151_15 : List xI := [(15, .iload 5, 0, 0), (17, .ifCond .eq 46, 1, 63), (20, .iload 6, 0, 0), (22, .aload_n 0, 0, 0), (23, .getfield 60, 10, 19), (26, .iload_n 1, 0, 0), (27, .iaload, 0, 0), (28, .if_icmp .ge 35, 1, 63), (31, .aload_n 0, 0, 0), (32, .iload 6, 0, 0), (34, .iload_n 2, 0, 0), (35, .iload_n 3, 0, 0), (36, .iload 4, 0, 0), (38, .invokestatic 173, 112, 0), (41, .aload_n 0, 0, 0), (42, .getfield 63, 10, 20), (45, .iconst 3, 0, 0), (46, .iload_n 1, 0, 0), (47, .imul, 0, 0), (48, .iload 6, 0, 0), (50, .iadd, 0, 0), (51, .iaload, 0, 0), (52, .invokevirtual 180, 111, 0), (55, .istore 5, 0, 0), (57, .iinc 6 1, 0, 0), (60, .goto (-45), 1, 15)]
def tr_151_63 : List xI := [(63, .iload 5, 0, 0), (65, .ifCond .ne 9, 0, 4), (68, .aload_n 0, 0, 0), (69, .invokevirtual 302, 150, 0), (72, .iconst (-1), 0, 0), (73, .ireturn, 1, 0), (74, .aload_n 0, 0, 0), (75, .iload_n 1, 0, 0), (76, .invokevirtual 305, 149, 0), (79, .aload_n 0, 0, 0), (80, .getfield 130, 10, 52), (83, .iload_n 1, 0, 0), (84, .baload, 0, 0), (85, .ifCond .eq 6, 0, 2), (88, .bipush (-2), 0, 0), (90, .ireturn, 1, 0), (91, .aload_n 0, 0, 0), (92, .invokevirtual 302, 150, 0), (95, .aload_n 0, 0, 0), (96, .iload_n 1, 0, 0), (97, .iconst 1, 0, 0), (98, .iload_n 2, 0, 0), (99, .iload_n 3, 0, 0), (100, .iload 4, 0, 0), (102, .invokevirtual 298, 135, 0), (105, .aload_n 0, 0, 0), (106, .getfield 78, 10, 26), (109, .bipush 16, 0, 0), (111, .aload_n 0, 0, 0), (112, .getfield 121, 10, 47), (115, .iconst 0, 0, 0), (116, .iaload, 0, 0), (117, .iastore, 0, 0), (118, .aload_n 0, 0, 0), (119, .getfield 78, 10, 26), (122, .bipush 17, 0, 0), (124, .aload_n 0, 0, 0), (125, .getfield 121, 10, 47), (128, .iconst 1, 0, 0), (129, .iaload, 0, 0), (130, .iastore, 0, 0), (131, .iconst 0, 0, 0), (132, .istore 6, 0, 0), (134, .nop, 1, 0)]
def tr_151_134 : List xI := [(134, .iload 6, 0, 0), (136, .aload_n 0, 0, 0), (137, .getfield 66, 10, 21), (140, .iload_n 1, 0, 0), (141, .iaload, 0, 0), (142, .if_icmp .ge 56, 0, 13), (145, .aload_n 0, 0, 0), (146, .iload_n 1, 0, 0), (147, .iload 6, 0, 0), (149, .iload_n 2, 0, 0), (150, .iload_n 3, 0, 0), (151, .iload 4, 0, 0), (153, .invokevirtual 308, 129, 0), (156, .ifCond .eq 36, 0, 3), (159, .iconst 0, 0, 0), (160, .istore 7, 0, 0), (162, .nop, 1, 0), (192, .iinc 6 1, 0, 0), (195, .goto (-61), 1, 134), (198, .iconst (-1), 0, 0), (199, .ireturn, 1, 0)]
def tr_151_162 : List xI := [(162, .iload 7, 0, 0), (164, .bipush 16, 0, 0), (166, .if_icmp .ge 23, 0, 10), (169, .aload_n 0, 0, 0), (170, .getfield 78, 10, 26), (173, .iload 7, 0, 0), (175, .aload_n 0, 0, 0), (176, .getfield 81, 10, 27), (179, .iload 7, 0, 0), (181, .iaload, 0, 0), (182, .iastore, 0, 0), (183, .iinc 7 1, 0, 0), (186, .goto (-24), 1, 162), (189, .iload 6, 0, 0), (191, .ireturn, 1, 0)]
def tl_151 : List (Nat × List xI) := [(0, tr_151_0), (15, tr_151_15), (63, tr_151_63), (134, tr_151_134), (162, tr_151_162)]
def tr_152_0 : List xI := [(0, .aload_n 0, 0, 0), (1, .iconst 0, 0, 0), (2, .putfield 139, 10, 0), (5, .iload_n 1, 0, 0), (6, .ifCond .lt 18, 0, 8), (9, .iload_n 1, 0, 0), (10, .bipush 18, 0, 0), (12, .if_icmp .ge 12, 0, 5), (15, .aload_n 0, 0, 0), (16, .getfield 78, 10, 26), (19, .iload_n 1, 0, 0), (20, .iaload, 0, 0), (21, .goto 4, 0, 1), (24, .iconst (-1), 0, 0), (25, .ireturn, 1, 0)]
def tl_152 : List (Nat × List xI) := [(0, tr_152_0)]
def tr_153_0 : List xI := [(0, .aload_n 0, 0, 0), (1, .iconst 0, 0, 0), (2, .putfield 139, 10, 0), (5, .aload_n 0, 0, 0), (6, .iload_n 1, 0, 0), (7, .invokevirtual 199, 124, 0), (10, .ifCond .eq 12, 0, 5), (13, .iload_n 2, 0, 0), (14, .ifCond .lt 8, 0, 3), (17, .iload_n 2, 0, 0), (18, .iconst 4, 0, 0), (19, .if_icmp .le 5, 0, 2), (22, .iconst (-1), 0, 0), (23, .ireturn, 1, 0), (24, .aload_n 0, 0, 0), (25, .iload_n 1, 0, 0), (26, .invokevirtual 305, 149, 0), (29, .aload_n 0, 0, 0), (30, .getfield 130, 10, 52), (33, .iload_n 1, 0, 0), (34, .baload, 0, 0), (35, .ifCond .eq 8, 0, 2), (38, .bipush (-2), 0, 0), (40, .goto 13, 0, 8), (43, .aload_n 0, 0, 0), (44, .getfield 133, 10, 53), (47, .iconst 5, 0, 0), (48, .iload_n 1, 0, 0), (49, .imul, 0, 0), (50, .iload_n 2, 0, 0), (51, .iadd, 0, 0), (52, .iaload, 0, 0), (53, .ireturn, 1, 0)]
def tl_153 : List (Nat × List xI) := [(0, tr_153_0)]
def tr_154_0 : List xI := [(0, .aload_n 0, 0, 0), (1, .iconst 0, 0, 0), (2, .putfield 139, 10, 0), (5, .aload_n 0, 0, 0), (6, .iload_n 1, 0, 0), (7, .invokevirtual 199, 124, 0), (10, .ifCond .ne 5, 0, 2), (13, .iconst (-1), 0, 0), (14, .ireturn, 1, 0), (15, .aload_n 0, 0, 0), (16, .iconst 0, 0, 0), (17, .putfield 278, 10, 50), (20, .aload_n 0, 0, 0), (21, .iload_n 1, 0, 0), (22, .iconst 0, 0, 0), (23, .iconst (-1), 0, 0), (24, .iconst (-1), 0, 0), (25, .iconst (-1), 0, 0), (26, .invokevirtual 298, 135, 0), (29, .aload_n 0, 0, 0), (30, .getfield 224, 10, 45), (33, .ifCond .ne 13, 0, 4), (36, .aload_n 0, 0, 0), (37, .getfield 278, 10, 50), (40, .sipush 4000, 0, 0), (43, .if_icmp .le 6, 0, 2), (46, .bipush (-2), 0, 0), (48, .ireturn, 1, 0), (49, .aload_n 0, 0, 0), (50, .aload_n 0, 0, 0), (51, .getfield 278, 10, 50), (54, .putfield 312, 10, 55), (57, .iconst 0, 0, 0), (58, .istore_n 2, 0, 0), (59, .nop, 1, 0)]
def tr_154_59 : List xI := [(59, .iload_n 2, 0, 0), (60, .aload_n 0, 0, 0), (61, .getfield 278, 10, 50), (64, .if_icmp .ge 21, 0, 10), (67, .aload_n 0, 0, 0), (68, .getfield 136, 10, 54), (71, .iload_n 2, 0, 0), (72, .aload_n 0, 0, 0), (73, .getfield 124, 10, 49), (76, .iload_n 2, 0, 0), (77, .iaload, 0, 0), (78, .iastore, 0, 0), (79, .iinc 2 1, 0, 0), (82, .goto (-23), 1, 59), (85, .aload_n 0, 0, 0), (86, .getfield 312, 10, 55), (89, .ireturn, 1, 0)]
def tl_154 : List (Nat × List xI) := [(0, tr_154_0), (59, tr_154_59)]
def tr_155_0 : List xI := [(0, .aload_n 0, 0, 0), (1, .iconst 0, 0, 0), (2, .putfield 139, 10, 0), (5, .iload_n 1, 0, 0), (6, .ifCond .lt 20, 0, 9), (9, .iload_n 1, 0, 0), (10, .aload_n 0, 0, 0), (11, .getfield 312, 10, 55), (14, .if_icmp .ge 12, 0, 5), (17, .aload_n 0, 0, 0), (18, .getfield 136, 10, 54), (21, .iload_n 1, 0, 0), (22, .iaload, 0, 0), (23, .goto 4, 0, 1), (26, .iconst (-1), 0, 0), (27, .ireturn, 1, 0)]
def tl_155 : List (Nat × List xI) := [(0, tr_155_0)]
def tr_156_0 : List xI := [(0, .aload_n 0, 0, 0), (1, .iconst 0, 0, 0), (2, .putfield 139, 10, 0), (5, .aload_n 0, 0, 0), (6, .iload_n 1, 0, 0), (7, .invokevirtual 142, 101, 0), (10, .ifCond .eq 12, 0, 5), (13, .aload_n 0, 0, 0), (14, .getfield 23, 10, 5), (17, .iload_n 1, 0, 0), (18, .iaload, 0, 0), (19, .goto 4, 0, 1), (22, .iconst (-1), 0, 0), (23, .ireturn, 1, 0)]
def tl_156 : List (Nat × List xI) := [(0, tr_156_0)]
def tr_157_0 : List xI := [(0, .iconst 0, 0, 0), (1, .istore_n 2, 0, 0), (2, .iconst 0, 0, 0), (3, .istore_n 3, 0, 0), (4, .nop, 1, 0)]
def tr_157_4 : List xI := [(4, .iload_n 3, 0, 0), (5, .iload_n 1, 0, 0), (6, .if_icmp .ge 15, 0, 8), (9, .iload_n 2, 0, 0), (10, .aload_n 0, 0, 0), (11, .iload_n 3, 0, 0), (12, .iaload, 0, 0), (13, .iadd, 0, 0), (14, .istore_n 2, 0, 0), (15, .iinc 3 1, 0, 0), (18, .goto (-14), 1, 4), (21, .iload_n 2, 0, 0), (22, .ireturn, 1, 0)]
def tl_157 : List (Nat × List xI) := [(0, tr_157_0), (4, tr_157_4)]
def tr_158_0 : List xI := [(0, .aload_n 0, 0, 0), (1, .iconst 0, 0, 0), (2, .putfield 139, 10, 0), (5, .iload_n 1, 0, 0), (6, .ifCond .ne 10, 0, 3), (9, .aload_n 0, 0, 0), (10, .getfield 7, 10, 1), (13, .goto 76, 0, 36), (16, .iload_n 1, 0, 0), (17, .iconst 1, 0, 0), (18, .if_icmp .ne 15, 0, 5), (21, .aload_n 0, 0, 0), (22, .getfield 13, 10, 2), (25, .bipush 8, 0, 0), (27, .invokestatic 315, 157, 0), (30, .goto 59, 0, 28), (33, .iload_n 1, 0, 0), (34, .iconst 2, 0, 0), (35, .if_icmp .ne 10, 0, 3), (38, .aload_n 0, 0, 0), (39, .getfield 146, 10, 10), (42, .goto 47, 0, 22), (45, .iload_n 1, 0, 0), (46, .iconst 3, 0, 0), (47, .if_icmp .ne 10, 0, 3), (50, .aload_n 0, 0, 0), (51, .getfield 149, 10, 18), (54, .goto 35, 0, 16), (57, .iload_n 1, 0, 0), (58, .iconst 4, 0, 0), (59, .if_icmp .ne 10, 0, 3), (62, .aload_n 0, 0, 0), (63, .getfield 152, 10, 25), (66, .goto 23, 0, 10), (69, .iload_n 1, 0, 0), (70, .iconst 5, 0, 0), (71, .if_icmp .ne 17, 0, 6), (74, .aload_n 0, 0, 0), (75, .getfield 66, 10, 21), (78, .aload_n 0, 0, 0), (79, .getfield 152, 10, 25), (82, .invokestatic 315, 157, 0), (85, .goto 4, 0, 1), (88, .iconst (-1), 0, 0), (89, .ireturn, 1, 0)]
def tl_158 : List (Nat × List xI) := [(0, tr_158_0)]
def tr_159_0 : List xI := [(0, .aload_n 0, 0, 0), (1, .iconst 0, 0, 0), (2, .putfield 139, 10, 0), (5, .iconst 1, 0, 0), (6, .ireturn, 1, 0)]
def tl_159 : List (Nat × List xI) := [(0, tr_159_0)]
def tr_160_0 : List xI := [(0, .iconst 0, 0, 0), (1, .istore_n 2, 0, 0), (2, .aload_n 0, 0, 0), (3, .arraylength, 0, 0), (4, .istore_n 3, 0, 0), (5, .nop, 1, 0)]
def tr_160_5 : List xI := [(5, .iload_n 2, 0, 0), (6, .iload_n 3, 0, 0), (7, .if_icmp .ge 13, 0, 6), (10, .aload_n 0, 0, 0), (11, .iload_n 2, 0, 0), (12, .iload_n 1, 0, 0), (13, .iastore, 0, 0), (14, .iinc 2 1, 0, 0), (17, .goto (-12), 1, 5), (20, .return_, 0, 0)]
def tl_160 : List (Nat × List xI) := [(0, tr_160_0), (5, tr_160_5)]
def tr_161_0 : List xI := [(0, .iload_n 1, 0, 0), (1, .aload_n 0, 0, 0), (2, .arraylength, 0, 0), (3, .if_icmp .ne 11, 0, 2), (6, .aload_n 0, 0, 0), (7, .nop, 0, 0), (14, .iload_n 1, 0, 0), (15, .newarray .int, 1, 0), (17, .astore_n 2, 0, 0), (18, .aload_n 0, 0, 0), (19, .iconst 0, 0, 0), (20, .aload_n 2, 0, 0), (21, .iconst 0, 0, 0), (22, .aload_n 0, 0, 0), (23, .arraylength, 0, 0), (24, .iload_n 1, 0, 0), (25, .invokestatic 304, 1003, 0), (28, .invokestatic 150, 1001, 0), (31, .aload_n 2, 0, 0), (32, .areturn, 0, 0)]
def tl_161 : List (Nat × List xI) := [(0, tr_161_0)]
def tr_162_0 : List xI := [(0, .new 7, 39, 0), (3, .dup, 0, 0), (4, .invokespecial 9, 72, 0), (7, .astore_n 1, 0, 0), (8, .new 10, 40, 0), (11, .dup, 0, 0), (12, .invokespecial 12, 100, 0), (15, .astore_n 2, 0, 0), (16, .iconst 0, 0, 0), (17, .istore_n 3, 0, 0), (18, .nop, 1, 0)]
def tr_162_18 : List xI := [(18, .iload_n 3, 0, 0), (19, .aload_n 0, 0, 0), (20, .arraylength, 0, 0), (21, .bipush 7, 0, 0), (23, .isub, 0, 0), (24, .if_icmp .gt 795, 0, 6), (27, .aload_n 0, 0, 0), (28, .iload_n 3, 0, 0), (29, .iaload, 0, 0), (30, .bipush 31, 0, 0), (32, .iand, 0, 0), (33, .tableswitch 780 0 18 #[91, 104, 167, 190, 253, 286, 319, 342, 405, 438, 491, 566, 619, 642, 675, 698, 721, 744, 767], 0, 91), (819, .iconst 1, 0, 0), (820, .ireturn, 2, 0)]
def tr_162_124 : List xI := [(124, .aload_n 1, 0, 0), (125, .invokevirtual 13, 73, 0), (128, .aload_n 2, 0, 0), (129, .invokevirtual 17, 102, 0), (132, .if_icmp .eq 681, 1, 813), (135, .iconst 0, 0, 0), (136, .ireturn, 2, 0)]
def tr_162_137 : List xI := [(137, .aload_n 1, 0, 0), (138, .aload_n 0, 0, 0), (139, .iload_n 3, 0, 0), (140, .iconst 1, 0, 0), (141, .iadd, 0, 0), (142, .iaload, 0, 0), (143, .aload_n 0, 0, 0), (144, .iload_n 3, 0, 0), (145, .iconst 2, 0, 0), (146, .iadd, 0, 0), (147, .iaload, 0, 0), (148, .aload_n 0, 0, 0), (149, .iload_n 3, 0, 0), (150, .iconst 3, 0, 0), (151, .iadd, 0, 0), (152, .iaload, 0, 0), (153, .aload_n 0, 0, 0), (154, .iload_n 3, 0, 0), (155, .iconst 4, 0, 0), (156, .iadd, 0, 0), (157, .iaload, 0, 0), (158, .aload_n 0, 0, 0), (159, .iload_n 3, 0, 0), (160, .iconst 5, 0, 0), (161, .iadd, 0, 0), (162, .iaload, 0, 0), (163, .invokevirtual 18, 74, 0), (166, .aload_n 2, 0, 0), (167, .aload_n 0, 0, 0), (168, .iload_n 3, 0, 0), (169, .iconst 1, 0, 0), (170, .iadd, 0, 0), (171, .iaload, 0, 0), (172, .aload_n 0, 0, 0), (173, .iload_n 3, 0, 0), (174, .iconst 2, 0, 0), (175, .iadd, 0, 0), (176, .iaload, 0, 0), (177, .aload_n 0, 0, 0), (178, .iload_n 3, 0, 0), (179, .iconst 3, 0, 0), (180, .iadd, 0, 0), (181, .iaload, 0, 0), (182, .aload_n 0, 0, 0), (183, .iload_n 3, 0, 0), (184, .iconst 4, 0, 0), (185, .iadd, 0, 0), (186, .iaload, 0, 0), (187, .aload_n 0, 0, 0), (188, .iload_n 3, 0, 0), (189, .iconst 5, 0, 0), (190, .iadd, 0, 0), (191, .iaload, 0, 0), (192, .invokevirtual 22, 103, 0), (195, .if_icmp .eq 618, 1, 813), (198, .iconst 0, 0, 0), (199, .ireturn, 2, 0)]
def tr_162_200 : List xI := [(200, .aload_n 1, 0, 0), (201, .aload_n 0, 0, 0), (202, .iload_n 3, 0, 0), (203, .iconst 1, 0, 0), (204, .iadd, 0, 0), (205, .iaload, 0, 0), (206, .invokevirtual 23, 75, 0), (209, .aload_n 2, 0, 0), (210, .aload_n 0, 0, 0), (211, .iload_n 3, 0, 0), (212, .iconst 1, 0, 0), (213, .iadd, 0, 0), (214, .iaload, 0, 0), (215, .invokevirtual 27, 110, 0), (218, .if_icmp .eq 595, 1, 813), (221, .iconst 0, 0, 0), (222, .ireturn, 2, 0)]
def tr_162_223 : List xI := [(223, .aload_n 1, 0, 0), (224, .aload_n 0, 0, 0), (225, .iload_n 3, 0, 0), (226, .iconst 1, 0, 0), (227, .iadd, 0, 0), (228, .iaload, 0, 0), (229, .aload_n 0, 0, 0), (230, .iload_n 3, 0, 0), (231, .iconst 2, 0, 0), (232, .iadd, 0, 0), (233, .iaload, 0, 0), (234, .aload_n 0, 0, 0), (235, .iload_n 3, 0, 0), (236, .iconst 3, 0, 0), (237, .iadd, 0, 0), (238, .iaload, 0, 0), (239, .aload_n 0, 0, 0), (240, .iload_n 3, 0, 0), (241, .iconst 4, 0, 0), (242, .iadd, 0, 0), (243, .iaload, 0, 0), (244, .aload_n 0, 0, 0), (245, .iload_n 3, 0, 0), (246, .iconst 5, 0, 0), (247, .iadd, 0, 0), (248, .iaload, 0, 0), (249, .invokevirtual 28, 76, 0), (252, .aload_n 2, 0, 0), (253, .aload_n 0, 0, 0), (254, .iload_n 3, 0, 0), (255, .iconst 1, 0, 0), (256, .iadd, 0, 0), (257, .iaload, 0, 0), (258, .aload_n 0, 0, 0), (259, .iload_n 3, 0, 0), (260, .iconst 2, 0, 0), (261, .iadd, 0, 0), (262, .iaload, 0, 0), (263, .aload_n 0, 0, 0), (264, .iload_n 3, 0, 0), (265, .iconst 3, 0, 0), (266, .iadd, 0, 0), (267, .iaload, 0, 0), (268, .aload_n 0, 0, 0), (269, .iload_n 3, 0, 0), (270, .iconst 4, 0, 0), (271, .iadd, 0, 0), (272, .iaload, 0, 0), (273, .aload_n 0, 0, 0), (274, .iload_n 3, 0, 0), (275, .iconst 5, 0, 0), (276, .iadd, 0, 0), (277, .iaload, 0, 0), (278, .invokevirtual 31, 113, 0), (281, .if_icmp .eq 532, 1, 813), (284, .iconst 0, 0, 0), (285, .ireturn, 2, 0)]
def tr_162_286 : List xI := [(286, .aload_n 1, 0, 0), (287, .aload_n 0, 0, 0), (288, .iload_n 3, 0, 0), (289, .iconst 1, 0, 0), (290, .iadd, 0, 0), (291, .iaload, 0, 0), (292, .aload_n 0, 0, 0), (293, .iload_n 3, 0, 0), (294, .iconst 2, 0, 0), (295, .iadd, 0, 0), (296, .iaload, 0, 0), (297, .invokevirtual 32, 77, 0), (300, .aload_n 2, 0, 0), (301, .aload_n 0, 0, 0), (302, .iload_n 3, 0, 0), (303, .iconst 1, 0, 0), (304, .iadd, 0, 0), (305, .iaload, 0, 0), (306, .aload_n 0, 0, 0), (307, .iload_n 3, 0, 0), (308, .iconst 2, 0, 0), (309, .iadd, 0, 0), (310, .iaload, 0, 0), (311, .invokevirtual 36, 118, 0), (314, .if_icmp .eq 499, 1, 813), (317, .iconst 0, 0, 0), (318, .ireturn, 2, 0)]
def tr_162_319 : List xI := [(319, .aload_n 1, 0, 0), (320, .aload_n 0, 0, 0), (321, .iload_n 3, 0, 0), (322, .iconst 1, 0, 0), (323, .iadd, 0, 0), (324, .iaload, 0, 0), (325, .aload_n 0, 0, 0), (326, .iload_n 3, 0, 0), (327, .iconst 2, 0, 0), (328, .iadd, 0, 0), (329, .iaload, 0, 0), (330, .invokevirtual 37, 78, 0), (333, .aload_n 2, 0, 0), (334, .aload_n 0, 0, 0), (335, .iload_n 3, 0, 0), (336, .iconst 1, 0, 0), (337, .iadd, 0, 0), (338, .iaload, 0, 0), (339, .aload_n 0, 0, 0), (340, .iload_n 3, 0, 0), (341, .iconst 2, 0, 0), (342, .iadd, 0, 0), (343, .iaload, 0, 0), (344, .invokevirtual 40, 119, 0), (347, .if_icmp .eq 466, 1, 813), (350, .iconst 0, 0, 0), (351, .ireturn, 2, 0)]
def tr_162_352 : List xI := [(352, .aload_n 1, 0, 0), (353, .aload_n 0, 0, 0), (354, .iload_n 3, 0, 0), (355, .iconst 1, 0, 0), (356, .iadd, 0, 0), (357, .iaload, 0, 0), (358, .invokevirtual 41, 79, 0), (361, .aload_n 2, 0, 0), (362, .aload_n 0, 0, 0), (363, .iload_n 3, 0, 0), (364, .iconst 1, 0, 0), (365, .iadd, 0, 0), (366, .iaload, 0, 0), (367, .invokevirtual 44, 120, 0), (370, .if_icmp .eq 443, 1, 813), (373, .iconst 0, 0, 0), (374, .ireturn, 2, 0)]
def tr_162_375 : List xI := [(375, .aload_n 1, 0, 0), (376, .aload_n 0, 0, 0), (377, .iload_n 3, 0, 0), (378, .iconst 1, 0, 0), (379, .iadd, 0, 0), (380, .iaload, 0, 0), (381, .aload_n 0, 0, 0), (382, .iload_n 3, 0, 0), (383, .iconst 2, 0, 0), (384, .iadd, 0, 0), (385, .iaload, 0, 0), (386, .aload_n 0, 0, 0), (387, .iload_n 3, 0, 0), (388, .iconst 3, 0, 0), (389, .iadd, 0, 0), (390, .iaload, 0, 0), (391, .aload_n 0, 0, 0), (392, .iload_n 3, 0, 0), (393, .iconst 4, 0, 0), (394, .iadd, 0, 0), (395, .iaload, 0, 0), (396, .aload_n 0, 0, 0), (397, .iload_n 3, 0, 0), (398, .iconst 5, 0, 0), (399, .iadd, 0, 0), (400, .iaload, 0, 0), (401, .invokevirtual 45, 80, 0), (404, .aload_n 2, 0, 0), (405, .aload_n 0, 0, 0), (406, .iload_n 3, 0, 0), (407, .iconst 1, 0, 0), (408, .iadd, 0, 0), (409, .iaload, 0, 0), (410, .aload_n 0, 0, 0), (411, .iload_n 3, 0, 0), (412, .iconst 2, 0, 0), (413, .iadd, 0, 0), (414, .iaload, 0, 0), (415, .aload_n 0, 0, 0), (416, .iload_n 3, 0, 0), (417, .iconst 3, 0, 0), (418, .iadd, 0, 0), (419, .iaload, 0, 0), (420, .aload_n 0, 0, 0), (421, .iload_n 3, 0, 0), (422, .iconst 4, 0, 0), (423, .iadd, 0, 0), (424, .iaload, 0, 0), (425, .aload_n 0, 0, 0), (426, .iload_n 3, 0, 0), (427, .iconst 5, 0, 0), (428, .iadd, 0, 0), (429, .iaload, 0, 0), (430, .invokevirtual 48, 121, 0), (433, .if_icmp .eq 380, 1, 813), (436, .iconst 0, 0, 0), (437, .ireturn, 2, 0)]
def tr_162_438 : List xI := [(438, .aload_n 1, 0, 0), (439, .aload_n 0, 0, 0), (440, .iload_n 3, 0, 0), (441, .iconst 1, 0, 0), (442, .iadd, 0, 0), (443, .iaload, 0, 0), (444, .aload_n 0, 0, 0), (445, .iload_n 3, 0, 0), (446, .iconst 2, 0, 0), (447, .iadd, 0, 0), (448, .iaload, 0, 0), (449, .invokevirtual 49, 81, 0), (452, .aload_n 2, 0, 0), (453, .aload_n 0, 0, 0), (454, .iload_n 3, 0, 0), (455, .iconst 1, 0, 0), (456, .iadd, 0, 0), (457, .iaload, 0, 0), (458, .aload_n 0, 0, 0), (459, .iload_n 3, 0, 0), (460, .iconst 2, 0, 0), (461, .iadd, 0, 0), (462, .iaload, 0, 0), (463, .invokevirtual 52, 122, 0), (466, .if_icmp .eq 347, 1, 813), (469, .iconst 0, 0, 0), (470, .ireturn, 2, 0)]
def tr_162_471 : List xI := [(471, .aload_n 1, 0, 0), (472, .aload_n 0, 0, 0), (473, .iload_n 3, 0, 0), (474, .iconst 1, 0, 0), (475, .iadd, 0, 0), (476, .iaload, 0, 0), (477, .aload_n 0, 0, 0), (478, .iload_n 3, 0, 0), (479, .iconst 2, 0, 0), (480, .iadd, 0, 0), (481, .iaload, 0, 0), (482, .aload_n 0, 0, 0), (483, .iload_n 3, 0, 0), (484, .iconst 3, 0, 0), (485, .iadd, 0, 0), (486, .iaload, 0, 0), (487, .aload_n 0, 0, 0), (488, .iload_n 3, 0, 0), (489, .iconst 4, 0, 0), (490, .iadd, 0, 0), (491, .iaload, 0, 0), (492, .invokevirtual 53, 82, 0), (495, .aload_n 2, 0, 0), (496, .aload_n 0, 0, 0), (497, .iload_n 3, 0, 0), (498, .iconst 1, 0, 0), (499, .iadd, 0, 0), (500, .iaload, 0, 0), (501, .aload_n 0, 0, 0), (502, .iload_n 3, 0, 0), (503, .iconst 2, 0, 0), (504, .iadd, 0, 0), (505, .iaload, 0, 0), (506, .aload_n 0, 0, 0), (507, .iload_n 3, 0, 0), (508, .iconst 3, 0, 0), (509, .iadd, 0, 0), (510, .iaload, 0, 0), (511, .aload_n 0, 0, 0), (512, .iload_n 3, 0, 0), (513, .iconst 4, 0, 0), (514, .iadd, 0, 0), (515, .iaload, 0, 0), (516, .invokevirtual 57, 123, 0), (519, .if_icmp .eq 294, 1, 813), (522, .iconst 0, 0, 0), (523, .ireturn, 2, 0)]
def tr_162_524 : List xI := [(524, .aload_n 1, 0, 0), (525, .aload_n 0, 0, 0), (526, .iload_n 3, 0, 0), (527, .iconst 1, 0, 0), (528, .iadd, 0, 0), (529, .iaload, 0, 0), (530, .aload_n 0, 0, 0), (531, .iload_n 3, 0, 0), (532, .iconst 2, 0, 0), (533, .iadd, 0, 0), (534, .iaload, 0, 0), (535, .aload_n 0, 0, 0), (536, .iload_n 3, 0, 0), (537, .iconst 3, 0, 0), (538, .iadd, 0, 0), (539, .iaload, 0, 0), (540, .aload_n 0, 0, 0), (541, .iload_n 3, 0, 0), (542, .iconst 4, 0, 0), (543, .iadd, 0, 0), (544, .iaload, 0, 0), (545, .aload_n 0, 0, 0), (546, .iload_n 3, 0, 0), (547, .iconst 5, 0, 0), (548, .iadd, 0, 0), (549, .iaload, 0, 0), (550, .aload_n 0, 0, 0), (551, .iload_n 3, 0, 0), (552, .bipush 6, 0, 0), (554, .iadd, 0, 0), (555, .iaload, 0, 0), (556, .invokevirtual 58, 83, 0), (559, .aload_n 2, 0, 0), (560, .aload_n 0, 0, 0), (561, .iload_n 3, 0, 0), (562, .iconst 1, 0, 0), (563, .iadd, 0, 0), (564, .iaload, 0, 0), (565, .aload_n 0, 0, 0), (566, .iload_n 3, 0, 0), (567, .iconst 2, 0, 0), (568, .iadd, 0, 0), (569, .iaload, 0, 0), (570, .aload_n 0, 0, 0), (571, .iload_n 3, 0, 0), (572, .iconst 3, 0, 0), (573, .iadd, 0, 0), (574, .iaload, 0, 0), (575, .aload_n 0, 0, 0), (576, .iload_n 3, 0, 0), (577, .iconst 4, 0, 0), (578, .iadd, 0, 0), (579, .iaload, 0, 0), (580, .aload_n 0, 0, 0), (581, .iload_n 3, 0, 0), (582, .iconst 5, 0, 0), (583, .iadd, 0, 0), (584, .iaload, 0, 0), (585, .aload_n 0, 0, 0), (586, .iload_n 3, 0, 0), (587, .bipush 6, 0, 0), (589, .iadd, 0, 0), (590, .iaload, 0, 0), (591, .invokevirtual 62, 127, 0), (594, .if_icmp .eq 219, 1, 813), (597, .iconst 0, 0, 0), (598, .ireturn, 2, 0)]
def tr_162_599 : List xI := [(599, .aload_n 1, 0, 0), (600, .aload_n 0, 0, 0), (601, .iload_n 3, 0, 0), (602, .iconst 1, 0, 0), (603, .iadd, 0, 0), (604, .iaload, 0, 0), (605, .aload_n 0, 0, 0), (606, .iload_n 3, 0, 0), (607, .iconst 2, 0, 0), (608, .iadd, 0, 0), (609, .iaload, 0, 0), (610, .aload_n 0, 0, 0), (611, .iload_n 3, 0, 0), (612, .iconst 3, 0, 0), (613, .iadd, 0, 0), (614, .iaload, 0, 0), (615, .aload_n 0, 0, 0), (616, .iload_n 3, 0, 0), (617, .iconst 4, 0, 0), (618, .iadd, 0, 0), (619, .iaload, 0, 0), (620, .invokevirtual 63, 84, 0), (623, .aload_n 2, 0, 0), (624, .aload_n 0, 0, 0), (625, .iload_n 3, 0, 0), (626, .iconst 1, 0, 0), (627, .iadd, 0, 0), (628, .iaload, 0, 0), (629, .aload_n 0, 0, 0), (630, .iload_n 3, 0, 0), (631, .iconst 2, 0, 0), (632, .iadd, 0, 0), (633, .iaload, 0, 0), (634, .aload_n 0, 0, 0), (635, .iload_n 3, 0, 0), (636, .iconst 3, 0, 0), (637, .iadd, 0, 0), (638, .iaload, 0, 0), (639, .aload_n 0, 0, 0), (640, .iload_n 3, 0, 0), (641, .iconst 4, 0, 0), (642, .iadd, 0, 0), (643, .iaload, 0, 0), (644, .invokevirtual 66, 151, 0), (647, .if_icmp .eq 166, 1, 813), (650, .iconst 0, 0, 0), (651, .ireturn, 2, 0)]
def tr_162_652 : List xI := [(652, .aload_n 1, 0, 0), (653, .aload_n 0, 0, 0), (654, .iload_n 3, 0, 0), (655, .iconst 1, 0, 0), (656, .iadd, 0, 0), (657, .iaload, 0, 0), (658, .invokevirtual 67, 85, 0), (661, .aload_n 2, 0, 0), (662, .aload_n 0, 0, 0), (663, .iload_n 3, 0, 0), (664, .iconst 1, 0, 0), (665, .iadd, 0, 0), (666, .iaload, 0, 0), (667, .invokevirtual 70, 152, 0), (670, .if_icmp .eq 143, 1, 813), (673, .iconst 0, 0, 0), (674, .ireturn, 2, 0)]
def tr_162_675 : List xI := [(675, .aload_n 1, 0, 0), (676, .aload_n 0, 0, 0), (677, .iload_n 3, 0, 0), (678, .iconst 1, 0, 0), (679, .iadd, 0, 0), (680, .iaload, 0, 0), (681, .aload_n 0, 0, 0), (682, .iload_n 3, 0, 0), (683, .iconst 2, 0, 0), (684, .iadd, 0, 0), (685, .iaload, 0, 0), (686, .invokevirtual 71, 86, 0), (689, .aload_n 2, 0, 0), (690, .aload_n 0, 0, 0), (691, .iload_n 3, 0, 0), (692, .iconst 1, 0, 0), (693, .iadd, 0, 0), (694, .iaload, 0, 0), (695, .aload_n 0, 0, 0), (696, .iload_n 3, 0, 0), (697, .iconst 2, 0, 0), (698, .iadd, 0, 0), (699, .iaload, 0, 0), (700, .invokevirtual 74, 153, 0), (703, .if_icmp .eq 110, 1, 813), (706, .iconst 0, 0, 0), (707, .ireturn, 2, 0)]
def tr_162_708 : List xI := [(708, .aload_n 1, 0, 0), (709, .aload_n 0, 0, 0), (710, .iload_n 3, 0, 0), (711, .iconst 1, 0, 0), (712, .iadd, 0, 0), (713, .iaload, 0, 0), (714, .invokevirtual 75, 87, 0), (717, .aload_n 2, 0, 0), (718, .aload_n 0, 0, 0), (719, .iload_n 3, 0, 0), (720, .iconst 1, 0, 0), (721, .iadd, 0, 0), (722, .iaload, 0, 0), (723, .invokevirtual 78, 154, 0), (726, .if_icmp .eq 87, 1, 813), (729, .iconst 0, 0, 0), (730, .ireturn, 2, 0)]
def tr_162_731 : List xI := [(731, .aload_n 1, 0, 0), (732, .aload_n 0, 0, 0), (733, .iload_n 3, 0, 0), (734, .iconst 1, 0, 0), (735, .iadd, 0, 0), (736, .iaload, 0, 0), (737, .invokevirtual 79, 88, 0), (740, .aload_n 2, 0, 0), (741, .aload_n 0, 0, 0), (742, .iload_n 3, 0, 0), (743, .iconst 1, 0, 0), (744, .iadd, 0, 0), (745, .iaload, 0, 0), (746, .invokevirtual 82, 155, 0), (749, .if_icmp .eq 64, 1, 813), (752, .iconst 0, 0, 0), (753, .ireturn, 2, 0)]
def tr_162_754 : List xI := [(754, .aload_n 1, 0, 0), (755, .aload_n 0, 0, 0), (756, .iload_n 3, 0, 0), (757, .iconst 1, 0, 0), (758, .iadd, 0, 0), (759, .iaload, 0, 0), (760, .invokevirtual 83, 89, 0), (763, .aload_n 2, 0, 0), (764, .aload_n 0, 0, 0), (765, .iload_n 3, 0, 0), (766, .iconst 1, 0, 0), (767, .iadd, 0, 0), (768, .iaload, 0, 0), (769, .invokevirtual 86, 156, 0), (772, .if_icmp .eq 41, 1, 813), (775, .iconst 0, 0, 0), (776, .ireturn, 2, 0)]
def tr_162_777 : List xI := [(777, .aload_n 1, 0, 0), (778, .aload_n 0, 0, 0), (779, .iload_n 3, 0, 0), (780, .iconst 1, 0, 0), (781, .iadd, 0, 0), (782, .iaload, 0, 0), (783, .invokevirtual 87, 90, 0), (786, .aload_n 2, 0, 0), (787, .aload_n 0, 0, 0), (788, .iload_n 3, 0, 0), (789, .iconst 1, 0, 0), (790, .iadd, 0, 0), (791, .iaload, 0, 0), (792, .invokevirtual 90, 158, 0), (795, .if_icmp .eq 18, 1, 813), (798, .iconst 0, 0, 0), (799, .ireturn, 2, 0)]
def tr_162_800 : List xI := [(800, .aload_n 1, 0, 0), (801, .invokevirtual 91, 91, 0), (804, .aload_n 2, 0, 0), (805, .invokevirtual 94, 159, 0), (808, .if_icmp .eq 5, 1, 813), (811, .iconst 0, 0, 0), (812, .ireturn, 2, 0)]
def tr_162_813 : List xI := [(813, .iinc 3 7, 0, 0), (816, .goto (-798), 1, 18)]
def tl_162 : List (Nat × List xI) := [(0, tr_162_0), (18, tr_162_18), (124, tr_162_124), (137, tr_162_137), (200, tr_162_200), (223, tr_162_223), (286, tr_162_286), (319, tr_162_319), (352, tr_162_352), (375, tr_162_375), (438, tr_162_438), (471, tr_162_471), (524, tr_162_524), (599, tr_162_599), (652, tr_162_652), (675, tr_162_675), (708, tr_162_708), (731, tr_162_731), (754, tr_162_754), (777, tr_162_777), (800, tr_162_800), (813, tr_162_813)]
def xtl : Nat → List (Nat × List xI) := fun k => bif Nat.blt k 163 then (bif Nat.blt k 81 then (bif Nat.blt k 40 then (bif Nat.blt k 20 then (bif Nat.blt k 10 then (bif Nat.blt k 5 then (bif Nat.blt k 2 then (bif Nat.blt k 1 then tl_0 else tl_1) else (bif Nat.blt k 3 then tl_2 else (bif Nat.blt k 4 then tl_3 else tl_4))) else (bif Nat.blt k 7 then (bif Nat.blt k 6 then tl_5 else tl_6) else (bif Nat.blt k 8 then tl_7 else (bif Nat.blt k 9 then tl_8 else tl_9)))) else (bif Nat.blt k 15 then (bif Nat.blt k 12 then (bif Nat.blt k 11 then tl_10 else tl_11) else (bif Nat.blt k 13 then tl_12 else (bif Nat.blt k 14 then tl_13 else tl_14))) else (bif Nat.blt k 17 then (bif Nat.blt k 16 then tl_15 else tl_16) else (bif Nat.blt k 18 then tl_17 else (bif Nat.blt k 19 then tl_18 else tl_19))))) else (bif Nat.blt k 30 then (bif Nat.blt k 25 then (bif Nat.blt k 22 then (bif Nat.blt k 21 then tl_20 else tl_21) else (bif Nat.blt k 23 then tl_22 else (bif Nat.blt k 24 then tl_23 else tl_24))) else (bif Nat.blt k 27 then (bif Nat.blt k 26 then tl_25 else tl_26) else (bif Nat.blt k 28 then tl_27 else (bif Nat.blt k 29 then tl_28 else tl_29)))) else (bif Nat.blt k 35 then (bif Nat.blt k 32 then (bif Nat.blt k 31 then tl_30 else tl_31) else (bif Nat.blt k 33 then tl_32 else (bif Nat.blt k 34 then tl_33 else tl_34))) else (bif Nat.blt k 37 then (bif Nat.blt k 36 then tl_35 else tl_36) else (bif Nat.blt k 38 then tl_37 else (bif Nat.blt k 39 then tl_38 else tl_39)))))) else (bif Nat.blt k 60 then (bif Nat.blt k 50 then (bif Nat.blt k 45 then (bif Nat.blt k 42 then (bif Nat.blt k 41 then tl_40 else tl_41) else (bif Nat.blt k 43 then tl_42 else (bif Nat.blt k 44 then tl_43 else tl_44))) else (bif Nat.blt k 47 then (bif Nat.blt k 46 then tl_45 else tl_46) else (bif Nat.blt k 48 then tl_47 else (bif Nat.blt k 49 then tl_48 else tl_49)))) else (bif Nat.blt k 55 then (bif Nat.blt k 52 then (bif Nat.blt k 51 then tl_50 else tl_51) else (bif Nat.blt k 53 then tl_52 else (bif Nat.blt k 54 then tl_53 else tl_54))) else (bif Nat.blt k 57 then (bif Nat.blt k 56 then tl_55 else tl_56) else (bif Nat.blt k 58 then tl_57 else (bif Nat.blt k 59 then tl_58 else tl_59))))) else (bif Nat.blt k 70 then (bif Nat.blt k 65 then (bif Nat.blt k 62 then (bif Nat.blt k 61 then tl_60 else tl_61) else (bif Nat.blt k 63 then tl_62 else (bif Nat.blt k 64 then tl_63 else tl_64))) else (bif Nat.blt k 67 then (bif Nat.blt k 66 then tl_65 else tl_66) else (bif Nat.blt k 68 then tl_67 else (bif Nat.blt k 69 then tl_68 else tl_69)))) else (bif Nat.blt k 75 then (bif Nat.blt k 72 then (bif Nat.blt k 71 then tl_70 else tl_71) else (bif Nat.blt k 73 then tl_72 else (bif Nat.blt k 74 then tl_73 else tl_74))) else (bif Nat.blt k 78 then (bif Nat.blt k 76 then tl_75 else (bif Nat.blt k 77 then tl_76 else tl_77)) else (bif Nat.blt k 79 then tl_78 else (bif Nat.blt k 80 then tl_79 else tl_80))))))) else (bif Nat.blt k 122 then (bif Nat.blt k 101 then (bif Nat.blt k 91 then (bif Nat.blt k 86 then (bif Nat.blt k 83 then (bif Nat.blt k 82 then tl_81 else tl_82) else (bif Nat.blt k 84 then tl_83 else (bif Nat.blt k 85 then tl_84 else tl_85))) else (bif Nat.blt k 88 then (bif Nat.blt k 87 then tl_86 else tl_87) else (bif Nat.blt k 89 then tl_88 else (bif Nat.blt k 90 then tl_89 else tl_90)))) else (bif Nat.blt k 96 then (bif Nat.blt k 93 then (bif Nat.blt k 92 then tl_91 else tl_92) else (bif Nat.blt k 94 then tl_93 else (bif Nat.blt k 95 then tl_94 else tl_95))) else (bif Nat.blt k 98 then (bif Nat.blt k 97 then tl_96 else tl_97) else (bif Nat.blt k 99 then tl_98 else (bif Nat.blt k 100 then tl_99 else tl_100))))) else (bif Nat.blt k 111 then (bif Nat.blt k 106 then (bif Nat.blt k 103 then (bif Nat.blt k 102 then tl_101 else tl_102) else (bif Nat.blt k 104 then tl_103 else (bif Nat.blt k 105 then tl_104 else tl_105))) else (bif Nat.blt k 108 then (bif Nat.blt k 107 then tl_106 else tl_107) else (bif Nat.blt k 109 then tl_108 else (bif Nat.blt k 110 then tl_109 else tl_110)))) else (bif Nat.blt k 116 then (bif Nat.blt k 113 then (bif Nat.blt k 112 then tl_111 else tl_112) else (bif Nat.blt k 114 then tl_113 else (bif Nat.blt k 115 then tl_114 else tl_115))) else (bif Nat.blt k 119 then (bif Nat.blt k 117 then tl_116 else (bif Nat.blt k 118 then tl_117 else tl_118)) else (bif Nat.blt k 120 then tl_119 else (bif Nat.blt k 121 then tl_120 else tl_121)))))) else (bif Nat.blt k 142 then (bif Nat.blt k 132 then (bif Nat.blt k 127 then (bif Nat.blt k 124 then (bif Nat.blt k 123 then tl_122 else tl_123) else (bif Nat.blt k 125 then tl_124 else (bif Nat.blt k 126 then tl_125 else tl_126))) else (bif Nat.blt k 129 then (bif Nat.blt k 128 then tl_127 else tl_128) else (bif Nat.blt k 130 then tl_129 else (bif Nat.blt k 131 then tl_130 else tl_131)))) else (bif Nat.blt k 137 then (bif Nat.blt k 134 then (bif Nat.blt k 133 then tl_132 else tl_133) else (bif Nat.blt k 135 then tl_134 else (bif Nat.blt k 136 then tl_135 else tl_136))) else (bif Nat.blt k 139 then (bif Nat.blt k 138 then tl_137 else tl_138) else (bif Nat.blt k 140 then tl_139 else (bif Nat.blt k 141 then tl_140 else tl_141))))) else (bif Nat.blt k 152 then (bif Nat.blt k 147 then (bif Nat.blt k 144 then (bif Nat.blt k 143 then tl_142 else tl_143) else (bif Nat.blt k 145 then tl_144 else (bif Nat.blt k 146 then tl_145 else tl_146))) else (bif Nat.blt k 149 then (bif Nat.blt k 148 then tl_147 else tl_148) else (bif Nat.blt k 150 then tl_149 else (bif Nat.blt k 151 then tl_150 else tl_151)))) else (bif Nat.blt k 157 then (bif Nat.blt k 154 then (bif Nat.blt k 153 then tl_152 else tl_153) else (bif Nat.blt k 155 then tl_154 else (bif Nat.blt k 156 then tl_155 else tl_156))) else (bif Nat.blt k 160 then (bif Nat.blt k 158 then tl_157 else (bif Nat.blt k 159 then tl_158 else tl_159)) else (bif Nat.blt k 161 then tl_160 else (bif Nat.blt k 162 then tl_161 else tl_162)))))))) else []
def xfind : List (Nat × List xI) → Nat → List xI
  | [], _ => []
  | (p, L) :: r, pc => bif Nat.beq pc p then L else xfind r pc
def xtr : Nat → Nat → List xI := fun k pc => xfind (xtl k) pc
end
section
/-! ===== the machine's heap by the small machine's memory ===== -/
def xad (b B k : Nat) : Nat := if k = 0 then b else B + (k - 1)
def xcv (ad : Nat → Nat) : xV → Value
  | .inl x => .int (Int32.ofInt x)
  | .inr r => va_rf (r.map ad)
/-- what a cell is, by its shape and its numbers -/
def xat (ad : Nat → Nat) (dC : Nat → ClassId) (dI : Nat → Nat → Nat) (aC : Nat → ClassId) (k : Nat) (q : Nat × Nat) (M : xM) (H : Heap) : Prop :=
  (1 ≤ q.1 ∧ q.1 ≤ 3 → H[ad k]? = some (arrV (aC q.1) q.2 (fun i => .int (Int32.ofInt (M k (i : Int)))))) ∧
  (q.1 = 4 → H[ad k]? = some (arrV (aC 4) q.2 (fun i => va_rf ((xref (M k (i : Int))).map ad)))) ∧
  (10 ≤ q.1 → (q.1 - 10) % 30 < 11 ∧ t_OB (ad k) (dC ((q.1 - 10) % 30)) (xNf (q.1 - 10)) (dI ((q.1 - 10) % 30)) H (fun j => xcv ad (xget xft (q.1 - 10) j k M)))
def xRep (b B : Nat) (dC : Nat → ClassId) (dI : Nat → Nat → Nat) (aC : Nat → ClassId) (U : State) (S : xS) (H : Heap) : Prop :=
  (H.size = B + (S.1 - 1) ∧ 0 < S.1 ∧ b < B) ∧ ((S.2.2.1 0).1 = 5 ∧ va_X b (S.2.2.1 0).2 (fun j => Int32.ofInt (S.2.2.2 0 (j : Int))) U H) ∧ ∀ k, 0 < k → k < S.1 → xat (xad b B) dC dI aC k (S.2.2.1 k) S.2.2.2 H
theorem xad_pos {b B k : Nat} (h : 0 < k) : xad b B k = B + (k - 1) := by unfold xad; rw [if_neg (by omega)]
theorem xad_0 {b B : Nat} : xad b B 0 = b := by unfold xad; rw [if_pos rfl]
theorem xad_ne {b B k j : Nat} (hb : b < B) (h : k ≠ j) : xad b B k ≠ xad b B j := by
  unfold xad
  split <;> split <;> omega
theorem xget_congr {a j k : Nat} {M M' : xM} (h : M' k = M k) : xget xft a j k M' = xget xft a j k M := by
  unfold xget
  rw [h]
theorem xat_kept {ad : Nat → Nat} {dC : Nat → ClassId} {dI : Nat → Nat → Nat} {aC : Nat → ClassId} {k : Nat} {q : Nat × Nat} {M M' : xM} {H H' : Heap} (h : xat ad dC dI aC k q M H) (hM : M' k = M k) (hH : H'[ad k]? = H[ad k]?) : xat ad dC dI aC k q M' H' := by
  obtain ⟨h1, h2, h3⟩ := h
  refine ⟨fun g => ?_, fun g => ?_, fun g => ?_⟩
  · rw [hH, hM]; exact h1 g
  · rw [hH, hM]; exact h2 g
  · obtain ⟨g1, g2⟩ := h3 g
    exact ⟨g1, (g2.kept hH).to (fun j _ => by rw [xget_congr hM])⟩
section REP
variable {b B : Nat} {dC : Nat → ClassId} {dI : Nat → Nat → Nat} {aC : Nat → ClassId} {U u : State} {S S' : xS} {H H' : Heap}
theorem xRep.moved (hvm : u.vm.Alike U.vm) (h : xRep b B dC dI aC u S H) : xRep b B dC dI aC U S H := ⟨h.1, ⟨h.2.1.1, h.2.1.2.moved hvm⟩, h.2.2⟩
theorem xRep.set (h : xRep b B dC dI aC U S H) {k : Nat} (hk0 : 0 < k) (hS1 : S'.1 = S.1) (hsh : ∀ j, j ≠ k → S'.2.2.1 j = S.2.2.1 j) (hM : ∀ j, j ≠ k → S'.2.2.2 j = S.2.2.2 j) (hz : H'.size = H.size) (ho : ∀ q : Nat, q ≠ xad b B k → H'[q]? = H[q]?)
    (hat : k < S.1 → xat (xad b B) dC dI aC k (S'.2.2.1 k) S'.2.2.2 H') : xRep b B dC dI aC U S' H' := by
  obtain ⟨⟨h1, h2, hb⟩, ⟨h3, h4⟩, h5⟩ := h
  refine ⟨⟨by rw [hz, hS1]; exact h1, by rw [hS1]; exact h2, hb⟩, ⟨?_, ?_⟩, fun j hj0 hj => ?_⟩
  · rw [hsh 0 (by omega)]; exact h3
  · rw [hsh 0 (by omega)]
    have e : (fun j : Nat => Int32.ofInt (S'.2.2.2 0 (j : Int))) = fun j : Nat => Int32.ofInt (S.2.2.2 0 (j : Int)) := by rw [hM 0 (by omega)]
    rw [e]
    exact h4.kept (ho b (by have := xad_ne hb (show 0 ≠ k by omega); rw [xad_0] at this; exact this))
  · rw [hS1] at hj
    by_cases hjk : j = k
    · subst hjk; exact hat hj
    · rw [hsh j hjk]
      exact xat_kept (h5 j hj0 hj) (hM j hjk) (ho _ (xad_ne hb hjk))
theorem xRep.push (h : xRep b B dC dI aC U S H) (hS1 : S'.1 = S.1 + 1) (hsh : ∀ j, j ≠ S.1 → S'.2.2.1 j = S.2.2.1 j) (hM : ∀ j, j ≠ S.1 → S'.2.2.2 j = S.2.2.2 j) (hz : H'.size = H.size + 1) (ho : ∀ q : Nat, q < H.size → H'[q]? = H[q]?)
    (hat : xat (xad b B) dC dI aC S.1 (S'.2.2.1 S.1) S'.2.2.2 H') : xRep b B dC dI aC U S' H' := by
  obtain ⟨⟨h1, h2, hb⟩, ⟨h3, h4⟩, h5⟩ := h
  refine ⟨⟨by rw [hz, hS1, h1]; omega, by omega, hb⟩, ⟨?_, ?_⟩, fun j hj0 hj => ?_⟩
  · rw [hsh 0 (by omega)]; exact h3
  · rw [hsh 0 (by omega)]
    have e : (fun j : Nat => Int32.ofInt (S'.2.2.2 0 (j : Int))) = fun j : Nat => Int32.ofInt (S.2.2.2 0 (j : Int)) := by rw [hM 0 (by omega)]
    rw [e]
    exact h4.kept (ho b (by omega))
  · rw [hS1] at hj
    by_cases hjk : j = S.1
    · subst hjk; exact hat
    · rw [hsh j hjk]
      refine xat_kept (h5 j hj0 (by omega)) (hM j hjk) (ho _ ?_)
      rw [xad_pos hj0]; omega
end REP
/-- the locals -/
def xloc (ad : Nat → Nat) (lsA : Array Slot) (nL : Nat) (ls : xL) : Prop := lsA.size = nL ∧ lv_wf lsA ∧ ls.length = nL ∧ ∀ (i : Nat) (v : xV), ls[i]? = some (some v) → lsA[i]? = some (Slot.val (xcv ad v))
def xlv (ad : Nat → Nat) (nL : Nat) (ls : xL) : List (Nat × Value) := (List.range nL).filterMap (fun i => match ls[i]? with
  | some (some v) => some (i, xcv ad v)
  | _ => none)
theorem xlv_mem {ad : Nat → Nat} {nL : Nat} {ls : xL} {q : Nat × Value} : q ∈ xlv ad nL ls ↔ q.1 < nL ∧ ∃ v, ls[q.1]? = some (some v) ∧ q.2 = xcv ad v := by
  unfold xlv
  rw [List.mem_filterMap]
  constructor
  · rintro ⟨i, hi, h⟩
    split at h
    · rename_i v hv
      cases h
      exact ⟨List.mem_range.mp hi, v, hv, rfl⟩
    · cases h
  · rintro ⟨h1, v, h2, h3⟩
    exact ⟨q.1, List.mem_range.mpr h1, by rw [h2]; simp [← h3]⟩
theorem xcv_cat (ad : Nat → Nat) (v : xV) : (xcv ad v).category = 1 := by
  rcases v with x | r
  · rfl
  · cases r <;> rfl
theorem xloc.has {ad : Nat → Nat} {lsA : Array Slot} {nL : Nat} {ls : xL} (h : xloc ad lsA nL ls) : lv_has lsA nL (xlv ad nL ls) := by
  refine ⟨h.1, h.2.1, fun q hq => ?_⟩
  obtain ⟨-, v, h1, h2⟩ := xlv_mem.mp hq
  rw [h2]
  exact h.2.2.2 _ _ h1
theorem xloc.at {ad : Nat → Nat} {lsA : Array Slot} {nL : Nat} {ls : xL} (h : xloc ad lsA nL ls) {i : Nat} {v : xV} (hi : ls[i]? = some (some v)) : lsA[i]? = some (.val (xcv ad v)) := h.2.2.2 i v hi
theorem xloc.put {ad : Nat → Nat} {lsA lsB : Array Slot} {nL : Nat} {ls : xL} (h : xloc ad lsA nL ls) {i : Nat} {v : xV} (h2 : lv_has lsB nL ((i, xcv ad v) :: (xlv ad nL ls).filter (fun q => !(q.1 == i) && !(q.1 + 1 == i && q.2.category == 2)))) : xloc ad lsB nL (ls.set i (some v)) := by
  refine ⟨h2.1, h2.2.1, by rw [List.length_set]; exact h.2.2.1, fun j w hj => ?_⟩
  by_cases hij : i = j
  · subst hij
    have hlt : i < ls.length := by
      have := (List.getElem?_eq_some_iff.mp hj).1
      simpa using this
    rw [List.getElem?_set_self hlt] at hj
    cases hj
    exact h2.2.2 (i, xcv ad v) List.mem_cons_self
  · rw [List.getElem?_set_ne hij] at hj
    refine h2.2.2 (j, xcv ad w) (List.mem_cons_of_mem _ (List.mem_filter.mpr ⟨xlv_mem.mpr ⟨?_, w, hj, rfl⟩, ?_⟩))
    · have := (List.getElem?_eq_some_iff.mp hj).1
      rw [h.2.2.1] at this
      exact this
    · have hne : ¬ j = i := fun e => hij e.symm
      simp [hne, xcv_cat]
theorem wr_ofInt (x : Int) : (Int32.ofInt x).toInt = wr x := rfl
theorem wr_eq {x y : Int} : Int32.ofInt x = Int32.ofInt y ↔ wr x = wr y := Int32.toInt_inj.symm
theorem wr_lt {x y : Int} : Int32.ofInt x < Int32.ofInt y ↔ wr x < wr y := Int32.lt_iff_toInt_lt
theorem wr_le {x y : Int} : Int32.ofInt x ≤ Int32.ofInt y ↔ wr x ≤ wr y := Int32.le_iff_toInt_le
theorem wr_0 : wr 0 = 0 := by decide
theorem wr_id {x : Int} (h : rg x) : wr x = x := Int32.toInt_ofInt_of_le (by have := h.1; omega) (by have := h.2; omega)
theorem xin_wr {S : xS} {k t : Nat} {i : Int} (h : xin S k t i) : wr i = i := wr_id ⟨by have := h.2.2.1; omega, h.2.2.2.2⟩
theorem xin_of {S : xS} {k t : Nat} {i : Int} (h : xin S k t i) : vp_in (Int32.ofInt i) (S.2.2.1 k).2 := vp_in_iff.mpr (by rw [wr_ofInt, xin_wr h]; exact ⟨h.2.2.1, h.2.2.2.1⟩)
theorem wr_clamp (i : Int) : (Int32.ofInt i).toNatClampNeg = (wr i).toNat := rfl
end
section
/-! ===== words, fields and types of the classes by number ===== -/
def xG : List Cond := lw_tbl.filter goodWord
theorem xG_of {w : Cond} (h : w ∈ lw_tbl) (hg : goodWord w = true) : w ∈ xG := List.mem_filter.mpr ⟨h, hg⟩
theorem xG_tbl {w : Cond} (h : w ∈ xG) : w ∈ lw_tbl := (List.mem_filter.mp h).1
theorem xG_good {w : Cond} (h : w ∈ xG) : goodWord w = true := (List.mem_filter.mp h).2
theorem x_wt_0 : ∀ w ∈ u_ws RX0 TX0 (xNf 0), w ∈ lw_tbl := by decide +kernel
theorem x_wg_0 : (u_ws RX0 TX0 (xNf 0)).all goodWord = true := by decide +kernel
theorem x_ws_0 : ∀ w ∈ u_ws RX0 TX0 (xNf 0), w ∈ xG := fun w h => xG_of (x_wt_0 w h) (List.all_eq_true.mp x_wg_0 w h)
theorem x_wt_1 : ∀ w ∈ u_ws RX1 TX1 (xNf 1), w ∈ lw_tbl := by decide +kernel
theorem x_wg_1 : (u_ws RX1 TX1 (xNf 1)).all goodWord = true := by decide +kernel
theorem x_ws_1 : ∀ w ∈ u_ws RX1 TX1 (xNf 1), w ∈ xG := fun w h => xG_of (x_wt_1 w h) (List.all_eq_true.mp x_wg_1 w h)
theorem x_wt_2 : ∀ w ∈ u_ws RX2 TX2 (xNf 2), w ∈ lw_tbl := by decide +kernel
theorem x_wg_2 : (u_ws RX2 TX2 (xNf 2)).all goodWord = true := by decide +kernel
theorem x_ws_2 : ∀ w ∈ u_ws RX2 TX2 (xNf 2), w ∈ xG := fun w h => xG_of (x_wt_2 w h) (List.all_eq_true.mp x_wg_2 w h)
theorem x_wt_3 : ∀ w ∈ u_ws RX3 TX3 (xNf 3), w ∈ lw_tbl := by decide +kernel
theorem x_wg_3 : (u_ws RX3 TX3 (xNf 3)).all goodWord = true := by decide +kernel
theorem x_ws_3 : ∀ w ∈ u_ws RX3 TX3 (xNf 3), w ∈ xG := fun w h => xG_of (x_wt_3 w h) (List.all_eq_true.mp x_wg_3 w h)
theorem x_wt_4 : ∀ w ∈ u_ws RX4 TX4 (xNf 4), w ∈ lw_tbl := by decide +kernel
theorem x_wg_4 : (u_ws RX4 TX4 (xNf 4)).all goodWord = true := by decide +kernel
theorem x_ws_4 : ∀ w ∈ u_ws RX4 TX4 (xNf 4), w ∈ xG := fun w h => xG_of (x_wt_4 w h) (List.all_eq_true.mp x_wg_4 w h)
theorem x_wt_5 : ∀ w ∈ u_ws RX5 TX5 (xNf 5), w ∈ lw_tbl := by decide +kernel
theorem x_wg_5 : (u_ws RX5 TX5 (xNf 5)).all goodWord = true := by decide +kernel
theorem x_ws_5 : ∀ w ∈ u_ws RX5 TX5 (xNf 5), w ∈ xG := fun w h => xG_of (x_wt_5 w h) (List.all_eq_true.mp x_wg_5 w h)
theorem x_wt_6 : ∀ w ∈ u_ws RX6 TX6 (xNf 6), w ∈ lw_tbl := by decide +kernel
theorem x_wg_6 : (u_ws RX6 TX6 (xNf 6)).all goodWord = true := by decide +kernel
theorem x_ws_6 : ∀ w ∈ u_ws RX6 TX6 (xNf 6), w ∈ xG := fun w h => xG_of (x_wt_6 w h) (List.all_eq_true.mp x_wg_6 w h)
theorem x_wt_7 : ∀ w ∈ u_ws RX7 TX7 (xNf 7), w ∈ lw_tbl := by decide +kernel
theorem x_wg_7 : (u_ws RX7 TX7 (xNf 7)).all goodWord = true := by decide +kernel
theorem x_ws_7 : ∀ w ∈ u_ws RX7 TX7 (xNf 7), w ∈ xG := fun w h => xG_of (x_wt_7 w h) (List.all_eq_true.mp x_wg_7 w h)
theorem x_wt_8 : ∀ w ∈ u_ws RX8 TX8 (xNf 8), w ∈ lw_tbl := by decide +kernel
theorem x_wg_8 : (u_ws RX8 TX8 (xNf 8)).all goodWord = true := by decide +kernel
theorem x_ws_8 : ∀ w ∈ u_ws RX8 TX8 (xNf 8), w ∈ xG := fun w h => xG_of (x_wt_8 w h) (List.all_eq_true.mp x_wg_8 w h)
theorem x_wt_9 : ∀ w ∈ u_ws RX9 TX9 (xNf 9), w ∈ lw_tbl := by decide +kernel
theorem x_wg_9 : (u_ws RX9 TX9 (xNf 9)).all goodWord = true := by decide +kernel
theorem x_ws_9 : ∀ w ∈ u_ws RX9 TX9 (xNf 9), w ∈ xG := fun w h => xG_of (x_wt_9 w h) (List.all_eq_true.mp x_wg_9 w h)
theorem x_wt_10 : ∀ w ∈ u_ws RX10 TX10 (xNf 10), w ∈ lw_tbl := by decide +kernel
theorem x_wg_10 : (u_ws RX10 TX10 (xNf 10)).all goodWord = true := by decide +kernel
theorem x_ws_10 : ∀ w ∈ u_ws RX10 TX10 (xNf 10), w ∈ xG := fun w h => xG_of (x_wt_10 w h) (List.all_eq_true.mp x_wg_10 w h)
theorem x_ws : ∀ c, c < 11 → ∀ w ∈ u_ws (xRX c) (xTX c) (xNf c), w ∈ xG := fun c h => match c, h with
  | 0, _ => x_ws_0
  | 1, _ => x_ws_1
  | 2, _ => x_ws_2
  | 3, _ => x_ws_3
  | 4, _ => x_ws_4
  | 5, _ => x_ws_5
  | 6, _ => x_ws_6
  | 7, _ => x_ws_7
  | 8, _ => x_ws_8
  | 9, _ => x_ws_9
  | 10, _ => x_ws_10
  | n + 11, h => absurd h (by omega)
theorem x_cl : ∀ c, c < 11 → vwCl[c]? = some (xRX c, xTX c, xNf c) := fun c h => match c, h with
  | 0, _ => rfl
  | 1, _ => rfl
  | 2, _ => rfl
  | 3, _ => rfl
  | 4, _ => rfl
  | 5, _ => rfl
  | 6, _ => rfl
  | 7, _ => rfl
  | 8, _ => rfl
  | 9, _ => rfl
  | 10, _ => rfl
  | n + 11, h => absurd h (by omega)
theorem x_ty : ∀ c, c < 11 → ∀ k, k < xNf c → parseFieldDescriptor (xTX c k).2.2.1 = some (xTy c k) := fun c h => match c, h with
  | 0, _ => tyX0_ok
  | 1, _ => tyX1_ok
  | 2, _ => tyX2_ok
  | 3, _ => tyX3_ok
  | 4, _ => tyX4_ok
  | 5, _ => tyX5_ok
  | 6, _ => tyX6_ok
  | 7, _ => tyX7_ok
  | 8, _ => tyX8_ok
  | 9, _ => tyX9_ok
  | 10, _ => tyX10_ok
  | n + 11, h => absurd h (by omega)
theorem x_nm : ∀ c, c < 11 → ∀ a, a < xNf c → ∀ b, b < xNf c → a ≠ b → (xTX c a).2.1 ≠ (xTX c b).2.1 := fun c h => match c, h with
  | 0, _ => nmX0
  | 1, _ => nmX1
  | 2, _ => nmX2
  | 3, _ => nmX3
  | 4, _ => nmX4
  | 5, _ => nmX5
  | 6, _ => nmX6
  | 7, _ => nmX7
  | 8, _ => nmX8
  | 9, _ => nmX9
  | 10, _ => nmX10
  | n + 11, h => absurd h (by omega)
def xtok : Nat → FieldType → Bool
  | 0, .int => true
  | 4, .boolean => true
  | 1, .object _ => true
  | 1, .array _ => true
  | 2, .object _ => true
  | 2, .array _ => true
  | 3, .object _ => true
  | 3, .array _ => true
  | _, _ => false
theorem x_tok_0 : ∀ j, j < xNf 0 → xtok (xft0 0 j).1 (xTy 0 j) = true := by decide +kernel
theorem x_tok_1 : ∀ j, j < xNf 1 → xtok (xft0 1 j).1 (xTy 1 j) = true := by decide +kernel
theorem x_tok_2 : ∀ j, j < xNf 2 → xtok (xft0 2 j).1 (xTy 2 j) = true := by decide +kernel
theorem x_tok_3 : ∀ j, j < xNf 3 → xtok (xft0 3 j).1 (xTy 3 j) = true := by decide +kernel
theorem x_tok_4 : ∀ j, j < xNf 4 → xtok (xft0 4 j).1 (xTy 4 j) = true := by decide +kernel
theorem x_tok_5 : ∀ j, j < xNf 5 → xtok (xft0 5 j).1 (xTy 5 j) = true := by decide +kernel
theorem x_tok_6 : ∀ j, j < xNf 6 → xtok (xft0 6 j).1 (xTy 6 j) = true := by decide +kernel
theorem x_tok_7 : ∀ j, j < xNf 7 → xtok (xft0 7 j).1 (xTy 7 j) = true := by decide +kernel
theorem x_tok_8 : ∀ j, j < xNf 8 → xtok (xft0 8 j).1 (xTy 8 j) = true := by decide +kernel
theorem x_tok_9 : ∀ j, j < xNf 9 → xtok (xft0 9 j).1 (xTy 9 j) = true := by decide +kernel
theorem x_tok_10 : ∀ j, j < xNf 10 → xtok (xft0 10 j).1 (xTy 10 j) = true := by decide +kernel
theorem x_tok : ∀ c, c < 11 → ∀ j, j < xNf c → xtok (xft0 c j).1 (xTy c j) = true := fun c h => match c, h with
  | 0, _ => x_tok_0
  | 1, _ => x_tok_1
  | 2, _ => x_tok_2
  | 3, _ => x_tok_3
  | 4, _ => x_tok_4
  | 5, _ => x_tok_5
  | 6, _ => x_tok_6
  | 7, _ => x_tok_7
  | 8, _ => x_tok_8
  | 9, _ => x_tok_9
  | 10, _ => x_tok_10
  | n + 11, h => absurd h (by omega)
end
section
/-! ===== rows of the small machine over the machine: fields, arrays, new cells ===== -/
def xnestA : Cond := .methodLinkNest "MatchForge$Builder" 11 yX1_init "MatchForge"
def xnestB : Cond := .methodLinkNest "MatchForge$Match" 30 yX6_init "MatchForge"
def xtys (aC : Nat → ClassId) : List (ClassId × FieldType) := [(aC 1, .int), (aC 2, .boolean), (aC 3, .short), (aC 4, .object "MatchForge$Match")]
/-- what the tables say of the classes, as the cells use it -/
def xKK (dC : Nat → ClassId) (dI : Nat → Nat → Nat) (aC : Nat → ClassId) (U : State) : Prop := va_K (dC, dI) vwCl (xtys aC) U ∧ va_Nw xnestA U ∧ va_Nw xnestB U ∧ va_AO "MatchForge$Match" U
theorem xKK.warm {dC : Nat → ClassId} {dI : Nat → Nat → Nat} {aC : Nat → ClassId} {u U : State} (hW : u.WarmedH U.vm) (h : xKK dC dI aC u) : xKK dC dI aC U :=
  ⟨h.1.moved hW.alike, h.2.1.warmM hW, h.2.2.1.warmM hW, h.2.2.2.moved hW.alike⟩
theorem xKK.same {dC : Nat → ClassId} {dI : Nat → Nat → Nat} {aC : Nat → ClassId} {u U : State} (hv : u.vm = U.vm) (h : xKK dC dI aC u) : xKK dC dI aC U :=
  ⟨h.1.moved (by rw [hv]; exact Vm.Alike.refl _), h.2.1.same rfl hv, h.2.2.1.same rfl hv, h.2.2.2.moved (by rw [hv]; exact Vm.Alike.refl _)⟩
theorem xNf_mod (a : Nat) : xNf a = xNf (a % 30) := by unfold xNf; rw [Nat.mod_mod]
theorem xref_enc (r : Option Nat) : xref (xenc r) = r := by
  cases r with
  | none => rfl
  | some k =>
    have h : ¬ ((k : Int) < 0) := by omega
    simp [xref, xenc, h]
theorem xref_nat (k : Nat) : xref (k : Int) = some k := xref_enc (some k)
section ROWS
variable {p : Program} {l : Launch} {e : Env} {R : Room} {s : State} {m : MethodId} {args : Array Value} {below : List Frame} {meth : Method} {c : Code} {H : Heap} {locs : List Loc} {cells slots : Nat} {Q : State → Prop}
variable {cc : ByteArray} {pc : Nat} {lsA : Array Slot} {rest : List Value} {own : String} {b B : Nat} {dC : Nat → ClassId} {dI : Nat → Nat → Nat} {aC : Nat → ClassId} {S : xS}
theorem x_obj (hR : xRep b B dC dI aC s S H) {k a : Nat} (hk : 0 < k) (ho : xob S k a) : a % 30 < 11 ∧ t_OB (xad b B k) (dC (a % 30)) (xNf a) (dI (a % 30)) H (fun j => xcv (xad b B) (xget xft a j k S.2.2.2)) := by
  have h := (hR.2.2 k hk ho.1).2.2 (by rw [ho.2]; omega)
  rw [ho.2, Nat.add_sub_cancel_left] at h
  exact h
theorem x_arr (hR : xRep b B dC dI aC s S H) {k t : Nat} (hk : 0 < k) (hl : k < S.1) (ht : (S.2.2.1 k).1 = t) (h1 : 1 ≤ t) (h3 : t ≤ 3) : H[xad b B k]? = some (arrV (aC t) (S.2.2.1 k).2 (fun i => .int (Int32.ofInt (S.2.2.2 k (i : Int))))) := by
  have h := (hR.2.2 k hk hl).1 (by rw [ht]; exact ⟨h1, h3⟩)
  rw [ht] at h
  exact h
theorem x_arrq (hR : xRep b B dC dI aC s S H) {k : Nat} (hk : 0 < k) (hl : k < S.1) (ht : (S.2.2.1 k).1 = 4) : H[xad b B k]? = some (arrV (aC 4) (S.2.2.1 k).2 (fun i => va_rf ((xref (S.2.2.2 k (i : Int))).map (xad b B)))) := (hR.2.2 k hk hl).2.1 ht
theorem xr_get (hx : p.tables.exec = Jvm.exec) (hb : c.code = cc) (hts : ∀ w ∈ xG, w.before args s = true) (hown : s.vm.findClass own = some m.cls) (hK : xKK dC dI aC s) (hR : xRep b B dC dI aC s S H) {k a j index : Nat} (hk : 0 < k) (ho : xob S k a) (hj : j < xNf a)
    (hlink : Cond.fieldLink own index (xTX (a % 30) j).1 (xTX (a % 30) j).2.1 (xTX (a % 30) j).2.2.1 ∈ xG) (hdg : decode cc pc = .ok (.getfield index, 3))
    (kk : W p l e R s m args below meth c H locs cells slots Q (F0 m (pc + 3) lsA (xcv (xad b B) (xget xft a j k S.2.2.2) :: rest))) : W p l e R s m args below meth c H locs cells slots Q (F0 m pc lsA (.ref (xad b B k) :: rest)) := by
  obtain ⟨hc, cell, q1, q2, q3, q4⟩ := x_obj hR hk ho
  obtain ⟨hS, hfc, kC, hkC, hkind⟩ := hK.1.1 (a % 30) _ (x_cl _ hc)
  rw [xNf_mod] at hj q4
  obtain ⟨cf, kf, fi, f, hi, hsl⟩ := hS j hj
  refine W.getf hx hb hown (hts _ hlink) hi (u_facts hfc hkC (u_lays hts (x_ws _ hc) hj) hi).1 q1 (by rw [q3]; exact fun h => by cases h) (v := xcv (xad b B) (xget xft a j k S.2.2.2)) ?_ rfl rfl hdg kk
  rw [hsl]
  exact q4 j hj
theorem x_fit {a j : Nat} (hc : a % 30 < 11) (hj : j < xNf a) (ha : a < 60) {v : xV} {g : Option Prop} {x : Int} (hp : xput xft a j S v = some (g, x)) (hg : ∀ P, g = some P → P) (ad : Nat → Nat) : narrow (xTy (a % 30) j) (xcv ad v) = xcv ad v ∧ fits (xTy (a % 30) j) (xcv ad v) = true := by
  have ht := x_tok (a % 30) hc j (by rw [← xNf_mod]; exact hj)
  have hft : (xft a j).1 = 0 ∧ (xft0 (a % 30) j).1 = 0 ∨ (xft a j).1 = 4 ∧ (xft0 (a % 30) j).1 = 4 ∨ ((xft a j).1 ≠ 0 ∧ (xft a j).1 ≠ 4) ∧ ((xft0 (a % 30) j).1 ≠ 0 ∧ (xft0 (a % 30) j).1 ≠ 4) := by
    unfold xft
    by_cases h30 : a < 30
    · have e : Nat.blt a 30 = true := by rw [Nat.blt_eq]; exact h30
      rw [Nat.mod_eq_of_lt h30]
      simp only [e, cond_true]
      omega
    · have e : Nat.blt a 30 = false := by
        rw [Bool.eq_false_iff]; intro h; rw [Nat.blt_eq] at h; exact h30 h
      have e2 : a % 30 = a - 30 := by omega
      rw [e2]
      simp only [e, cond_false]
      by_cases h0 : (xft0 (a - 30) j).1 = 0
      · simp [h0]
      · by_cases h4 : (xft0 (a - 30) j).1 = 4
        · simp [h4]; rfl
        · have e0 : Nat.beq (xft0 (a - 30) j).1 0 = false := by
            rw [Bool.eq_false_iff]; intro h; exact h0 (Nat.eq_of_beq_eq_true h)
          have e4 : Nat.beq (xft0 (a - 30) j).1 4 = false := by
            rw [Bool.eq_false_iff]; intro h; exact h4 (Nat.eq_of_beq_eq_true h)
          simp only [e0, e4, cond_false]
          omega
  generalize hty : xTy (a % 30) j = ty at ht ⊢
  generalize (xft0 (a % 30) j).1 = t0 at ht hft
  unfold xput at hp
  generalize (xft a j).1 = t1 at hp hft
  rcases hft with ⟨e1, e2⟩ | ⟨e1, e2⟩ | ⟨e1, e2⟩
  · subst e1; subst e2
    cases ty <;> first | (simp [xtok] at ht; done) | skip
    rcases v with y | r
    · exact ⟨rfl, rfl⟩
    · cases hp
  · subst e1; subst e2
    cases ty <;> first | (simp [xtok] at ht; done) | skip
    rcases v with y | r
    · cases hp
      rcases hg _ rfl with rfl | rfl
      · exact ⟨rfl, rfl⟩
      · exact ⟨rfl, rfl⟩
    · cases hp
  · rcases v with y | r
    · split at hp
      · rename_i h; exact absurd rfl e1.1
      · rename_i h; exact absurd rfl e1.2
      all_goals (rename_i h; first | (cases h; done) | cases hp)
    · cases ty <;> first | (exfalso; revert ht; unfold xtok; split <;> simp_all; done) | skip
      all_goals (cases r <;> exact ⟨rfl, rfl⟩)
end ROWS
end
section
section ROWS2
variable {p : Program} {l : Launch} {e : Env} {R : Room} {s : State} {m : MethodId} {args : Array Value} {below : List Frame} {meth : Method} {c : Code} {H : Heap} {locs : List Loc} {cells slots : Nat} {Q : State → Prop}
variable {cc : ByteArray} {pc : Nat} {lsA : Array Slot} {rest : List Value} {own : String} {b B : Nat} {dC : Nat → ClassId} {dI : Nat → Nat → Nat} {aC : Nat → ClassId} {S : xS}
theorem xup_same (M : xM) (k : Nat) (i v : Int) : xup M k i v k i = v := by simp [xup]
theorem xup_k (M : xM) {k k' : Nat} (i v : Int) (h : k' ≠ k) : xup M k i v k' = M k' := by funext i'; simp [xup, h]
theorem xup_i (M : xM) (k : Nat) {i i' : Int} (v : Int) (h : i' ≠ i) : xup M k i v k i' = M k i' := by simp [xup, h]
theorem xput_get {a j k : Nat} {M : xM} {v : xV} {g : Option Prop} {x : Int} (hp : xput xft a j S v = some (g, x)) : xget xft a j k (xup M k (j : Int) x) = v := by
  unfold xput at hp
  unfold xget
  generalize (xft a j).1 = t at hp
  rw [xup_same]
  split at hp
  · cases hp; rfl
  · cases hp; rfl
  · cases hp; rfl
  · cases hp
    show Sum.inr (xref _) = _
    rw [xref_nat]
  · cases hp
theorem xput_other {a j i k : Nat} {M : xM} {x : Int} (h : i ≠ j) : xget xft a i k (xup M k (j : Int) x) = xget xft a i k M := by
  unfold xget
  rw [xup_i M k x (show (i : Int) ≠ (j : Int) by omega)]
theorem x_S {A : Nat → Prop} {H0 H1 : Heap} {locs : List Loc} (hS : va_S (fun q => B ≤ q) H0 H locs) {k i : Nat} (hk : 0 < k) (z : H1.size = H.size) (oq : ∀ q : Nat, q ≠ xad b B k → H1[q]? = H[q]?) : va_S (fun q => B ≤ q) H0 H1 (locs ++ [⟨xad b B k, i⟩]) :=
  hS.put z oq (by show B ≤ xad b B k; rw [xad_pos hk]; omega)
theorem xr_put (hx : p.tables.exec = Jvm.exec) (hb : c.code = cc) (hts : ∀ w ∈ xG, w.before args s = true) (hown : s.vm.findClass own = some m.cls) (hK : xKK dC dI aC s) (hR : xRep b B dC dI aC s S H) (hS : va_S (fun q => B ≤ q) s.heap H locs) {k a j index : Nat} {v : xV} {g : Option Prop} {x : Int} (hk : 0 < k) (ho : xob S k a) (hj : j < xNf a) (ha : a < 60)
    (hp : xput xft a j S v = some (g, x)) (hg : ∀ P, g = some P → P) (hlink : Cond.fieldLink own index (xTX (a % 30) j).1 (xTX (a % 30) j).2.1 (xTX (a % 30) j).2.2.1 ∈ xG) (hfin : (xTX (a % 30) j).2.2.2 = true → meth.name = "<init>" ∧ (xTX (a % 30) j).1 = own) (hdg : decode cc pc = .ok (.putfield index, 3))
    (kk : ∀ (H1 : Heap) (locs1 : List Loc), xRep b B dC dI aC s (S.1, S.2.1, S.2.2.1, xup S.2.2.2 k (j : Int) x) H1 → va_S (fun q => B ≤ q) s.heap H1 locs1 → W p l e R s m args below meth c H1 locs1 cells slots Q (F0 m (pc + 3) lsA rest)) : W p l e R s m args below meth c H locs cells slots Q (F0 m pc lsA (xcv (xad b B) v :: .ref (xad b B k) :: rest)) := by
  obtain ⟨hc, cell, q1, q2, q3, q4⟩ := x_obj hR hk ho
  obtain ⟨hn, hf⟩ := x_fit (S := S) hc hj ha hp hg (xad b B)
  have hKn := hK.1.1 (a % 30) _ (x_cl _ hc)
  obtain ⟨hSl, hfc, kC, hkC, hkind⟩ := hKn
  have hj0 := hj
  rw [xNf_mod] at hj q4
  have hap := va_apart (own := own) hts (x_ws _ hc) (xTy (a % 30)) (x_ty _ hc) (x_nm _ hc) hK.1 (x_cl _ hc)
  obtain ⟨cf, kf, fi, f, hi, hsl⟩ := hSl j hj
  have hst := (u_facts hfc hkC (u_lays hts (x_ws _ hc) hj) hi).1
  have hlay := hts _ (x_ws _ hc _ (u_in_lay hj))
  unfold u_lay at hlay
  have fin : ∀ (H1 : Heap), H1[xad b B k]? = some (cell.setSlot (dI (a % 30) j) (xcv (xad b B) v)) → H1.size = H.size → (∀ q, q ≠ xad b B k → H1[q]? = H[q]?) → xRep b B dC dI aC s (S.1, S.2.1, S.2.2.1, xup S.2.2.2 k (j : Int) x) H1 := by
    intro H1 e1 e2 e3
    refine hR.set hk rfl (fun _ _ => rfl) (fun i hi => xup_k _ _ _ hi) e2 e3 (fun hl => ?_)
    have hkd : (S.2.2.1 k).1 = 10 + a := ho.2
    refine ⟨fun h => ?_, fun h => ?_, fun _ => ?_⟩
    · change 1 ≤ (S.2.2.1 k).1 ∧ (S.2.2.1 k).1 ≤ 3 at h; omega
    · change (S.2.2.1 k).1 = 4 at h; omega
    · show ((S.2.2.1 k).1 - 10) % 30 < 11 ∧ t_OB _ (dC (((S.2.2.1 k).1 - 10) % 30)) (xNf ((S.2.2.1 k).1 - 10)) (dI (((S.2.2.1 k).1 - 10) % 30)) H1 (fun i => xcv (xad b B) (xget xft ((S.2.2.1 k).1 - 10) i k (xup S.2.2.2 k (j : Int) x)))
      rw [hkd, Nat.add_sub_cancel_left]
      refine ⟨hc, t_OB.to (V := updV (fun i => xcv (xad b B) (xget xft a i k S.2.2.2)) j (xcv (xad b B) v)) ⟨_, e1, q2, q3, by rw [xNf_mod]; exact t_set q4 hap hj _⟩ (fun i _ => ?_)⟩
      by_cases hij : i = j
      · subst hij
        simp only [updV, if_true]
        rw [xput_get hp]
      · simp only [updV, hij, if_false]
        rw [xput_other hij]
  by_cases hfn : (xTX (a % 30) j).2.2.2 = true
  · obtain ⟨hin2, hdecl⟩ := hfin hfn
    rw [if_pos hfn] at hlay
    have hcf : m.cls = cf := by
      obtain ⟨_, _, c', _, _, _, -, -, hf', -, -, -, hown2, -⟩ := Cond.laysFinal_spec hlay
      have e1 : c' = cf := by have := hi.symm.trans hf'; simp at this; exact this.1.symm
      rw [hdecl] at hown2
      rw [← e1]; exact Option.some.inj (hown.symm.trans hown2)
    have h6 := u_fits hfc hkC hkind (Or.inr hlay) hi (x_ty _ hc j hj) hn hf
    refine W.putFinK hx hb hown (hts _ hlink) hi hst hcf hin2 (by rw [q2]; exact h6) q1 q3 (by rw [hsl]; exact k2_hasslot (q4 j hj)) rfl rfl hdg fun H1 e1 e2 e3 => ?_
    rw [hsl] at e1 ⊢
    exact kk H1 _ (fin H1 e1 e2 e3) (x_S (A := fun _ => True) hS hk e2 e3)
  · rw [if_neg hfn] at hlay
    have h6 := u_store hfc hkC hkind hlay hi (x_ty _ hc j hj) hn hf
    refine W.putK hx hb (f := f) ⟨hown, hts _ hlink, ⟨_, _, _, hi⟩, hst⟩ (by rw [q2]; exact h6) q1 q3 (by rw [hsl]; exact k2_hasslot (q4 j hj)) rfl rfl hdg fun H1 e1 e2 e3 => ?_
    rw [hsl] at e1 ⊢
    exact kk H1 _ (fin H1 e1 e2 e3) (x_S (A := fun _ => True) hS hk e2 e3)
theorem x_ao (hK : xKK dC dI aC s) {t : Nat} {ty : FieldType} (h : (xtys aC)[t]? = some (aC (t + 1), ty)) : ArrOfT s (aC (t + 1)) ty := (hK.1.2 t _ h).1
theorem x_at {len : Nat} {M : xM} {k : Nat} {i : Int} (h0 : 0 ≤ wr i) : ((wr i).toNat : Int) = wr i := by omega
theorem xr_iald (hx : p.tables.exec = Jvm.exec) (hb : c.code = cc) (hK : xKK dC dI aC s) (hR : xRep b B dC dI aC s S H) {k : Nat} {i : Int} (h : xin S k (if k = 0 then 5 else 1) i) (hdg : decode cc pc = .ok (.iaload, 1))
    (kk : W p l e R s m args below meth c H locs cells slots Q (F0 m (pc + 1) lsA (.int (Int32.ofInt (S.2.2.2 k i)) :: rest))) : W p l e R s m args below meth c H locs cells slots Q (F0 m pc lsA (.int (Int32.ofInt i) :: .ref (xad b B k) :: rest)) := by
  have hi := xin_of h
  have hlt : (wr i).toNat < (S.2.2.1 k).2 := by rw [xin_wr h]; have := h.2.2; omega
  have hcast : ((wr i).toNat : Int) = i := by rw [xin_wr h]; have := h.2.2.1; omega
  by_cases hk : k = 0
  · subst hk
    obtain ⟨scr, h1, h2, h3, h4, h5⟩ := hR.2.1.2
    rw [xad_0]
    refine W.iald (v := .int (Int32.ofInt (S.2.2.2 0 i))) hx hb h1 h2 h3 (by rw [h4]; exact hi) ?_ rfl rfl hdg kk
    rw [wr_clamp, h5 _ hlt]
    show some (Value.int (Int32.ofInt (S.2.2.2 0 ((wr i).toNat : Int)))) = _
    rw [hcast]
  · have ht : (S.2.2.1 k).1 = 1 := by have := h.2.1; rw [if_neg hk] at this; exact this
    have hR1 := x_arr hR (Nat.pos_of_ne_zero hk) h.1 ht (by omega) (by omega)
    refine W.iald (v := .int (Int32.ofInt (S.2.2.2 k i))) hx hb hR1 (x_ao hK (t := 0) rfl _ _) (fun q => by cases q) (by rw [arrV_size]; exact hi) ?_ rfl rfl hdg kk
    rw [wr_clamp, arrV_read _ _ hlt, hcast]
theorem xr_zald (hx : p.tables.exec = Jvm.exec) (hb : c.code = cc) (hK : xKK dC dI aC s) (hR : xRep b B dC dI aC s S H) {k : Nat} {i : Int} (hk : 0 < k) (h : xin S k 2 i) (hdg : decode cc pc = .ok (.baload, 1))
    (kk : W p l e R s m args below meth c H locs cells slots Q (F0 m (pc + 1) lsA (.int (Int32.ofInt (S.2.2.2 k i)) :: rest))) : W p l e R s m args below meth c H locs cells slots Q (F0 m pc lsA (.int (Int32.ofInt i) :: .ref (xad b B k) :: rest)) := by
  have hi := xin_of h
  have hlt : (wr i).toNat < (S.2.2.1 k).2 := by rw [xin_wr h]; have := h.2.2; omega
  have hcast : ((wr i).toNat : Int) = i := by rw [xin_wr h]; have := h.2.2.1; omega
  have hR1 := x_arr hR hk h.1 h.2.1 (by omega) (by omega)
  refine W.zald (v := .int (Int32.ofInt (S.2.2.2 k i))) hx hb hR1 (x_ao hK (t := 1) rfl _ _) (fun q => by cases q) (by rw [arrV_size]; exact hi) ?_ rfl rfl hdg kk
  rw [wr_clamp, arrV_read _ _ hlt, hcast]
theorem xr_sald (hx : p.tables.exec = Jvm.exec) (hb : c.code = cc) (hK : xKK dC dI aC s) (hR : xRep b B dC dI aC s S H) {k : Nat} {i : Int} (hk : 0 < k) (h : xin S k 3 i) (hdg : decode cc pc = .ok (.saload, 1))
    (kk : W p l e R s m args below meth c H locs cells slots Q (F0 m (pc + 1) lsA (.int (Int32.ofInt (S.2.2.2 k i)) :: rest))) : W p l e R s m args below meth c H locs cells slots Q (F0 m pc lsA (.int (Int32.ofInt i) :: .ref (xad b B k) :: rest)) := by
  have hi := xin_of h
  have hlt : (wr i).toNat < (S.2.2.1 k).2 := by rw [xin_wr h]; have := h.2.2; omega
  have hcast : ((wr i).toNat : Int) = i := by rw [xin_wr h]; have := h.2.2.1; omega
  have hR1 := x_arr hR hk h.1 h.2.1 (by omega) (by omega)
  refine W.sald (v := .int (Int32.ofInt (S.2.2.2 k i))) hx hb hR1 (x_ao hK (t := 2) rfl _ _) (fun q => by cases q) (by rw [arrV_size]; exact hi) ?_ rfl rfl hdg kk
  rw [wr_clamp, arrV_read _ _ hlt, hcast]
theorem xr_aald (hx : p.tables.exec = Jvm.exec) (hb : c.code = cc) (hK : xKK dC dI aC s) (hR : xRep b B dC dI aC s S H) {k : Nat} {i : Int} (hk : 0 < k) (h : xin S k 4 i) (hdg : decode cc pc = .ok (.aaload, 1))
    (kk : W p l e R s m args below meth c H locs cells slots Q (F0 m (pc + 1) lsA (va_rf ((xref (S.2.2.2 k i)).map (xad b B)) :: rest))) : W p l e R s m args below meth c H locs cells slots Q (F0 m pc lsA (.int (Int32.ofInt i) :: .ref (xad b B k) :: rest)) := by
  have hi := xin_of h
  have hlt : (wr i).toNat < (S.2.2.1 k).2 := by rw [xin_wr h]; have := h.2.2; omega
  have hcast : ((wr i).toNat : Int) = i := by rw [xin_wr h]; have := h.2.2.1; omega
  have hR1 := x_arrq hR hk h.1 h.2.1
  refine W.aald (v := va_rf ((xref (S.2.2.2 k i)).map (xad b B))) hx hb hR1 (x_ao hK (t := 3) rfl _ _) rfl (fun q => by cases q) (by rw [arrV_size]; exact hi) ?_ rfl rfl hdg kk
  rw [wr_clamp, arrV_read _ _ hlt, hcast]
theorem x_upd {M : xM} {k : Nat} {i x : Int} (h0 : 0 ≤ wr i) (V : Value) (hV : V = .int (Int32.ofInt x)) : updV (fun q : Nat => Value.int (Int32.ofInt (M k (q : Int)))) (wr i).toNat V = fun q : Nat => Value.int (Int32.ofInt (xup M k (wr i) x k (q : Int))) := by
  funext q
  subst hV
  by_cases hq : q = (wr i).toNat
  · subst hq
    have e : (((wr i).toNat : Nat) : Int) = wr i := by omega
    simp only [updV, if_true]
    rw [e, xup_same]
  · simp only [updV, hq, if_false]
    rw [xup_i M k x (show (q : Int) ≠ wr i by omega)]
theorem x_store (hR : xRep b B dC dI aC s S H) {k t : Nat} {i x : Int} (hk : 0 < k) (h : xin S k t i) (h1 : 1 ≤ t) (h3 : t ≤ 3) {V : Value} (hV : V = .int (Int32.ofInt x)) {H1 : Heap} (e1 : H1[xad b B k]? = some ((arrV (aC t) (S.2.2.1 k).2 (fun i => .int (Int32.ofInt (S.2.2.2 k (i : Int))))).setSlot (Int32.ofInt i).toNatClampNeg V)) (e2 : H1.size = H.size) (e3 : ∀ q, q ≠ xad b B k → H1[q]? = H[q]?) :
    xRep b B dC dI aC s (S.1, S.2.1, S.2.2.1, xup S.2.2.2 k i x) H1 := by
  refine hR.set hk rfl (fun _ _ => rfl) (fun j hj => xup_k _ _ _ hj) e2 e3 (fun hl => ?_)
  have hkd : (S.2.2.1 k).1 = t := h.2.1
  refine ⟨fun g => ?_, fun g => ?_, fun g => ?_⟩
  · show H1[xad b B k]? = some (arrV (aC (S.2.2.1 k).1) (S.2.2.1 k).2 _)
    rw [e1, hkd, arrV_store, wr_clamp, x_upd (by rw [xin_wr h]; exact h.2.2.1) V hV, xin_wr h]
  · change (S.2.2.1 k).1 = 4 at g; omega
  · change 10 ≤ (S.2.2.1 k).1 at g; omega
theorem xr_iast (hx : p.tables.exec = Jvm.exec) (hb : c.code = cc) (hK : xKK dC dI aC s) (hR : xRep b B dC dI aC s S H) (hS : va_S (fun q => B ≤ q) s.heap H locs) {k : Nat} {i x : Int} (hk : 0 < k) (h : xin S k 1 i) (hdg : decode cc pc = .ok (.iastore, 1))
    (kk : ∀ (H1 : Heap) (locs1 : List Loc), xRep b B dC dI aC s (S.1, S.2.1, S.2.2.1, xup S.2.2.2 k i x) H1 → va_S (fun q => B ≤ q) s.heap H1 locs1 → W p l e R s m args below meth c H1 locs1 cells slots Q (F0 m (pc + 1) lsA rest)) : W p l e R s m args below meth c H locs cells slots Q (F0 m pc lsA (.int (Int32.ofInt x) :: .int (Int32.ofInt i) :: .ref (xad b B k) :: rest)) := by
  refine W.iast hx hb (x_arr hR hk h.1 h.2.1 (by omega) (by omega)) (x_ao hK (t := 0) rfl _ _) (fun q => by cases q) (by rw [arrV_size]; exact xin_of h) rfl rfl hdg fun H1 e1 e2 e3 => ?_
  exact kk H1 _ (x_store hR hk h (by omega) (by omega) rfl e1 e2 e3) (x_S (A := fun _ => True) hS hk e2 e3)
theorem xr_zast (hx : p.tables.exec = Jvm.exec) (hb : c.code = cc) (hK : xKK dC dI aC s) (hR : xRep b B dC dI aC s S H) (hS : va_S (fun q => B ≤ q) s.heap H locs) {k : Nat} {i x : Int} (hk : 0 < k) (h : xin S k 2 i) (hv : x = 0 ∨ x = 1) (hdg : decode cc pc = .ok (.bastore, 1))
    (kk : ∀ (H1 : Heap) (locs1 : List Loc), xRep b B dC dI aC s (S.1, S.2.1, S.2.2.1, xup S.2.2.2 k i x) H1 → va_S (fun q => B ≤ q) s.heap H1 locs1 → W p l e R s m args below meth c H1 locs1 cells slots Q (F0 m (pc + 1) lsA rest)) : W p l e R s m args below meth c H locs cells slots Q (F0 m pc lsA (.int (Int32.ofInt x) :: .int (Int32.ofInt i) :: .ref (xad b B k) :: rest)) := by
  refine W.zast hx hb (x_arr hR hk h.1 h.2.1 (by omega) (by omega)) (x_ao hK (t := 1) rfl _ _) (fun q => by cases q) (by rw [arrV_size]; exact xin_of h) rfl rfl hdg fun H1 e1 e2 e3 => ?_
  exact kk H1 _ (x_store hR hk h (by omega) (by omega) (by rcases hv with rfl | rfl <;> rfl) e1 e2 e3) (x_S (A := fun _ => True) hS hk e2 e3)
theorem x_short {x : Int} (h1 : -32768 ≤ x) (h2 : x ≤ 32767) : narrow .short (.int (Int32.ofInt x)) = .int (Int32.ofInt x) := by
  rw [narrow_short]
  congr 1
  apply Int32.toInt_inj.mp
  have e1 : (Int32.ofInt x).toInt = x := Int32.toInt_ofInt_of_le (by omega) (by omega)
  rw [Int16.toInt_toInt32, Int32.toInt_toInt16, e1]
  simp [Int.bmod]
  omega
theorem xr_sast (hx : p.tables.exec = Jvm.exec) (hb : c.code = cc) (hK : xKK dC dI aC s) (hR : xRep b B dC dI aC s S H) (hS : va_S (fun q => B ≤ q) s.heap H locs) {k : Nat} {i x : Int} (hk : 0 < k) (h : xin S k 3 i) (hv : -32768 ≤ x ∧ x ≤ 32767) (hdg : decode cc pc = .ok (.sastore, 1))
    (kk : ∀ (H1 : Heap) (locs1 : List Loc), xRep b B dC dI aC s (S.1, S.2.1, S.2.2.1, xup S.2.2.2 k i x) H1 → va_S (fun q => B ≤ q) s.heap H1 locs1 → W p l e R s m args below meth c H1 locs1 cells slots Q (F0 m (pc + 1) lsA rest)) : W p l e R s m args below meth c H locs cells slots Q (F0 m pc lsA (.int (Int32.ofInt x) :: .int (Int32.ofInt i) :: .ref (xad b B k) :: rest)) := by
  refine W.sast hx hb (x_arr hR hk h.1 h.2.1 (by omega) (by omega)) (x_ao hK (t := 2) rfl _ _) (fun q => by cases q) (by rw [arrV_size]; exact xin_of h) rfl rfl hdg fun H1 e1 e2 e3 => ?_
  exact kk H1 _ (x_store hR hk h (by omega) (by omega) (x_short hv.1 hv.2) e1 e2 e3) (x_S (A := fun _ => True) hS hk e2 e3)
theorem xr_alen (hx : p.tables.exec = Jvm.exec) (hb : c.code = cc) (hK : xKK dC dI aC s) (hR : xRep b B dC dI aC s S H) {k : Nat} (hk : k < S.1) (hkd : (S.2.2.1 k).1 = (if k = 0 then 5 else 1)) (hdg : decode cc pc = .ok (.arraylength, 1))
    (kk : W p l e R s m args below meth c H locs cells slots Q (F0 m (pc + 1) lsA (.int (Int32.ofInt ((S.2.2.1 k).2 : Int)) :: rest))) : W p l e R s m args below meth c H locs cells slots Q (F0 m pc lsA (.ref (xad b B k) :: rest)) := by
  have e0 : ∀ n : Nat, (n.toInt32 : Int32) = Int32.ofInt (n : Int) := fun n => (Int32.ofInt_eq_ofNat (n := n)).symm
  by_cases hk0 : k = 0
  · subst hk0
    obtain ⟨scr, h1, h2, h3, h4, h5⟩ := hR.2.1.2
    rw [xad_0]
    exact W.alen hx hb h1 h2 (by rw [h4]; exact e0 _) rfl rfl hdg kk
  · rw [if_neg hk0] at hkd
    exact W.alen hx hb (x_arr hR (Nat.pos_of_ne_zero hk0) hk hkd (by omega) (by omega)) (x_ao hK (t := 0) rfl _ _) (by rw [arrV_size]; exact e0 _) rfl rfl hdg kk
end ROWS2
end
section
section ROWS3
variable {p : Program} {l : Launch} {e : Env} {R : Room} {s : State} {m : MethodId} {args : Array Value} {below : List Frame} {meth : Method} {c : Code} {H : Heap} {locs : List Loc} {cells slots : Nat} {Q : State → Prop}
variable {cc : ByteArray} {pc : Nat} {lsA : Array Slot} {rest : List Value} {own : String} {b B : Nat} {dC : Nat → ClassId} {dI : Nat → Nat → Nat} {aC : Nat → ClassId} {S : xS}
theorem xnew_at {α : Type} (M : Nat → α) (n : Nat) (f : α) : xnew M n f n = f := by simp [xnew]
theorem xnew_ne {α : Type} (M : Nat → α) {n k : Nat} (f : α) (h : k ≠ n) : xnew M n f k = M k := by simp [xnew, h]
theorem x_end (hR : xRep b B dC dI aC s S H) : xad b B S.1 = H.size := by
  rw [xad_pos hR.1.2.1, hR.1.1]
theorem x_Sp {H1 : Heap} (hS : va_S (fun q => B ≤ q) s.heap H locs) (z : H1.size = H.size + 1) (o : ∀ q : Nat, q < H.size → H1[q]? = H[q]?) : va_S (fun q => B ≤ q) s.heap H1 locs :=
  ⟨Nat.le_trans hS.1 (by omega), fun q h1 h2 => by rw [o q (Nat.lt_of_lt_of_le h1 hS.1)]; exact hS.2.1 q h1 h2, hS.2.2⟩
def xatype : ArrayType → Nat
  | .int => 1
  | .boolean => 2
  | .short => 3
  | _ => 0
theorem xr_newa (hx : p.tables.exec = Jvm.exec) (hb : c.code = cc) (hts : ∀ w ∈ xG, w.before args s = true) (hK : xKK dC dI aC s) (hR : xRep b B dC dI aC s S H) (hS : va_S (fun q => B ≤ q) s.heap H locs) {at_ : ArrayType} {a : Nat} {n : Int} (ha : xatype at_ = a) (ha0 : 0 < a) (hw : Cond.arrayClass (newarray.typeOf at_) ∈ xG)
    (h0 : 0 ≤ n) (h1 : n ≤ 50000000) (hcells : cells + 1 ≤ R.cells) (hslots : slots + n.toNat ≤ R.slots) (hdg : decode cc pc = .ok (.newarray at_, 2))
    (kk : ∀ H1 : Heap, xRep b B dC dI aC s (S.1 + 1, S.2.1 + n.toNat, xnew S.2.2.1 S.1 (a, n.toNat), xnew S.2.2.2 S.1 (fun _ => 0)) H1 → va_S (fun q => B ≤ q) s.heap H1 locs → W p l e R s m args below meth c H1 locs (cells + 1) (slots + n.toNat) Q (F0 m (pc + 2) lsA (.ref (xad b B S.1) :: rest))) : W p l e R s m args below meth c H locs cells slots Q (F0 m pc lsA (.int (Int32.ofInt n) :: rest)) := by
  have hti : (Int32.ofInt n).toInt = n := Int32.toInt_ofInt_of_le (by omega) (by omega)
  have hcl : (Int32.ofInt n).toNatClampNeg = n.toNat := by show (Int32.ofInt n).toInt.toNat = _; rw [hti]
  have hneg : ¬ Int32.ofInt n < 0 := by
    rw [Int32.lt_iff_toInt_lt, hti, Int32.toInt_zero]; omega
  have hby : n.toNat * componentBytes (newarray.typeOf at_) ≤ 536870912 := by
    have : componentBytes (newarray.typeOf at_) ≤ 8 := by cases at_ <;> decide
    have h2 : n.toNat ≤ 50000000 := by omega
    calc n.toNat * componentBytes (newarray.typeOf at_) ≤ 50000000 * 8 := Nat.mul_le_mul h2 this
      _ ≤ 536870912 := by decide
  refine va_newaK hx hb (hts _ hw) rfl hdg rfl hneg hcl hby hcells hslots rfl fun H1 cA e1 z1 o1 hAr hNm => ?_
  have hcA : cA = aC a := by
    have key : ∀ (t : Nat) (ty : FieldType), (xtys aC)[t]? = some (aC (t + 1), ty) → (∀ C, ty ≠ .object C) → s.vm.findClass ("[" ++ ty.toString) = some (aC (t + 1)) := by
      intro t ty h hno
      have h2 := (hK.1.2 t _ h).2
      cases ty <;> first | exact h2 | exact absurd rfl (hno _)
    subst ha
    cases at_ <;> first | (exact absurd ha0 (by decide)) | skip
    · exact Option.some.inj (hNm.symm.trans (key 1 .boolean rfl (fun _ h => by cases h)))
    · exact Option.some.inj (hNm.symm.trans (key 2 .short rfl (fun _ h => by cases h)))
    · exact Option.some.inj (hNm.symm.trans (key 0 .int rfl (fun _ h => by cases h)))
  have ha3 : 1 ≤ a ∧ a ≤ 3 := by
    subst ha
    cases at_ <;> first | (exact absurd ha0 (by decide)) | exact ⟨by decide, by decide⟩
  have hdv : defaultValue (newarray.typeOf at_) = .int 0 := by
    subst ha
    cases at_ <;> first | (exact absurd ha0 (by decide)) | rfl
  rw [← x_end hR]
  refine kk H1 (hR.push rfl (fun j hj => xnew_ne _ _ hj) (fun j hj => xnew_ne _ _ hj) z1 o1 ⟨fun _ => ?_, fun g => ?_, fun g => ?_⟩) (x_Sp hS z1 o1)
  · show H1[xad b B S.1]? = some (arrV (aC (xnew S.2.2.1 S.1 (a, n.toNat) S.1).1) (xnew S.2.2.1 S.1 (a, n.toNat) S.1).2 (fun i => .int (Int32.ofInt (xnew S.2.2.2 S.1 (fun _ => 0) S.1 (i : Int)))))
    rw [xnew_at, xnew_at, x_end hR, e1, hcA, hdv]
    rfl
  · change (xnew S.2.2.1 S.1 (a, n.toNat) S.1).1 = 4 at g
    rw [xnew_at] at g
    change a = 4 at g; omega
  · change 10 ≤ (xnew S.2.2.1 S.1 (a, n.toNat) S.1).1 at g
    rw [xnew_at] at g
    change 10 ≤ a at g; omega
theorem xr_new (hx : p.tables.exec = Jvm.exec) (hb : c.code = cc) (hts : ∀ w ∈ xG, w.before args s = true) (hown : s.vm.findClass own = some m.cls) (hK : xKK dC dI aC s) (hR : xRep b B dC dI aC s S H) (hS : va_S (fun q => B ≤ q) s.heap H locs) {a c0 index : Nat} (ha : a = 30 + c0) (hc0 : c0 < 11)
    (w1 : Cond.classLink own index (xRX c0) ∈ xG) (w2 : Cond.instantiable (xRX c0) (xNf c0) ∈ xG) (w3 : Cond.initialized (xRX c0) ∈ xG) (hcells : cells + 1 ≤ R.cells) (hslots : slots + xNf a ≤ R.slots) (hdg : decode cc pc = .ok (.new index, 3))
    (kk : ∀ H1 : Heap, xRep b B dC dI aC s (S.1 + 1, S.2.1 + xNf a, xnew S.2.2.1 S.1 (10 + a, 0), xnew S.2.2.2 S.1 (xfresh xft a)) H1 → va_S (fun q => B ≤ q) s.heap H1 locs → W p l e R s m args below meth c H1 locs (cells + 1) (slots + xNf a) Q (F0 m (pc + 3) lsA (.ref (xad b B S.1) :: rest))) : W p l e R s m args below meth c H locs cells slots Q (F0 m pc lsA rest) := by
  have hmod : a % 30 = c0 := by omega
  have hN : xNf a = xNf c0 := by rw [xNf_mod a, hmod]
  rw [hN] at hslots
  have hKn := hK.1.1 c0 _ (x_cl _ hc0)
  refine W.newcK hx hb hown (hts _ w1) (hts _ w2) (hts _ w3) rfl hdg hcells hslots hKn.2.1 rfl fun H1 kC hkC e1 z1 o1 => ?_
  have hborn := u_born (xTy c0) hts (x_ws _ hc0) hKn hkC e1 (x_ty _ hc0)
  rw [← x_end hR]
  rw [hN] at kk
  refine kk H1 (hR.push rfl (fun j hj => xnew_ne _ _ hj) (fun j hj => xnew_ne _ _ hj) z1 o1 ⟨fun g => ?_, fun g => ?_, fun _ => ?_⟩) (x_Sp hS z1 o1)
  · change 1 ≤ (xnew S.2.2.1 S.1 (10 + a, 0) S.1).1 ∧ (xnew S.2.2.1 S.1 (10 + a, 0) S.1).1 ≤ 3 at g
    rw [xnew_at] at g
    change 1 ≤ 10 + a ∧ 10 + a ≤ 3 at g; omega
  · change (xnew S.2.2.1 S.1 (10 + a, 0) S.1).1 = 4 at g
    rw [xnew_at] at g
    change 10 + a = 4 at g; omega
  · show ((xnew S.2.2.1 S.1 (10 + a, 0) S.1).1 - 10) % 30 < 11 ∧ t_OB (xad b B S.1) (dC (((xnew S.2.2.1 S.1 (10 + a, 0) S.1).1 - 10) % 30)) (xNf ((xnew S.2.2.1 S.1 (10 + a, 0) S.1).1 - 10)) (dI (((xnew S.2.2.1 S.1 (10 + a, 0) S.1).1 - 10) % 30)) H1 (fun j => xcv (xad b B) (xget xft ((xnew S.2.2.1 S.1 (10 + a, 0) S.1).1 - 10) j S.1 (xnew S.2.2.2 S.1 (xfresh xft a))))
    rw [xnew_at]
    show (10 + a - 10) % 30 < 11 ∧ t_OB (xad b B S.1) (dC ((10 + a - 10) % 30)) (xNf (10 + a - 10)) (dI ((10 + a - 10) % 30)) H1 (fun j => xcv (xad b B) (xget xft (10 + a - 10) j S.1 (xnew S.2.2.2 S.1 (xfresh xft a))))
    rw [Nat.add_sub_cancel_left, hmod, hN, x_end hR]
    refine ⟨hc0, hborn.to (fun j hj => ?_)⟩
    have ht := x_tok c0 hc0 j hj
    have hft : xft a j = (bif Nat.beq (xft0 c0 j).1 0 then (0, 0) else bif Nat.beq (xft0 c0 j).1 4 then (4, 0) else (3, 0)) := by
      unfold xft
      have e : Nat.blt a 30 = false := by
        rw [Bool.eq_false_iff]; intro h; rw [Nat.blt_eq] at h; omega
      have e2 : a - 30 = c0 := by omega
      simp only [e, cond_false, e2]
    unfold xget
    rw [xnew_at]
    unfold xfresh
    rw [show ((j : Int).toNat) = j from rfl, hft]
    generalize (xft0 c0 j).1 = t at ht ⊢
    generalize xTy c0 j = ty at ht ⊢
    cases ty <;> first
      | (exfalso; revert ht; unfold xtok; split <;> simp_all; done)
      | (have h4 : t = 4 := by (revert ht; unfold xtok; split <;> simp_all)
         subst h4; rfl)
      | (have h0 : t = 0 := by (revert ht; unfold xtok; split <;> simp_all)
         subst h0; rfl)
      | (have h0 : t = 1 ∨ t = 2 ∨ t = 3 := by (revert ht; unfold xtok; split <;> simp_all)
         rcases h0 with rfl | rfl | rfl <;> rfl)
end ROWS3
end
section
section ROWS4
variable {p : Program} {l : Launch} {e : Env} {R : Room} {s : State} {m : MethodId} {args : Array Value} {below : List Frame} {meth : Method} {c : Code} {H : Heap} {locs : List Loc} {cells slots : Nat} {Q : State → Prop}
variable {cc : ByteArray} {pc : Nat} {lsA : Array Slot} {rest : List Value} {own : String} {b B : Nat} {dC : Nat → ClassId} {dI : Nat → Nat → Nat} {aC : Nat → ClassId} {S : xS}
theorem xr_anew (hx : p.tables.exec = Jvm.exec) (hb : c.code = cc) (hts : ∀ w ∈ xG, w.before args s = true) (hown : s.vm.findClass own = some m.cls) (hK : xKK dC dI aC s) (hR : xRep b B dC dI aC s S H) (hS : va_S (fun q => B ≤ q) s.heap H locs) {n : Int} {index : Nat} (hw : Cond.classLink own index "MatchForge$Match" ∈ xG)
    (h0 : 0 ≤ n) (h1 : n ≤ 50000000) (hcells : cells + 1 ≤ R.cells) (hslots : slots + n.toNat ≤ R.slots) (hdg : decode cc pc = .ok (.anewarray index, 3))
    (kk : ∀ H1 : Heap, xRep b B dC dI aC s (S.1 + 1, S.2.1 + n.toNat, xnew S.2.2.1 S.1 (4, n.toNat), xnew S.2.2.2 S.1 (fun _ => -1)) H1 → va_S (fun q => B ≤ q) s.heap H1 locs → W p l e R s m args below meth c H1 locs (cells + 1) (slots + n.toNat) Q (F0 m (pc + 3) lsA (.ref (xad b B S.1) :: rest))) : W p l e R s m args below meth c H locs cells slots Q (F0 m pc lsA (.int (Int32.ofInt n) :: rest)) := by
  have hti : (Int32.ofInt n).toInt = n := Int32.toInt_ofInt_of_le (by omega) (by omega)
  have hcl : (Int32.ofInt n).toNatClampNeg = n.toNat := by show (Int32.ofInt n).toInt.toNat = _; rw [hti]
  have hneg : ¬ Int32.ofInt n < 0 := by
    rw [Int32.lt_iff_toInt_lt, hti, Int32.toInt_zero]; omega
  refine W.anew hx hb hown (hts _ hw) (hK.2.2.2.use) rfl hdg rfl hneg (by rw [hcl]; omega) hcells (by rw [hcl]; exact hslots) fun cA kA comp g1 g2 g3 g4 => ?_
  obtain ⟨kA', comp', k1, k2, k3, k4⟩ := (hK.1.2 3 (aC 4, .object "MatchForge$Match") rfl).2
  have hcA : cA = aC 4 := Option.some.inj (g1.symm.trans k4)
  rw [hcl]
  have z1 : (H.push { cls := cA, slots := Array.replicate n.toNat .null, vm := .none }).size = H.size + 1 := by simp
  have o1 : ∀ q : Nat, q < H.size → (H.push { cls := cA, slots := Array.replicate n.toNat .null, vm := .none })[q]? = H[q]? := fun q hq => by rw [Array.getElem?_push, if_neg (Nat.ne_of_lt hq)]
  have e1 : (H.push { cls := cA, slots := Array.replicate n.toNat .null, vm := .none })[H.size]? = some (arrV cA n.toNat (fun _ => .null)) := by rw [← arrV_new]; simp
  generalize H.push { cls := cA, slots := Array.replicate n.toNat .null, vm := .none } = H1 at z1 o1 e1 ⊢
  rw [← x_end hR]
  refine kk H1 (hR.push rfl (fun j hj => xnew_ne _ _ hj) (fun j hj => xnew_ne _ _ hj) z1 o1 ⟨fun g => ?_, fun _ => ?_, fun g => ?_⟩) (x_Sp hS z1 o1)
  · change 1 ≤ (xnew S.2.2.1 S.1 (4, n.toNat) S.1).1 ∧ (xnew S.2.2.1 S.1 (4, n.toNat) S.1).1 ≤ 3 at g
    rw [xnew_at] at g
    exact absurd g.2 (show ¬ 4 ≤ 3 by decide)
  · show H1[xad b B S.1]? = some (arrV (aC 4) (xnew S.2.2.1 S.1 (4, n.toNat) S.1).2 (fun i => va_rf ((xref (xnew S.2.2.2 S.1 (fun _ => -1) S.1 (i : Int))).map (xad b B))))
    rw [xnew_at, xnew_at, x_end hR, e1, hcA]
    rfl
  · change 10 ≤ (xnew S.2.2.1 S.1 (4, n.toNat) S.1).1 at g
    rw [xnew_at] at g
    exact absurd g (show ¬ 10 ≤ 4 by decide)
theorem xr_aast (hx : p.tables.exec = Jvm.exec) (hb : c.code = cc) (hK : xKK dC dI aC s) (hR : xRep b B dC dI aC s S H) (hS : va_S (fun q => B ≤ q) s.heap H locs) {k v : Nat} {i : Int} (hk : 0 < k) (h : xin S k 4 i) (hv : 0 < v) (hvo : xob S v 3) (hdg : decode cc pc = .ok (.aastore, 1))
    (kk : ∀ (H1 : Heap) (locs1 : List Loc), xRep b B dC dI aC s (S.1, S.2.1, S.2.2.1, xup S.2.2.2 k i (v : Int)) H1 → va_S (fun q => B ≤ q) s.heap H1 locs1 → W p l e R s m args below meth c H1 locs1 cells slots Q (F0 m (pc + 1) lsA rest)) : W p l e R s m args below meth c H locs cells slots Q (F0 m pc lsA (.ref (xad b B v) :: .int (Int32.ofInt i) :: .ref (xad b B k) :: rest)) := by
  have hi := xin_of h
  have hlt : (wr i).toNat < (S.2.2.1 k).2 := by rw [xin_wr h]; have := h.2.2; omega
  have h0 : ¬ Int32.ofInt i < 0 := fun q => hi (Or.inl q)
  obtain ⟨-, cellV, g1, g2, g3, -⟩ := x_obj hR hv hvo
  have hcls := (hK.1.1 3 _ (x_cl 3 (by decide))).2
  obtain ⟨kA, comp, k1, k2, k3, -⟩ := (hK.1.2 3 (aC 4, .object "MatchForge$Match") rfl).2
  have hcomp : comp = dC 3 := Option.some.inj (k3.symm.trans hcls.1)
  subst hcomp
  obtain ⟨kC, hkC, -⟩ := id hcls.2
  refine W.aast hx hb (x_arrq hR hk h.1 h.2.1) (fun q h => by cases h) (fun h => by cases h) k1 k2 rfl hkC ⟨h0, by rw [arrV_size, wr_clamp]; exact hlt⟩ g1 (fun q h => by rw [g3] at h; cases h) (by rw [g2]; exact hkC) (by rw [g2]; exact va_assign hcls) rfl rfl hdg fun H1 e1 e2 e3 => ?_
  refine kk H1 _ (hR.set hk rfl (fun _ _ => rfl) (fun j hj => xup_k _ _ _ hj) e2 e3 (fun hl => ?_)) (x_S (A := fun _ => True) hS hk e2 e3)
  have hkd : (S.2.2.1 k).1 = 4 := h.2.1
  refine ⟨fun g => ?_, fun _ => ?_, fun g => ?_⟩
  · change 1 ≤ (S.2.2.1 k).1 ∧ (S.2.2.1 k).1 ≤ 3 at g; omega
  · show H1[xad b B k]? = some (arrV (aC 4) (S.2.2.1 k).2 (fun q => va_rf ((xref (xup S.2.2.2 k i (v : Int) k (q : Int))).map (xad b B))))
    rw [e1, arrV_store, wr_clamp]
    congr 2
    funext q
    by_cases hq : q = (wr i).toNat
    · subst hq
      have ee : (((wr i).toNat : Nat) : Int) = i := by rw [xin_wr h]; have := h.2.2.1; omega
      simp only [updV, if_true]
      rw [ee, xup_same, xref_nat]
      rfl
    · simp only [updV, hq, if_false]
      rw [xup_i S.2.2.2 k (v : Int) (show (q : Int) ≠ i by rw [xin_wr h] at hq; have := h.2.2.1; omega)]
  · change 10 ≤ (S.2.2.1 k).1 at g; omega
theorem xr_copy (hx : p.tables.exec = Jvm.exec) (hb : c.code = cc) (hml : c.maxLocals = lsA.size) (hts : ∀ w ∈ xG, w.before args s = true) (hown : s.vm.findClass own = some m.cls) (hK : xKK dC dI aC s) (hR : xRep b B dC dI aC s S H) (hS : va_S (fun q => B ≤ q) s.heap H locs) {f d index : Nat} {sp dp n : Int}
    (w1 : Cond.methodLink own index arraycopyName ∈ xG) (w2 : Cond.native arraycopyName ∈ xG) (w3 : Cond.static arraycopyName ∈ xG) (w4 : Cond.initialized "java/lang/System" ∈ xG)
    (hf : 0 < f ∧ f < S.1 ∧ (S.2.2.1 f).1 = 1) (hd : 0 < d ∧ d < S.1 ∧ (S.2.2.1 d).1 = 1) (hne : ¬ f = d) (hr : 0 ≤ sp ∧ 0 ≤ dp ∧ 0 ≤ n ∧ sp + n ≤ ((S.2.2.1 f).2 : Int) ∧ dp + n ≤ ((S.2.2.1 d).2 : Int)) (hbig : (S.2.2.1 f).2 ≤ 50000000 ∧ (S.2.2.1 d).2 ≤ 50000000)
    (hframes : 1 ≤ R.frames) (hlocals : (rest.map fun v => v.category).sum + 18 ≤ R.locals) (hdg : decode cc pc = .ok (.invokestatic index, 3))
    (kk : ∀ (H1 : Heap) (locs1 : List Loc), xRep b B dC dI aC s (S.1, S.2.1, S.2.2.1, xcpy S.2.2.2 f sp d dp n) H1 → va_S (fun q => B ≤ q) s.heap H1 locs1 → W p l e R s m args below meth c H1 locs1 cells slots Q (F0 m (pc + 3) lsA rest)) : W p l e R s m args below meth c H locs cells slots Q (F0 m pc lsA (.int (Int32.ofInt n) :: .int (Int32.ofInt dp) :: .ref (xad b B d) :: .int (Int32.ofInt sp) :: .ref (xad b B f) :: rest)) := by
  have hti : ∀ x : Int, 0 ≤ x → x ≤ 50000000 → (Int32.ofInt x).toInt = x := fun x h1 h2 => Int32.toInt_ofInt_of_le (by omega) (by omega)
  have hcl : ∀ x : Int, 0 ≤ x → x ≤ 50000000 → (Int32.ofInt x).toNatClampNeg = x.toNat := fun x h1 h2 => by show (Int32.ofInt x).toInt.toNat = _; rw [hti x h1 h2]
  have hneg : ∀ x : Int, 0 ≤ x → x ≤ 50000000 → ¬ Int32.ofInt x < 0 := fun x h1 h2 => by
    rw [Int32.lt_iff_toInt_lt, hti x h1 h2, Int32.toInt_zero]; omega
  obtain ⟨r1, r2, r3, r4, r5⟩ := hr
  have hA := x_arr hR hf.1 hf.2.1 hf.2.2 (by omega) (by omega)
  have hD := x_arr hR hd.1 hd.2.1 hd.2.2 (by omega) (by omega)
  have hb0 := hR.1.2.2
  have hcsp := hcl sp r1 (by omega)
  have hcdp := hcl dp r2 (by omega)
  have hcn := hcl n r3 (by omega)
  intro T hT X
  obtain ⟨-, k0, hk0, cm0, hkk0⟩ := x_ao hK (t := 0) rfl (S.2.2.1 f).2 (fun i => .int (Int32.ofInt (S.2.2.2 f (i : Int))))
  obtain ⟨-, k1, hk1, cm1, hkk1⟩ := x_ao hK (t := 0) rfl (S.2.2.1 d).2 (fun i => .int (Int32.ofInt (S.2.2.2 d (i : Int))))
  obtain ⟨vm', X', step⟩ := X.arraycopy hx hown (hts _ w1) (hts _ w2) (hts _ w3) (hts _ w4) (src := xad b B f) (dst := xad b B d) (srcPos := Int32.ofInt sp) (destPos := Int32.ofInt dp) (n := Int32.ofInt n) (by rw [hT]; exact hA) (by rw [hT]; exact hD)
    (fun _ h => by cases h) (fun _ h => by cases h) (fun h => by cases h) (fun h => by cases h) hk0 hk1 hkk0 hkk1 (by simp [refKind]) (hneg sp r1 (by omega)) (hneg dp r2 (by omega)) (hneg n r3 (by omega))
    (by rw [hti sp r1 (by omega), hti n r3 (by omega), arrV_size]; omega)
    (by rw [hti dp r2 (by omega), hti n r3 (by omega), arrV_size]; omega)
    (fun vm₁ _ i hi => by
      rw [hcsp]
      rw [hcn] at hi
      have ee : (arrV (aC 1) (S.2.2.1 f).2 (fun i => .int (Int32.ofInt (S.2.2.2 f (i : Int))))).slots.getD (sp.toNat + i) .null = .int (Int32.ofInt (S.2.2.2 f ((sp.toNat + i : Nat) : Int))) := by
        rw [Array.getD_eq_getD_getElem?, arrV_read _ _ (by omega)]
        rfl
      refine ⟨?_, ?_⟩
      · rw [ee]
        rfl
      · rw [ee]
        exact trivial)
    (g := F0 m pc lsA (.int (Int32.ofInt n) :: .int (Int32.ofInt dp) :: .ref (xad b B d) :: .int (Int32.ofInt sp) :: .ref (xad b B f) :: rest)) rfl (by rw [hml]) (rest := rest) rfl (by rw [hb]; exact hdg) hframes (by
      show 2 * 0 + _ + (nativeFrameWords "java/lang/System" "arraycopy" 5 + 11) ≤ _
      have e5 : nativeFrameWords "java/lang/System" "arraycopy" 5 = 7 := by decide
      rw [e5]; omega)
  have e1 : copied (arrV (aC 1) (S.2.2.1 f).2 (fun i => .int (Int32.ofInt (S.2.2.2 f (i : Int))))) (arrV (aC 1) (S.2.2.1 d).2 (fun i => .int (Int32.ofInt (S.2.2.2 d (i : Int))))) (Int32.ofInt sp) (Int32.ofInt dp) (Int32.ofInt n) = arrV (aC 1) (S.2.2.1 d).2 (fun q => .int (Int32.ofInt (xcpy S.2.2.2 f sp d dp n d (q : Int)))) := by
    have h9 := va_copied (fun z : Int32 => Value.int z) (aC 1) (aC 1) (n0 := (S.2.2.1 f).2) (n1 := (S.2.2.1 d).2) (fun i : Nat => Int32.ofInt (S.2.2.2 f (i : Int))) (fun i : Nat => Int32.ofInt (S.2.2.2 d (i : Int))) (sp := (Int32.ofInt sp).toNatClampNeg) (dp := (Int32.ofInt dp).toNatClampNeg) (n := (Int32.ofInt n).toNatClampNeg) (by rw [hcsp, hcn]; omega)
    refine h9.trans ?_
    congr 1
    funext q
    rw [hcsp, hcdp, hcn]
    unfold va_cpy xcpy
    by_cases hq : dp.toNat ≤ q ∧ q < dp.toNat + n.toNat
    · have e7 : ((sp.toNat + (q - dp.toNat) : Nat) : Int) = sp + ((q : Int) - dp) := by omega
      rw [if_pos hq, if_pos ⟨rfl, by omega, by omega⟩]
      show Value.int (Int32.ofInt (S.2.2.2 f ((sp.toNat + (q - dp.toNat) : Nat) : Int))) = _
      rw [e7]
    · rw [if_neg hq, if_neg (fun h => hq (by omega))]
  rw [e1] at X' step
  have hl : xad b B d < H.size := (Array.getElem?_eq_some_iff.mp hD).1
  have hheap : ((T.setVm vm').setCell (xad b B d) (arrV (aC 1) (S.2.2.1 d).2 (fun q => .int (Int32.ofInt (xcpy S.2.2.2 f sp d dp n d (q : Int)))))).heap = H.setIfInBounds (xad b B d) (arrV (aC 1) (S.2.2.1 d).2 (fun q => .int (Int32.ofInt (xcpy S.2.2.2 f sp d dp n d (q : Int))))) := by rw [← hT]; rfl
  have oq : ∀ q : Nat, q ≠ xad b B d → (H.setIfInBounds (xad b B d) (arrV (aC 1) (S.2.2.1 d).2 (fun q => .int (Int32.ofInt (xcpy S.2.2.2 f sp d dp n d (q : Int))))))[q]? = H[q]? := fun q hq => by simp [Array.getElem?_setIfInBounds, Ne.symm hq]
  have hz : (H.setIfInBounds (xad b B d) (arrV (aC 1) (S.2.2.1 d).2 (fun q => .int (Int32.ofInt (xcpy S.2.2.2 f sp d dp n d (q : Int)))))).size = H.size := by simp
  have hat : (H.setIfInBounds (xad b B d) (arrV (aC 1) (S.2.2.1 d).2 (fun q => .int (Int32.ofInt (xcpy S.2.2.2 f sp d dp n d (q : Int))))))[xad b B d]? = some (arrV (aC 1) (S.2.2.1 d).2 (fun q => .int (Int32.ofInt (xcpy S.2.2.2 f sp d dp n d (q : Int))))) := by simp [Array.getElem?_setIfInBounds, hl]
  have hAd : B ≤ xad b B d := by rw [xad_pos hd.1]; omega
  obtain ⟨t, a1, b1⟩ := kk _ _ (hR.set (S' := (S.1, S.2.1, S.2.2.1, xcpy S.2.2.2 f sp d dp n)) hd.1 rfl (fun _ _ => rfl) (fun j hj => by funext i; simp [xcpy, hj]) hz oq (fun hll => by
      have hkd : (S.2.2.1 d).1 = 1 := hd.2.2
      refine ⟨fun _ => ?_, fun g => ?_, fun g => ?_⟩
      · show _ = some (arrV (aC (S.2.2.1 d).1) (S.2.2.1 d).2 (fun q => .int (Int32.ofInt (xcpy S.2.2.2 f sp d dp n d (q : Int)))))
        rw [hkd]; exact hat
      · change (S.2.2.1 d).1 = 4 at g; omega
      · change 10 ≤ (S.2.2.1 d).1 at g; omega)) ⟨by rw [hz]; exact hS.1, fun q g1 g2 => by
      rw [oq q (fun e => g2 (by show B ≤ q; rw [e]; exact hAd))]
      exact hS.2.1 q g1 g2, fun q hq => by
      rcases List.mem_append.mp hq with h | h
      · exact hS.2.2 q h
      · obtain ⟨z, -, hz⟩ := List.mem_map.mp h
        rw [← hz]
        exact hAd⟩ _ hheap X'
  exact ⟨t, step t a1, b1⟩
end ROWS4
end
section
/-! ===== one instruction of the small machine is one of the machine ===== -/
def xlen : Instr → Nat
  | .bipush _ => 2
  | .sipush _ => 3
  | .ldc _ => 2
  | .iload _ => 2
  | .aload _ => 2
  | .istore _ => 2
  | .astore _ => 2
  | .iinc _ _ => 3
  | .getfield _ => 3
  | .putfield _ => 3
  | .newarray _ => 2
  | .anewarray _ => 3
  | .new _ => 3
  | .invokespecial _ => 3
  | .invokestatic _ => 3
  | .invokevirtual _ => 3
  | .if_icmp _ _ => 3
  | .ifCond _ _ => 3
  | .goto _ => 3
  | .nop => 0
  | _ => 1
/-- what an instruction asks of the tables -/
def xwo (own : String) (nL : Nat) (init : Bool) (ins : Instr) (a b : Nat) : Prop := match ins with
  | .istore_n k => (k : Nat) < nL
  | .istore k => k < nL
  | .astore_n k => (k : Nat) < nL
  | .astore k => k < nL
  | .bipush n => -128 ≤ n ∧ n ≤ 127
  | .sipush n => -32768 ≤ n ∧ n ≤ 32767
  | .ldc i => Cond.constant own i (Int32.ofInt (a : Int)) ∈ xG
  | .getfield i => b < xNf a ∧ Cond.fieldLink own i (xTX (a % 30) b).1 (xTX (a % 30) b).2.1 (xTX (a % 30) b).2.2.1 ∈ xG
  | .putfield i => b < xNf a ∧ a < 60 ∧ Cond.fieldLink own i (xTX (a % 30) b).1 (xTX (a % 30) b).2.1 (xTX (a % 30) b).2.2.1 ∈ xG ∧ ((xTX (a % 30) b).2.2.2 = true → init = true ∧ (xTX (a % 30) b).1 = own)
  | .newarray t => xatype t = a ∧ 0 < a ∧ Cond.arrayClass (newarray.typeOf t) ∈ xG
  | .anewarray i => Cond.classLink own i "MatchForge$Match" ∈ xG
  | .new i => 30 ≤ a ∧ a - 30 < 11 ∧ Cond.classLink own i (xRX (a - 30)) ∈ xG ∧ Cond.instantiable (xRX (a - 30)) (xNf (a - 30)) ∈ xG ∧ Cond.initialized (xRX (a - 30)) ∈ xG
  | .aastore => a = 3
  | .nop => a = 2 → b < 11
  | .invokespecial i => a = 1000 → Cond.methodLink own i objectInit ∈ xG ∧ Cond.instanceMethod objectInit ∈ xG ∧ Cond.code objectInit ⟨#[0xb1]⟩ 1 none ∈ xG
  | .invokestatic i => (a = 1001 → Cond.methodLink own i arraycopyName ∈ xG ∧ Cond.native arraycopyName ∈ xG ∧ Cond.static arraycopyName ∈ xG ∧ Cond.initialized "java/lang/System" ∈ xG) ∧ (a = 1002 → Cond.methodLink own i Lib.Math.max.name ∈ xG ∧ Cond.static Lib.Math.max.name ∈ xG ∧ Cond.initialized "java/lang/Math" ∈ xG ∧ Cond.code Lib.Math.max.name Lib.Math.max.code 2 (some .int) ∈ xG) ∧ (a = 1003 → Cond.methodLink own i Lib.Math.min.name ∈ xG ∧ Cond.static Lib.Math.min.name ∈ xG ∧ Cond.initialized "java/lang/Math" ∈ xG ∧ Cond.code Lib.Math.min.name Lib.Math.min.code 2 (some .int) ∈ xG)
  | _ => True
/-- the machine, over the small machine's state: from every heap and every locals that it stands for -/
def xWat (p : Program) (l : Launch) (e : Env) (R : Room) (s : State) (m : MethodId) (args : Array Value) (below : List Frame) (meth : Method) (c : Code) (Qw : State → Prop) (b B : Nat) (dC : Nat → ClassId) (dI : Nat → Nat → Nat) (aC : Nat → ClassId) (nL : Nat) (S0 : xS) (pc : Nat) (ls : xL) (st : List xV) (S : xS) : Prop :=
  S0.1 ≤ S.1 → S0.2.1 ≤ S.2.1 → ∀ (lsA : Array Slot) (H : Heap) (locs : List Loc), xloc (xad b B) lsA nL ls → xRep b B dC dI aC s S H → va_S (fun q => B ≤ q) s.heap H locs → W p l e R s m args below meth c H locs (S.1 - S0.1) (S.2.1 - S0.2.1) Qw (F0 m pc lsA (st.map (xcv (xad b B))))
/-- what stands all along a method's body -/
def xFx (p : Program) (R : Room) (s : State) (m : MethodId) (args : Array Value) (meth : Method) (c : Code) (cc : ByteArray) (own : String) (nL : Nat) (init : Bool) (dC : Nat → ClassId) (dI : Nat → Nat → Nat) (aC : Nat → ClassId) : Prop :=
  p.tables.exec = Jvm.exec ∧ c.code = cc ∧ c.maxLocals = nL ∧ s.vm.findClass own = some m.cls ∧ (∀ w ∈ xG, w.before args s = true) ∧ xKK dC dI aC s ∧ (init = true → meth.name = "<init>") ∧ 1 ≤ R.frames ∧ 41 ≤ R.locals
theorem x_sum (ad : Nat → Nat) (st : List xV) : ((st.map (xcv ad)).map fun v => v.category).sum = st.length := by
  induction st with
  | nil => rfl
  | cons v t ih => simp only [List.map_cons, List.sum_cons, ih, xcv_cat, List.length_cons]; omega
section SIM
variable {p : Program} {l : Launch} {e : Env} {R : Room} {s : State} {m : MethodId} {args : Array Value} {below : List Frame} {meth : Method} {c : Code} {Qw : State → Prop}
variable {cc : ByteArray} {own : String} {b B : Nat} {dC : Nat → ClassId} {dI : Nat → Nat → Nat} {aC : Nat → ClassId} {nL : Nat} {init : Bool} {S0 : xS}
theorem x_ofInt_add (x y : Int) : Int32.ofInt x + Int32.ofInt y = Int32.ofInt (x + y) := (Int32.ofInt_add x y).symm
theorem x_ofInt_sub (x y : Int) : Int32.ofInt x - Int32.ofInt y = Int32.ofInt (x - y) := (Int32.ofInt_sub x y).symm
theorem x_ofInt_mul (x y : Int) : Int32.ofInt x * Int32.ofInt y = Int32.ofInt (x * y) := (Int32.ofInt_mul x y).symm
theorem x_ofInt_toInt (x : Int32) : Int32.ofInt x.toInt = x := Int32.ofInt_toInt x
theorem x_widen {pc : Nat} {lsA : Array Slot} {stA : List Value} {H : Heap} {locs : List Loc} {k n k' n' : Nat} (h1 : k = k') (h2 : n = n') (h : W p l e R s m args below meth c H locs k' n' Qw (F0 m pc lsA stA)) : W p l e R s m args below meth c H locs k n Qw (F0 m pc lsA stA) := by
  subst h1; subst h2; exact h
set_option maxHeartbeats 4000000 in
theorem xsim_snd (F : xFx p R s m args meth c cc own nL init dC dI aC) {pc a b' : Nat} {ins : Instr} {ls ls' : xL} {st st' : List xV} {S S' : xS} {g : Option Prop} (hsim : xsim xft xNf ins a b' ls st S = some (g, ls', st', S')) (hg : ∀ P, g = some P → P) (hd : ins ≠ .nop → decode cc pc = .ok (ins, xlen ins)) (hw : xwo own nL init ins a b')
    (hc : S'.1 - S0.1 ≤ R.cells) (hs : S'.2.1 - S0.2.1 ≤ R.slots) (hnL : ls.length = nL)
    (kk : xWat p l e R s m args below meth c Qw b B dC dI aC nL S0 (pc + xlen ins) ls' st' S') : xWat p l e R s m args below meth c Qw b B dC dI aC nL S0 pc ls st S := by
  obtain ⟨hx, hb, hml, hown, hts, hK, hin, hfr, hlo⟩ := id F
  intro h1 h2 lsA H locs hl hR hS
  have hat : ∀ {i : Nat} {v : xV}, ls[i]? = some (some v) → lsA[i]? = some (.val (xcv (xad b B) v)) := fun h => hl.at h
  have hlt : ∀ {i : Nat} {v : xV}, ls[i]? = some (some v) → i < nL := fun h => by
    have := (List.getElem?_eq_some_iff.mp h).1
    rw [hnL] at this; exact this
  unfold xsim at hsim
  cases ins with
  | iconst n =>
    cases hsim
    exact lv_iconst hx hb (hd (by simp)) rfl (kk h1 h2 lsA H locs hl hR hS)
  | bipush n =>
    cases hsim
    refine lv_bipush (v := Int32.ofInt n) hx hb (hd (by simp)) ?_ (kk h1 h2 lsA H locs hl hR hS)
    obtain ⟨w1, w2⟩ := hw
    apply Int32.toInt_inj.mp
    rw [Int8.toInt_toInt32, Int8.toInt_ofInt_of_le (by omega) (by omega), Int32.toInt_ofInt_of_le (by omega) (by omega)]
  | sipush n =>
    cases hsim
    refine lv_sipush (v := Int32.ofInt n) hx hb (hd (by simp)) ?_ (kk h1 h2 lsA H locs hl hR hS)
    obtain ⟨w1, w2⟩ := hw
    apply Int32.toInt_inj.mp
    rw [Int16.toInt_toInt32, Int16.toInt_ofInt_of_le (by omega) (by omega), Int32.toInt_ofInt_of_le (by omega) (by omega)]
  | ldc i =>
    cases hsim
    exact lv_ldc hx hb hown (hts _ hw) (hd (by simp)) (kk h1 h2 lsA H locs hl hR hS)
  | aconst_null =>
    cases hsim
    exact lv_null hx hb (hd (by simp)) (kk h1 h2 lsA H locs hl hR hS)
  | iload_n k =>
    dsimp only at hsim
    split at hsim
    · rename_i x hv; cases hsim
      exact lv_iload_n hx hb (hd (by simp)) rfl (hat hv) (kk h1 h2 lsA H locs hl hR hS)
    · cases hsim
  | iload k =>
    dsimp only at hsim
    split at hsim
    · rename_i x hv; cases hsim
      exact lv_iload hx hb (hd (by simp)) (hat hv) (kk h1 h2 lsA H locs hl hR hS)
    · cases hsim
  | aload_n k =>
    dsimp only at hsim
    split at hsim
    · rename_i x hv; cases hsim
      cases x with
      | none => exact lv_aload_nN hx hb (hd (by simp)) rfl (hat hv) (kk h1 h2 lsA H locs hl hR hS)
      | some x => exact lv_aload_n hx hb (hd (by simp)) rfl (hat hv) (kk h1 h2 lsA H locs hl hR hS)
    · cases hsim
  | aload k =>
    dsimp only at hsim
    split at hsim
    · rename_i x hv; cases hsim
      cases x with
      | none => exact lv_aloadN hx hb (hd (by simp)) (hat hv) (kk h1 h2 lsA H locs hl hR hS)
      | some x => exact lv_aload hx hb (hd (by simp)) (hat hv) (kk h1 h2 lsA H locs hl hR hS)
    · cases hsim
  | istore_n k =>
    dsimp only at hsim
    split at hsim
    · rename_i x st0; cases hsim
      have hkn : (k : Nat) < nL := hw
      exact lv_istore_n hx hb (hd (by simp)) rfl hl.has hkn rfl (fun ls2 h2' => kk h1 h2 ls2 H locs (hl.put h2') hR hS)
    · cases hsim
  | istore k =>
    dsimp only at hsim
    split at hsim
    · rename_i x st0; cases hsim
      have hkn : (k : Nat) < nL := hw
      exact lv_istore hx hb (hd (by simp)) hl.has hkn rfl (fun ls2 h2' => kk h1 h2 ls2 H locs (hl.put h2') hR hS)
    · cases hsim
  | astore_n k =>
    dsimp only at hsim
    split at hsim
    · rename_i x st0; cases hsim
      have hkn : (k : Nat) < nL := hw
      cases x with
      | none => exact lv_astore_nN hx hb (hd (by simp)) rfl hl.has hkn rfl (fun ls2 h2' => kk h1 h2 ls2 H locs (hl.put h2') hR hS)
      | some x => exact lv_astore_n hx hb (hd (by simp)) rfl hl.has hkn rfl (fun ls2 h2' => kk h1 h2 ls2 H locs (hl.put h2') hR hS)
    · cases hsim
  | astore k =>
    dsimp only at hsim
    split at hsim
    · rename_i x st0; cases hsim
      have hkn : (k : Nat) < nL := hw
      cases x with
      | none => exact lv_astoreN hx hb (hd (by simp)) hl.has hkn rfl (fun ls2 h2' => kk h1 h2 ls2 H locs (hl.put h2') hR hS)
      | some x => exact lv_astore hx hb (hd (by simp)) hl.has hkn rfl (fun ls2 h2' => kk h1 h2 ls2 H locs (hl.put h2') hR hS)
    · cases hsim
  | iinc k n =>
    dsimp only at hsim
    split at hsim
    · rename_i x hv; cases hsim
      have hl2 : lv_has lsA nL ((k, .int (Int32.ofInt x)) :: xlv (xad b B) nL ls) := ⟨hl.1, hl.2.1, fun q hq => by
        rcases List.mem_cons.mp hq with rfl | hq
        · exact hat hv
        · exact hl.has.2.2 q hq⟩
      refine lv_iinc (k := 0) (v := Int32.ofInt (x + n)) hx hb (hd (by simp)) hl2 rfl (x_ofInt_add x n) (hlt hv) rfl (fun ls2 h2' => kk h1 h2 ls2 H locs (hl.put (v := .inl (x + n)) ?_) hR hS)
      rw [List.filter_cons_of_neg (by simp)] at h2'
      exact h2'
    · cases hsim
  | iadd =>
    dsimp only at hsim
    split at hsim
    · rename_i y x st0; cases hsim
      refine lv_iadd hx hb (hd (by simp)) ?_
      rw [x_ofInt_add]
      exact kk h1 h2 lsA H locs hl hR hS
    · cases hsim
  | isub =>
    dsimp only at hsim
    split at hsim
    · rename_i y x st0; cases hsim
      refine lv_isub hx hb (hd (by simp)) ?_
      rw [x_ofInt_sub]
      exact kk h1 h2 lsA H locs hl hR hS
    · cases hsim
  | imul =>
    dsimp only at hsim
    split at hsim
    · rename_i y x st0; cases hsim
      refine lv_imul hx hb (hd (by simp)) ?_
      rw [x_ofInt_mul]
      exact kk h1 h2 lsA H locs hl hR hS
    · cases hsim
  | iand =>
    dsimp only at hsim
    split at hsim
    · rename_i y x st0; cases hsim
      refine lv_iand hx hb (hd (by simp)) ?_
      have q := kk h1 h2 lsA H locs hl hR hS
      simp only [List.map_cons, xcv, xand32, x_ofInt_toInt] at q
      exact q
    · cases hsim
  | ior =>
    dsimp only at hsim
    split at hsim
    · rename_i y x st0; cases hsim
      refine lv_ior hx hb (hd (by simp)) ?_
      have q := kk h1 h2 lsA H locs hl hR hS
      simp only [List.map_cons, xcv, xor32, x_ofInt_toInt] at q
      exact q
    · cases hsim
  | ixor =>
    dsimp only at hsim
    split at hsim
    · rename_i y x st0; cases hsim
      refine lv_ixor hx hb (hd (by simp)) ?_
      have q := kk h1 h2 lsA H locs hl hR hS
      simp only [List.map_cons, xcv, xxor32, x_ofInt_toInt] at q
      exact q
    · cases hsim
  | ishl =>
    dsimp only at hsim
    split at hsim
    · rename_i y x st0; cases hsim
      refine lv_ishl hx hb (hd (by simp)) ?_
      have q := kk h1 h2 lsA H locs hl hR hS
      simp only [List.map_cons, xcv, xshl32, x_ofInt_toInt] at q
      exact q
    · cases hsim
  | ishr =>
    dsimp only at hsim
    split at hsim
    · rename_i y x st0; cases hsim
      refine lv_ishr hx hb (hd (by simp)) ?_
      have q := kk h1 h2 lsA H locs hl hR hS
      simp only [List.map_cons, xcv, xshr32, x_ofInt_toInt] at q
      exact q
    · cases hsim
  | i2s =>
    dsimp only at hsim
    split at hsim
    · rename_i x st0; cases hsim
      refine lv_i2s hx hb (hd (by simp)) rfl ?_
      have q := kk h1 h2 lsA H locs hl hR hS
      simp only [List.map_cons, xcv, xi2s, x_ofInt_toInt] at q
      exact q
    · cases hsim
  | dup =>
    dsimp only at hsim
    split at hsim
    · rename_i v st0; cases hsim
      exact lv_dup hx hb (hd (by simp)) (xcv_cat _ _) (kk h1 h2 lsA H locs hl hR hS)
    · cases hsim
  | dup2 =>
    dsimp only at hsim
    split at hsim
    · rename_i v w st0; cases hsim
      exact lv_dup2_11 hx hb (hd (by simp)) (xcv_cat _ _) (xcv_cat _ _) (kk h1 h2 lsA H locs hl hR hS)
    · cases hsim
  | getfield i =>
    dsimp only at hsim
    split at hsim
    · rename_i k st0; cases hsim
      obtain ⟨g1, g2⟩ := hg _ rfl
      exact xr_get hx hb hts hown hK hR g1 g2 hw.1 hw.2 (hd (by simp)) (kk h1 h2 lsA H locs hl hR hS)
    · cases hsim
  | putfield i =>
    dsimp only at hsim
    obtain ⟨w1, w2, w3, w4⟩ := hw
    split at hsim
    · rename_i v k st0
      split at hsim
      · rename_i gg x hp; cases hsim
        obtain ⟨g1, g2, g3⟩ := hg _ rfl
        exact xr_put hx hb hts hown hK hR hS g1 g2 w1 w2 hp (fun P hP => by cases hP; exact g3) w3 (fun hf => ⟨hin (w4 hf).1, (w4 hf).2⟩) (hd (by simp)) (fun H1 locs1 hR1 hS1 => kk h1 h2 lsA H1 locs1 hl hR1 hS1)
      · rename_i x hp; cases hsim
        obtain ⟨g1, g2⟩ := hg _ rfl
        exact xr_put hx hb hts hown hK hR hS g1 g2 w1 w2 hp (fun P hP => by cases hP) w3 (fun hf => ⟨hin (w4 hf).1, (w4 hf).2⟩) (hd (by simp)) (fun H1 locs1 hR1 hS1 => kk h1 h2 lsA H1 locs1 hl hR1 hS1)
      · cases hsim
    · cases hsim
  | iaload =>
    dsimp only at hsim
    split at hsim
    · rename_i i k st0; cases hsim
      exact xr_iald hx hb hK hR (hg _ rfl) (hd (by simp)) (kk h1 h2 lsA H locs hl hR hS)
    · cases hsim
  | baload =>
    dsimp only at hsim
    split at hsim
    · rename_i i k st0; cases hsim
      obtain ⟨g1, g2⟩ := hg _ rfl
      exact xr_zald hx hb hK hR g1 g2 (hd (by simp)) (kk h1 h2 lsA H locs hl hR hS)
    · cases hsim
  | saload =>
    dsimp only at hsim
    split at hsim
    · rename_i i k st0; cases hsim
      obtain ⟨g1, g2⟩ := hg _ rfl
      exact xr_sald hx hb hK hR g1 g2 (hd (by simp)) (kk h1 h2 lsA H locs hl hR hS)
    · cases hsim
  | aaload =>
    dsimp only at hsim
    split at hsim
    · rename_i i k st0; cases hsim
      obtain ⟨g1, g2⟩ := hg _ rfl
      exact xr_aald hx hb hK hR g1 g2 (hd (by simp)) (kk h1 h2 lsA H locs hl hR hS)
    · cases hsim
  | iastore =>
    dsimp only at hsim
    split at hsim
    · rename_i x i k st0; cases hsim
      obtain ⟨g1, g2⟩ := hg _ rfl
      exact xr_iast hx hb hK hR hS g1 g2 (hd (by simp)) (fun H1 locs1 hR1 hS1 => kk h1 h2 lsA H1 locs1 hl hR1 hS1)
    · cases hsim
  | bastore =>
    dsimp only at hsim
    split at hsim
    · rename_i x i k st0; cases hsim
      obtain ⟨g1, g2, g3⟩ := hg _ rfl
      exact xr_zast hx hb hK hR hS g1 g2 g3 (hd (by simp)) (fun H1 locs1 hR1 hS1 => kk h1 h2 lsA H1 locs1 hl hR1 hS1)
    · cases hsim
  | sastore =>
    dsimp only at hsim
    split at hsim
    · rename_i x i k st0; cases hsim
      obtain ⟨g1, g2, g3⟩ := hg _ rfl
      exact xr_sast hx hb hK hR hS g1 g2 g3 (hd (by simp)) (fun H1 locs1 hR1 hS1 => kk h1 h2 lsA H1 locs1 hl hR1 hS1)
    · cases hsim
  | aastore =>
    dsimp only at hsim
    split at hsim
    · rename_i v i k st0; cases hsim
      obtain ⟨g1, g2, g3, g4⟩ := hg _ rfl
      have ha : a = 3 := hw
      subst ha
      exact xr_aast hx hb hK hR hS g1 g2 g3 g4 (hd (by simp)) (fun H1 locs1 hR1 hS1 => kk h1 h2 lsA H1 locs1 hl hR1 hS1)
    · cases hsim
  | arraylength =>
    dsimp only at hsim
    split at hsim
    · rename_i k st0; cases hsim
      obtain ⟨g1, g2⟩ := hg _ rfl
      exact xr_alen hx hb hK hR g1 g2 (hd (by simp)) (kk h1 h2 lsA H locs hl hR hS)
    · cases hsim
  | newarray t =>
    dsimp only at hsim
    split at hsim
    · rename_i n st0; cases hsim
      obtain ⟨g1, g2⟩ := hg _ rfl
      have hc' : S.1 + 1 - S0.1 ≤ R.cells := hc
      have hs' : S.2.1 + n.toNat - S0.2.1 ≤ R.slots := hs
      refine xr_newa hx hb hts hK hR hS hw.1 hw.2.1 hw.2.2 g1 g2 (by omega) (by omega) (hd (by simp)) (fun H1 hR1 hS1 => x_widen (k' := S.1 + 1 - S0.1) (n' := S.2.1 + n.toNat - S0.2.1) (by omega) (by omega) (kk (Nat.le_succ_of_le h1) (Nat.le_trans h2 (Nat.le_add_right _ _)) lsA H1 locs hl hR1 hS1))
    · cases hsim
  | anewarray i =>
    dsimp only at hsim
    split at hsim
    · rename_i n st0; cases hsim
      obtain ⟨g1, g2⟩ := hg _ rfl
      have hc' : S.1 + 1 - S0.1 ≤ R.cells := hc
      have hs' : S.2.1 + n.toNat - S0.2.1 ≤ R.slots := hs
      refine xr_anew hx hb hts hown hK hR hS hw g1 g2 (by omega) (by omega) (hd (by simp)) (fun H1 hR1 hS1 => x_widen (k' := S.1 + 1 - S0.1) (n' := S.2.1 + n.toNat - S0.2.1) (by omega) (by omega) (kk (Nat.le_succ_of_le h1) (Nat.le_trans h2 (Nat.le_add_right _ _)) lsA H1 locs hl hR1 hS1))
    · cases hsim
  | new i =>
    cases hsim
    obtain ⟨w1, w2, w3, w4, w5⟩ := hw
    have hc' : S.1 + 1 - S0.1 ≤ R.cells := hc
    have hs' : S.2.1 + xNf a - S0.2.1 ≤ R.slots := hs
    refine xr_new hx hb hts hown hK hR hS (show a = 30 + (a - 30) by omega) w2 w3 w4 w5 (by omega) (by omega) (hd (by simp)) (fun H1 hR1 hS1 => x_widen (k' := S.1 + 1 - S0.1) (n' := S.2.1 + xNf a - S0.2.1) (by omega) (by omega) (kk (Nat.le_succ_of_le h1) (Nat.le_trans h2 (Nat.le_add_right _ _)) lsA H1 locs hl hR1 hS1))
  | invokespecial i =>
    dsimp only at hsim
    split at hsim
    · rename_i k st0; cases hsim
      obtain ⟨w1, w2, w3⟩ := hw rfl
      have g1 : st'.length ≤ 8 := hg _ rfl
      refine W.objInit hx hb hown (hts _ w1) (hts _ w2) (hts _ w3) rfl (by rw [hml]; exact hl.1) rfl (hd (by simp)) hfr ?_ (kk h1 h2 lsA H locs hl hR hS)
      show 2 * 0 + ((st'.map (xcv (xad b B))).map fun v => v.category).sum + 12 ≤ R.locals
      rw [x_sum]; omega
    · cases hsim
  | invokestatic i =>
    dsimp only at hsim
    split at hsim
    · rename_i n dp d sp f st0; cases hsim
      obtain ⟨w1, w2, w3, w4⟩ := hw.1 rfl
      obtain ⟨g1, g2, g3, g4, g5, g6⟩ := hg _ rfl
      refine xr_copy hx hb (by rw [hml]; exact hl.1.symm) hts hown hK hR hS w1 w2 w3 w4 g1 g2 g3 g4 g5 hfr ?_ (hd (by simp)) (fun H1 locs1 hR1 hS1 => kk h1 h2 lsA H1 locs1 hl hR1 hS1)
      rw [x_sum]; omega
    · rename_i y x st0; cases hsim
      obtain ⟨w1, w2, w3, w4⟩ := hw.2.1 rfl
      obtain ⟨g1, g2, g3⟩ := hg _ rfl
      refine va_mmax hx hb (by rw [hml]; exact hl.1.symm) hown (hts _ w1) (hts _ w2) (hts _ w3) (hts _ w4) hfr (by rw [x_sum]; omega) hc hs (hd (by simp)) ?_
      have q := kk h1 h2 lsA H locs hl hR hS
      have e9 : Int32.ofInt (if x < y then y else x) = if Int32.ofInt x < Int32.ofInt y then Int32.ofInt y else Int32.ofInt x := by
        have hwl : Int32.ofInt x < Int32.ofInt y ↔ x < y := by rw [wr_lt, wr_id g2, wr_id g3]
        by_cases hc9 : x < y
        · rw [if_pos hc9, if_pos (hwl.mpr hc9)]
        · rw [if_neg hc9, if_neg (fun z => hc9 (hwl.mp z))]
      simp only [List.map_cons, xcv] at q
      rw [e9] at q
      exact q
    · rename_i y x st0; cases hsim
      obtain ⟨w1, w2, w3, w4⟩ := hw.2.2 rfl
      obtain ⟨g1, g2, g3⟩ := hg _ rfl
      refine va_mmin hx hb (by rw [hml]; exact hl.1.symm) hown (hts _ w1) (hts _ w2) (hts _ w3) (hts _ w4) hfr (by rw [x_sum]; omega) hc hs (hd (by simp)) ?_
      have q := kk h1 h2 lsA H locs hl hR hS
      have e9 : Int32.ofInt (if y < x then y else x) = if Int32.ofInt y < Int32.ofInt x then Int32.ofInt y else Int32.ofInt x := by
        have hwl : Int32.ofInt y < Int32.ofInt x ↔ y < x := by rw [wr_lt, wr_id g3, wr_id g2]
        by_cases hc9 : y < x
        · rw [if_pos hc9, if_pos (hwl.mpr hc9)]
        · rw [if_neg hc9, if_neg (fun z => hc9 (hwl.mp z))]
      simp only [List.map_cons, xcv] at q
      rw [e9] at q
      exact q
    · cases hsim
  | nop =>
    dsimp only at hsim
    split at hsim
    · rename_i k ls0; cases hsim
      obtain ⟨g1, g2, g3⟩ := hg _ rfl
      have hb11 : b' < 11 := hw rfl
      refine kk h1 h2 lsA H locs hl (hR.set (S' := (S.1, S.2.1, xnew S.2.2.1 k (10 + b', 0), S.2.2.2)) g1 rfl (fun j hj => xnew_ne _ _ hj) (fun _ _ => rfl) rfl (fun _ _ => rfl) (fun _ => ?_)) hS
      obtain ⟨-, hob⟩ := x_obj hR g1 g2
      refine ⟨fun q => ?_, fun q => ?_, fun _ => ?_⟩
      · change 1 ≤ (xnew S.2.2.1 k (10 + b', 0) k).1 ∧ (xnew S.2.2.1 k (10 + b', 0) k).1 ≤ 3 at q
        rw [xnew_at] at q
        change 1 ≤ 10 + b' ∧ 10 + b' ≤ 3 at q; omega
      · change (xnew S.2.2.1 k (10 + b', 0) k).1 = 4 at q
        rw [xnew_at] at q
        change 10 + b' = 4 at q; omega
      · show ((xnew S.2.2.1 k (10 + b', 0) k).1 - 10) % 30 < 11 ∧ t_OB (xad b B k) (dC (((xnew S.2.2.1 k (10 + b', 0) k).1 - 10) % 30)) (xNf ((xnew S.2.2.1 k (10 + b', 0) k).1 - 10)) (dI (((xnew S.2.2.1 k (10 + b', 0) k).1 - 10) % 30)) H (fun j => xcv (xad b B) (xget xft ((xnew S.2.2.1 k (10 + b', 0) k).1 - 10) j k S.2.2.2))
        rw [xnew_at]
        show (10 + b' - 10) % 30 < 11 ∧ t_OB (xad b B k) (dC ((10 + b' - 10) % 30)) (xNf (10 + b' - 10)) (dI ((10 + b' - 10) % 30)) H (fun j => xcv (xad b B) (xget xft (10 + b' - 10) j k S.2.2.2))
        have hm1 : b' % 30 = b' := Nat.mod_eq_of_lt (by omega)
        have hm2 : (30 + b') % 30 = b' := by omega
        have hN : xNf (30 + b') = xNf b' := by rw [xNf_mod, hm2]
        rw [hm2, hN] at hob
        rw [Nat.add_sub_cancel_left, hm1]
        refine ⟨hb11, hob.to (fun j hj => ?_)⟩
        congr 1
        have q3 := g3 j hj
        have e1 : xft b' j = xft0 b' j := by
          unfold xft
          have e : Nat.blt b' 30 = true := by rw [Nat.blt_eq]; omega
          simp only [e, cond_true]
        have e2 : xft (30 + b') j = (bif Nat.beq (xft0 b' j).1 0 then (0, 0) else bif Nat.beq (xft0 b' j).1 4 then (4, 0) else (3, 0)) := by
          unfold xft
          have e : Nat.blt (30 + b') 30 = false := by
            rw [Bool.eq_false_iff]; intro h; rw [Nat.blt_eq] at h; omega
          have e2 : 30 + b' - 30 = b' := by omega
          simp only [e, cond_false, e2]
        unfold xget
        rw [e1] at q3 ⊢
        rw [e2]
        have ht := x_tok b' hb11 j hj
        generalize xft0 b' j = q at q3 ht ⊢
        obtain ⟨t, off⟩ := q
        dsimp only at q3 ht ⊢
        have ht5 : t = 0 ∨ t = 1 ∨ t = 2 ∨ t = 3 ∨ t = 4 := by
          revert ht; unfold xtok; split <;> simp_all
        rcases ht5 with rfl | rfl | rfl | rfl | rfl
        · rfl
        · show Sum.inr (xref (S.2.2.2 k (j : Int))) = Sum.inr (some (k + off))
          rw [q3.1 rfl, xref_nat]
        · show Sum.inr (xref (S.2.2.2 k (j : Int))) = Sum.inr (some off)
          rw [q3.2 rfl, xref_nat]
        · rfl
        · rfl
    · cases hsim
  | _ => cases hsim
end SIM
end
section
/-! ===== a call, a stretch and a method of the small machine are the machine's ===== -/
def xPc (b B : Nat) (dC : Nat → ClassId) (dI : Nat → Nat → Nat) (aC : Nat → ClassId) (as : List xV) (S : xS) : Array Value → State → Prop := fun v U => v = (as.map (xcv (xad b B))).toArray ∧ xRep b B dC dI aC U S U.heap ∧ xKK dC dI aC U
def xrv (ad : Nat → Nat) (rk : Nat) (r : xV) : Option Value := match rk with
  | 0 => none
  | _ => some (xcv ad r)
def xQc (b B : Nat) (dC : Nat → ClassId) (dI : Nat → Nat → Nat) (aC : Nat → ClassId) (rk : Nat) (r : xV) (S' : xS) : Array Value → State → Outcome → State → Prop := fun _ st o t => o = .returned (xrv (xad b B) rk r) ∧ xRep b B dC dI aC t S' t.heap ∧ va_F (fun q => B ≤ q) st t
def xrm (d : Nat) (S S' : xS) : Room := { frames := d, cells := S'.1 - S.1, slots := S'.2.1 - S.2.1, locals := 41 * d }
def xws (mu : Nat) : List Cond := Cond.code (xy mu) (xcc mu) (xmt mu).2.2.2 (xret mu) :: xG
/-- a method's contract for one start and one end -/
def xMet (l : Launch) (b B : Nat) (dC : Nat → ClassId) (dI : Nat → Nat → Nat) (aC : Nat → ClassId) (d mu : Nat) (as : List xV) (S : xS) (r : xV) (S' : xS) : Prop :=
  Met l (xy mu) (xws mu) (xrm d S S') (xPc b B dC dI aC as S) (xQc b B dC dI aC (xmt mu).2.1 r S') (S'.1 - S.1) (S'.2.1 - S.2.1) (fun q => B ≤ q)
/-- what a method's callers ask of the tables -/
def xmw (mu : Nat) : Prop := Cond.code (xy mu) (xcc mu) (xmt mu).2.2.2 (xret mu) ∈ xG ∧ Cond.initialized (xy mu).cls ∈ xG ∧ ((xy mu).cls ≠ "java/lang/invoke/MethodHandle" ∧ (xy mu).cls ≠ "java/lang/invoke/VarHandle") ∧ (xmt mu).2.2.2 ≤ 22 ∧ plainName (xy mu).cls = true ∧ mu < xlaw
/-- what a call asks of the tables, by its opcode -/
def xcw (own : String) (ins : Instr) (mu : Nat) : Prop := match ins with
  | .invokevirtual i => xmw mu ∧ (xmt mu).2.2.1 < 11 ∧ (xy mu).cls = xRX (xmt mu).2.2.1 ∧ Cond.methodLink own i (xy mu) ∈ xG ∧ Cond.instanceMethod (xy mu) ∈ xG ∧ Cond.selects (xy mu).cls (xy mu) (xy mu) ∈ xG ∧ ((parseMethodDescriptor (xy mu).desc).map (fun d => d.parameters.length) = some ((xmt mu).1 - 1) ∧ 0 < (xmt mu).1)
  | .invokespecial i => xmw mu ∧ (30 ≤ (xmt mu).2.2.1 ∧ (xmt mu).2.2.1 < 41) ∧ (xy mu).name = "<init>" ∧ (Cond.methodLink own i (xy mu) ∈ xG ∨ Cond.methodLinkNest own i (xy mu) "MatchForge" = xnestA ∨ Cond.methodLinkNest own i (xy mu) "MatchForge" = xnestB) ∧ Cond.instanceMethod (xy mu) ∈ xG ∧ ((parseMethodDescriptor (xy mu).desc).map (fun d => d.parameters.length) = some ((xmt mu).1 - 1) ∧ 0 < (xmt mu).1) ∧ (xret mu = none ∧ (xmt mu).2.1 = 0)
  | .invokestatic i => xmw mu ∧ Cond.methodLink own i (xy mu) ∈ xG ∧ Cond.static (xy mu) ∈ xG ∧ ((parseMethodDescriptor (xy mu).desc).map (fun d => d.parameters.length) = some (xmt mu).1)
  | _ => False
theorem xG_goodIn {mu : Nat} (h : xmw mu) : GoodIn xG (xws mu) := by
  intro w hw
  have hm : w ∈ xG := by
    rcases List.mem_cons.mp hw with rfl | hw
    · exact h.1
    · exact hw
  exact ⟨hm, good_of_word (xG_good hm)⟩
section RUN
variable {p : Program} {l : Launch} {e : Env} {R : Room} {s : State} {m : MethodId} {args : Array Value} {below : List Frame} {meth : Method} {c : Code} {Qw : State → Prop}
variable {cc : ByteArray} {own : String} {b B : Nat} {dC : Nat → ClassId} {dI : Nat → Nat → Nat} {aC : Nat → ClassId} {nL : Nat} {init : Bool} {S0 : xS}
theorem x_back {H : Heap} {locs : List Loc} {cells slots mc ms pc rk : Nat} {lsA : Array Slot} {st0 rest : List Value} {r : xV} {S' : xS} {av : Array Value} (hr : va_Run p l e R s m args below meth c H locs cells slots mc ms (F0 m pc lsA st0) rest (xQc b B dC dI aC rk r S' av) (fun q => B ≤ q)) (hS : va_S (fun q => B ≤ q) s.heap H locs)
    (kk : ∀ (H1 : Heap) (locs1 : List Loc), xRep b B dC dI aC s S' H1 → va_S (fun q => B ≤ q) s.heap H1 locs1 → W p l e R s m args below meth c H1 locs1 (cells + mc) (slots + ms) Qw (F0 m (pc + 3) lsA ((xrv (xad b B) rk r).toList ++ rest))) : W p l e R s m args below meth c H locs cells slots Qw (F0 m pc lsA st0) := by
  intro T hT X
  obtain ⟨v, st₀, t, T', L, h0, X', hL, e1, e2, ⟨hv, hRp, hz, hk⟩, st⟩ := hr T hT X
  cases hv
  rw [h0] at hz hk
  have hal : s.vm.Alike t.vm := by rw [← e2]; exact X'.warmed.alike
  obtain ⟨t2, a1, b1⟩ := kk T'.heap (locs ++ L) (by rw [e1]; exact hRp.moved hal.symm)
    ⟨Nat.le_trans hS.1 (by rw [e1]; exact hz), fun q h1 h2 => by rw [e1, hk q (Nat.lt_of_lt_of_le h1 hS.1) h2]; exact hS.2.1 q h1 h2, fun q hq => by
      rcases List.mem_append.mp hq with h | h
      · exact hS.2.2 q h
      · exact hL q h⟩ T' rfl X'
  exact ⟨t2, st t2 a1, b1⟩
theorem x_blind {as : List xV} {S : xS} : FrameBlind (xPc b B dC dI aC as S) := by
  intro a U g mk q
  exact ⟨q.1, q.2.1.moved (u := U) (U := U.calling g mk a) (Vm.Alike.refl U.vm), q.2.2.same (U := U.calling g mk a) rfl⟩
theorem x_pre {as : List xV} {S : xS} {H : Heap} (hR : xRep b B dC dI aC s S H) (hK : xKK dC dI aC s) : ∀ U : State, U.heap = H → s.WarmedH U.vm → xPc b B dC dI aC as S (as.map (xcv (xad b B))).toArray U := fun U hU hW => ⟨rfl, by rw [hU]; exact hR.moved hW.alike, hK.warm hW⟩
/-- a call -/
theorem xcall_snd (F : xFx p R s m args meth c cc own nL init dC dI aC) {pc a d : Nat} {ins : Instr} {ls : xL} {st : List xV} {S S' : xS} {r : xV} (hcw : xcw own ins a) (hd : decode cc pc = .ok (ins, 3)) (hn : (xmt a).1 ≤ st.length ∧ st.length ≤ (xmt a).1 + 8 ∧ xrecv S (xmt a).2.2.1 (st.take (xmt a).1).reverse)
    (hM : xMet l b B dC dI aC d a (st.take (xmt a).1).reverse S r S') (hRm : d + 1 ≤ R.frames ∧ 41 * (d + 1) ≤ R.locals) (h1' : S.1 ≤ S'.1) (h2' : S.2.1 ≤ S'.2.1) (hc : S'.1 - S0.1 ≤ R.cells) (hs : S'.2.1 - S0.2.1 ≤ R.slots)
    (kk : xWat p l e R s m args below meth c Qw b B dC dI aC nL S0 (pc + 3) ls (match (xmt a).2.1 with | 0 => st.drop (xmt a).1 | _ => r :: st.drop (xmt a).1) S') : xWat p l e R s m args below meth c Qw b B dC dI aC nL S0 pc ls st S := by
  obtain ⟨hx, hb, hml, hown, hts, hK, hin, hfr, hlo⟩ := id F
  intro h1 h2 lsA H locs hl hR hS
  obtain ⟨hn1, hn2, hrv⟩ := hn
  have hfix : CallFix p m c cc nL s args xG own := ⟨hx, hb, hml, hown, hts⟩
  have hstk : st = (st.take (xmt a).1).reverse.reverse ++ st.drop (xmt a).1 := by rw [List.reverse_reverse, List.take_append_drop]
  have hlen : (st.take (xmt a).1).reverse.length = (xmt a).1 := by rw [List.length_reverse, List.length_take]; omega
  generalize has : (st.take (xmt a).1).reverse = as at hM hrv hstk hlen
  generalize hre : st.drop (xmt a).1 = rest at kk hstk
  have hrl : rest.length ≤ 8 := by rw [← hre, List.length_drop]; omega
  have hroomW : 2 * (F0 m pc lsA (st.map (xcv (xad b B)))).monitorRoom + ((rest.map (xcv (xad b B))).map fun v => v.category).sum ≤ 8 := by
    rw [x_sum]; show 2 * 0 + _ ≤ 8; omega
  have fin : va_Run p l e R s m args below meth c H locs (S.1 - S0.1) (S.2.1 - S0.2.1) (S'.1 - S.1) (S'.2.1 - S.2.1) (F0 m pc lsA (st.map (xcv (xad b B)))) (rest.map (xcv (xad b B))) (xQc b B dC dI aC (xmt a).2.1 r S' (as.map (xcv (xad b B))).toArray) (fun q => B ≤ q) → W p l e R s m args below meth c H locs (S.1 - S0.1) (S.2.1 - S0.2.1) Qw (F0 m pc lsA (st.map (xcv (xad b B)))) := by
    intro hr
    refine x_back hr hS (fun H1 locs1 hR1 hS1 => x_widen (k' := S'.1 - S0.1) (n' := S'.2.1 - S0.2.1) (by omega) (by omega) ?_)
    have q := kk (Nat.le_trans h1 h1') (Nat.le_trans h2 h2') lsA H1 locs1 hl hR1 hS1
    have e0 : (match (xmt a).2.1 with | 0 => rest | _ => r :: rest).map (xcv (xad b B)) = (xrv (xad b B) (xmt a).2.1 r).toList ++ rest.map (xcv (xad b B)) := by
      unfold xrv
      cases (xmt a).2.1 <;> rfl
    rw [e0] at q
    exact q
  have hfm : S.1 - S0.1 + (S'.1 - S.1) ≤ R.cells ∧ S.2.1 - S0.2.1 + (S'.2.1 - S.2.1) ≤ R.slots := by omega
  apply fin
  have recv : ∀ {k code : Nat} {as' : List xV}, as = .inr (some k) :: as' → 0 < k → xob S k code → ∃ cellB : Cell, H[xad b B k]? = some cellB ∧ cellB.vm.isStatics = false ∧ s.vm.findClass (xRX (code % 30)) = some cellB.cls := by
    intro k code as' _ hk ho
    obtain ⟨hc0, cell, q1, q2, q3, -⟩ := x_obj hR hk ho
    exact ⟨cell, q1, by rw [q3]; rfl, by rw [q2]; exact (hK.1.1 _ _ (x_cl _ hc0)).2.1⟩
  cases ins with
  | invokevirtual i =>
    obtain ⟨w0, w1, w2, w3, w4, w5, w6, w7⟩ := hcw
    have hr2 : ∃ k as', as = .inr (some k) :: as' ∧ 0 < k ∧ xob S k (xmt a).2.2.1 := by
      unfold xrecv at hrv
      split at hrv
      · rename_i h9; omega
      · rename_i h9; exact ⟨_, _, rfl, hrv.1, hrv.2⟩
      · exact hrv.elim
    obtain ⟨k, as', e1, hk, ho⟩ := hr2
    have hC := recv e1 hk ho
    rw [Nat.mod_eq_of_lt (show (xmt a).2.2.1 < 30 by omega), ← w2] at hC
    subst e1
    have cw : CallW R s args own (xy a).cls i (xy a) (xcc a) (xmt a).2.2.2 (xret a) (xws a) (xrm d S S') (S'.1 - S.1) (S'.2.1 - S.2.1) ((xmt a).1 - 1) := by
      refine cwV (Ts := xG) (ws' := xG) ((xmt a).1 - 1) hts (fun w hw => ?_) rfl rfl rfl ⟨rfl, w0.2.2.1.1, w0.2.2.1.2, w6⟩ ⟨hRm.1, ?_⟩
      · unfold wsV at hw
        rcases List.mem_append.mp hw with hw | hw
        · have hm : w ∈ xG := by
            simp only [List.mem_cons, List.not_mem_nil, or_false] at hw
            rcases hw with rfl | rfl | rfl | rfl
            · exact w3
            · exact w4
            · exact w5
            · exact w0.2.1
          exact ⟨hm, good_of_word (xG_good hm)⟩
        · exact xG_goodIn w0 w hw
      · show 8 + ((xmt a).2.2.2 + 11) + 41 * d ≤ R.locals
        have := w0.2.2.2.1
        omega
    refine va_runV (As := as'.map (xcv (xad b B))) hfix hM cw ⟨x_blind, hC, x_pre hR hK⟩ rfl ?_ hl.1 ?_ hroomW hd hfm
    · rw [List.length_map]; simp only [List.length_cons] at hlen; omega
    · show st.map (xcv (xad b B)) = _
      rw [hstk]
      simp [xcv, va_rf]
  | invokespecial i =>
    obtain ⟨w0, w1, w2, w3, w4, ⟨w6, w7⟩, w8, w9⟩ := hcw
    have hr2 : ∃ k as', as = .inr (some k) :: as' ∧ 0 < k ∧ xob S k (xmt a).2.2.1 := by
      unfold xrecv at hrv
      split at hrv
      · rename_i h9; omega
      · rename_i h9; exact ⟨_, _, rfl, hrv.1, hrv.2⟩
      · exact hrv.elim
    obtain ⟨k, as', e1, hk, ho⟩ := hr2
    subst e1
    have hrooms : (xrm d S S').frames + 1 ≤ R.frames ∧ 8 + ((xmt a).2.2.2 + 11) + (xrm d S S').locals ≤ R.locals := by
      refine ⟨hRm.1, ?_⟩
      show 8 + ((xmt a).2.2.2 + 11) + 41 * d ≤ R.locals
      have := w0.2.2.2.1
      omega
    have hcode : xws a = Cond.code (xy a) (xcc a) (xmt a).2.2.2 none :: xG := by unfold xws; rw [w8]
    have hlen2 : (as'.map (xcv (xad b B))).length = (xmt a).1 - 1 := by
      rw [List.length_map]; simp only [List.length_cons] at hlen; omega
    have hst2 : st.map (xcv (xad b B)) = (as'.map (xcv (xad b B))).reverse ++ .ref (xad b B k) :: rest.map (xcv (xad b B)) := by
      rw [hstk]
      simp [xcv, va_rf]
    rcases w3 with w3 | w3
    · refine va_runI (As := as'.map (xcv (xad b B))) hfix hM (cwI ((xmt a).1 - 1) hts (xG_goodIn w0) hcode rfl rfl (hts _ w0.2.1) (hts _ w3) (hts _ w4) w2 ⟨w0.2.2.1.1, w0.2.2.1.2, w6⟩ hrooms) ⟨x_blind, x_pre hR hK⟩ rfl hlen2 hl.1 hst2 hroomW hd hfm
    · have hnw : va_Nw (.methodLinkNest own i (xy a) "MatchForge") s := by
        rcases w3 with w3 | w3
        · rw [w3]; exact hK.2.1
        · rw [w3]; exact hK.2.2.1
      refine va_runIN (As := as'.map (xcv (xad b B))) hfix hM ⟨va_cnB ((xmt a).1 - 1) hts (xG_goodIn w0) hcode rfl rfl hnw (hts _ w0.2.1) ⟨w0.2.2.1.1, w0.2.2.1.2, w6⟩ hrooms, w2, hts _ w4⟩ ⟨x_blind, x_pre hR hK⟩ rfl hlen2 hl.1 hst2 hroomW hd hfm
  | invokestatic i =>
    obtain ⟨w0, w3, w4, w6⟩ := hcw
    have hrooms : (xrm d S S').frames + 1 ≤ R.frames ∧ 8 + ((xmt a).2.2.2 + 11) + (xrm d S S').locals ≤ R.locals := by
      refine ⟨hRm.1, ?_⟩
      show 8 + ((xmt a).2.2.2 + 11) + 41 * d ≤ R.locals
      have := w0.2.2.2.1
      omega
    refine va_runS (As := as.map (xcv (xad b B))) hfix hM ⟨callB_of (xmt a).1 hts (xG_goodIn w0) rfl rfl rfl (hts _ w0.2.1) (hts _ w3) ⟨w0.2.2.1.1, w0.2.2.1.2, w6⟩ hrooms, hts _ w4⟩ ⟨x_blind, x_pre hR hK⟩ rfl (by rw [List.length_map]; exact hlen) hl.1 ?_ hroomW hd hfm
    show st.map (xcv (xad b B)) = _
    rw [hstk]
    simp
  | _ => exact hcw.elim
end RUN
end
section
def xpc (L : List xI) (sk : Nat) : Nat := match L.drop sk with
  | e :: _ => e.1
  | [] => 0
/-- what the code and the tables must say of one entry of a stretch -/
def xokE (cc : ByteArray) (own : String) (nL : Nat) (init : Bool) (rk pc : Nat) (ins : Instr) (a b : Nat) (rest : List xI) : Prop := match ins with
  | .nop => a = 2 → xpc rest 0 = pc ∧ b < 11
  | .if_icmp _ off => decode cc pc = .ok (ins, 3) ∧ xpc rest 0 = pc + 3 ∧ (a = 0 → (pc : Int) + off = (xpc rest b : Int)) ∧ (a ≠ 0 → (pc : Int) + off = (b : Int))
  | .ifCond _ off => decode cc pc = .ok (ins, 3) ∧ xpc rest 0 = pc + 3 ∧ (a = 0 → (pc : Int) + off = (xpc rest b : Int)) ∧ (a ≠ 0 → (pc : Int) + off = (b : Int))
  | .goto off => decode cc pc = .ok (ins, 3) ∧ (a = 0 → (pc : Int) + off = (xpc rest b : Int)) ∧ (a ≠ 0 → (pc : Int) + off = (b : Int))
  | .tableswitch d lo hi offs => decode cc pc = .ok (ins, b) ∧ 0 ≤ (pc : Int) + d ∧ (∀ o ∈ offs.toList, 0 ≤ (pc : Int) + o) ∧ (offs.size : Int) = hi - lo + 1
  | .ireturn => decode cc pc = .ok (ins, 1) ∧ a = rk ∧ rk ≠ 0 ∧ rk ≠ 3
  | .areturn => decode cc pc = .ok (ins, 1) ∧ rk = 3
  | .return_ => decode cc pc = .ok (ins, 1) ∧ rk = 0
  | .invokevirtual _ => decode cc pc = .ok (ins, 3) ∧ xpc rest 0 = pc + 3 ∧ xcw own ins a
  | .invokespecial _ => decode cc pc = .ok (ins, 3) ∧ xpc rest 0 = pc + 3 ∧ (a = 1000 → xwo own nL init ins a b) ∧ (a ≠ 1000 → xcw own ins a)
  | .invokestatic _ => decode cc pc = .ok (ins, 3) ∧ xpc rest 0 = pc + 3 ∧ (1001 ≤ a → xwo own nL init ins a b) ∧ (¬ 1001 ≤ a → xcw own ins a)
  | _ => decode cc pc = .ok (ins, xlen ins) ∧ xpc rest 0 = pc + xlen ins ∧ xwo own nL init ins a b
def xokL (cc : ByteArray) (own : String) (nL : Nat) (init : Bool) (rk : Nat) : List xI → Prop
  | [] => True
  | (pc, ins, a, b) :: rest => xokE cc own nL init rk pc ins a b rest ∧ xokL cc own nL init rk rest
theorem xsim_len {T : Nat → Nat → Nat × Nat} {N : Nat → Nat} {ins : Instr} {a b : Nat} {ls ls' : xL} {st st' : List xV} {S S' : xS} {g : Option Prop} (h : xsim T N ins a b ls st S = some (g, ls', st', S')) : ls'.length = ls.length := by
  unfold xsim at h
  split at h
  all_goals (try (split at h))
  all_goals (try (split at h))
  all_goals (first | (cases h; done) | (simp only [Option.some.injEq, Prod.mk.injEq] at h; obtain ⟨-, rfl, -, -⟩ := h; simp))
section STR
variable {p : Program} {l : Launch} {e : Env} {R : Room} {s : State} {m : MethodId} {args : Array Value} {below : List Frame} {meth : Method} {c : Code} {Qw : State → Prop}
variable {cc : ByteArray} {own : String} {b B : Nat} {dC : Nat → ClassId} {dI : Nat → Nat → Nat} {aC : Nat → ClassId} {nL : Nat} {init : Bool} {S0 : xS} {rk d : Nat}
variable {C : Nat → List xV → xS → (xV → xS → Prop) → Prop} {K : Nat → xL → List xV → xS → Prop} {Qx : xV → xS → Prop}
set_option maxHeartbeats 4000000 in
theorem xgo_snd (F : xFx p R s m args meth c cc own nL init dC dI aC) (hC : ∀ a as S Q, xmw a → as.length = (xmt a).1 → C a as S Q → ∃ r S', Q r S' ∧ S.1 ≤ S'.1 ∧ S.2.1 ≤ S'.2.1 ∧ xMet l b B dC dI aC d a as S r S') (hCn : ∀ a, xall ≤ a → ∀ as S Q, ¬ C a as S Q) (hRm : d + 1 ≤ R.frames ∧ 41 * (d + 1) ≤ R.locals)
    (hbd : ∀ L sk ls st S, xgo xft xNf xmt C K Qx L sk ls st S → S.1 - S0.1 ≤ R.cells ∧ S.2.1 - S0.2.1 ≤ R.slots)
    (hK : ∀ pc ls st S, ls.length = nL → K pc ls st S → xWat p l e R s m args below meth c Qw b B dC dI aC nL S0 pc ls st S)
    (hQi : ∀ pc ls x S, decode cc pc = .ok (.ireturn, 1) → (rk ≠ 0 ∧ rk ≠ 3) → (rk = 2 → x = 0 ∨ x = 1) → Qx (.inl x) S → xWat p l e R s m args below meth c Qw b B dC dI aC nL S0 pc ls [.inl x] S)
    (hQv : ∀ pc ls S, decode cc pc = .ok (.return_, 1) → rk = 0 → Qx (.inl 0) S → xWat p l e R s m args below meth c Qw b B dC dI aC nL S0 pc ls [] S)
    (hQa : ∀ pc ls r S, decode cc pc = .ok (.areturn, 1) → rk = 3 → Qx (.inr r) S → xWat p l e R s m args below meth c Qw b B dC dI aC nL S0 pc ls [.inr r] S) :
    ∀ L, xokL cc own nL init rk L → ∀ sk ls st S, ls.length = nL → xgo xft xNf xmt C K Qx L sk ls st S → xWat p l e R s m args below meth c Qw b B dC dI aC nL S0 (xpc L sk) ls st S := by
  have F2 := F
  obtain ⟨hx, hb, hml, hown, hts, hKK, hin, hfr, hlo⟩ := F
  intro L
  induction L with
  | nil => intro _ sk ls st S _ h; simp only [xgo] at h
  | cons en rest ih =>
    intro hok sk ls st S hlen h
    obtain ⟨pc, ins, a, b'⟩ := en
    obtain ⟨hE, hrest⟩ := hok
    cases sk with
    | succ sk =>
      simp only [xgo] at h
      exact ih hrest sk ls st S hlen h
    | zero =>
      have hpc : xpc ((pc, ins, a, b') :: rest) 0 = pc := rfl
      rw [hpc]
      simp only [xgo] at h
      cases hsim : xsim xft xNf ins a b' ls st S with
      | some q =>
        obtain ⟨g, ls', st', S'⟩ := q
        rw [hsim] at h
        have hl' : ls'.length = nL := by rw [xsim_len hsim]; exact hlen
        have hgh : (∀ P, g = some P → P) ∧ xgo xft xNf xmt C K Qx rest 0 ls' st' S' := by
          cases g with
          | none => exact ⟨fun P hP => (by cases hP), h⟩
          | some g => exact ⟨fun P hP => by cases hP; exact h.1, h.2⟩
        obtain ⟨hg, hgo⟩ := hgh
        have hkk := ih hrest 0 ls' st' S' hl' hgo
        obtain ⟨hc, hs⟩ := hbd _ _ _ _ _ hgo
        have main : (ins ≠ .nop → decode cc pc = .ok (ins, xlen ins)) → xpc rest 0 = pc + xlen ins → xwo own nL init ins a b' → xWat p l e R s m args below meth c Qw b B dC dI aC nL S0 pc ls st S := by
          intro k1 k2 k3
          rw [k2] at hkk
          exact xsim_snd F2 hsim hg k1 k3 hc hs hlen hkk
        cases ins with
        | nop =>
          have ha : a = 2 := by
            unfold xsim at hsim
            dsimp only at hsim
            split at hsim
            · rfl
            · cases hsim
          exact main (fun h9 => absurd rfl h9) (hE ha).1 (fun _ => (hE ha).2)
        | if_icmp _ _ => cases hsim
        | ifCond _ _ => cases hsim
        | goto _ => cases hsim
        | tableswitch _ _ _ _ => cases hsim
        | ireturn => cases hsim
        | areturn => cases hsim
        | return_ => cases hsim
        | invokevirtual _ => cases hsim
        | invokespecial i =>
          have ha : a = 1000 := by
            unfold xsim at hsim
            dsimp only at hsim
            split at hsim
            · rfl
            · cases hsim
          exact main (fun _ => hE.1) hE.2.1 (hE.2.2.1 ha)
        | invokestatic i =>
          have ha : 1001 ≤ a := by
            unfold xsim at hsim
            dsimp only at hsim
            split at hsim
            · decide
            · decide
            · decide
            · cases hsim
          exact main (fun _ => hE.1) hE.2.1 (hE.2.2.1 ha)
        | _ => exact main (fun _ => hE.1) hE.2.1 hE.2.2
      | none =>
        rw [hsim] at h
        have call : ∀ (st' : List xV), st' = st → decode cc pc = .ok (ins, 3) → xpc rest 0 = pc + 3 → xcw own ins a → (((xmt a).1 ≤ st'.length ∧ st'.length ≤ (xmt a).1 + 8 ∧ xrecv S (xmt a).2.2.1 (st'.take (xmt a).1).reverse) ∧ C a (st'.take (xmt a).1).reverse S (fun r S' => xgo xft xNf xmt C K Qx rest 0 ls (match (xmt a).2.1 with
            | 0 => st'.drop (xmt a).1
            | _ => r :: st'.drop (xmt a).1) S')) → xWat p l e R s m args below meth c Qw b B dC dI aC nL S0 pc ls st S := by
          intro st' e1 k1 k2 k3 h9
          subst e1
          have hxm : xmw a := by
            cases ins <;> first | exact k3.1 | exact k3.elim
          obtain ⟨r, S', hgo, g1, g2, hM⟩ := hC _ _ _ _ hxm (by rw [List.length_reverse, List.length_take]; have := h9.1.1; omega) h9.2
          obtain ⟨hc, hs⟩ := hbd _ _ _ _ _ hgo
          have hkk := ih hrest 0 ls _ S' hlen hgo
          rw [k2] at hkk
          exact xcall_snd F2 k3 k1 h9.1 hM hRm g1 g2 hc hs hkk
        cases ins with
        | nop =>
          rcases a with _ | _ | a
          · exact h.elim
          · exact hK _ _ _ _ hlen h
          · exact h.elim
        | if_icmp co off =>
          obtain ⟨k1, k2, k3, k4⟩ := hE
          rcases st with _ | ⟨y | y, _ | ⟨x | x, st⟩⟩
          all_goals first | exact h.elim | skip
          have hno : ¬ xc co x y → xWat p l e R s m args below meth c Qw b B dC dI aC nL S0 (pc + 3) ls st S := fun z => by
            have := ih hrest 0 ls st S hlen (h.2.2 z)
            rw [k2] at this; exact this
          obtain ⟨tgt, ht, hyes⟩ : ∃ tgt : Nat, (pc : Int) + off = (tgt : Int) ∧ (xc co x y → xWat p l e R s m args below meth c Qw b B dC dI aC nL S0 tgt ls st S) := by
            cases a with
            | zero => exact ⟨_, k3 rfl, fun z => ih hrest b' ls st S hlen (h.2.1 z)⟩
            | succ n => exact ⟨b', k4 (by omega), fun z => hK _ _ _ _ hlen (h.2.1 z)⟩
          intro g1 g2 lsA H locs hl hR hS
          have wr_eq1 : Int32.ofInt x = Int32.ofInt y ↔ x = y := by rw [wr_eq, wr_id h.1.1, wr_id h.1.2]
          have wr_lt1 : Int32.ofInt x < Int32.ofInt y ↔ x < y := by rw [wr_lt, wr_id h.1.1, wr_id h.1.2]
          have wr_lt2 : Int32.ofInt y < Int32.ofInt x ↔ y < x := by rw [wr_lt, wr_id h.1.1, wr_id h.1.2]
          have wr_le1 : Int32.ofInt x ≤ Int32.ofInt y ↔ x ≤ y := by rw [wr_le, wr_id h.1.1, wr_id h.1.2]
          have wr_le2 : Int32.ofInt y ≤ Int32.ofInt x ↔ y ≤ x := by rw [wr_le, wr_id h.1.1, wr_id h.1.2]
          cases co
          · exact lv_icmp_eq hx hb k1 ht (fun z => hyes (wr_eq1.mp z) g1 g2 lsA H locs hl hR hS) (fun z => hno (fun q => z (wr_eq1.mpr q)) g1 g2 lsA H locs hl hR hS)
          · exact lv_icmp_ne hx hb k1 ht (fun z => hyes (fun q => z (wr_eq1.mpr q)) g1 g2 lsA H locs hl hR hS) (fun z => hno (fun q => q (wr_eq1.mp z)) g1 g2 lsA H locs hl hR hS)
          · exact lv_icmp_lt hx hb k1 ht (fun z => hyes (wr_lt1.mp z) g1 g2 lsA H locs hl hR hS) (fun z => hno (fun q => z (wr_lt1.mpr q)) g1 g2 lsA H locs hl hR hS)
          · exact lv_icmp_ge hx hb k1 ht (fun z => hyes (wr_le2.mp z) g1 g2 lsA H locs hl hR hS) (fun z => hno (fun q => z (wr_le2.mpr q)) g1 g2 lsA H locs hl hR hS)
          · exact lv_icmp_gt hx hb k1 ht (fun z => hyes (wr_lt2.mp z) g1 g2 lsA H locs hl hR hS) (fun z => hno (fun q => z (wr_lt2.mpr q)) g1 g2 lsA H locs hl hR hS)
          · exact lv_icmp_le hx hb k1 ht (fun z => hyes (wr_le1.mp z) g1 g2 lsA H locs hl hR hS) (fun z => hno (fun q => z (wr_le1.mpr q)) g1 g2 lsA H locs hl hR hS)
        | ifCond co off =>
          obtain ⟨k1, k2, k3, k4⟩ := hE
          rcases st with _ | ⟨x | x, st⟩
          all_goals first | exact h.elim | skip
          have hno : ¬ xc co x 0 → xWat p l e R s m args below meth c Qw b B dC dI aC nL S0 (pc + 3) ls st S := fun z => by
            have := ih hrest 0 ls st S hlen (h.2.2 z)
            rw [k2] at this; exact this
          obtain ⟨tgt, ht, hyes⟩ : ∃ tgt : Nat, (pc : Int) + off = (tgt : Int) ∧ (xc co x 0 → xWat p l e R s m args below meth c Qw b B dC dI aC nL S0 tgt ls st S) := by
            cases a with
            | zero => exact ⟨_, k3 rfl, fun z => ih hrest b' ls st S hlen (h.2.1 z)⟩
            | succ n => exact ⟨b', k4 (by omega), fun z => hK _ _ _ _ hlen (h.2.1 z)⟩
          intro g1 g2 lsA H locs hl hR hS
          have z0 : (Int32.ofInt 0) = 0 := rfl
          have e1 : Int32.ofInt x = 0 ↔ x = 0 := by rw [← z0, wr_eq, wr_0, wr_id h.1]
          have e2 : Int32.ofInt x < 0 ↔ x < 0 := by rw [← z0, wr_lt, wr_0, wr_id h.1]
          have e3 : Int32.ofInt x ≤ 0 ↔ x ≤ 0 := by rw [← z0, wr_le, wr_0, wr_id h.1]
          have e4 : 0 < Int32.ofInt x ↔ 0 < x := by rw [← z0, wr_lt, wr_0, wr_id h.1]
          have e5 : 0 ≤ Int32.ofInt x ↔ 0 ≤ x := by rw [← z0, wr_le, wr_0, wr_id h.1]
          cases co
          · exact lv_if_eq hx hb k1 ht (fun z => hyes (e1.mp z) g1 g2 lsA H locs hl hR hS) (fun z => hno (fun q => z (e1.mpr q)) g1 g2 lsA H locs hl hR hS)
          · exact lv_if_ne hx hb k1 ht (fun z => hyes (fun q => z (e1.mpr q)) g1 g2 lsA H locs hl hR hS) (fun z => hno (fun q => q (e1.mp z)) g1 g2 lsA H locs hl hR hS)
          · exact lv_if_lt hx hb k1 ht (fun z => hyes (e2.mp z) g1 g2 lsA H locs hl hR hS) (fun z => hno (fun q => z (e2.mpr q)) g1 g2 lsA H locs hl hR hS)
          · exact lv_if_ge hx hb k1 ht (fun z => hyes (e5.mp z) g1 g2 lsA H locs hl hR hS) (fun z => hno (fun q => z (e5.mpr q)) g1 g2 lsA H locs hl hR hS)
          · exact lv_if_gt hx hb k1 ht (fun z => hyes (e4.mp z) g1 g2 lsA H locs hl hR hS) (fun z => hno (fun q => z (e4.mpr q)) g1 g2 lsA H locs hl hR hS)
          · exact lv_if_le hx hb k1 ht (fun z => hyes (e3.mp z) g1 g2 lsA H locs hl hR hS) (fun z => hno (fun q => z (e3.mpr q)) g1 g2 lsA H locs hl hR hS)
        | goto off =>
          obtain ⟨k1, k3, k4⟩ := hE
          obtain ⟨tgt, ht, hyes⟩ : ∃ tgt : Nat, (pc : Int) + off = (tgt : Int) ∧ xWat p l e R s m args below meth c Qw b B dC dI aC nL S0 tgt ls st S := by
            cases a with
            | zero => exact ⟨_, k3 rfl, ih hrest b' ls st S hlen h⟩
            | succ n => exact ⟨b', k4 (by omega), hK _ _ _ _ hlen h⟩
          intro g1 g2 lsA H locs hl hR hS
          exact lv_goto hx hb k1 ht (hyes g1 g2 lsA H locs hl hR hS)
        | tableswitch dd lo hi offs =>
          obtain ⟨k1, k2, k3, k4⟩ := hE
          rcases st with _ | ⟨x | x, st⟩
          all_goals first | exact h.elim | skip
          intro g1 g2 lsA H locs hl hR hS
          obtain ⟨hrg, h⟩ := h
          have hwx : (Int32.ofInt x).toInt = x := wr_id hrg
          by_cases hc : x < lo ∨ hi < x
          · exact lv_tableOut hx hb k1 (by rw [hwx]; exact hc) (by omega) (hK _ _ _ _ hlen (h.1 hc) g1 g2 lsA H locs hl hR hS)
          · have hc1 : ¬ x < lo := fun q => hc (Or.inl q)
            have hc2 : ¬ hi < x := fun q => hc (Or.inr q)
            have hlt : (x - lo).toNat < offs.size := by omega
            have hget : offs[(x - lo).toNat]? = some offs[(x - lo).toNat] := Array.getElem?_eq_getElem hlt
            have hgd : offs.getD (x - lo).toNat 0 = offs[(x - lo).toNat] := by rw [Array.getD_eq_getD_getElem?, hget]; rfl
            have hn := h.2 hc
            rw [hgd] at hn
            have hpos := k3 offs[(x - lo).toNat] (by rw [Array.mem_toList_iff]; exact Array.getElem_mem hlt)
            exact lv_tableIn hx hb k1 (by rw [hwx]; exact hc1) (by rw [hwx]; exact hc2) (by rw [hwx]; exact hget) (by omega) (hK _ _ _ _ hlen hn g1 g2 lsA H locs hl hR hS)
        | ireturn =>
          rcases st with _ | ⟨x | x, _ | ⟨y, st⟩⟩
          all_goals first | exact h.elim | skip
          obtain ⟨k1, k2, k3, k4⟩ := hE
          subst k2
          have h9 : (a = 2 → x = 0 ∨ x = 1) ∧ Qx (.inl x) S := by
            rcases a with _ | _ | _ | a
            · exact ⟨fun q => by omega, h⟩
            · exact ⟨fun q => by omega, h⟩
            · exact ⟨fun _ => h.1, h.2⟩
            · exact ⟨fun q => by omega, h⟩
          exact hQi pc ls x S k1 ⟨k3, k4⟩ h9.1 h9.2
        | areturn =>
          rcases st with _ | ⟨x | x, _ | ⟨y, st⟩⟩
          all_goals first | exact h.elim | skip
          exact hQa pc ls x S hE.1 hE.2 h
        | return_ =>
          cases st with
          | nil => exact hQv pc ls S hE.1 hE.2 h
          | cons _ _ => exact h.elim
        | invokevirtual i => exact call st rfl hE.1 hE.2.1 hE.2.2 h
        | invokespecial i =>
          by_cases ha : a = 1000
          · subst ha
            exact absurd h.2 (hCn _ (by decide) _ _ _)
          · exact call st rfl hE.1 hE.2.1 (hE.2.2.2 ha) h
        | invokestatic i =>
          by_cases ha : 1001 ≤ a
          · exact absurd h.2 (hCn _ (by unfold xall; omega) _ _ _)
          · exact call st rfl hE.1 hE.2.1 (hE.2.2.2 ha) h
        | _ => exact h.elim
end STR
end
section
/-! ===== a whole method ===== -/
/-- what the answer's kind has to do with the return type -/
def xrk (rk : Nat) (ret : Option FieldType) : Prop := (rk = 0 → ret = none) ∧ (rk = 1 → ret = some .int) ∧ (rk = 2 → ret = some .boolean) ∧ (rk = 3 → ret = some (.array .int)) ∧ rk ≤ 3
def xokT (cc : ByteArray) (own : String) (nL : Nat) (init : Bool) (rk : Nat) (tl : List (Nat × List xI)) : Prop := ∀ q ∈ tl, xpc q.2 0 = q.1 ∧ xokL cc own nL init rk q.2
/-- a method's stretches and tables are in order -/
def xokM (mu : Nat) : Prop := xokT (xcc mu) (xown mu) (xmt mu).2.2.2 (decide ((xy mu).name = "<init>")) (xmt mu).2.1 (xtl mu) ∧ (xy mu).cls = xown mu ∧ (xmt mu).1 ≤ (xmt mu).2.2.2 ∧ xrk (xmt mu).2.1 (xret mu)
theorem xfind_ok {P : Nat → List xI → Prop} : ∀ (tl : List (Nat × List xI)) (pc : Nat), (∀ q ∈ tl, P q.1 q.2) → xfind tl pc = [] ∨ P pc (xfind tl pc) := by
  intro tl
  induction tl with
  | nil => intro pc _; exact Or.inl rfl
  | cons q r ih =>
    intro pc h
    obtain ⟨p, L⟩ := q
    simp only [xfind]
    cases hb : Nat.beq pc p with
    | true =>
      have e : pc = p := Nat.eq_of_beq_eq_true hb
      subst e
      exact Or.inr (h (pc, L) List.mem_cons_self)
    | false => exact ih pc (fun q hq => h q (List.mem_cons_of_mem _ hq))
section METH
variable {p : Program} {l : Launch} {e : Env} {R : Room} {s : State} {m : MethodId} {args : Array Value} {below : List Frame} {meth : Method} {c : Code} {Qw : State → Prop}
variable {b B : Nat} {dC : Nat → ClassId} {dI : Nat → Nat → Nat} {aC : Nat → ClassId} {S0 : xS} {d : Nat}
theorem xcall_none (d mu : Nat) (h : xall ≤ mu) (as : List xV) (S : xS) (Q : xV → xS → Prop) : ¬ xcall xft xNf xmt xtr d mu as S Q := by
  have e : ∀ pc, xtr mu pc = [] := by
    intro pc
    unfold xtr xtl
    have hb : Nat.blt mu xall = false := by
      rw [Bool.eq_false_iff]; intro q; rw [Nat.blt_eq] at q; omega
    unfold xall at hb
    simp only [hb, cond_false, xfind]
  cases d with
  | zero => exact id
  | succ d =>
    rintro ⟨n, h⟩
    cases n with
    | zero => exact h
    | succ n =>
      simp only [xloop, e, xgo] at h
/-- the stretches of a method, fuel by fuel -/
theorem xloop_snd {cc : ByteArray} {own : String} {nL rk mu : Nat} {init : Bool} {Qx : xV → xS → Prop} {C : Nat → List xV → xS → (xV → xS → Prop) → Prop} (hok : xokT cc own nL init rk (xtl mu)) (F : xFx p R s m args meth c cc own nL init dC dI aC)
    (hpt : ∀ a as S, xPt S (C a as S)) (hC : ∀ a as S Q, xmw a → as.length = (xmt a).1 → C a as S Q → ∃ r S', Q r S' ∧ S.1 ≤ S'.1 ∧ S.2.1 ≤ S'.2.1 ∧ xMet l b B dC dI aC d a as S r S') (hCn : ∀ a, xall ≤ a → ∀ as S Q, ¬ C a as S Q) (hRm : d + 1 ≤ R.frames ∧ 41 * (d + 1) ≤ R.locals)
    (hQb : ∀ r S, Qx r S → S.1 - S0.1 ≤ R.cells ∧ S.2.1 - S0.2.1 ≤ R.slots)
    (hQi : ∀ pc ls x S, decode cc pc = .ok (.ireturn, 1) → (rk ≠ 0 ∧ rk ≠ 3) → (rk = 2 → x = 0 ∨ x = 1) → Qx (.inl x) S → xWat p l e R s m args below meth c Qw b B dC dI aC nL S0 pc ls [.inl x] S)
    (hQv : ∀ pc ls S, decode cc pc = .ok (.return_, 1) → rk = 0 → Qx (.inl 0) S → xWat p l e R s m args below meth c Qw b B dC dI aC nL S0 pc ls [] S)
    (hQa : ∀ pc ls r S, decode cc pc = .ok (.areturn, 1) → rk = 3 → Qx (.inr r) S → xWat p l e R s m args below meth c Qw b B dC dI aC nL S0 pc ls [.inr r] S) :
    ∀ (n pc : Nat) (ls : xL) (st : List xV) (S : xS), ls.length = nL → xloop xft xNf xmt xtr C mu Qx n pc ls st S → xWat p l e R s m args below meth c Qw b B dC dI aC nL S0 pc ls st S := by
  intro n
  induction n with
  | zero => intro pc ls st S _ h; exact h.elim
  | succ n ih =>
    intro pc ls st S hl h
    have h9 : xgo xft xNf xmt C (fun pc ls st S => xloop xft xNf xmt xtr C mu Qx n pc ls st S) Qx (xtr mu pc) 0 ls st S := h
    rcases xfind_ok (P := fun pc L => xpc L 0 = pc ∧ xokL cc own nL init rk L) (xtl mu) pc hok with e1 | ⟨e1, e2⟩
    · have e0 : xtr mu pc = [] := e1
      rw [e0] at h9
      simp only [xgo] at h9
    · have hb : ∀ L sk ls st S, xgo xft xNf xmt C (fun pc ls st S => xloop xft xNf xmt xtr C mu Qx n pc ls st S) Qx L sk ls st S → S.1 - S0.1 ≤ R.cells ∧ S.2.1 - S0.2.1 ≤ R.slots := by
        intro L sk ls st S h
        obtain ⟨r, S', k1, k2, k3, -⟩ := xgo_pt (K := fun Q pc ls st S => xloop xft xNf xmt xtr C mu Q n pc ls st S) hpt (fun pc ls st S => xloop_pt hpt mu n pc ls st S) L sk ls st S Qx h
        obtain ⟨q1, q2⟩ := hQb r S' k1
        omega
      have h8 := xgo_snd (Qx := Qx) (K := fun pc ls st S => xloop xft xNf xmt xtr C mu Qx n pc ls st S) F hC hCn hRm hb (fun pc ls st S hl h => ih pc ls st S hl h) hQi hQv hQa (xtr mu pc) e2 0 ls st S hl h9
      have e3 : xpc (xtr mu pc) 0 = pc := e1
      rw [e3] at h8
      exact h8
theorem x_sl (ad : Nat → Nat) (as : List xV) : lg_sl (as.map (xcv ad)) = as.map (fun v => Slot.val (xcv ad v)) := by
  induction as with
  | nil => rfl
  | cons v t ih =>
    unfold lg_sl at ih ⊢
    rw [List.map_cons, List.flatMap_cons, ih]
    have : ¬ (xcv ad v).category = 2 := by rw [xcv_cat]; omega
    rw [if_neg this]
    rfl
theorem x_entry (ad : Nat → Nat) (as : List xV) {n : Nat} (h : as.length ≤ n) : xloc ad ((lg_sl (as.map (xcv ad)) ++ List.replicate (n - (lg_sl (as.map (xcv ad))).length) Slot.unset).toArray) n (xent as n) := by
  have hl : (lg_sl (as.map (xcv ad))).length = as.length := by rw [x_sl, List.length_map]
  have h1 := lv_entry (as.map (xcv ad)) (n := n) (by rw [hl]; exact h)
  refine ⟨h1.1, h1.2.1, by unfold xent; simp; omega, fun i v hi => ?_⟩
  unfold xent at hi
  by_cases hlt : i < as.length
  · rw [List.getElem?_append_left (by simpa using hlt), List.getElem?_map] at hi
    obtain ⟨w, hw, e⟩ := Option.map_eq_some_iff.mp hi
    cases e
    rw [List.getElem?_toArray, List.getElem?_append_left (by rw [hl]; exact hlt), x_sl, List.getElem?_map, hw]
    rfl
  · rw [List.getElem?_append_right (by simp; omega)] at hi
    have := List.mem_replicate.mp (List.mem_of_getElem? hi)
    cases this.2
/-- EVERY METHOD of the small machine meets its contract -/
theorem xmeth_snd (hM : ∀ mu, mu < xlaw → xokM mu) : ∀ (d mu : Nat) (as : List xV) (S S' : xS) (r : xV), xmw mu → as.length = (xmt mu).1 → xcall xft xNf xmt xtr d mu as S (fun r2 S2 => r2 = r ∧ S2 = S') → xMet l b B dC dI aC d mu as S r S' := by
  intro d
  induction d with
  | zero => intro mu as S S' r _ _ h; exact h.elim
  | succ d ih =>
    intro mu as S S' r hw hla h
    obtain ⟨n, h⟩ := h
    obtain ⟨hok, hcls, hnm, hrk⟩ := hM mu hw.2.2.2.2.2
    refine Met.ofW (cc := xcc mu) (maxL := (xmt mu).2.2.2) (ret := xret mu) hw.2.2.2.2.1 rfl ?_
    intro p e s m args below meth c s₁ Bd hml hv
    obtain ⟨rfl, hR, hK⟩ := hv
    have hts0 := atoms_spec (ws := xws mu) Bd.pre
    have hts : ∀ w ∈ xG, w.before (as.map (xcv (xad b B))).toArray s = true := fun w hw => hts0 w (List.mem_cons_of_mem _ hw)
    have hown : s.vm.findClass (xown mu) = some m.cls := by rw [← hcls]; exact findClass_of_methodNamed Bd.named
    have hlocks := Bd.notSynchronized
    have hr := Bd.returns
    have F : xFx p (xrm (d + 1) S S') s m (as.map (xcv (xad b B))).toArray meth c (xcc mu) (xown mu) (xmt mu).2.2.2 (decide ((xy mu).name = "<init>")) dC dI aC :=
      ⟨Bd.exec, Bd.bytes, hml, hown, hts, hK, fun hi => by rw [(name_of_methodNamed Bd.named Bd.method).1]; exact of_decide_eq_true hi, by show 1 ≤ d + 1; omega, by show 41 ≤ 41 * (d + 1); omega⟩
    have h0 := xcall_pt (T := xft) (N := xNf) (mt := xmt) (tr := xtr) (d + 1) mu as S _ ⟨n, h⟩
    obtain ⟨r9, S9, ⟨rfl, rfl⟩, hle1, hle2, -⟩ := h0
    have key := xloop_snd (p := p) (l := l) (e := e) (R := xrm (d + 1) S S9) (s := s) (m := m) (args := (as.map (xcv (xad b B))).toArray) (below := below) (meth := meth) (c := c) (Qw := MQ below (xQc b B dC dI aC (xmt mu).2.1 r9 S9) (as.map (xcv (xad b B))).toArray s (S9.1 - S.1) (S9.2.1 - S.2.1) (fun q => B ≤ q))
      (b := b) (B := B) (dC := dC) (dI := dI) (aC := aC) (S0 := S) (d := d) (Qx := fun r2 S2 => r2 = r9 ∧ S2 = S9) (C := xcall xft xNf xmt xtr d) hok F (fun a as S => xcall_pt d a as S)
      (fun a as S Q hxm hl hc => by
        obtain ⟨r1, S1, k1, k2, k3, k4⟩ := xcall_pt d a as S Q hc
        exact ⟨r1, S1, k1, k2, k3, ih a as S S1 r1 hxm hl (k4 _ ⟨rfl, rfl⟩)⟩)
      (fun a ha as S Q => xcall_none d a ha as S Q) ⟨Nat.le_refl _, Nat.le_refl _⟩
      (fun r2 S2 hq => by obtain ⟨-, rfl⟩ := hq; exact ⟨Nat.le_refl _, Nat.le_refl _⟩)
      (fun pc ls x S2 hdg hne h2 hq => by
        obtain ⟨rfl, rfl⟩ := hq
        intro g1 g2 lsA H locs hl hR2 hS2
        have hty : ∃ ty, xret mu = some ty ∧ narrow ty (.int (Int32.ofInt x)) = .int (Int32.ofInt x) := by
          obtain ⟨-, q1, q2, -, q4⟩ := hrk
          rcases (show (xmt mu).2.1 = 1 ∨ (xmt mu).2.1 = 2 by omega) with e1 | e1
          · exact ⟨_, q1 e1, rfl⟩
          · refine ⟨_, q2 e1, ?_⟩
            rcases h2 e1 with rfl | rfl <;> rfl
        obtain ⟨ty, ht1, ht2⟩ := hty
        have hrv : xrv (xad b B) (xmt mu).2.1 (.inl x) = some (.int (Int32.ofInt x)) := by
          unfold xrv
          have := hne.1
          cases hk : (xmt mu).2.1 with
          | zero => omega
          | succ k => rfl
        exact W.zret Bd.exec Bd.bytes (hr.trans ht1) ht2 (fun t ht hW => ⟨by rw [hrv], by rw [ht]; exact hR2.moved hW.alike, hS2.F ht⟩) hS2.2.2 hdg)
      (fun pc ls S2 hdg h0 hq => by
        obtain ⟨hr0, rfl⟩ := hq
        intro g1 g2 lsA H locs hl hR2 hS2
        have hrv : xrv (xad b B) (xmt mu).2.1 r9 = none := by (unfold xrv; rw [h0]; rfl)
        exact W.vret Bd.exec Bd.bytes (hr.trans (hrk.1 h0)) (fun t ht hW => ⟨by rw [hrv], by rw [ht]; exact hR2.moved hW.alike, hS2.F ht⟩) hS2.2.2 hdg)
      (fun pc ls r2 S2 hdg h3 hq => by
        obtain ⟨rfl, rfl⟩ := hq
        intro g1 g2 lsA H locs hl hR2 hS2
        have hrv : xrv (xad b B) (xmt mu).2.1 (.inr r2) = some (va_rf (r2.map (xad b B))) := by (unfold xrv; rw [h3]; rfl)
        exact W.aret Bd.exec Bd.bytes (hr.trans (hrk.2.2.2.1 h3)) (Or.inr ⟨_, rfl⟩) (by cases r2 <;> first | exact Or.inl rfl | exact Or.inr ⟨_, rfl⟩) (fun t ht hW => ⟨by (rw [hrv]; rfl), by rw [ht]; exact hR2.moved hW.alike, hS2.F ht⟩) hS2.2.2 hdg)
      n 0 (xent as (xmt mu).2.2.2) [] S (by unfold xent; simp; omega) h
    have hk2 := key (Nat.le_refl _) (Nat.le_refl _) _ s.heap [] (x_entry (xad b B) as (by omega)) hR va_S.rf
    rw [lg_entry_eq]
    rw [Nat.sub_self, Nat.sub_self] at hk2
    exact hk2
end METH
end
section
/-! ===== laid by gen.py: where the words stand in lw_tbl ===== -/
def xwi_0 : Nat → Nat := fun k => (bif Nat.blt k 126 then (bif Nat.blt k 65 then (bif Nat.blt k 37 then (bif Nat.blt k 18 then (bif Nat.blt k 11 then (bif Nat.blt k 9 then 193 else 194) else (bif Nat.blt k 12 then 196 else 219)) else (bif Nat.blt k 27 then (bif Nat.blt k 23 then 220 else 221) else (bif Nat.blt k 31 then 222 else (bif Nat.blt k 34 then 223 else 224)))) else (bif Nat.blt k 49 then (bif Nat.blt k 43 then (bif Nat.blt k 40 then 225 else 226) else (bif Nat.blt k 46 then 227 else 228)) else (bif Nat.blt k 55 then (bif Nat.blt k 52 then 229 else 230) else (bif Nat.blt k 58 then 231 else (bif Nat.blt k 61 then 232 else 233))))) else (bif Nat.blt k 98 then (bif Nat.blt k 83 then (bif Nat.blt k 73 then (bif Nat.blt k 69 then 234 else 217) else (bif Nat.blt k 77 then 218 else 621)) else (bif Nat.blt k 87 then (bif Nat.blt k 84 then 617 else 517) else (bif Nat.blt k 91 then 672 else (bif Nat.blt k 95 then 733 else 738)))) else (bif Nat.blt k 112 then (bif Nat.blt k 105 then (bif Nat.blt k 102 then 742 else 758) else (bif Nat.blt k 108 then 762 else 778)) else (bif Nat.blt k 118 then (bif Nat.blt k 115 then 676 else 201) else (bif Nat.blt k 121 then 598 else (bif Nat.blt k 123 then 602 else 681)))))) else (bif Nat.blt k 187 then (bif Nat.blt k 157 then (bif Nat.blt k 139 then (bif Nat.blt k 132 then (bif Nat.blt k 130 then 685 else 606) else (bif Nat.blt k 135 then 689 else 693)) else (bif Nat.blt k 145 then (bif Nat.blt k 142 then 713 else 725) else (bif Nat.blt k 148 then 729 else (bif Nat.blt k 154 then 737 else 205)))) else (bif Nat.blt k 170 then (bif Nat.blt k 164 then (bif Nat.blt k 160 then 203 else 746) else (bif Nat.blt k 167 then 754 else 750)) else (bif Nat.blt k 178 then (bif Nat.blt k 175 then 144 else 721) else (bif Nat.blt k 181 then 207 else (bif Nat.blt k 184 then 717 else 150))))) else (bif Nat.blt k 217 then (bif Nat.blt k 199 then (bif Nat.blt k 193 then (bif Nat.blt k 190 then 766 else 536) else (bif Nat.blt k 196 then 521 else 770)) else (bif Nat.blt k 206 then (bif Nat.blt k 203 then 774 else 559) else (bif Nat.blt k 209 then 782 else (bif Nat.blt k 212 then 530 else 110)))) else (bif Nat.blt k 231 then (bif Nat.blt k 224 then (bif Nat.blt k 220 then 540 else 790) else (bif Nat.blt k 227 then 796 else (bif Nat.blt k 230 then 786 else 550))) else (bif Nat.blt k 238 then (bif Nat.blt k 235 then 553 else 557) else (bif Nat.blt k 241 then 525 else (bif Nat.blt k 244 then 794 else 795)))))))
def xwi_1 : Nat → Nat := fun k => (bif Nat.blt k 17 then (bif Nat.blt k 7 then 199 else (bif Nat.blt k 13 then 200 else 202)) else (bif Nat.blt k 20 then 204 else (bif Nat.blt k 23 then 206 else 697)))
def xwi_2 : Nat → Nat := fun k => (bif Nat.blt k 43 then (bif Nat.blt k 22 then (bif Nat.blt k 15 then (bif Nat.blt k 9 then 305 else 308) else (bif Nat.blt k 19 then 306 else 307)) else (bif Nat.blt k 32 then (bif Nat.blt k 28 then 605 else 889) else (bif Nat.blt k 36 then 903 else (bif Nat.blt k 40 then 904 else 596)))) else (bif Nat.blt k 57 then (bif Nat.blt k 51 then (bif Nat.blt k 47 then 893 else 894) else (bif Nat.blt k 54 then 610 else 613)) else (bif Nat.blt k 65 then (bif Nat.blt k 62 then 148 else 143) else (bif Nat.blt k 68 then 898 else (bif Nat.blt k 71 then 899 else 154)))))
def xwi_3 : Nat → Nat := fun k => (bif Nat.blt k 25 then (bif Nat.blt k 15 then (bif Nat.blt k 9 then 509 else 601) else (bif Nat.blt k 19 then 604 else (bif Nat.blt k 22 then 608 else 609))) else (bif Nat.blt k 31 then (bif Nat.blt k 28 then 612 else (bif Nat.blt k 30 then 510 else 512)) else (bif Nat.blt k 35 then 615 else (bif Nat.blt k 39 then 620 else 595))))
def xwi_4 : Nat → Nat := fun k => (bif Nat.blt k 51 then (bif Nat.blt k 27 then (bif Nat.blt k 15 then (bif Nat.blt k 11 then 321 else 323) else (bif Nat.blt k 18 then 325 else (bif Nat.blt k 24 then 326 else 328))) else (bif Nat.blt k 40 then (bif Nat.blt k 30 then 329 else (bif Nat.blt k 34 then 322 else 616)) else (bif Nat.blt k 43 then 523 else (bif Nat.blt k 47 then 843 else 848)))) else (bif Nat.blt k 69 then (bif Nat.blt k 60 then (bif Nat.blt k 57 then 847 else 542) else (bif Nat.blt k 63 then 533 else (bif Nat.blt k 66 then 538 else 599))) else (bif Nat.blt k 80 then (bif Nat.blt k 72 then 529 else (bif Nat.blt k 77 then 116 else 549)) else (bif Nat.blt k 84 then 852 else (bif Nat.blt k 88 then 853 else 556)))))
def xwi_5 : Nat → Nat := fun k => (bif Nat.blt k 31 then (bif Nat.blt k 19 then (bif Nat.blt k 9 then 138 else (bif Nat.blt k 15 then 140 else 142)) else (bif Nat.blt k 25 then (bif Nat.blt k 22 then 145 else 147) else (bif Nat.blt k 28 then 151 else 152))) else (bif Nat.blt k 44 then (bif Nat.blt k 37 then (bif Nat.blt k 34 then 155 else 156) else (bif Nat.blt k 40 then 158 else 160)) else (bif Nat.blt k 51 then (bif Nat.blt k 47 then 139 else 456) else (bif Nat.blt k 55 then 651 else 437))))
def xwi_6 : Nat → Nat := fun k => (bif Nat.blt k 38 then (bif Nat.blt k 22 then (bif Nat.blt k 15 then (bif Nat.blt k 11 then 515 else 516) else (bif Nat.blt k 19 then 518 else 519)) else (bif Nat.blt k 28 then (bif Nat.blt k 25 then 522 else 524) else (bif Nat.blt k 32 then 526 else (bif Nat.blt k 35 then 528 else 531)))) else (bif Nat.blt k 53 then (bif Nat.blt k 44 then (bif Nat.blt k 41 then 534 else 537) else (bif Nat.blt k 47 then 541 else (bif Nat.blt k 50 then 543 else 545))) else (bif Nat.blt k 60 then (bif Nat.blt k 56 then 547 else 551) else (bif Nat.blt k 63 then 554 else (bif Nat.blt k 66 then 558 else 680)))))
def xwi_7 : Nat → Nat := fun k => (bif Nat.blt k 34 then (bif Nat.blt k 22 then (bif Nat.blt k 15 then (bif Nat.blt k 9 then 104 else 105) else (bif Nat.blt k 18 then 107 else 109)) else (bif Nat.blt k 28 then (bif Nat.blt k 25 then 111 else 112) else (bif Nat.blt k 31 then 113 else 115))) else (bif Nat.blt k 49 then (bif Nat.blt k 42 then (bif Nat.blt k 38 then 397 else 421) else (bif Nat.blt k 46 then 401 else 405)) else (bif Nat.blt k 57 then (bif Nat.blt k 53 then 409 else 413) else (bif Nat.blt k 60 then 417 else 425))))
def xwi_8 : Nat → Nat := fun k => (bif Nat.blt k 66 then (bif Nat.blt k 37 then (bif Nat.blt k 19 then (bif Nat.blt k 9 then 277 else (bif Nat.blt k 15 then 282 else 284)) else (bif Nat.blt k 27 then (bif Nat.blt k 24 then 286 else 288) else (bif Nat.blt k 31 then 281 else 278))) else (bif Nat.blt k 51 then (bif Nat.blt k 40 then 804 else (bif Nat.blt k 45 then 597 else 805)) else (bif Nat.blt k 58 then (bif Nat.blt k 55 then 618 else 532) else (bif Nat.blt k 62 then 806 else 815)))) else (bif Nat.blt k 88 then (bif Nat.blt k 76 then (bif Nat.blt k 70 then 823 else (bif Nat.blt k 73 then 535 else 544)) else (bif Nat.blt k 82 then (bif Nat.blt k 79 then 539 else 546) else (bif Nat.blt k 85 then 548 else 149))) else (bif Nat.blt k 102 then (bif Nat.blt k 95 then (bif Nat.blt k 92 then 552 else 555) else (bif Nat.blt k 99 then 810 else 153)) else (bif Nat.blt k 109 then (bif Nat.blt k 106 then 814 else 611) else (bif Nat.blt k 112 then 819 else 614)))))
def xwi_9 : Nat → Nat := fun k => (bif Nat.blt k 124 then (bif Nat.blt k 59 then (bif Nat.blt k 30 then (bif Nat.blt k 14 then (bif Nat.blt k 9 then (bif Nat.blt k 7 then 96 else 99) else (bif Nat.blt k 10 then 101 else 133)) else (bif Nat.blt k 21 then (bif Nat.blt k 17 then 135 else 343) else (bif Nat.blt k 25 then 344 else (bif Nat.blt k 28 then 345 else 186)))) else (bif Nat.blt k 43 then (bif Nat.blt k 38 then (bif Nat.blt k 34 then 346 else 347) else (bif Nat.blt k 40 then 188 else 190)) else (bif Nat.blt k 49 then (bif Nat.blt k 47 then 348 else 272) else (bif Nat.blt k 52 then 274 else (bif Nat.blt k 56 then 349 else 350))))) else (bif Nat.blt k 88 then (bif Nat.blt k 70 then (bif Nat.blt k 64 then (bif Nat.blt k 61 then 300 else 302) else (bif Nat.blt k 68 then 351 else 316)) else (bif Nat.blt k 77 then (bif Nat.blt k 73 then 318 else 352) else (bif Nat.blt k 81 then 353 else (bif Nat.blt k 85 then 381 else 141)))) else (bif Nat.blt k 108 then (bif Nat.blt k 96 then (bif Nat.blt k 92 then 389 else 393) else (bif Nat.blt k 100 then 433 else (bif Nat.blt k 104 then 445 else 468))) else (bif Nat.blt k 114 then (bif Nat.blt k 111 then 469 else 476) else (bif Nat.blt k 117 then 157 else (bif Nat.blt k 121 then 477 else 146)))))) else (bif Nat.blt k 190 then (bif Nat.blt k 153 then (bif Nat.blt k 138 then (bif Nat.blt k 131 then (bif Nat.blt k 127 then 492 else 500) else (bif Nat.blt k 135 then 501 else 506)) else (bif Nat.blt k 143 then (bif Nat.blt k 141 then 643 else 603) else (bif Nat.blt k 146 then 600 else (bif Nat.blt k 150 then 647 else 460)))) else (bif Nat.blt k 172 then (bif Nat.blt k 161 then (bif Nat.blt k 157 then 652 else 656) else (bif Nat.blt k 164 then 664 else (bif Nat.blt k 168 then 668 else 800))) else (bif Nat.blt k 178 then (bif Nat.blt k 175 then 283 else 285) else (bif Nat.blt k 183 then 287 else (bif Nat.blt k 187 then 619 else 520))))) else (bif Nat.blt k 214 then (bif Nat.blt k 201 then (bif Nat.blt k 197 then (bif Nat.blt k 193 then 527 else 839) else (bif Nat.blt k 198 then 327 else 324)) else (bif Nat.blt k 205 then (bif Nat.blt k 204 then 114 else 106) else (bif Nat.blt k 208 then 108 else (bif Nat.blt k 211 then 866 else 874)))) else (bif Nat.blt k 231 then (bif Nat.blt k 220 then (bif Nat.blt k 217 then 878 else 449) else (bif Nat.blt k 224 then 450 else (bif Nat.blt k 228 then 451 else 452))) else (bif Nat.blt k 238 then (bif Nat.blt k 235 then 161 else 159) else (bif Nat.blt k 241 then 607 else (bif Nat.blt k 246 then 882 else 885)))))))
def xwi_10 : Nat → Nat := fun k => (bif Nat.blt k 155 then (bif Nat.blt k 84 then (bif Nat.blt k 44 then (bif Nat.blt k 26 then (bif Nat.blt k 17 then (bif Nat.blt k 7 then 913 else (bif Nat.blt k 13 then 918 else 919)) else (bif Nat.blt k 20 then 920 else (bif Nat.blt k 23 then 921 else 922))) else (bif Nat.blt k 35 then (bif Nat.blt k 29 then 923 else (bif Nat.blt k 32 then 924 else 925)) else (bif Nat.blt k 38 then 926 else (bif Nat.blt k 41 then 928 else 929)))) else (bif Nat.blt k 63 then (bif Nat.blt k 53 then (bif Nat.blt k 47 then 930 else (bif Nat.blt k 50 then 931 else 932)) else (bif Nat.blt k 56 then 933 else (bif Nat.blt k 60 then 934 else 936))) else (bif Nat.blt k 72 then (bif Nat.blt k 66 then 937 else (bif Nat.blt k 69 then 938 else 939)) else (bif Nat.blt k 78 then (bif Nat.blt k 75 then 940 else 941) else (bif Nat.blt k 81 then 943 else 944))))) else (bif Nat.blt k 115 then (bif Nat.blt k 99 then (bif Nat.blt k 91 then (bif Nat.blt k 87 then 945 else (bif Nat.blt k 90 then 946 else 914)) else (bif Nat.blt k 94 then 947 else (bif Nat.blt k 95 then 915 else 949))) else (bif Nat.blt k 106 then (bif Nat.blt k 100 then 916 else (bif Nat.blt k 103 then 951 else 953)) else (bif Nat.blt k 109 then 954 else (bif Nat.blt k 112 then 955 else 956)))) else (bif Nat.blt k 133 then (bif Nat.blt k 124 then (bif Nat.blt k 118 then 957 else (bif Nat.blt k 121 then 958 else 964)) else (bif Nat.blt k 127 then 966 else (bif Nat.blt k 130 then 968 else 969))) else (bif Nat.blt k 142 then (bif Nat.blt k 136 then 970 else (bif Nat.blt k 139 then 971 else 917)) else (bif Nat.blt k 149 then (bif Nat.blt k 146 then 1095 else 927) else (bif Nat.blt k 152 then 935 else 942)))))) else (bif Nat.blt k 236 then (bif Nat.blt k 196 then (bif Nat.blt k 177 then (bif Nat.blt k 166 then (bif Nat.blt k 158 then 1099 else (bif Nat.blt k 162 then 1103 else 1111)) else (bif Nat.blt k 170 then 1119 else (bif Nat.blt k 173 then 1123 else 1127))) else (bif Nat.blt k 186 then (bif Nat.blt k 180 then 1130 else (bif Nat.blt k 183 then 1134 else 1142)) else (bif Nat.blt k 190 then 1145 else (bif Nat.blt k 193 then 1153 else 1157)))) else (bif Nat.blt k 214 then (bif Nat.blt k 205 then (bif Nat.blt k 199 then 1185 else (bif Nat.blt k 202 then 1181 else 1285)) else (bif Nat.blt k 208 then 1213 else (bif Nat.blt k 211 then 959 else 948))) else (bif Nat.blt k 224 then (bif Nat.blt k 217 then 950 else (bif Nat.blt k 220 then 960 else 961)) else (bif Nat.blt k 230 then (bif Nat.blt k 227 then 962 else 963) else (bif Nat.blt k 233 then 965 else 952))))) else (bif Nat.blt k 275 then (bif Nat.blt k 256 then (bif Nat.blt k 246 then (bif Nat.blt k 239 then 1205 else (bif Nat.blt k 242 then 1209 else 1217)) else (bif Nat.blt k 250 then 1221 else (bif Nat.blt k 253 then 1229 else 1241))) else (bif Nat.blt k 266 then (bif Nat.blt k 259 then 1225 else (bif Nat.blt k 262 then 1233 else 1237)) else (bif Nat.blt k 269 then 1245 else (bif Nat.blt k 272 then 1265 else 1249)))) else (bif Nat.blt k 295 then (bif Nat.blt k 285 then (bif Nat.blt k 278 then 1269 else (bif Nat.blt k 281 then 967 else 1253)) else (bif Nat.blt k 289 then 1273 else (bif Nat.blt k 292 then 1277 else 1261))) else (bif Nat.blt k 305 then (bif Nat.blt k 298 then 1257 else (bif Nat.blt k 302 then 1201 else 1193)) else (bif Nat.blt k 312 then (bif Nat.blt k 308 then 1197 else 1281) else (bif Nat.blt k 315 then 972 else 1313)))))))
def xwi_11 : Nat → Nat := fun k => (bif Nat.blt k 316 then (bif Nat.blt k 304 then 710 else 707) else (bif Nat.blt k 317 then 700 else 706))
def xwi_12 : Nat → Nat := fun k => (bif Nat.blt k 52 then (bif Nat.blt k 28 then (bif Nat.blt k 17 then (bif Nat.blt k 10 then (bif Nat.blt k 9 then 91 else 93) else (bif Nat.blt k 12 then 908 else (bif Nat.blt k 13 then 910 else 377))) else (bif Nat.blt k 22 then (bif Nat.blt k 18 then 1087 else 385) else (bif Nat.blt k 23 then 1091 else (bif Nat.blt k 27 then 429 else 1107)))) else (bif Nat.blt k 40 then (bif Nat.blt k 32 then (bif Nat.blt k 31 then 441 else 1115) else (bif Nat.blt k 36 then 464 else (bif Nat.blt k 37 then 1138 else 472))) else (bif Nat.blt k 45 then (bif Nat.blt k 41 then 1149 else (bif Nat.blt k 44 then 480 else 1161)) else (bif Nat.blt k 48 then 484 else (bif Nat.blt k 49 then 1165 else 488))))) else (bif Nat.blt k 74 then (bif Nat.blt k 63 then (bif Nat.blt k 57 then (bif Nat.blt k 53 then 1169 else 496) else (bif Nat.blt k 58 then 1173 else (bif Nat.blt k 62 then 639 else 1177))) else (bif Nat.blt k 67 then (bif Nat.blt k 66 then 660 else 1189) else (bif Nat.blt k 70 then 827 else (bif Nat.blt k 71 then 1289 else 831)))) else (bif Nat.blt k 83 then (bif Nat.blt k 78 then (bif Nat.blt k 75 then 1293 else 835) else (bif Nat.blt k 79 then 1297 else (bif Nat.blt k 82 then 854 else 1301))) else (bif Nat.blt k 90 then (bif Nat.blt k 86 then 858 else (bif Nat.blt k 87 then 1305 else 862)) else (bif Nat.blt k 91 then 1309 else (bif Nat.blt k 94 then 870 else 1316))))))
def xwi : Nat → Nat → Nat := fun c => (bif Nat.blt c 6 then (bif Nat.blt c 3 then (bif Nat.blt c 1 then xwi_0 else (bif Nat.blt c 2 then xwi_1 else xwi_2)) else (bif Nat.blt c 4 then xwi_3 else (bif Nat.blt c 5 then xwi_4 else xwi_5))) else (bif Nat.blt c 9 then (bif Nat.blt c 7 then xwi_6 else (bif Nat.blt c 8 then xwi_7 else xwi_8)) else (bif Nat.blt c 11 then (bif Nat.blt c 10 then xwi_9 else xwi_10) else (bif Nat.blt c 12 then xwi_11 else xwi_12))))
def xoc : Nat → Nat := fun k => (bif Nat.blt k 81 then (bif Nat.blt k 40 then (bif Nat.blt k 20 then (bif Nat.blt k 10 then (bif Nat.blt k 5 then (bif Nat.blt k 2 then (bif Nat.blt k 1 then 0 else 0) else (bif Nat.blt k 3 then 0 else (bif Nat.blt k 4 then 0 else 0))) else (bif Nat.blt k 7 then (bif Nat.blt k 6 then 0 else 0) else (bif Nat.blt k 8 then 0 else (bif Nat.blt k 9 then 0 else 0)))) else (bif Nat.blt k 15 then (bif Nat.blt k 12 then (bif Nat.blt k 11 then 0 else 0) else (bif Nat.blt k 13 then 0 else (bif Nat.blt k 14 then 0 else 0))) else (bif Nat.blt k 17 then (bif Nat.blt k 16 then 0 else 0) else (bif Nat.blt k 18 then 0 else (bif Nat.blt k 19 then 0 else 0))))) else (bif Nat.blt k 30 then (bif Nat.blt k 25 then (bif Nat.blt k 22 then (bif Nat.blt k 21 then 0 else 1) else (bif Nat.blt k 23 then 1 else (bif Nat.blt k 24 then 2 else 2))) else (bif Nat.blt k 27 then (bif Nat.blt k 26 then 2 else 2) else (bif Nat.blt k 28 then 2 else (bif Nat.blt k 29 then 2 else 3)))) else (bif Nat.blt k 35 then (bif Nat.blt k 32 then (bif Nat.blt k 31 then 3 else 3) else (bif Nat.blt k 33 then 3 else (bif Nat.blt k 34 then 3 else 4))) else (bif Nat.blt k 37 then (bif Nat.blt k 36 then 4 else 4) else (bif Nat.blt k 38 then 4 else (bif Nat.blt k 39 then 5 else 5)))))) else (bif Nat.blt k 60 then (bif Nat.blt k 50 then (bif Nat.blt k 45 then (bif Nat.blt k 42 then (bif Nat.blt k 41 then 5 else 5) else (bif Nat.blt k 43 then 5 else (bif Nat.blt k 44 then 5 else 5))) else (bif Nat.blt k 47 then (bif Nat.blt k 46 then 5 else 5) else (bif Nat.blt k 48 then 6 else (bif Nat.blt k 49 then 6 else 6)))) else (bif Nat.blt k 55 then (bif Nat.blt k 52 then (bif Nat.blt k 51 then 6 else 6) else (bif Nat.blt k 53 then 6 else (bif Nat.blt k 54 then 7 else 7))) else (bif Nat.blt k 57 then (bif Nat.blt k 56 then 7 else 7) else (bif Nat.blt k 58 then 7 else (bif Nat.blt k 59 then 7 else 7))))) else (bif Nat.blt k 70 then (bif Nat.blt k 65 then (bif Nat.blt k 62 then (bif Nat.blt k 61 then 7 else 7) else (bif Nat.blt k 63 then 7 else (bif Nat.blt k 64 then 7 else 7))) else (bif Nat.blt k 67 then (bif Nat.blt k 66 then 8 else 8) else (bif Nat.blt k 68 then 8 else (bif Nat.blt k 69 then 8 else 8)))) else (bif Nat.blt k 75 then (bif Nat.blt k 72 then (bif Nat.blt k 71 then 8 else 8) else (bif Nat.blt k 73 then 9 else (bif Nat.blt k 74 then 9 else 9))) else (bif Nat.blt k 78 then (bif Nat.blt k 76 then 9 else (bif Nat.blt k 77 then 9 else 9)) else (bif Nat.blt k 79 then 9 else (bif Nat.blt k 80 then 9 else 9))))))) else (bif Nat.blt k 122 then (bif Nat.blt k 101 then (bif Nat.blt k 91 then (bif Nat.blt k 86 then (bif Nat.blt k 83 then (bif Nat.blt k 82 then 9 else 9) else (bif Nat.blt k 84 then 9 else (bif Nat.blt k 85 then 9 else 9))) else (bif Nat.blt k 88 then (bif Nat.blt k 87 then 9 else 9) else (bif Nat.blt k 89 then 9 else (bif Nat.blt k 90 then 9 else 9)))) else (bif Nat.blt k 96 then (bif Nat.blt k 93 then (bif Nat.blt k 92 then 9 else 9) else (bif Nat.blt k 94 then 9 else (bif Nat.blt k 95 then 9 else 9))) else (bif Nat.blt k 98 then (bif Nat.blt k 97 then 9 else 9) else (bif Nat.blt k 99 then 9 else (bif Nat.blt k 100 then 9 else 10))))) else (bif Nat.blt k 111 then (bif Nat.blt k 106 then (bif Nat.blt k 103 then (bif Nat.blt k 102 then 10 else 10) else (bif Nat.blt k 104 then 10 else (bif Nat.blt k 105 then 10 else 10))) else (bif Nat.blt k 108 then (bif Nat.blt k 107 then 10 else 10) else (bif Nat.blt k 109 then 10 else (bif Nat.blt k 110 then 10 else 10)))) else (bif Nat.blt k 116 then (bif Nat.blt k 113 then (bif Nat.blt k 112 then 10 else 10) else (bif Nat.blt k 114 then 10 else (bif Nat.blt k 115 then 10 else 10))) else (bif Nat.blt k 119 then (bif Nat.blt k 117 then 10 else (bif Nat.blt k 118 then 10 else 10)) else (bif Nat.blt k 120 then 10 else (bif Nat.blt k 121 then 10 else 10)))))) else (bif Nat.blt k 142 then (bif Nat.blt k 132 then (bif Nat.blt k 127 then (bif Nat.blt k 124 then (bif Nat.blt k 123 then 10 else 10) else (bif Nat.blt k 125 then 10 else (bif Nat.blt k 126 then 10 else 10))) else (bif Nat.blt k 129 then (bif Nat.blt k 128 then 10 else 10) else (bif Nat.blt k 130 then 10 else (bif Nat.blt k 131 then 10 else 10)))) else (bif Nat.blt k 137 then (bif Nat.blt k 134 then (bif Nat.blt k 133 then 10 else 10) else (bif Nat.blt k 135 then 10 else (bif Nat.blt k 136 then 10 else 10))) else (bif Nat.blt k 139 then (bif Nat.blt k 138 then 10 else 10) else (bif Nat.blt k 140 then 10 else (bif Nat.blt k 141 then 10 else 10))))) else (bif Nat.blt k 152 then (bif Nat.blt k 147 then (bif Nat.blt k 144 then (bif Nat.blt k 143 then 10 else 10) else (bif Nat.blt k 145 then 10 else (bif Nat.blt k 146 then 10 else 10))) else (bif Nat.blt k 149 then (bif Nat.blt k 148 then 10 else 10) else (bif Nat.blt k 150 then 10 else (bif Nat.blt k 151 then 10 else 10)))) else (bif Nat.blt k 157 then (bif Nat.blt k 154 then (bif Nat.blt k 153 then 10 else 10) else (bif Nat.blt k 155 then 10 else (bif Nat.blt k 156 then 10 else 10))) else (bif Nat.blt k 160 then (bif Nat.blt k 158 then 10 else (bif Nat.blt k 159 then 10 else 10)) else (bif Nat.blt k 161 then 11 else (bif Nat.blt k 162 then 11 else 12))))))))
def xwac : Nat → Nat := fun k => bif Nat.beq k 1 then 132 else bif Nat.beq k 2 then 185 else 1086
def xwin : Nat → Nat := fun k => (bif Nat.blt k 5 then (bif Nat.blt k 2 then (bif Nat.blt k 1 then 189 else 195) else (bif Nat.blt k 3 then 301 else (bif Nat.blt k 4 then 505 else 317))) else (bif Nat.blt k 8 then (bif Nat.blt k 6 then 134 else (bif Nat.blt k 7 then 511 else 100)) else (bif Nat.blt k 9 then 273 else (bif Nat.blt k 10 then 92 else 909))))
def xwit : Nat → Nat := fun k => (bif Nat.blt k 5 then (bif Nat.blt k 2 then (bif Nat.blt k 1 then 80 else 81) else (bif Nat.blt k 3 then 84 else (bif Nat.blt k 4 then 87 else 85))) else (bif Nat.blt k 8 then (bif Nat.blt k 6 then 79 else (bif Nat.blt k 7 then 88 else 78)) else (bif Nat.blt k 9 then 82 else (bif Nat.blt k 10 then 77 else 86))))
def xwmc : Nat → Nat := fun k => (bif Nat.blt k 81 then (bif Nat.blt k 40 then (bif Nat.blt k 20 then (bif Nat.blt k 10 then (bif Nat.blt k 5 then (bif Nat.blt k 2 then (bif Nat.blt k 1 then 192 else 671) else (bif Nat.blt k 3 then 675 else (bif Nat.blt k 4 then 728 else 732))) else (bif Nat.blt k 7 then (bif Nat.blt k 6 then 736 else 745) else (bif Nat.blt k 8 then 741 else (bif Nat.blt k 9 then 761 else 749)))) else (bif Nat.blt k 15 then (bif Nat.blt k 12 then (bif Nat.blt k 11 then 757 else 753) else (bif Nat.blt k 13 then 716 else (bif Nat.blt k 14 then 720 else 765))) else (bif Nat.blt k 17 then (bif Nat.blt k 16 then 773 else 781) else (bif Nat.blt k 18 then 785 else (bif Nat.blt k 19 then 789 else 799))))) else (bif Nat.blt k 30 then (bif Nat.blt k 25 then (bif Nat.blt k 22 then (bif Nat.blt k 21 then 793 else 198) else (bif Nat.blt k 23 then 696 else (bif Nat.blt k 24 then 304 else 888))) else (bif Nat.blt k 27 then (bif Nat.blt k 26 then 892 else 907) else (bif Nat.blt k 28 then 897 else (bif Nat.blt k 29 then 902 else 508)))) else (bif Nat.blt k 35 then (bif Nat.blt k 32 then (bif Nat.blt k 31 then 659 else 692) else (bif Nat.blt k 33 then 777 else (bif Nat.blt k 34 then 877 else 320))) else (bif Nat.blt k 37 then (bif Nat.blt k 36 then 842 else 846) else (bif Nat.blt k 38 then 851 else (bif Nat.blt k 39 then 137 else 459)))))) else (bif Nat.blt k 60 then (bif Nat.blt k 50 then (bif Nat.blt k 45 then (bif Nat.blt k 42 then (bif Nat.blt k 41 then 455 else 650) else (bif Nat.blt k 43 then 495 else (bif Nat.blt k 44 then 463 else 724))) else (bif Nat.blt k 47 then (bif Nat.blt k 46 then 436 else 440) else (bif Nat.blt k 48 then 514 else (bif Nat.blt k 49 then 679 else 769)))) else (bif Nat.blt k 55 then (bif Nat.blt k 52 then (bif Nat.blt k 51 then 684 else 688) else (bif Nat.blt k 53 then 822 else (bif Nat.blt k 54 then 103 else 400))) else (bif Nat.blt k 57 then (bif Nat.blt k 56 then 424 else 420) else (bif Nat.blt k 58 then 428 else (bif Nat.blt k 59 then 404 else 504))))) else (bif Nat.blt k 70 then (bif Nat.blt k 65 then (bif Nat.blt k 62 then (bif Nat.blt k 61 then 384 else 396) else (bif Nat.blt k 63 then 408 else (bif Nat.blt k 64 then 412 else 416))) else (bif Nat.blt k 67 then (bif Nat.blt k 66 then 276 else 667) else (bif Nat.blt k 68 then 803 else (bif Nat.blt k 69 then 809 else 813)))) else (bif Nat.blt k 75 then (bif Nat.blt k 72 then (bif Nat.blt k 71 then 818 else 826) else (bif Nat.blt k 73 then 95 else (bif Nat.blt k 74 then 380 else 388))) else (bif Nat.blt k 78 then (bif Nat.blt k 76 then 432 else (bif Nat.blt k 77 then 444 else 467)) else (bif Nat.blt k 79 then 475 else (bif Nat.blt k 80 then 483 else 487))))))) else (bif Nat.blt k 122 then (bif Nat.blt k 101 then (bif Nat.blt k 91 then (bif Nat.blt k 86 then (bif Nat.blt k 83 then (bif Nat.blt k 82 then 491 else 499) else (bif Nat.blt k 84 then 642 else (bif Nat.blt k 85 then 663 else 830))) else (bif Nat.blt k 88 then (bif Nat.blt k 87 then 834 else 838) else (bif Nat.blt k 89 then 857 else (bif Nat.blt k 90 then 861 else 865)))) else (bif Nat.blt k 96 then (bif Nat.blt k 93 then (bif Nat.blt k 92 then 873 else 392) else (bif Nat.blt k 94 then 448 else (bif Nat.blt k 95 then 646 else 471))) else (bif Nat.blt k 98 then (bif Nat.blt k 97 then 479 else 655) else (bif Nat.blt k 99 then 869 else (bif Nat.blt k 100 then 881 else 912))))) else (bif Nat.blt k 111 then (bif Nat.blt k 106 then (bif Nat.blt k 103 then (bif Nat.blt k 102 then 1098 else 1090) else (bif Nat.blt k 104 then 1094 else (bif Nat.blt k 105 then 1106 else 1102))) else (bif Nat.blt k 108 then (bif Nat.blt k 107 then 1122 else 1126) else (bif Nat.blt k 109 then 1133 else (bif Nat.blt k 110 then 1114 else 1110)))) else (bif Nat.blt k 116 then (bif Nat.blt k 113 then (bif Nat.blt k 112 then 1137 else 1129) else (bif Nat.blt k 114 then 1118 else (bif Nat.blt k 115 then 1148 else 1144))) else (bif Nat.blt k 119 then (bif Nat.blt k 117 then 1156 else (bif Nat.blt k 118 then 1160 else 1141)) else (bif Nat.blt k 120 then 1152 else (bif Nat.blt k 121 then 1164 else 1168)))))) else (bif Nat.blt k 142 then (bif Nat.blt k 132 then (bif Nat.blt k 127 then (bif Nat.blt k 124 then (bif Nat.blt k 123 then 1172 else 1176) else (bif Nat.blt k 125 then 1184 else (bif Nat.blt k 126 then 1216 else 1188))) else (bif Nat.blt k 129 then (bif Nat.blt k 128 then 1180 else 1288) else (bif Nat.blt k 130 then 1284 else (bif Nat.blt k 131 then 1208 else 1212)))) else (bif Nat.blt k 137 then (bif Nat.blt k 134 then (bif Nat.blt k 133 then 1232 else 1220) else (bif Nat.blt k 135 then 1244 else (bif Nat.blt k 136 then 1204 else 1252))) else (bif Nat.blt k 139 then (bif Nat.blt k 138 then 1228 else 1236) else (bif Nat.blt k 140 then 1240 else (bif Nat.blt k 141 then 1224 else 1248))))) else (bif Nat.blt k 152 then (bif Nat.blt k 147 then (bif Nat.blt k 144 then (bif Nat.blt k 143 then 1268 else 1272) else (bif Nat.blt k 145 then 1280 else (bif Nat.blt k 146 then 1276 else 1264))) else (bif Nat.blt k 149 then (bif Nat.blt k 148 then 1260 else 1256) else (bif Nat.blt k 150 then 1200 else (bif Nat.blt k 151 then 1196 else 1192)))) else (bif Nat.blt k 157 then (bif Nat.blt k 154 then (bif Nat.blt k 153 then 1292 else 1296) else (bif Nat.blt k 155 then 1300 else (bif Nat.blt k 156 then 1304 else 1308))) else (bif Nat.blt k 160 then (bif Nat.blt k 158 then 1315 else (bif Nat.blt k 159 then 1312 else 1319)) else (bif Nat.blt k 161 then 280 else (bif Nat.blt k 162 then 699 else 0))))))))
def xwmi : Nat → Nat := fun k => (bif Nat.blt k 81 then (bif Nat.blt k 40 then (bif Nat.blt k 20 then (bif Nat.blt k 10 then (bif Nat.blt k 5 then (bif Nat.blt k 2 then (bif Nat.blt k 1 then 80 else 80) else (bif Nat.blt k 3 then 80 else (bif Nat.blt k 4 then 80 else 80))) else (bif Nat.blt k 7 then (bif Nat.blt k 6 then 80 else 80) else (bif Nat.blt k 8 then 80 else (bif Nat.blt k 9 then 80 else 80)))) else (bif Nat.blt k 15 then (bif Nat.blt k 12 then (bif Nat.blt k 11 then 80 else 80) else (bif Nat.blt k 13 then 80 else (bif Nat.blt k 14 then 80 else 80))) else (bif Nat.blt k 17 then (bif Nat.blt k 16 then 80 else 80) else (bif Nat.blt k 18 then 80 else (bif Nat.blt k 19 then 80 else 80))))) else (bif Nat.blt k 30 then (bif Nat.blt k 25 then (bif Nat.blt k 22 then (bif Nat.blt k 21 then 80 else 81) else (bif Nat.blt k 23 then 81 else (bif Nat.blt k 24 then 84 else 84))) else (bif Nat.blt k 27 then (bif Nat.blt k 26 then 84 else 84) else (bif Nat.blt k 28 then 84 else (bif Nat.blt k 29 then 84 else 87)))) else (bif Nat.blt k 35 then (bif Nat.blt k 32 then (bif Nat.blt k 31 then 87 else 87) else (bif Nat.blt k 33 then 87 else (bif Nat.blt k 34 then 87 else 85))) else (bif Nat.blt k 37 then (bif Nat.blt k 36 then 85 else 85) else (bif Nat.blt k 38 then 85 else (bif Nat.blt k 39 then 79 else 79)))))) else (bif Nat.blt k 60 then (bif Nat.blt k 50 then (bif Nat.blt k 45 then (bif Nat.blt k 42 then (bif Nat.blt k 41 then 79 else 79) else (bif Nat.blt k 43 then 79 else (bif Nat.blt k 44 then 79 else 79))) else (bif Nat.blt k 47 then (bif Nat.blt k 46 then 79 else 79) else (bif Nat.blt k 48 then 88 else (bif Nat.blt k 49 then 88 else 88)))) else (bif Nat.blt k 55 then (bif Nat.blt k 52 then (bif Nat.blt k 51 then 88 else 88) else (bif Nat.blt k 53 then 88 else (bif Nat.blt k 54 then 78 else 78))) else (bif Nat.blt k 57 then (bif Nat.blt k 56 then 78 else 78) else (bif Nat.blt k 58 then 78 else (bif Nat.blt k 59 then 78 else 78))))) else (bif Nat.blt k 70 then (bif Nat.blt k 65 then (bif Nat.blt k 62 then (bif Nat.blt k 61 then 78 else 78) else (bif Nat.blt k 63 then 78 else (bif Nat.blt k 64 then 78 else 78))) else (bif Nat.blt k 67 then (bif Nat.blt k 66 then 82 else 82) else (bif Nat.blt k 68 then 82 else (bif Nat.blt k 69 then 82 else 82)))) else (bif Nat.blt k 75 then (bif Nat.blt k 72 then (bif Nat.blt k 71 then 82 else 82) else (bif Nat.blt k 73 then 77 else (bif Nat.blt k 74 then 77 else 77))) else (bif Nat.blt k 78 then (bif Nat.blt k 76 then 77 else (bif Nat.blt k 77 then 77 else 77)) else (bif Nat.blt k 79 then 77 else (bif Nat.blt k 80 then 77 else 77))))))) else (bif Nat.blt k 122 then (bif Nat.blt k 101 then (bif Nat.blt k 91 then (bif Nat.blt k 86 then (bif Nat.blt k 83 then (bif Nat.blt k 82 then 77 else 77) else (bif Nat.blt k 84 then 77 else (bif Nat.blt k 85 then 77 else 77))) else (bif Nat.blt k 88 then (bif Nat.blt k 87 then 77 else 77) else (bif Nat.blt k 89 then 77 else (bif Nat.blt k 90 then 77 else 77)))) else (bif Nat.blt k 96 then (bif Nat.blt k 93 then (bif Nat.blt k 92 then 77 else 77) else (bif Nat.blt k 94 then 77 else (bif Nat.blt k 95 then 77 else 77))) else (bif Nat.blt k 98 then (bif Nat.blt k 97 then 77 else 77) else (bif Nat.blt k 99 then 77 else (bif Nat.blt k 100 then 77 else 86))))) else (bif Nat.blt k 111 then (bif Nat.blt k 106 then (bif Nat.blt k 103 then (bif Nat.blt k 102 then 86 else 86) else (bif Nat.blt k 104 then 86 else (bif Nat.blt k 105 then 86 else 86))) else (bif Nat.blt k 108 then (bif Nat.blt k 107 then 86 else 86) else (bif Nat.blt k 109 then 86 else (bif Nat.blt k 110 then 86 else 86)))) else (bif Nat.blt k 116 then (bif Nat.blt k 113 then (bif Nat.blt k 112 then 86 else 86) else (bif Nat.blt k 114 then 86 else (bif Nat.blt k 115 then 86 else 86))) else (bif Nat.blt k 119 then (bif Nat.blt k 117 then 86 else (bif Nat.blt k 118 then 86 else 86)) else (bif Nat.blt k 120 then 86 else (bif Nat.blt k 121 then 86 else 86)))))) else (bif Nat.blt k 142 then (bif Nat.blt k 132 then (bif Nat.blt k 127 then (bif Nat.blt k 124 then (bif Nat.blt k 123 then 86 else 86) else (bif Nat.blt k 125 then 86 else (bif Nat.blt k 126 then 86 else 86))) else (bif Nat.blt k 129 then (bif Nat.blt k 128 then 86 else 86) else (bif Nat.blt k 130 then 86 else (bif Nat.blt k 131 then 86 else 86)))) else (bif Nat.blt k 137 then (bif Nat.blt k 134 then (bif Nat.blt k 133 then 86 else 86) else (bif Nat.blt k 135 then 86 else (bif Nat.blt k 136 then 86 else 86))) else (bif Nat.blt k 139 then (bif Nat.blt k 138 then 86 else 86) else (bif Nat.blt k 140 then 86 else (bif Nat.blt k 141 then 86 else 86))))) else (bif Nat.blt k 152 then (bif Nat.blt k 147 then (bif Nat.blt k 144 then (bif Nat.blt k 143 then 86 else 86) else (bif Nat.blt k 145 then 86 else (bif Nat.blt k 146 then 86 else 86))) else (bif Nat.blt k 149 then (bif Nat.blt k 148 then 86 else 86) else (bif Nat.blt k 150 then 86 else (bif Nat.blt k 151 then 86 else 86)))) else (bif Nat.blt k 157 then (bif Nat.blt k 154 then (bif Nat.blt k 153 then 86 else 86) else (bif Nat.blt k 155 then 86 else (bif Nat.blt k 156 then 86 else 86))) else (bif Nat.blt k 160 then (bif Nat.blt k 158 then 86 else (bif Nat.blt k 159 then 86 else 86)) else (bif Nat.blt k 161 then 83 else (bif Nat.blt k 162 then 83 else 76))))))))
def xwmm : Nat → Nat := fun k => (bif Nat.blt k 81 then (bif Nat.blt k 40 then (bif Nat.blt k 20 then (bif Nat.blt k 10 then (bif Nat.blt k 5 then (bif Nat.blt k 2 then (bif Nat.blt k 1 then 191 else 669) else (bif Nat.blt k 3 then 674 else (bif Nat.blt k 4 then 727 else 731))) else (bif Nat.blt k 7 then (bif Nat.blt k 6 then 735 else 744) else (bif Nat.blt k 8 then 740 else (bif Nat.blt k 9 then 760 else 748)))) else (bif Nat.blt k 15 then (bif Nat.blt k 12 then (bif Nat.blt k 11 then 756 else 752) else (bif Nat.blt k 13 then 715 else (bif Nat.blt k 14 then 719 else 764))) else (bif Nat.blt k 17 then (bif Nat.blt k 16 then 772 else 780) else (bif Nat.blt k 18 then 784 else (bif Nat.blt k 19 then 788 else 798))))) else (bif Nat.blt k 30 then (bif Nat.blt k 25 then (bif Nat.blt k 22 then (bif Nat.blt k 21 then 792 else 197) else (bif Nat.blt k 23 then 694 else (bif Nat.blt k 24 then 303 else 886))) else (bif Nat.blt k 27 then (bif Nat.blt k 26 then 891 else 906) else (bif Nat.blt k 28 then 896 else (bif Nat.blt k 29 then 901 else 507)))) else (bif Nat.blt k 35 then (bif Nat.blt k 32 then (bif Nat.blt k 31 then 657 else 690) else (bif Nat.blt k 33 then 775 else (bif Nat.blt k 34 then 875 else 319))) else (bif Nat.blt k 37 then (bif Nat.blt k 36 then 840 else 845) else (bif Nat.blt k 38 then 850 else (bif Nat.blt k 39 then 136 else 457)))))) else (bif Nat.blt k 60 then (bif Nat.blt k 50 then (bif Nat.blt k 45 then (bif Nat.blt k 42 then (bif Nat.blt k 41 then 453 else 648) else (bif Nat.blt k 43 then 493 else (bif Nat.blt k 44 then 461 else 722))) else (bif Nat.blt k 47 then (bif Nat.blt k 46 then 434 else 439) else (bif Nat.blt k 48 then 513 else (bif Nat.blt k 49 then 677 else 767)))) else (bif Nat.blt k 55 then (bif Nat.blt k 52 then (bif Nat.blt k 51 then 682 else 686) else (bif Nat.blt k 53 then 820 else (bif Nat.blt k 54 then 102 else 398))) else (bif Nat.blt k 57 then (bif Nat.blt k 56 then 422 else 418) else (bif Nat.blt k 58 then 426 else (bif Nat.blt k 59 then 402 else 502))))) else (bif Nat.blt k 70 then (bif Nat.blt k 65 then (bif Nat.blt k 62 then (bif Nat.blt k 61 then 382 else 394) else (bif Nat.blt k 63 then 407 else (bif Nat.blt k 64 then 411 else 415))) else (bif Nat.blt k 67 then (bif Nat.blt k 66 then 275 else 665) else (bif Nat.blt k 68 then 801 else (bif Nat.blt k 69 then 808 else 812)))) else (bif Nat.blt k 75 then (bif Nat.blt k 72 then (bif Nat.blt k 71 then 817 else 825) else (bif Nat.blt k 73 then 94 else (bif Nat.blt k 74 then 378 else 386))) else (bif Nat.blt k 78 then (bif Nat.blt k 76 then 430 else (bif Nat.blt k 77 then 442 else 465)) else (bif Nat.blt k 79 then 473 else (bif Nat.blt k 80 then 481 else 485))))))) else (bif Nat.blt k 122 then (bif Nat.blt k 101 then (bif Nat.blt k 91 then (bif Nat.blt k 86 then (bif Nat.blt k 83 then (bif Nat.blt k 82 then 489 else 497) else (bif Nat.blt k 84 then 640 else (bif Nat.blt k 85 then 661 else 828))) else (bif Nat.blt k 88 then (bif Nat.blt k 87 then 832 else 836) else (bif Nat.blt k 89 then 855 else (bif Nat.blt k 90 then 859 else 863)))) else (bif Nat.blt k 96 then (bif Nat.blt k 93 then (bif Nat.blt k 92 then 871 else 391) else (bif Nat.blt k 94 then 447 else (bif Nat.blt k 95 then 645 else 0))) else (bif Nat.blt k 98 then (bif Nat.blt k 97 then 0 else 654) else (bif Nat.blt k 99 then 868 else (bif Nat.blt k 100 then 880 else 911))))) else (bif Nat.blt k 111 then (bif Nat.blt k 106 then (bif Nat.blt k 103 then (bif Nat.blt k 102 then 1097 else 1088) else (bif Nat.blt k 104 then 1092 else (bif Nat.blt k 105 then 1105 else 1101))) else (bif Nat.blt k 108 then (bif Nat.blt k 107 then 1121 else 1125) else (bif Nat.blt k 109 then 1132 else (bif Nat.blt k 110 then 1113 else 1108)))) else (bif Nat.blt k 116 then (bif Nat.blt k 113 then (bif Nat.blt k 112 then 1136 else 0) else (bif Nat.blt k 114 then 1116 else (bif Nat.blt k 115 then 1147 else 0))) else (bif Nat.blt k 119 then (bif Nat.blt k 117 then 1155 else (bif Nat.blt k 118 then 1159 else 1139)) else (bif Nat.blt k 120 then 1150 else (bif Nat.blt k 121 then 1162 else 1166)))))) else (bif Nat.blt k 142 then (bif Nat.blt k 132 then (bif Nat.blt k 127 then (bif Nat.blt k 124 then (bif Nat.blt k 123 then 1170 else 1174) else (bif Nat.blt k 125 then 1183 else (bif Nat.blt k 126 then 1215 else 1187))) else (bif Nat.blt k 129 then (bif Nat.blt k 128 then 1178 else 1287) else (bif Nat.blt k 130 then 1283 else (bif Nat.blt k 131 then 1207 else 1211)))) else (bif Nat.blt k 137 then (bif Nat.blt k 134 then (bif Nat.blt k 133 then 1231 else 1219) else (bif Nat.blt k 135 then 1243 else (bif Nat.blt k 136 then 1203 else 1251))) else (bif Nat.blt k 139 then (bif Nat.blt k 138 then 1227 else 1235) else (bif Nat.blt k 140 then 1239 else (bif Nat.blt k 141 then 1223 else 1247))))) else (bif Nat.blt k 152 then (bif Nat.blt k 147 then (bif Nat.blt k 144 then (bif Nat.blt k 143 then 1267 else 1271) else (bif Nat.blt k 145 then 1279 else (bif Nat.blt k 146 then 1275 else 1263))) else (bif Nat.blt k 149 then (bif Nat.blt k 148 then 1259 else 1255) else (bif Nat.blt k 150 then 1199 else (bif Nat.blt k 151 then 1195 else 1190)))) else (bif Nat.blt k 157 then (bif Nat.blt k 154 then (bif Nat.blt k 153 then 1290 else 1294) else (bif Nat.blt k 155 then 1298 else (bif Nat.blt k 156 then 1302 else 1306))) else (bif Nat.blt k 160 then (bif Nat.blt k 158 then 0 else (bif Nat.blt k 159 then 1310 else 1317)) else (bif Nat.blt k 161 then 0 else (bif Nat.blt k 162 then 0 else 0))))))))
def xwms : Nat → Nat := fun k => (bif Nat.blt k 81 then (bif Nat.blt k 40 then (bif Nat.blt k 20 then (bif Nat.blt k 10 then (bif Nat.blt k 5 then (bif Nat.blt k 2 then (bif Nat.blt k 1 then 0 else 670) else (bif Nat.blt k 3 then 8 else (bif Nat.blt k 4 then 11 else 12))) else (bif Nat.blt k 7 then (bif Nat.blt k 6 then 13 else 15) else (bif Nat.blt k 8 then 14 else (bif Nat.blt k 9 then 19 else 16)))) else (bif Nat.blt k 15 then (bif Nat.blt k 12 then (bif Nat.blt k 11 then 18 else 17) else (bif Nat.blt k 13 then 9 else (bif Nat.blt k 14 then 10 else 20))) else (bif Nat.blt k 17 then (bif Nat.blt k 16 then 21 else 22) else (bif Nat.blt k 18 then 23 else (bif Nat.blt k 19 then 24 else 26))))) else (bif Nat.blt k 30 then (bif Nat.blt k 25 then (bif Nat.blt k 22 then (bif Nat.blt k 21 then 25 else 0) else (bif Nat.blt k 23 then 695 else (bif Nat.blt k 24 then 0 else 887))) else (bif Nat.blt k 27 then (bif Nat.blt k 26 then 35 else 38) else (bif Nat.blt k 28 then 36 else (bif Nat.blt k 29 then 37 else 0)))) else (bif Nat.blt k 35 then (bif Nat.blt k 32 then (bif Nat.blt k 31 then 658 else 691) else (bif Nat.blt k 33 then 776 else (bif Nat.blt k 34 then 876 else 0))) else (bif Nat.blt k 37 then (bif Nat.blt k 36 then 841 else 31) else (bif Nat.blt k 38 then 32 else (bif Nat.blt k 39 then 0 else 458)))))) else (bif Nat.blt k 60 then (bif Nat.blt k 50 then (bif Nat.blt k 45 then (bif Nat.blt k 42 then (bif Nat.blt k 41 then 454 else 649) else (bif Nat.blt k 43 then 494 else (bif Nat.blt k 44 then 462 else 723))) else (bif Nat.blt k 47 then (bif Nat.blt k 46 then 435 else 4) else (bif Nat.blt k 48 then 0 else (bif Nat.blt k 49 then 678 else 768)))) else (bif Nat.blt k 55 then (bif Nat.blt k 52 then (bif Nat.blt k 51 then 683 else 687) else (bif Nat.blt k 53 then 821 else (bif Nat.blt k 54 then 0 else 399))) else (bif Nat.blt k 57 then (bif Nat.blt k 56 then 423 else 419) else (bif Nat.blt k 58 then 427 else (bif Nat.blt k 59 then 403 else 503))))) else (bif Nat.blt k 70 then (bif Nat.blt k 65 then (bif Nat.blt k 62 then (bif Nat.blt k 61 then 383 else 395) else (bif Nat.blt k 63 then 1 else (bif Nat.blt k 64 then 2 else 3))) else (bif Nat.blt k 67 then (bif Nat.blt k 66 then 0 else 666) else (bif Nat.blt k 68 then 802 else (bif Nat.blt k 69 then 27 else 28)))) else (bif Nat.blt k 75 then (bif Nat.blt k 72 then (bif Nat.blt k 71 then 29 else 30) else (bif Nat.blt k 73 then 0 else (bif Nat.blt k 74 then 379 else 387))) else (bif Nat.blt k 78 then (bif Nat.blt k 76 then 431 else (bif Nat.blt k 77 then 443 else 466)) else (bif Nat.blt k 79 then 474 else (bif Nat.blt k 80 then 482 else 486))))))) else (bif Nat.blt k 122 then (bif Nat.blt k 101 then (bif Nat.blt k 91 then (bif Nat.blt k 86 then (bif Nat.blt k 83 then (bif Nat.blt k 82 then 490 else 498) else (bif Nat.blt k 84 then 641 else (bif Nat.blt k 85 then 662 else 829))) else (bif Nat.blt k 88 then (bif Nat.blt k 87 then 833 else 837) else (bif Nat.blt k 89 then 856 else (bif Nat.blt k 90 then 860 else 864)))) else (bif Nat.blt k 96 then (bif Nat.blt k 93 then (bif Nat.blt k 92 then 872 else 0) else (bif Nat.blt k 94 then 5 else (bif Nat.blt k 95 then 6 else 0))) else (bif Nat.blt k 98 then (bif Nat.blt k 97 then 0 else 7) else (bif Nat.blt k 99 then 33 else (bif Nat.blt k 100 then 34 else 0))))) else (bif Nat.blt k 111 then (bif Nat.blt k 106 then (bif Nat.blt k 103 then (bif Nat.blt k 102 then 39 else 1089) else (bif Nat.blt k 104 then 1093 else (bif Nat.blt k 105 then 41 else 40))) else (bif Nat.blt k 108 then (bif Nat.blt k 107 then 43 else 44) else (bif Nat.blt k 109 then 45 else (bif Nat.blt k 110 then 42 else 1109)))) else (bif Nat.blt k 116 then (bif Nat.blt k 113 then (bif Nat.blt k 112 then 46 else 0) else (bif Nat.blt k 114 then 1117 else (bif Nat.blt k 115 then 47 else 0))) else (bif Nat.blt k 119 then (bif Nat.blt k 117 then 48 else (bif Nat.blt k 118 then 49 else 1140)) else (bif Nat.blt k 120 then 1151 else (bif Nat.blt k 121 then 1163 else 1167)))))) else (bif Nat.blt k 142 then (bif Nat.blt k 132 then (bif Nat.blt k 127 then (bif Nat.blt k 124 then (bif Nat.blt k 123 then 1171 else 1175) else (bif Nat.blt k 125 then 50 else (bif Nat.blt k 126 then 57 else 51))) else (bif Nat.blt k 129 then (bif Nat.blt k 128 then 1179 else 75) else (bif Nat.blt k 130 then 74 else (bif Nat.blt k 131 then 55 else 56)))) else (bif Nat.blt k 137 then (bif Nat.blt k 134 then (bif Nat.blt k 133 then 61 else 58) else (bif Nat.blt k 135 then 64 else (bif Nat.blt k 136 then 54 else 66))) else (bif Nat.blt k 139 then (bif Nat.blt k 138 then 60 else 62) else (bif Nat.blt k 140 then 63 else (bif Nat.blt k 141 then 59 else 65))))) else (bif Nat.blt k 152 then (bif Nat.blt k 147 then (bif Nat.blt k 144 then (bif Nat.blt k 143 then 70 else 71) else (bif Nat.blt k 145 then 73 else (bif Nat.blt k 146 then 72 else 69))) else (bif Nat.blt k 149 then (bif Nat.blt k 148 then 68 else 67) else (bif Nat.blt k 150 then 53 else (bif Nat.blt k 151 then 52 else 1191)))) else (bif Nat.blt k 157 then (bif Nat.blt k 154 then (bif Nat.blt k 153 then 1291 else 1295) else (bif Nat.blt k 155 then 1299 else (bif Nat.blt k 156 then 1303 else 1307))) else (bif Nat.blt k 160 then (bif Nat.blt k 158 then 0 else (bif Nat.blt k 159 then 1311 else 1318)) else (bif Nat.blt k 161 then 0 else (bif Nat.blt k 162 then 0 else 0))))))))
def xwmt : Nat → Nat := fun k => (bif Nat.blt k 81 then (bif Nat.blt k 40 then (bif Nat.blt k 20 then (bif Nat.blt k 10 then (bif Nat.blt k 5 then (bif Nat.blt k 2 then (bif Nat.blt k 1 then 0 else 0) else (bif Nat.blt k 3 then 0 else (bif Nat.blt k 4 then 0 else 0))) else (bif Nat.blt k 7 then (bif Nat.blt k 6 then 0 else 0) else (bif Nat.blt k 8 then 0 else (bif Nat.blt k 9 then 0 else 0)))) else (bif Nat.blt k 15 then (bif Nat.blt k 12 then (bif Nat.blt k 11 then 0 else 0) else (bif Nat.blt k 13 then 0 else (bif Nat.blt k 14 then 0 else 0))) else (bif Nat.blt k 17 then (bif Nat.blt k 16 then 0 else 0) else (bif Nat.blt k 18 then 0 else (bif Nat.blt k 19 then 0 else 0))))) else (bif Nat.blt k 30 then (bif Nat.blt k 25 then (bif Nat.blt k 22 then (bif Nat.blt k 21 then 0 else 0) else (bif Nat.blt k 23 then 0 else (bif Nat.blt k 24 then 0 else 0))) else (bif Nat.blt k 27 then (bif Nat.blt k 26 then 0 else 0) else (bif Nat.blt k 28 then 0 else (bif Nat.blt k 29 then 0 else 0)))) else (bif Nat.blt k 35 then (bif Nat.blt k 32 then (bif Nat.blt k 31 then 0 else 0) else (bif Nat.blt k 33 then 0 else (bif Nat.blt k 34 then 0 else 0))) else (bif Nat.blt k 37 then (bif Nat.blt k 36 then 0 else 0) else (bif Nat.blt k 38 then 0 else (bif Nat.blt k 39 then 0 else 0)))))) else (bif Nat.blt k 60 then (bif Nat.blt k 50 then (bif Nat.blt k 45 then (bif Nat.blt k 42 then (bif Nat.blt k 41 then 0 else 0) else (bif Nat.blt k 43 then 0 else (bif Nat.blt k 44 then 0 else 0))) else (bif Nat.blt k 47 then (bif Nat.blt k 46 then 0 else 0) else (bif Nat.blt k 48 then 0 else (bif Nat.blt k 49 then 0 else 0)))) else (bif Nat.blt k 55 then (bif Nat.blt k 52 then (bif Nat.blt k 51 then 0 else 0) else (bif Nat.blt k 53 then 0 else (bif Nat.blt k 54 then 0 else 0))) else (bif Nat.blt k 57 then (bif Nat.blt k 56 then 0 else 0) else (bif Nat.blt k 58 then 0 else (bif Nat.blt k 59 then 0 else 0))))) else (bif Nat.blt k 70 then (bif Nat.blt k 65 then (bif Nat.blt k 62 then (bif Nat.blt k 61 then 0 else 0) else (bif Nat.blt k 63 then 0 else (bif Nat.blt k 64 then 0 else 0))) else (bif Nat.blt k 67 then (bif Nat.blt k 66 then 0 else 0) else (bif Nat.blt k 68 then 0 else (bif Nat.blt k 69 then 0 else 0)))) else (bif Nat.blt k 75 then (bif Nat.blt k 72 then (bif Nat.blt k 71 then 0 else 0) else (bif Nat.blt k 73 then 0 else (bif Nat.blt k 74 then 0 else 0))) else (bif Nat.blt k 78 then (bif Nat.blt k 76 then 0 else (bif Nat.blt k 77 then 0 else 0)) else (bif Nat.blt k 79 then 0 else (bif Nat.blt k 80 then 0 else 0))))))) else (bif Nat.blt k 122 then (bif Nat.blt k 101 then (bif Nat.blt k 91 then (bif Nat.blt k 86 then (bif Nat.blt k 83 then (bif Nat.blt k 82 then 0 else 0) else (bif Nat.blt k 84 then 0 else (bif Nat.blt k 85 then 0 else 0))) else (bif Nat.blt k 88 then (bif Nat.blt k 87 then 0 else 0) else (bif Nat.blt k 89 then 0 else (bif Nat.blt k 90 then 0 else 0)))) else (bif Nat.blt k 96 then (bif Nat.blt k 93 then (bif Nat.blt k 92 then 0 else 0) else (bif Nat.blt k 94 then 0 else (bif Nat.blt k 95 then 0 else 470))) else (bif Nat.blt k 98 then (bif Nat.blt k 97 then 478 else 0) else (bif Nat.blt k 99 then 0 else (bif Nat.blt k 100 then 0 else 0))))) else (bif Nat.blt k 111 then (bif Nat.blt k 106 then (bif Nat.blt k 103 then (bif Nat.blt k 102 then 0 else 0) else (bif Nat.blt k 104 then 0 else (bif Nat.blt k 105 then 0 else 0))) else (bif Nat.blt k 108 then (bif Nat.blt k 107 then 0 else 0) else (bif Nat.blt k 109 then 0 else (bif Nat.blt k 110 then 0 else 0)))) else (bif Nat.blt k 116 then (bif Nat.blt k 113 then (bif Nat.blt k 112 then 0 else 1128) else (bif Nat.blt k 114 then 0 else (bif Nat.blt k 115 then 0 else 1143))) else (bif Nat.blt k 119 then (bif Nat.blt k 117 then 0 else (bif Nat.blt k 118 then 0 else 0)) else (bif Nat.blt k 120 then 0 else (bif Nat.blt k 121 then 0 else 0)))))) else (bif Nat.blt k 142 then (bif Nat.blt k 132 then (bif Nat.blt k 127 then (bif Nat.blt k 124 then (bif Nat.blt k 123 then 0 else 0) else (bif Nat.blt k 125 then 0 else (bif Nat.blt k 126 then 0 else 0))) else (bif Nat.blt k 129 then (bif Nat.blt k 128 then 0 else 0) else (bif Nat.blt k 130 then 0 else (bif Nat.blt k 131 then 0 else 0)))) else (bif Nat.blt k 137 then (bif Nat.blt k 134 then (bif Nat.blt k 133 then 0 else 0) else (bif Nat.blt k 135 then 0 else (bif Nat.blt k 136 then 0 else 0))) else (bif Nat.blt k 139 then (bif Nat.blt k 138 then 0 else 0) else (bif Nat.blt k 140 then 0 else (bif Nat.blt k 141 then 0 else 0))))) else (bif Nat.blt k 152 then (bif Nat.blt k 147 then (bif Nat.blt k 144 then (bif Nat.blt k 143 then 0 else 0) else (bif Nat.blt k 145 then 0 else (bif Nat.blt k 146 then 0 else 0))) else (bif Nat.blt k 149 then (bif Nat.blt k 148 then 0 else 0) else (bif Nat.blt k 150 then 0 else (bif Nat.blt k 151 then 0 else 0)))) else (bif Nat.blt k 157 then (bif Nat.blt k 154 then (bif Nat.blt k 153 then 0 else 0) else (bif Nat.blt k 155 then 0 else (bif Nat.blt k 156 then 0 else 0))) else (bif Nat.blt k 160 then (bif Nat.blt k 158 then 1314 else (bif Nat.blt k 159 then 0 else 0)) else (bif Nat.blt k 161 then 279 else (bif Nat.blt k 162 then 698 else 0))))))))
def xwx : Nat → Nat := fun k => (bif Nat.blt k 5 then (bif Nat.blt k 2 then (bif Nat.blt k 1 then 97 else 98) else (bif Nat.blt k 3 then 712 else (bif Nat.blt k 4 then 711 else 90))) else (bif Nat.blt k 7 then (bif Nat.blt k 6 then 883 else 89) else (bif Nat.blt k 8 then 884 else (bif Nat.blt k 9 then 708 else 709))))
end
section
/-! ===== the checks as programs ===== -/
def xmemB (i : Nat) (w : Cond) : Bool := decide (lw_tbl[i]? = some w) && goodWord w
theorem xmemB_ok {i : Nat} {w : Cond} (h : xmemB i w = true) : w ∈ xG := by
  unfold xmemB at h
  rw [Bool.and_eq_true, decide_eq_true_eq] at h
  exact xG_of (List.mem_of_getElem? h.1) h.2
def xwB (oc : Nat) (own : String) (nL : Nat) (init : Bool) (ins : Instr) (a b : Nat) : Bool := match ins with
  | .istore_n k => decide ((k : Nat) < nL)
  | .istore k => decide (k < nL)
  | .astore_n k => decide ((k : Nat) < nL)
  | .astore k => decide (k < nL)
  | .bipush n => decide (-128 ≤ n ∧ n ≤ 127)
  | .sipush n => decide (-32768 ≤ n ∧ n ≤ 32767)
  | .ldc i => xmemB (xwi oc i) (Cond.constant own i (Int32.ofInt (a : Int)))
  | .getfield i => decide (b < xNf a) && xmemB (xwi oc i) (Cond.fieldLink own i (xTX (a % 30) b).1 (xTX (a % 30) b).2.1 (xTX (a % 30) b).2.2.1)
  | .putfield i => decide (b < xNf a) && (decide (a < 60) && (xmemB (xwi oc i) (Cond.fieldLink own i (xTX (a % 30) b).1 (xTX (a % 30) b).2.1 (xTX (a % 30) b).2.2.1) && decide ((xTX (a % 30) b).2.2.2 = true → init = true ∧ (xTX (a % 30) b).1 = own)))
  | .newarray t => decide (xatype t = a) && (decide (0 < a) && xmemB (xwac a) (Cond.arrayClass (newarray.typeOf t)))
  | .anewarray i => xmemB (xwi oc i) (Cond.classLink own i "MatchForge$Match")
  | .new i => decide (30 ≤ a) && (decide (a - 30 < 11) && (xmemB (xwi oc i) (Cond.classLink own i (xRX (a - 30))) && (xmemB (xwin (a - 30)) (Cond.instantiable (xRX (a - 30)) (xNf (a - 30))) && xmemB (xwit (a - 30)) (Cond.initialized (xRX (a - 30))))))
  | .aastore => decide (a = 3)
  | .nop => decide (b < 11)
  | .invokespecial i => xmemB (xwi oc i) (Cond.methodLink own i objectInit) && (xmemB (xwx 0) (Cond.instanceMethod objectInit) && xmemB (xwx 1) (Cond.code objectInit ⟨#[0xb1]⟩ 1 none))
  | .invokestatic i => bif Nat.beq a 1001 then xmemB (xwi oc i) (Cond.methodLink own i arraycopyName) && (xmemB (xwx 2) (Cond.native arraycopyName) && (xmemB (xwx 3) (Cond.static arraycopyName) && xmemB (xwx 4) (Cond.initialized "java/lang/System"))) else bif Nat.beq a 1002 then xmemB (xwi oc i) (Cond.methodLink own i Lib.Math.max.name) && (xmemB (xwx 5) (Cond.static Lib.Math.max.name) && (xmemB (xwx 6) (Cond.initialized "java/lang/Math") && xmemB (xwx 7) (Cond.code Lib.Math.max.name Lib.Math.max.code 2 (some .int)))) else bif Nat.beq a 1003 then xmemB (xwi oc i) (Cond.methodLink own i Lib.Math.min.name) && (xmemB (xwx 8) (Cond.static Lib.Math.min.name) && (xmemB (xwx 6) (Cond.initialized "java/lang/Math") && xmemB (xwx 9) (Cond.code Lib.Math.min.name Lib.Math.min.code 2 (some .int)))) else false
  | _ => true
theorem xwB_ok {oc : Nat} {own : String} {nL : Nat} {init : Bool} {ins : Instr} {a b : Nat} (h : xwB oc own nL init ins a b = true) : xwo own nL init ins a b := by
  cases ins with
  | istore_n k => exact (show (k : Nat) < nL from of_decide_eq_true h)
  | istore k => exact (show k < nL from of_decide_eq_true h)
  | astore_n k => exact (show (k : Nat) < nL from of_decide_eq_true h)
  | astore k => exact (show k < nL from of_decide_eq_true h)
  | bipush n => exact (show -128 ≤ n ∧ n ≤ 127 from of_decide_eq_true h)
  | sipush n => exact (show -32768 ≤ n ∧ n ≤ 32767 from of_decide_eq_true h)
  | ldc i => exact xmemB_ok h
  | getfield i =>
    obtain ⟨h1, h2⟩ := (Bool.and_eq_true _ _).mp h
    exact ⟨of_decide_eq_true h1, xmemB_ok h2⟩
  | putfield i =>
    obtain ⟨h1, h2⟩ := (Bool.and_eq_true _ _).mp h
    obtain ⟨h2, h3⟩ := (Bool.and_eq_true _ _).mp h2
    obtain ⟨h3, h4⟩ := (Bool.and_eq_true _ _).mp h3
    exact ⟨of_decide_eq_true h1, of_decide_eq_true h2, xmemB_ok h3, of_decide_eq_true h4⟩
  | newarray t =>
    obtain ⟨h1, h2⟩ := (Bool.and_eq_true _ _).mp h
    obtain ⟨h2, h3⟩ := (Bool.and_eq_true _ _).mp h2
    exact ⟨of_decide_eq_true h1, of_decide_eq_true h2, xmemB_ok h3⟩
  | anewarray i => exact xmemB_ok h
  | new i =>
    obtain ⟨h1, h2⟩ := (Bool.and_eq_true _ _).mp h
    obtain ⟨h2, h3⟩ := (Bool.and_eq_true _ _).mp h2
    obtain ⟨h3, h4⟩ := (Bool.and_eq_true _ _).mp h3
    obtain ⟨h4, h5⟩ := (Bool.and_eq_true _ _).mp h4
    exact ⟨of_decide_eq_true h1, of_decide_eq_true h2, xmemB_ok h3, xmemB_ok h4, xmemB_ok h5⟩
  | aastore => exact (show a = 3 from of_decide_eq_true h)
  | nop => exact fun _ => of_decide_eq_true h
  | invokespecial i =>
    obtain ⟨h1, h2⟩ := (Bool.and_eq_true _ _).mp h
    obtain ⟨h2, h3⟩ := (Bool.and_eq_true _ _).mp h2
    exact fun _ => ⟨xmemB_ok h1, xmemB_ok h2, xmemB_ok h3⟩
  | invokestatic i =>
    have four : ∀ {w1 w2 w3 w4 : Cond} {i1 i2 i3 i4 : Nat}, (xmemB i1 w1 && (xmemB i2 w2 && (xmemB i3 w3 && xmemB i4 w4))) = true → w1 ∈ xG ∧ w2 ∈ xG ∧ w3 ∈ xG ∧ w4 ∈ xG := by
      intro w1 w2 w3 w4 i1 i2 i3 i4 h
      obtain ⟨h1, h2⟩ := (Bool.and_eq_true _ _).mp h
      obtain ⟨h2, h3⟩ := (Bool.and_eq_true _ _).mp h2
      obtain ⟨h3, h4⟩ := (Bool.and_eq_true _ _).mp h3
      exact ⟨xmemB_ok h1, xmemB_ok h2, xmemB_ok h3, xmemB_ok h4⟩
    refine ⟨fun ha => ?_, fun ha => ?_, fun ha => ?_⟩
    · subst ha; exact four h
    · subst ha; exact four h
    · subst ha; exact four h
  | _ => exact trivial
/-- what is asked of a method once; its code word comes by its place (19) -/
def xmwB (mu : Nat) : Bool := xmemB (xwmi mu) (Cond.initialized (xy mu).cls) && (decide ((xy mu).cls ≠ "java/lang/invoke/MethodHandle" ∧ (xy mu).cls ≠ "java/lang/invoke/VarHandle") && (decide ((xmt mu).2.2.2 ≤ 22) && (decide (plainName (xy mu).cls = true) && decide (mu < xlaw))))
theorem xmwB_ok {mu : Nat} (h0 : Cond.code (xy mu) (xcc mu) (xmt mu).2.2.2 (xret mu) ∈ lw_tbl) (h2 : xmwB mu = true) : xmw mu := by
  unfold xmwB at h2
  obtain ⟨h2, h3⟩ := (Bool.and_eq_true _ _).mp h2
  obtain ⟨h3, h4⟩ := (Bool.and_eq_true _ _).mp h3
  obtain ⟨h4, h5⟩ := (Bool.and_eq_true _ _).mp h4
  obtain ⟨h5, h6⟩ := (Bool.and_eq_true _ _).mp h5
  exact ⟨xG_of h0 rfl, xmemB_ok h2, of_decide_eq_true h3, of_decide_eq_true h4, of_decide_eq_true h5, of_decide_eq_true h6⟩
def xviB (mu : Nat) : Bool := decide ((xmt mu).2.2.1 < 11) && (decide ((xy mu).cls = xRX (xmt mu).2.2.1) && (xmemB (xwmm mu) (Cond.instanceMethod (xy mu)) && (xmemB (xwms mu) (Cond.selects (xy mu).cls (xy mu) (xy mu)) && decide ((parseMethodDescriptor (xy mu).desc).map (fun d => d.parameters.length) = some ((xmt mu).1 - 1) ∧ 0 < (xmt mu).1))))
def xspB (mu : Nat) : Bool := decide (30 ≤ (xmt mu).2.2.1 ∧ (xmt mu).2.2.1 < 41) && (decide ((xy mu).name = "<init>") && (xmemB (xwmm mu) (Cond.instanceMethod (xy mu)) && (decide ((parseMethodDescriptor (xy mu).desc).map (fun d => d.parameters.length) = some ((xmt mu).1 - 1) ∧ 0 < (xmt mu).1) && decide (xret mu = none ∧ (xmt mu).2.1 = 0))))
def xstB (mu : Nat) : Bool := xmemB (xwmt mu) (Cond.static (xy mu)) && decide ((parseMethodDescriptor (xy mu).desc).map (fun d => d.parameters.length) = some (xmt mu).1)
def xkB (mu : Nat) : Bool := xmwB mu && (bif Nat.blt (xmt mu).2.2.1 11 then xviB mu else bif Nat.blt (xmt mu).2.2.1 1000 then xspB mu else xstB mu)
/-- every method has its code word, and is what its number says -/
def xhall : Prop := ∀ mu, mu < xlaw → Cond.code (xy mu) (xcc mu) (xmt mu).2.2.2 (xret mu) ∈ lw_tbl ∧ xkB mu = true
def xcwB (oc : Nat) (own : String) (ins : Instr) (mu : Nat) : Bool := match ins with
  | .invokevirtual i => decide (mu < xlaw ∧ (xmt mu).2.2.1 < 11) && xmemB (xwi oc i) (Cond.methodLink own i (xy mu))
  | .invokespecial i => decide (mu < xlaw ∧ 30 ≤ (xmt mu).2.2.1 ∧ (xmt mu).2.2.1 < 41) && (xmemB (xwi oc i) (Cond.methodLink own i (xy mu)) || (decide (Cond.methodLinkNest own i (xy mu) "MatchForge" = xnestA) || decide (Cond.methodLinkNest own i (xy mu) "MatchForge" = xnestB)))
  | .invokestatic i => decide (mu < xlaw ∧ 1000 ≤ (xmt mu).2.2.1) && xmemB (xwi oc i) (Cond.methodLink own i (xy mu))
  | _ => false
theorem xblt_f {a b : Nat} (h : b ≤ a) : Nat.blt a b = false := by
  rw [Bool.eq_false_iff]; intro q; rw [Nat.blt_eq] at q; omega
theorem xcwB_ok (hall : xhall) {oc : Nat} {own : String} {ins : Instr} {mu : Nat} (h : xcwB oc own ins mu = true) : xcw own ins mu := by
  cases ins with
  | invokevirtual i =>
    obtain ⟨h1, h3⟩ := (Bool.and_eq_true _ _).mp h
    obtain ⟨hmu, hr⟩ := of_decide_eq_true h1
    obtain ⟨hc, hk⟩ := hall mu hmu
    unfold xkB at hk
    obtain ⟨h1, h2⟩ := (Bool.and_eq_true _ _).mp hk
    rw [show Nat.blt (xmt mu).2.2.1 11 = true from (Nat.blt_eq).mpr hr] at h2
    simp only [cond_true] at h2
    unfold xviB at h2
    obtain ⟨k1, k2⟩ := (Bool.and_eq_true _ _).mp h2
    obtain ⟨k2, k3⟩ := (Bool.and_eq_true _ _).mp k2
    obtain ⟨k3, k4⟩ := (Bool.and_eq_true _ _).mp k3
    obtain ⟨k4, k5⟩ := (Bool.and_eq_true _ _).mp k4
    exact ⟨xmwB_ok hc h1, of_decide_eq_true k1, of_decide_eq_true k2, xmemB_ok h3, xmemB_ok k3, xmemB_ok k4, of_decide_eq_true k5⟩
  | invokespecial i =>
    obtain ⟨h1, h3⟩ := (Bool.and_eq_true _ _).mp h
    obtain ⟨hmu, hr1, hr2⟩ := of_decide_eq_true h1
    obtain ⟨hc, hk⟩ := hall mu hmu
    unfold xkB at hk
    obtain ⟨h1, h2⟩ := (Bool.and_eq_true _ _).mp hk
    rw [xblt_f (show 11 ≤ (xmt mu).2.2.1 by omega), show Nat.blt (xmt mu).2.2.1 1000 = true from (Nat.blt_eq).mpr (by omega)] at h2
    simp only [cond_true, cond_false] at h2
    unfold xspB at h2
    obtain ⟨k1, k2⟩ := (Bool.and_eq_true _ _).mp h2
    obtain ⟨k2, k3⟩ := (Bool.and_eq_true _ _).mp k2
    obtain ⟨k3, k4⟩ := (Bool.and_eq_true _ _).mp k3
    obtain ⟨k4, k5⟩ := (Bool.and_eq_true _ _).mp k4
    refine ⟨xmwB_ok hc h1, of_decide_eq_true k1, of_decide_eq_true k2, ?_, xmemB_ok k3, of_decide_eq_true k4, of_decide_eq_true k5⟩
    rw [Bool.or_eq_true, Bool.or_eq_true, decide_eq_true_eq, decide_eq_true_eq] at h3
    rcases h3 with h3 | h3 | h3
    · exact Or.inl (xmemB_ok h3)
    · exact Or.inr (Or.inl h3)
    · exact Or.inr (Or.inr h3)
  | invokestatic i =>
    obtain ⟨h1, h3⟩ := (Bool.and_eq_true _ _).mp h
    obtain ⟨hmu, hr⟩ := of_decide_eq_true h1
    obtain ⟨hc, hk⟩ := hall mu hmu
    unfold xkB at hk
    obtain ⟨h1, h2⟩ := (Bool.and_eq_true _ _).mp hk
    rw [xblt_f (show 11 ≤ (xmt mu).2.2.1 by omega), xblt_f hr] at h2
    simp only [cond_false] at h2
    unfold xstB at h2
    obtain ⟨k1, k2⟩ := (Bool.and_eq_true _ _).mp h2
    exact ⟨xmwB_ok hc h1, xmemB_ok h3, xmemB_ok k1, of_decide_eq_true k2⟩
  | _ => exact absurd h (by simp [xcwB])
def xdB (cc : ByteArray) (pc : Nat) (ins : Instr) (n : Nat) : Bool := decide (decode cc pc = .ok (ins, n))
def xokEB (oc : Nat) (cc : ByteArray) (own : String) (nL : Nat) (init : Bool) (rk pc : Nat) (ins : Instr) (a b : Nat) (rest : List xI) : Bool := match ins with
  | .nop => decide (a = 2 → xpc rest 0 = pc ∧ b < 11)
  | .if_icmp _ off => xdB cc pc ins 3 && decide (xpc rest 0 = pc + 3 ∧ (a = 0 → (pc : Int) + off = (xpc rest b : Int)) ∧ (a ≠ 0 → (pc : Int) + off = (b : Int)))
  | .ifCond _ off => xdB cc pc ins 3 && decide (xpc rest 0 = pc + 3 ∧ (a = 0 → (pc : Int) + off = (xpc rest b : Int)) ∧ (a ≠ 0 → (pc : Int) + off = (b : Int)))
  | .goto off => xdB cc pc ins 3 && decide ((a = 0 → (pc : Int) + off = (xpc rest b : Int)) ∧ (a ≠ 0 → (pc : Int) + off = (b : Int)))
  | .tableswitch d lo hi offs => xdB cc pc ins b && decide (0 ≤ (pc : Int) + d ∧ (∀ o ∈ offs.toList, 0 ≤ (pc : Int) + o) ∧ (offs.size : Int) = hi - lo + 1)
  | .ireturn => xdB cc pc ins 1 && decide (a = rk ∧ rk ≠ 0 ∧ rk ≠ 3)
  | .areturn => xdB cc pc ins 1 && decide (rk = 3)
  | .return_ => xdB cc pc ins 1 && decide (rk = 0)
  | .invokevirtual _ => xdB cc pc ins 3 && (decide (xpc rest 0 = pc + 3) && xcwB oc own ins a)
  | .invokespecial _ => xdB cc pc ins 3 && (decide (xpc rest 0 = pc + 3) && (bif Nat.beq a 1000 then xwB oc own nL init ins a b else xcwB oc own ins a))
  | .invokestatic _ => xdB cc pc ins 3 && (decide (xpc rest 0 = pc + 3) && (bif Nat.ble 1001 a then xwB oc own nL init ins a b else xcwB oc own ins a))
  | _ => xdB cc pc ins (xlen ins) && (decide (xpc rest 0 = pc + xlen ins) && xwB oc own nL init ins a b)
theorem xokEB_ok (hall : xhall) {oc : Nat} {cc : ByteArray} {own : String} {nL : Nat} {init : Bool} {rk pc : Nat} {ins : Instr} {a b : Nat} {rest : List xI} (h : xokEB oc cc own nL init rk pc ins a b rest = true) : xokE cc own nL init rk pc ins a b rest := by
  cases ins with
  | nop => exact (show a = 2 → xpc rest 0 = pc ∧ b < 11 from of_decide_eq_true h)
  | if_icmp c o => obtain ⟨h1, h2⟩ := (Bool.and_eq_true _ _).mp h; exact ⟨of_decide_eq_true h1, of_decide_eq_true h2⟩
  | ifCond c o => obtain ⟨h1, h2⟩ := (Bool.and_eq_true _ _).mp h; exact ⟨of_decide_eq_true h1, of_decide_eq_true h2⟩
  | goto o => obtain ⟨h1, h2⟩ := (Bool.and_eq_true _ _).mp h; exact ⟨of_decide_eq_true h1, of_decide_eq_true h2⟩
  | tableswitch d lo hi offs => obtain ⟨h1, h2⟩ := (Bool.and_eq_true _ _).mp h; exact ⟨of_decide_eq_true h1, of_decide_eq_true h2⟩
  | ireturn => obtain ⟨h1, h2⟩ := (Bool.and_eq_true _ _).mp h; exact ⟨of_decide_eq_true h1, of_decide_eq_true h2⟩
  | areturn => obtain ⟨h1, h2⟩ := (Bool.and_eq_true _ _).mp h; exact ⟨of_decide_eq_true h1, of_decide_eq_true h2⟩
  | return_ => obtain ⟨h1, h2⟩ := (Bool.and_eq_true _ _).mp h; exact ⟨of_decide_eq_true h1, of_decide_eq_true h2⟩
  | invokevirtual i =>
    obtain ⟨h1, h2⟩ := (Bool.and_eq_true _ _).mp h
    obtain ⟨h2, h3⟩ := (Bool.and_eq_true _ _).mp h2
    exact ⟨of_decide_eq_true h1, of_decide_eq_true h2, xcwB_ok hall h3⟩
  | invokespecial i =>
    obtain ⟨h1, h2⟩ := (Bool.and_eq_true _ _).mp h
    obtain ⟨h2, h3⟩ := (Bool.and_eq_true _ _).mp h2
    refine ⟨of_decide_eq_true h1, of_decide_eq_true h2, fun ha => ?_, fun ha => ?_⟩
    · subst ha; exact xwB_ok h3
    · have e : Nat.beq a 1000 = false := by rw [Bool.eq_false_iff]; intro q; exact ha (Nat.eq_of_beq_eq_true q)
      rw [e] at h3
      exact xcwB_ok hall h3
  | invokestatic i =>
    obtain ⟨h1, h2⟩ := (Bool.and_eq_true _ _).mp h
    obtain ⟨h2, h3⟩ := (Bool.and_eq_true _ _).mp h2
    refine ⟨of_decide_eq_true h1, of_decide_eq_true h2, fun ha => ?_, fun ha => ?_⟩
    · rw [show Nat.ble 1001 a = true from Nat.ble_eq.mpr ha] at h3; exact xwB_ok h3
    · have e : Nat.ble 1001 a = false := by rw [Bool.eq_false_iff]; intro q; exact ha (Nat.ble_eq.mp q)
      rw [e] at h3
      exact xcwB_ok hall h3
  | _ =>
    obtain ⟨h1, h2⟩ := (Bool.and_eq_true _ _).mp h
    obtain ⟨h2, h3⟩ := (Bool.and_eq_true _ _).mp h2
    exact ⟨of_decide_eq_true h1, of_decide_eq_true h2, xwB_ok h3⟩
def xokLB (oc : Nat) (cc : ByteArray) (own : String) (nL : Nat) (init : Bool) (rk : Nat) : List xI → Bool
  | [] => true
  | (pc, ins, a, b) :: rest => xokEB oc cc own nL init rk pc ins a b rest && xokLB oc cc own nL init rk rest
theorem xokLB_ok (hall : xhall) {oc : Nat} {cc : ByteArray} {own : String} {nL : Nat} {init : Bool} {rk : Nat} : ∀ {L : List xI}, xokLB oc cc own nL init rk L = true → xokL cc own nL init rk L
  | [], _ => trivial
  | (pc, ins, a, b) :: rest, h => by
    obtain ⟨h1, h2⟩ := (Bool.and_eq_true _ _).mp h
    exact ⟨xokEB_ok hall h1, xokLB_ok hall h2⟩
def xokTB (oc : Nat) (cc : ByteArray) (own : String) (nL : Nat) (init : Bool) (rk : Nat) (tl : List (Nat × List xI)) : Bool := tl.all (fun q => Nat.beq (xpc q.2 0) q.1 && xokLB oc cc own nL init rk q.2)
def xokMB (mu : Nat) : Bool := xokTB (xoc mu) (xcc mu) (xown mu) (xmt mu).2.2.2 (decide ((xy mu).name = "<init>")) (xmt mu).2.1 (xtl mu) && (decide ((xy mu).cls = xown mu) && decide ((xmt mu).1 ≤ (xmt mu).2.2.2 ∧ ((xmt mu).2.1 = 0 → xret mu = none) ∧ ((xmt mu).2.1 = 1 → xret mu = some .int) ∧ ((xmt mu).2.1 = 2 → xret mu = some .boolean) ∧ ((xmt mu).2.1 = 3 → xret mu = some (.array .int)) ∧ (xmt mu).2.1 ≤ 3))
theorem xokMB_ok (hall : xhall) {mu : Nat} (h : xokMB mu = true) : xokM mu := by
  unfold xokMB at h
  obtain ⟨h1, h2⟩ := (Bool.and_eq_true _ _).mp h
  obtain ⟨h2, h3⟩ := (Bool.and_eq_true _ _).mp h2
  have h3 := of_decide_eq_true h3
  refine ⟨fun q hq => ?_, of_decide_eq_true h2, h3.1, h3.2⟩
  have h4 := List.all_eq_true.mp h1 q hq
  obtain ⟨h4, h5⟩ := (Bool.and_eq_true _ _).mp h4
  exact ⟨Nat.eq_of_beq_eq_true h4, xokLB_ok hall h5⟩
end
section
/-! ===== laid by dec.py: the reference's state and the texts of its methods ===== -/
abbrev yE : Type := Nat × Nat × (Nat → Nat × Nat)
def yS (e : yE) (M : xM) : xS := (e.1, e.2.1, e.2.2, M)
def yI (e : yE) (Q : Int → xM → Prop) : xV → xS → Prop := fun r S => ∃ x M, r = .inl x ∧ S = yS e M ∧ Q x M
def yV (e : yE) (Q : xM → Prop) : xV → xS → Prop := fun _ S => ∃ M, S = yS e M ∧ Q M
theorem yI_ret {e : yE} {Q : Int → xM → Prop} {x : Int} {M : xM} (h : Q x M) : yI e Q (.inl x) (yS e M) := ⟨x, M, rfl, rfl, h⟩
theorem yV_ret {e : yE} {Q : xM → Prop} {r : xV} {M : xM} (h : Q M) : yV e Q r (yS e M) := ⟨M, rfl, h⟩
theorem yI_use {e : yE} {d mu : Nat} {as : List xV} {M : xM} {K : Int → xM → Prop} {P : xV → xS → Prop} (h : xcall xft xNf xmt xtr d mu as (yS e M) (yI e K)) (hP : ∀ x M', K x M' → P (.inl x) (yS e M')) : xcall xft xNf xmt xtr d mu as (yS e M) P :=
  xcall_mono d d mu as _ _ _ (Nat.le_refl _) (fun r S' q => by obtain ⟨x, M', rfl, rfl, hk⟩ := q; exact hP x M' hk) h
theorem yV_use {e : yE} {d mu : Nat} {as : List xV} {M : xM} {K : xM → Prop} {P : xV → xS → Prop} (h : xcall xft xNf xmt xtr d mu as (yS e M) (yV e K)) (hP : ∀ r M', K M' → P r (yS e M')) : xcall xft xNf xmt xtr d mu as (yS e M) P :=
  xcall_mono d d mu as _ _ _ (Nat.le_refl _) (fun r S' q => by obtain ⟨M', rfl, hk⟩ := q; exact hP r M' hk) h
theorem rg_lit {x : Int} (h : -2147483648 ≤ x ∧ x ≤ 2147483647) : rg x := h
def yAr (e : yE) (a n : Nat) : Prop := 0 < a ∧ a < e.1 ∧ e.2.2 a = (1, n) ∧ n ≤ 2147483647
/-- an array of the kind t and of n places -/
def yA (e : yE) (a t n : Nat) : Prop := 0 < a ∧ a < e.1 ∧ e.2.2 a = (t, n) ∧ n ≤ 2147483647
theorem xi_ldb {e : yE} {M : xM} {a t n : Nat} {i : Int} (h : yA e a t n) (hi : 0 ≤ i ∧ i < (n : Int)) : 0 < a ∧ xin (yS e M) a t i :=
  ⟨h.1, h.2.1, (congrArg Prod.fst h.2.2.1 : (e.2.2 a).1 = t), hi.1, (by show i < (((e.2.2 a).2 : Nat) : Int); rw [h.2.2.1]; exact hi.2), (by have := h.2.2.2; have := hi.2; omega)⟩
theorem xi_st {e : yE} {M : xM} {a t n : Nat} {i : Int} (h : yA e a t n) (hi : 0 ≤ i ∧ i < (n : Int)) : 0 < a ∧ xin (yS e M) a t i := xi_ldb h hi
theorem xi_stv {e : yE} {M : xM} {a t n : Nat} {i : Int} {p : Prop} (h : yA e a t n) (hi : 0 ≤ i ∧ i < (n : Int)) (hp : p) : 0 < a ∧ xin (yS e M) a t i ∧ p := ⟨h.1, (xi_ldb h hi).2, hp⟩
theorem xi_ld {e : yE} {M : xM} {a n : Nat} {i : Int} (h : yA e a 1 n) (hi : 0 ≤ i ∧ i < (n : Int)) : xin (yS e M) a (if a = 0 then 5 else 1) i := by
  rw [if_neg (Nat.ne_of_gt h.1)]; exact (xi_ldb h hi).2
/-- the reference's cells: the object at k, its arrays behind it -/
def RShT : List (Nat × Nat) := [(1, 8), (1, 48), (1, 144), (1, 8), (1, 300), (1, 300), (1, 900), (1, 300), (1, 300), (1, 300), (1, 300), (1, 900), (1, 300), (1, 300), (2, 300), (1, 20), (1, 60), (1, 20), (1, 720), (1, 240), (1, 240), (1, 18), (1, 16), (1, 8000), (1, 8000), (1, 128000), (3, 2300000), (1, 100000), (1, 1000), (2, 1000), (1, 1000), (2, 1000), (1, 1000), (1, 1000), (1, 5), (1, 4001), (2, 20), (2, 20), (1, 100), (1, 4000)]
def RSh (k : Nat) (e : yE) : Prop := 0 < k ∧ k + 40 < e.1 ∧ e.2.2 k = (20, 0) ∧ ∀ (i : Nat) (q : Nat × Nat), RShT[i]? = some q → e.2.2 (k + (i + 1)) = q
theorem rs_ob {k : Nat} {e : yE} {M : xM} (h : RSh k e) : 0 < k ∧ xob (yS e M) k 10 := ⟨h.1, (by show k < e.1; have := h.2.1; omega), (congrArg Prod.fst h.2.2.1 : (e.2.2 k).1 = 20)⟩
theorem rs_obv {k : Nat} {e : yE} {M : xM} {p : Prop} (h : RSh k e) (hp : p) : 0 < k ∧ xob (yS e M) k 10 ∧ p := ⟨h.1, (rs_ob (M := M) h).2, hp⟩
theorem rs_1 {k : Nat} {e : yE} (h : RSh k e) : yA e (k + 1) 1 8 := ⟨by omega, (by have := h.2.1; omega), h.2.2.2 0 _ rfl, by decide⟩
theorem rs_2 {k : Nat} {e : yE} (h : RSh k e) : yA e (k + 2) 1 48 := ⟨by omega, (by have := h.2.1; omega), h.2.2.2 1 _ rfl, by decide⟩
theorem rs_3 {k : Nat} {e : yE} (h : RSh k e) : yA e (k + 3) 1 144 := ⟨by omega, (by have := h.2.1; omega), h.2.2.2 2 _ rfl, by decide⟩
theorem rs_4 {k : Nat} {e : yE} (h : RSh k e) : yA e (k + 4) 1 8 := ⟨by omega, (by have := h.2.1; omega), h.2.2.2 3 _ rfl, by decide⟩
theorem rs_5 {k : Nat} {e : yE} (h : RSh k e) : yA e (k + 5) 1 300 := ⟨by omega, (by have := h.2.1; omega), h.2.2.2 4 _ rfl, by decide⟩
theorem rs_6 {k : Nat} {e : yE} (h : RSh k e) : yA e (k + 6) 1 300 := ⟨by omega, (by have := h.2.1; omega), h.2.2.2 5 _ rfl, by decide⟩
theorem rs_7 {k : Nat} {e : yE} (h : RSh k e) : yA e (k + 7) 1 900 := ⟨by omega, (by have := h.2.1; omega), h.2.2.2 6 _ rfl, by decide⟩
theorem rs_8 {k : Nat} {e : yE} (h : RSh k e) : yA e (k + 8) 1 300 := ⟨by omega, (by have := h.2.1; omega), h.2.2.2 7 _ rfl, by decide⟩
theorem rs_9 {k : Nat} {e : yE} (h : RSh k e) : yA e (k + 9) 1 300 := ⟨by omega, (by have := h.2.1; omega), h.2.2.2 8 _ rfl, by decide⟩
theorem rs_10 {k : Nat} {e : yE} (h : RSh k e) : yA e (k + 10) 1 300 := ⟨by omega, (by have := h.2.1; omega), h.2.2.2 9 _ rfl, by decide⟩
theorem rs_11 {k : Nat} {e : yE} (h : RSh k e) : yA e (k + 11) 1 300 := ⟨by omega, (by have := h.2.1; omega), h.2.2.2 10 _ rfl, by decide⟩
theorem rs_12 {k : Nat} {e : yE} (h : RSh k e) : yA e (k + 12) 1 900 := ⟨by omega, (by have := h.2.1; omega), h.2.2.2 11 _ rfl, by decide⟩
theorem rs_13 {k : Nat} {e : yE} (h : RSh k e) : yA e (k + 13) 1 300 := ⟨by omega, (by have := h.2.1; omega), h.2.2.2 12 _ rfl, by decide⟩
theorem rs_14 {k : Nat} {e : yE} (h : RSh k e) : yA e (k + 14) 1 300 := ⟨by omega, (by have := h.2.1; omega), h.2.2.2 13 _ rfl, by decide⟩
theorem rs_15 {k : Nat} {e : yE} (h : RSh k e) : yA e (k + 15) 2 300 := ⟨by omega, (by have := h.2.1; omega), h.2.2.2 14 _ rfl, by decide⟩
theorem rs_16 {k : Nat} {e : yE} (h : RSh k e) : yA e (k + 16) 1 20 := ⟨by omega, (by have := h.2.1; omega), h.2.2.2 15 _ rfl, by decide⟩
theorem rs_17 {k : Nat} {e : yE} (h : RSh k e) : yA e (k + 17) 1 60 := ⟨by omega, (by have := h.2.1; omega), h.2.2.2 16 _ rfl, by decide⟩
theorem rs_18 {k : Nat} {e : yE} (h : RSh k e) : yA e (k + 18) 1 20 := ⟨by omega, (by have := h.2.1; omega), h.2.2.2 17 _ rfl, by decide⟩
theorem rs_19 {k : Nat} {e : yE} (h : RSh k e) : yA e (k + 19) 1 720 := ⟨by omega, (by have := h.2.1; omega), h.2.2.2 18 _ rfl, by decide⟩
theorem rs_20 {k : Nat} {e : yE} (h : RSh k e) : yA e (k + 20) 1 240 := ⟨by omega, (by have := h.2.1; omega), h.2.2.2 19 _ rfl, by decide⟩
theorem rs_21 {k : Nat} {e : yE} (h : RSh k e) : yA e (k + 21) 1 240 := ⟨by omega, (by have := h.2.1; omega), h.2.2.2 20 _ rfl, by decide⟩
theorem rs_22 {k : Nat} {e : yE} (h : RSh k e) : yA e (k + 22) 1 18 := ⟨by omega, (by have := h.2.1; omega), h.2.2.2 21 _ rfl, by decide⟩
theorem rs_23 {k : Nat} {e : yE} (h : RSh k e) : yA e (k + 23) 1 16 := ⟨by omega, (by have := h.2.1; omega), h.2.2.2 22 _ rfl, by decide⟩
theorem rs_24 {k : Nat} {e : yE} (h : RSh k e) : yA e (k + 24) 1 8000 := ⟨by omega, (by have := h.2.1; omega), h.2.2.2 23 _ rfl, by decide⟩
theorem rs_25 {k : Nat} {e : yE} (h : RSh k e) : yA e (k + 25) 1 8000 := ⟨by omega, (by have := h.2.1; omega), h.2.2.2 24 _ rfl, by decide⟩
theorem rs_26 {k : Nat} {e : yE} (h : RSh k e) : yA e (k + 26) 1 128000 := ⟨by omega, (by have := h.2.1; omega), h.2.2.2 25 _ rfl, by decide⟩
theorem rs_27 {k : Nat} {e : yE} (h : RSh k e) : yA e (k + 27) 3 2300000 := ⟨by omega, (by have := h.2.1; omega), h.2.2.2 26 _ rfl, by decide⟩
theorem rs_28 {k : Nat} {e : yE} (h : RSh k e) : yA e (k + 28) 1 100000 := ⟨by omega, (by have := h.2.1; omega), h.2.2.2 27 _ rfl, by decide⟩
theorem rs_29 {k : Nat} {e : yE} (h : RSh k e) : yA e (k + 29) 1 1000 := ⟨by omega, (by have := h.2.1; omega), h.2.2.2 28 _ rfl, by decide⟩
theorem rs_30 {k : Nat} {e : yE} (h : RSh k e) : yA e (k + 30) 2 1000 := ⟨by omega, (by have := h.2.1; omega), h.2.2.2 29 _ rfl, by decide⟩
theorem rs_31 {k : Nat} {e : yE} (h : RSh k e) : yA e (k + 31) 1 1000 := ⟨by omega, (by have := h.2.1; omega), h.2.2.2 30 _ rfl, by decide⟩
theorem rs_32 {k : Nat} {e : yE} (h : RSh k e) : yA e (k + 32) 2 1000 := ⟨by omega, (by have := h.2.1; omega), h.2.2.2 31 _ rfl, by decide⟩
theorem rs_33 {k : Nat} {e : yE} (h : RSh k e) : yA e (k + 33) 1 1000 := ⟨by omega, (by have := h.2.1; omega), h.2.2.2 32 _ rfl, by decide⟩
theorem rs_34 {k : Nat} {e : yE} (h : RSh k e) : yA e (k + 34) 1 1000 := ⟨by omega, (by have := h.2.1; omega), h.2.2.2 33 _ rfl, by decide⟩
theorem rs_35 {k : Nat} {e : yE} (h : RSh k e) : yA e (k + 35) 1 5 := ⟨by omega, (by have := h.2.1; omega), h.2.2.2 34 _ rfl, by decide⟩
theorem rs_36 {k : Nat} {e : yE} (h : RSh k e) : yA e (k + 36) 1 4001 := ⟨by omega, (by have := h.2.1; omega), h.2.2.2 35 _ rfl, by decide⟩
theorem rs_37 {k : Nat} {e : yE} (h : RSh k e) : yA e (k + 37) 2 20 := ⟨by omega, (by have := h.2.1; omega), h.2.2.2 36 _ rfl, by decide⟩
theorem rs_38 {k : Nat} {e : yE} (h : RSh k e) : yA e (k + 38) 2 20 := ⟨by omega, (by have := h.2.1; omega), h.2.2.2 37 _ rfl, by decide⟩
theorem rs_39 {k : Nat} {e : yE} (h : RSh k e) : yA e (k + 39) 1 100 := ⟨by omega, (by have := h.2.1; omega), h.2.2.2 38 _ rfl, by decide⟩
theorem rs_40 {k : Nat} {e : yE} (h : RSh k e) : yA e (k + 40) 1 4000 := ⟨by omega, (by have := h.2.1; omega), h.2.2.2 39 _ rfl, by decide⟩
end
section
/-! ===== laid by dec.py: the texts of the reference's methods ===== -/
def R_isType (e : yE) (d k : Nat) (x1 : Int) (M : xM) (Q : Int → xM → Prop) : Prop := xcall xft xNf xmt xtr d 101 [.inr (some k), .inl x1] (yS e M) (yI e Q)
def R_type (e : yE) (d k : Nat) (M : xM) (Q : Int → xM → Prop) : Prop := xcall xft xNf xmt xtr d 102 [.inr (some k)] (yS e M) (yI e Q)
def R_maker (e : yE) (d k : Nat) (x1 : Int) (x2 : Int) (x3 : Int) (x4 : Int) (x5 : Int) (M : xM) (Q : Int → xM → Prop) : Prop := xcall xft xNf xmt xtr d 103 [.inr (some k), .inl x1, .inl x2, .inl x3, .inl x4, .inl x5] (yS e M) (yI e Q)
def R_madeSize (e : yE) (d k : Nat) (x1 : Int) (x2 : Int) (M : xM) (Q : Int → xM → Prop) : Prop := xcall xft xNf xmt xtr d 104 [.inr (some k), .inl x1, .inl x2] (yS e M) (yI e Q)
def R_findPlains (e : yE) (d k : Nat) (M : xM) (Q : xM → Prop) : Prop := xcall xft xNf xmt xtr d 105 [.inr (some k)] (yS e M) (yV e Q)
def R_isMaker (e : yE) (d k : Nat) (x1 : Int) (x2 : Int) (M : xM) (Q : Int → xM → Prop) : Prop := xcall xft xNf xmt xtr d 106 [.inr (some k), .inl x1, .inl x2] (yS e M) (yI e Q)
def R_countOf (e : yE) (d k : Nat) (x1 : Int) (x2 : Int) (M : xM) (Q : Int → xM → Prop) : Prop := xcall xft xNf xmt xtr d 107 [.inr (some k), .inl x1, .inl x2] (yS e M) (yI e Q)
def R_partType (e : yE) (d k : Nat) (x1 : Int) (x2 : Int) (x3 : Int) (M : xM) (Q : Int → xM → Prop) : Prop := xcall xft xNf xmt xtr d 108 [.inr (some k), .inl x1, .inl x2, .inl x3] (yS e M) (yI e Q)
def R_addValue (e : yE) (d k : Nat) (x1 : Int) (x2 : Int) (x3 : Int) (M : xM) (Q : Int → xM → Prop) : Prop := xcall xft xNf xmt xtr d 109 [.inr (some k), .inl x1, .inl x2, .inl x3] (yS e M) (yI e Q)
def R_number (e : yE) (d k : Nat) (x1 : Int) (M : xM) (Q : Int → xM → Prop) : Prop := xcall xft xNf xmt xtr d 110 [.inr (some k), .inl x1] (yS e M) (yI e Q)
def R_isValueOf (e : yE) (d k : Nat) (x1 : Int) (x2 : Int) (M : xM) (Q : Int → xM → Prop) : Prop := xcall xft xNf xmt xtr d 111 [.inr (some k), .inl x1, .inl x2] (yS e M) (yI e Q)
def R_pick (e : yE) (d : Nat) (x0 : Int) (x1 : Int) (x2 : Int) (x3 : Int) (M : xM) (Q : Int → xM → Prop) : Prop := xcall xft xNf xmt xtr d 112 [.inl x0, .inl x1, .inl x2, .inl x3] (yS e M) (yI e Q)
def R_make (e : yE) (d k : Nat) (x1 : Int) (x2 : Int) (x3 : Int) (x4 : Int) (x5 : Int) (M : xM) (Q : Int → xM → Prop) : Prop := xcall xft xNf xmt xtr d 113 [.inr (some k), .inl x1, .inl x2, .inl x3, .inl x4, .inl x5] (yS e M) (yI e Q)
def R_addPattern (e : yE) (d k : Nat) (x1 : Int) (x2 : Int) (x3 : Int) (x4 : Int) (x5 : Int) (x6 : Int) (M : xM) (Q : Int → xM → Prop) : Prop := xcall xft xNf xmt xtr d 114 [.inr (some k), .inl x1, .inl x2, .inl x3, .inl x4, .inl x5, .inl x6] (yS e M) (yI e Q)
def R_isName (e : yE) (d : Nat) (x0 : Int) (M : xM) (Q : Int → xM → Prop) : Prop := xcall xft xNf xmt xtr d 115 [.inl x0] (yS e M) (yI e Q)
def R_isPattern (e : yE) (d k : Nat) (x1 : Int) (M : xM) (Q : Int → xM → Prop) : Prop := xcall xft xNf xmt xtr d 116 [.inr (some k), .inl x1] (yS e M) (yI e Q)
def R_hasName (e : yE) (d k : Nat) (x1 : Int) (x2 : Int) (M : xM) (Q : Int → xM → Prop) : Prop := xcall xft xNf xmt xtr d 117 [.inr (some k), .inl x1, .inl x2] (yS e M) (yI e Q)
def R_any (e : yE) (d k : Nat) (x1 : Int) (x2 : Int) (M : xM) (Q : Int → xM → Prop) : Prop := xcall xft xNf xmt xtr d 118 [.inr (some k), .inl x1, .inl x2] (yS e M) (yI e Q)
def R_also (e : yE) (d k : Nat) (x1 : Int) (x2 : Int) (M : xM) (Q : Int → xM → Prop) : Prop := xcall xft xNf xmt xtr d 119 [.inr (some k), .inl x1, .inl x2] (yS e M) (yI e Q)
def R_exactly (e : yE) (d k : Nat) (x1 : Int) (M : xM) (Q : Int → xM → Prop) : Prop := xcall xft xNf xmt xtr d 120 [.inr (some k), .inl x1] (yS e M) (yI e Q)
def R_made (e : yE) (d k : Nat) (x1 : Int) (x2 : Int) (x3 : Int) (x4 : Int) (x5 : Int) (M : xM) (Q : Int → xM → Prop) : Prop := xcall xft xNf xmt xtr d 121 [.inr (some k), .inl x1, .inl x2, .inl x3, .inl x4, .inl x5] (yS e M) (yI e Q)
def R_either (e : yE) (d k : Nat) (x1 : Int) (x2 : Int) (M : xM) (Q : Int → xM → Prop) : Prop := xcall xft xNf xmt xtr d 122 [.inr (some k), .inl x1, .inl x2] (yS e M) (yI e Q)
def R_match (e : yE) (d k : Nat) (x1 : Int) (x2 : Int) (x3 : Int) (x4 : Int) (M : xM) (Q : Int → xM → Prop) : Prop := xcall xft xNf xmt xtr d 123 [.inr (some k), .inl x1, .inl x2, .inl x3, .inl x4] (yS e M) (yI e Q)
def R_isMatch (e : yE) (d k : Nat) (x1 : Int) (M : xM) (Q : Int → xM → Prop) : Prop := xcall xft xNf xmt xtr d 124 [.inr (some k), .inl x1] (yS e M) (yI e Q)
def R_patternOf (e : yE) (d k : Nat) (x1 : Int) (x2 : Int) (x3 : Int) (M : xM) (Q : Int → xM → Prop) : Prop := xcall xft xNf xmt xtr d 125 [.inr (some k), .inl x1, .inl x2, .inl x3] (yS e M) (yI e Q)
def R_typeOfName (e : yE) (d k : Nat) (x1 : Int) (x2 : Int) (M : xM) (Q : Int → xM → Prop) : Prop := xcall xft xNf xmt xtr d 126 [.inr (some k), .inl x1, .inl x2] (yS e M) (yI e Q)
def R_row (e : yE) (d k : Nat) (x1 : Int) (x2 : Int) (x3 : Int) (x4 : Int) (x5 : Int) (x6 : Int) (M : xM) (Q : Int → xM → Prop) : Prop := xcall xft xNf xmt xtr d 127 [.inr (some k), .inl x1, .inl x2, .inl x3, .inl x4, .inl x5, .inl x6] (yS e M) (yI e Q)
def R_doesMatch (e : yE) (d k : Nat) (x1 : Int) (x2 : Int) (M : xM) (Q : Int → xM → Prop) : Prop := xcall xft xNf xmt xtr d 128 [.inr (some k), .inl x1, .inl x2] (yS e M) (yI e Q)
def R_takes (e : yE) (d k : Nat) (x1 : Int) (x2 : Int) (x3 : Int) (x4 : Int) (x5 : Int) (M : xM) (Q : Int → xM → Prop) : Prop := xcall xft xNf xmt xtr d 129 [.inr (some k), .inl x1, .inl x2, .inl x3, .inl x4, .inl x5] (yS e M) (yI e Q)
def R_newPlace (e : yE) (d k : Nat) (x1 : Int) (x2 : Int) (M : xM) (Q : Int → xM → Prop) : Prop := xcall xft xNf xmt xtr d 130 [.inr (some k), .inl x1, .inl x2] (yS e M) (yI e Q)
def R_pushRow (e : yE) (d k : Nat) (x1 : Int) (x2 : Int) (M : xM) (Q : Int → xM → Prop) : Prop := xcall xft xNf xmt xtr d 131 [.inr (some k), .inl x1, .inl x2] (yS e M) (yI e Q)
def R_cell (e : yE) (d k : Nat) (x1 : Int) (x2 : Int) (M : xM) (Q : Int → xM → Prop) : Prop := xcall xft xNf xmt xtr d 132 [.inr (some k), .inl x1, .inl x2] (yS e M) (yI e Q)
def R_setCell (e : yE) (d k : Nat) (x1 : Int) (x2 : Int) (x3 : Int) (x4 : Int) (M : xM) (Q : xM → Prop) : Prop := xcall xft xNf xmt xtr d 133 [.inr (some k), .inl x1, .inl x2, .inl x3, .inl x4] (yS e M) (yV e Q)
def R_copyRow (e : yE) (d k : Nat) (x1 : Int) (x2 : Int) (x3 : Int) (M : xM) (Q : xM → Prop) : Prop := xcall xft xNf xmt xtr d 134 [.inr (some k), .inl x1, .inl x2, .inl x3] (yS e M) (yV e Q)
def R_goThrough (e : yE) (d k : Nat) (x1 : Int) (x2 : Int) (x3 : Int) (x4 : Int) (x5 : Int) (M : xM) (Q : xM → Prop) : Prop := xcall xft xNf xmt xtr d 135 [.inr (some k), .inl x1, .inl x2, .inl x3, .inl x4, .inl x5] (yS e M) (yV e Q)
def R_countNode (e : yE) (d k : Nat) (x1 : Int) (M : xM) (Q : Int → xM → Prop) : Prop := xcall xft xNf xmt xtr d 136 [.inr (some k), .inl x1] (yS e M) (yI e Q)
def R_firstOpen (e : yE) (d k : Nat) (x1 : Int) (x2 : Int) (M : xM) (Q : Int → xM → Prop) : Prop := xcall xft xNf xmt xtr d 137 [.inr (some k), .inl x1, .inl x2] (yS e M) (yI e Q)
def R_isEither (e : yE) (d k : Nat) (x1 : Int) (x2 : Int) (M : xM) (Q : Int → xM → Prop) : Prop := xcall xft xNf xmt xtr d 138 [.inr (some k), .inl x1, .inl x2] (yS e M) (yI e Q)
def R_split (e : yE) (d k : Nat) (x1 : Int) (x2 : Int) (x3 : Int) (x4 : Int) (x5 : Int) (M : xM) (Q : xM → Prop) : Prop := xcall xft xNf xmt xtr d 139 [.inr (some k), .inl x1, .inl x2, .inl x3, .inl x4, .inl x5] (yS e M) (yV e Q)
def R_node (e : yE) (d k : Nat) (x1 : Int) (x2 : Int) (x3 : Int) (M : xM) (Q : xM → Prop) : Prop := xcall xft xNf xmt xtr d 140 [.inr (some k), .inl x1, .inl x2, .inl x3] (yS e M) (yV e Q)
def R_failure (e : yE) (d k : Nat) (M : xM) (Q : xM → Prop) : Prop := xcall xft xNf xmt xtr d 141 [.inr (some k)] (yS e M) (yV e Q)
def R_leaf (e : yE) (d k : Nat) (x1 : Int) (x2 : Int) (x3 : Int) (M : xM) (Q : xM → Prop) : Prop := xcall xft xNf xmt xtr d 142 [.inr (some k), .inl x1, .inl x2, .inl x3] (yS e M) (yV e Q)
def R_test (e : yE) (d k : Nat) (x1 : Int) (x2 : Int) (x3 : Int) (x4 : Int) (M : xM) (Q : xM → Prop) : Prop := xcall xft xNf xmt xtr d 143 [.inr (some k), .inl x1, .inl x2, .inl x3, .inl x4] (yS e M) (yV e Q)
def R_leastOther (e : yE) (d k : Nat) (x1 : Int) (x2 : Int) (x3 : Int) (M : xM) (Q : Int → xM → Prop) : Prop := xcall xft xNf xmt xtr d 144 [.inr (some k), .inl x1, .inl x2, .inl x3] (yS e M) (yI e Q)
def R_branch (e : yE) (d k : Nat) (x1 : Int) (x2 : Int) (x3 : Int) (x4 : Int) (x5 : Int) (x6 : Int) (x7 : Int) (M : xM) (Q : xM → Prop) : Prop := xcall xft xNf xmt xtr d 145 [.inr (some k), .inl x1, .inl x2, .inl x3, .inl x4, .inl x5, .inl x6, .inl x7] (yS e M) (yV e Q)
def R_put (e : yE) (d k : Nat) (x1 : Int) (M : xM) (Q : xM → Prop) : Prop := xcall xft xNf xmt xtr d 146 [.inr (some k), .inl x1] (yS e M) (yV e Q)
def R_tellPlain (e : yE) (d k : Nat) (x1 : Int) (M : xM) (Q : xM → Prop) : Prop := xcall xft xNf xmt xtr d 147 [.inr (some k), .inl x1] (yS e M) (yV e Q)
def R_tell (e : yE) (d k : Nat) (x1 : Int) (M : xM) (Q : xM → Prop) : Prop := xcall xft xNf xmt xtr d 148 [.inr (some k), .inl x1] (yS e M) (yV e Q)
def R_look (e : yE) (d k : Nat) (x1 : Int) (M : xM) (Q : xM → Prop) : Prop := xcall xft xNf xmt xtr d 149 [.inr (some k), .inl x1] (yS e M) (yV e Q)
def R_forget (e : yE) (d k : Nat) (M : xM) (Q : xM → Prop) : Prop := xcall xft xNf xmt xtr d 150 [.inr (some k)] (yS e M) (yV e Q)
def R_run (e : yE) (d k : Nat) (x1 : Int) (x2 : Int) (x3 : Int) (x4 : Int) (M : xM) (Q : Int → xM → Prop) : Prop := xcall xft xNf xmt xtr d 151 [.inr (some k), .inl x1, .inl x2, .inl x3, .inl x4] (yS e M) (yI e Q)
def R_took (e : yE) (d k : Nat) (x1 : Int) (M : xM) (Q : Int → xM → Prop) : Prop := xcall xft xNf xmt xtr d 152 [.inr (some k), .inl x1] (yS e M) (yI e Q)
def R_tree (e : yE) (d k : Nat) (x1 : Int) (x2 : Int) (M : xM) (Q : Int → xM → Prop) : Prop := xcall xft xNf xmt xtr d 153 [.inr (some k), .inl x1, .inl x2] (yS e M) (yI e Q)
def R_missing (e : yE) (d k : Nat) (x1 : Int) (M : xM) (Q : Int → xM → Prop) : Prop := xcall xft xNf xmt xtr d 154 [.inr (some k), .inl x1] (yS e M) (yI e Q)
def R_part (e : yE) (d k : Nat) (x1 : Int) (M : xM) (Q : Int → xM → Prop) : Prop := xcall xft xNf xmt xtr d 155 [.inr (some k), .inl x1] (yS e M) (yI e Q)
def R_plain (e : yE) (d k : Nat) (x1 : Int) (M : xM) (Q : Int → xM → Prop) : Prop := xcall xft xNf xmt xtr d 156 [.inr (some k), .inl x1] (yS e M) (yI e Q)
def R_sumOf (e : yE) (d : Nat) (a0 : Nat) (n0 : Nat) (x1 : Int) (M : xM) (Q : Int → xM → Prop) : Prop := xcall xft xNf xmt xtr d 157 [.inr (some a0), .inl x1] (yS e M) (yI e Q)
def R_count (e : yE) (d k : Nat) (x1 : Int) (M : xM) (Q : Int → xM → Prop) : Prop := xcall xft xNf xmt xtr d 158 [.inr (some k), .inl x1] (yS e M) (yI e Q)
def R_check (e : yE) (d k : Nat) (M : xM) (Q : Int → xM → Prop) : Prop := xcall xft xNf xmt xtr d 159 [.inr (some k)] (yS e M) (yI e Q)
def R_isType_0 (e : yE) (d k : Nat) (x1 : Int) (M : xM) (Q : Int → xM → Prop) : Prop := xGo xft xNf xmt xtr d 101 0 [some (.inr (some k)), some (.inl x1)] [] (yS e M) (yI e Q)
theorem t_isType_0 {e : yE} {d k : Nat} {x1 : Int} {M : xM} {Q : Int → xM → Prop} (hs : RSh k e) (h :
    (rg x1) ∧ ((x1 < 0 → 
      (Q (0 : Int) M)) ∧ 
    (¬ (x1 < 0) → 
      ((rg x1 ∧ rg (M k 1)) ∧ (((M k 1) ≤ x1 → 
        (Q (0 : Int) M)) ∧ 
      (¬ ((M k 1) ≤ x1) → 
        (Q (1 : Int) M))))))) : R_isType_0 e d k x1 M Q := by
  refine xGo.in ?_
  refine And.intro (h.1) (And.intro (fun c => ?_) (fun c => ?_))
  · replace h := h.2.1 c
    exact And.intro (by decide) (yI_ret h)
  · replace h := h.2.2 c
    refine And.intro (rs_ob hs) ?_
    refine And.intro (⟨h.1.1, h.1.2⟩) (And.intro (fun c => ?_) (fun c => ?_))
    · replace h := h.2.1 c
      exact And.intro (by decide) (yI_ret h)
    · replace h := h.2.2 c
      exact And.intro (by decide) (yI_ret h)
theorem t_isType {e : yE} {d k : Nat} {x1 : Int} {M : xM} {Q : Int → xM → Prop} (h : R_isType_0 e d k x1 M Q) : R_isType e (d + 1) k x1 M Q := h
def R_type_0 (e : yE) (d k : Nat) (M : xM) (Q : Int → xM → Prop) : Prop := xGo xft xNf xmt xtr d 102 0 [some (.inr (some k))] [] (yS e M) (yI e Q)
theorem t_type_0 {e : yE} {d k : Nat} {M : xM} {Q : Int → xM → Prop} (hs : RSh k e) (h :
    ∀ M1 : xM, M1 = xup M k 0 (0 : Int) → 
    ((rg (M1 k 1)) ∧ ((¬ (M1 k 1) = (8 : Int) → 
      (∀ M2 : xM, M2 = xup M1 k 1 ((M1 k 1) + (1 : Int)) → 
      (Q ((M2 k 1) - (1 : Int)) M2))) ∧ 
    (¬ (¬ (M1 k 1) = (8 : Int)) → 
      (Q (-1 : Int) M1))))) : R_type_0 e d k  M Q := by
  refine xGo.in ?_
  refine And.intro (rs_ob hs) ?_
  replace h := h _ rfl
  refine And.intro (rs_ob hs) ?_
  refine And.intro (⟨h.1, rg_lit (by decide)⟩) (And.intro (fun c => ?_) (fun c => ?_))
  · replace h := h.2.1 c
    refine And.intro (rs_ob hs) ?_
    refine And.intro (rs_ob hs) ?_
    replace h := h _ rfl
    refine And.intro (rs_ob hs) ?_
    exact yI_ret h
  · replace h := h.2.2 c
    exact yI_ret h
theorem t_type {e : yE} {d k : Nat} {M : xM} {Q : Int → xM → Prop} (h : R_type_0 e d k  M Q) : R_type e (d + 1) k  M Q := h
def R_maker_0 (e : yE) (d k : Nat) (x1 x2 x3 x4 x5 : Int) (M : xM) (Q : Int → xM → Prop) : Prop := ∀ (o6 : Option xV), xGo xft xNf xmt xtr d 103 0 [some (.inr (some k)), some (.inl x1), some (.inl x2), some (.inl x3), some (.inl x4), some (.inl x5), o6] [] (yS e M) (yI e Q)
def R_maker_68 (e : yE) (d k : Nat) (x1 x2 x3 x4 x5 : Int) (M : xM) (Q : Int → xM → Prop) : Prop := ∀ (o6 : Option xV), xGo xft xNf xmt xtr d 103 68 [some (.inr (some k)), some (.inl x1), some (.inl x2), some (.inl x3), some (.inl x4), some (.inl x5), o6] [] (yS e M) (yI e Q)
def R_maker_82 (e : yE) (d k : Nat) (x1 x2 x3 x4 x5 : Int) (M : xM) (Q : Int → xM → Prop) : Prop := ∀ (o6 : Option xV), xGo xft xNf xmt xtr d 103 82 [some (.inr (some k)), some (.inl x1), some (.inl x2), some (.inl x3), some (.inl x4), some (.inl x5), o6] [] (yS e M) (yI e Q)
def R_maker_98 (e : yE) (d k : Nat) (x1 x2 x3 x4 x5 : Int) (M : xM) (Q : Int → xM → Prop) : Prop := ∀ (o6 : Option xV), xGo xft xNf xmt xtr d 103 98 [some (.inr (some k)), some (.inl x1), some (.inl x2), some (.inl x3), some (.inl x4), some (.inl x5), o6] [] (yS e M) (yI e Q)
theorem t_maker_0 {e : yE} {d k : Nat} {x1 x2 x3 x4 x5 : Int} {M : xM} {Q : Int → xM → Prop} (hs : RSh k e) (h :
    ∀ M1 : xM, M1 = xup M k 0 (0 : Int) → 
    (R_isType e d k x1 M1 (fun y3 M2 => 
    (rg y3) ∧ ((y3 = 0 → 
      (Q (-1 : Int) M2)) ∧ 
    (¬ (y3 = 0) → 
      ((rg x1) ∧ ((x1 = 0 → 
        (Q (-1 : Int) M2)) ∧ 
      (¬ (x1 = 0) → 
        ((rg x2) ∧ ((x2 < 0 → 
          (Q (-1 : Int) M2)) ∧ 
        (¬ (x2 < 0) → 
          ((rg x2) ∧ (((3 : Int) < x2 → 
            (Q (-1 : Int) M2)) ∧ 
          (¬ ((3 : Int) < x2) → 
            ((0 ≤ x1 ∧ x1 < 8) ∧ 
            ((rg (M2 (k + 1) x1)) ∧ (((M2 (k + 1) x1) = (6 : Int) → 
              (Q (-1 : Int) M2)) ∧ 
            (¬ ((M2 (k + 1) x1) = (6 : Int)) → 
              ((rg (((M2 k 10) + (M2 k 18)) + (M2 k 25))) ∧ (((((M2 k 10) + (M2 k 18)) + (M2 k 25)) ≤ 0 → 
                ((rg x2) ∧ ((x2 ≤ 0 → 
                  (R_maker_68 e d k x1 x2 x3 x4 x5 M2 Q)) ∧ 
                (¬ (x2 ≤ 0) → 
                  (R_isType e d k x3 M2 (fun y5 M4 => 
                  (rg y5) ∧ ((y5 = 0 → 
                    (Q (-1 : Int) M4)) ∧ 
                  (¬ (y5 = 0) → 
                    (R_maker_68 e d k x1 x2 x3 x4 x5 M4 Q))))))))) ∧ 
              (¬ ((((M2 k 10) + (M2 k 18)) + (M2 k 25)) ≤ 0) → 
                (Q (-1 : Int) M2)))))))))))))))))))))) : R_maker_0 e d k x1 x2 x3 x4 x5 M Q := by
  intro o6
  refine xGo.in ?_
  refine And.intro (rs_ob hs) ?_
  replace h := h _ rfl
  refine And.intro ⟨Nat.le_of_ble_eq_true rfl, Nat.le_of_ble_eq_true rfl, rs_ob hs⟩ ?_
  refine yI_use h (fun y3 M2 h => ?_)
  refine And.intro (h.1) (And.intro (fun c => ?_) (fun c => ?_))
  · replace h := h.2.1 c
    exact yI_ret h
  · replace h := h.2.2 c
    refine And.intro (h.1) (And.intro (fun c => ?_) (fun c => ?_))
    · replace h := h.2.1 c
      exact yI_ret h
    · replace h := h.2.2 c
      refine And.intro (h.1) (And.intro (fun c => ?_) (fun c => ?_))
      · replace h := h.2.1 c
        exact yI_ret h
      · replace h := h.2.2 c
        refine And.intro (⟨h.1, rg_lit (by decide)⟩) (And.intro (fun c => ?_) (fun c => ?_))
        · replace h := h.2.1 c
          exact yI_ret h
        · replace h := h.2.2 c
          refine And.intro (rs_ob hs) ?_
          refine And.intro (xi_ld (rs_1 hs) (h.1)) ?_
          replace h := h.2
          refine And.intro (⟨h.1, rg_lit (by decide)⟩) (And.intro (fun c => ?_) (fun c => ?_))
          · replace h := h.2.1 c
            exact yI_ret h
          · replace h := h.2.2 c
            refine And.intro (rs_ob hs) ?_
            refine And.intro (rs_ob hs) ?_
            refine And.intro (rs_ob hs) ?_
            refine And.intro (h.1) (And.intro (fun c => ?_) (fun c => ?_))
            · replace h := h.2.1 c
              refine And.intro (h.1) (And.intro (fun c => ?_) (fun c => ?_))
              · replace h := h.2.1 c
                exact h _
              · replace h := h.2.2 c
                refine And.intro ⟨Nat.le_of_ble_eq_true rfl, Nat.le_of_ble_eq_true rfl, rs_ob hs⟩ ?_
                refine yI_use h (fun y5 M4 h => ?_)
                refine And.intro (h.1) (And.intro (fun c => ?_) (fun c => ?_))
                · replace h := h.2.1 c
                  exact yI_ret h
                · replace h := h.2.2 c
                  exact h _
            · replace h := h.2.2 c
              exact yI_ret h
theorem t_maker_68 {e : yE} {d k : Nat} {x1 x2 x3 x4 x5 : Int} {M : xM} {Q : Int → xM → Prop} (hs : RSh k e) (h :
    (rg x2) ∧ ((x2 ≤ (1 : Int) → 
      (R_maker_82 e d k x1 x2 x3 x4 x5 M Q)) ∧ 
    (¬ (x2 ≤ (1 : Int)) → 
      (R_isType e d k x4 M (fun y2 M1 => 
      (rg y2) ∧ ((y2 = 0 → 
        (Q (-1 : Int) M1)) ∧ 
      (¬ (y2 = 0) → 
        (R_maker_82 e d k x1 x2 x3 x4 x5 M1 Q)))))))) : R_maker_68 e d k x1 x2 x3 x4 x5 M Q := by
  intro o6
  refine xGo.in ?_
  refine And.intro (⟨h.1, rg_lit (by decide)⟩) (And.intro (fun c => ?_) (fun c => ?_))
  · replace h := h.2.1 c
    exact h _
  · replace h := h.2.2 c
    refine And.intro ⟨Nat.le_of_ble_eq_true rfl, Nat.le_of_ble_eq_true rfl, rs_ob hs⟩ ?_
    refine yI_use h (fun y2 M1 h => ?_)
    refine And.intro (h.1) (And.intro (fun c => ?_) (fun c => ?_))
    · replace h := h.2.1 c
      exact yI_ret h
    · replace h := h.2.2 c
      exact h _
theorem t_maker_82 {e : yE} {d k : Nat} {x1 x2 x3 x4 x5 : Int} {M : xM} {Q : Int → xM → Prop} (hs : RSh k e) (h :
    (rg x2) ∧ ((x2 ≤ (2 : Int) → 
      (R_maker_98 e d k x1 x2 x3 x4 x5 M Q)) ∧ 
    (¬ (x2 ≤ (2 : Int)) → 
      (R_isType e d k x5 M (fun y2 M1 => 
      (rg y2) ∧ ((¬ y2 = 0 → 
        (R_maker_98 e d k x1 x2 x3 x4 x5 M1 Q)) ∧ 
      (¬ (¬ y2 = 0) → 
        (Q (-1 : Int) M1)))))))) : R_maker_82 e d k x1 x2 x3 x4 x5 M Q := by
  intro o6
  refine xGo.in ?_
  refine And.intro (⟨h.1, rg_lit (by decide)⟩) (And.intro (fun c => ?_) (fun c => ?_))
  · replace h := h.2.1 c
    exact h _
  · replace h := h.2.2 c
    refine And.intro ⟨Nat.le_of_ble_eq_true rfl, Nat.le_of_ble_eq_true rfl, rs_ob hs⟩ ?_
    refine yI_use h (fun y2 M1 h => ?_)
    refine And.intro (h.1) (And.intro (fun c => ?_) (fun c => ?_))
    · replace h := h.2.1 c
      exact h _
    · replace h := h.2.2 c
      exact yI_ret h
theorem t_maker_98 {e : yE} {d k : Nat} {x1 x2 x3 x4 x5 : Int} {M : xM} {Q : Int → xM → Prop} (hs : RSh k e) (h :
    (0 ≤ x1 ∧ x1 < 8) ∧ 
    ((0 ≤ (((6 : Int) * x1) + (M (k + 1) x1)) ∧ (((6 : Int) * x1) + (M (k + 1) x1)) < 48) ∧ 
    (∀ M1 : xM, M1 = xup M (k + 2) (((6 : Int) * x1) + (M (k + 1) x1)) x2 → 
    ((0 ≤ ((3 : Int) * (((6 : Int) * x1) + (M (k + 1) x1))) ∧ ((3 : Int) * (((6 : Int) * x1) + (M (k + 1) x1))) < 144) ∧ 
    (∀ M2 : xM, M2 = xup M1 (k + 3) ((3 : Int) * (((6 : Int) * x1) + (M (k + 1) x1))) x3 → 
    ((0 ≤ (((3 : Int) * (((6 : Int) * x1) + (M (k + 1) x1))) + (1 : Int)) ∧ (((3 : Int) * (((6 : Int) * x1) + (M (k + 1) x1))) + (1 : Int)) < 144) ∧ 
    (∀ M3 : xM, M3 = xup M2 (k + 3) (((3 : Int) * (((6 : Int) * x1) + (M (k + 1) x1))) + (1 : Int)) x4 → 
    ((0 ≤ (((3 : Int) * (((6 : Int) * x1) + (M (k + 1) x1))) + (2 : Int)) ∧ (((3 : Int) * (((6 : Int) * x1) + (M (k + 1) x1))) + (2 : Int)) < 144) ∧ 
    (∀ M4 : xM, M4 = xup M3 (k + 3) (((3 : Int) * (((6 : Int) * x1) + (M (k + 1) x1))) + (2 : Int)) x5 → 
    ((0 ≤ x1 ∧ x1 < 8) ∧ 
    ((0 ≤ x1 ∧ x1 < 8) ∧ 
    (∀ M5 : xM, M5 = xup M4 (k + 1) x1 ((M4 (k + 1) x1) + (1 : Int)) → 
    (R_findPlains e d k  M5 (fun M6 => 
    (0 ≤ x1 ∧ x1 < 8) ∧ 
    (Q ((M6 (k + 1) x1) - (1 : Int)) M6))))))))))))))) : R_maker_98 e d k x1 x2 x3 x4 x5 M Q := by
  intro o6
  refine xGo.in ?_
  refine And.intro (rs_ob hs) ?_
  refine And.intro (xi_ld (rs_1 hs) (h.1)) ?_
  replace h := h.2
  refine And.intro (rs_ob hs) ?_
  refine And.intro (xi_st (rs_2 hs) (h.1)) ?_
  replace h := h.2
  replace h := h _ rfl
  refine And.intro (rs_ob hs) ?_
  refine And.intro (xi_st (rs_3 hs) (h.1)) ?_
  replace h := h.2
  replace h := h _ rfl
  refine And.intro (rs_ob hs) ?_
  refine And.intro (xi_st (rs_3 hs) (h.1)) ?_
  replace h := h.2
  replace h := h _ rfl
  refine And.intro (rs_ob hs) ?_
  refine And.intro (xi_st (rs_3 hs) (h.1)) ?_
  replace h := h.2
  replace h := h _ rfl
  refine And.intro (rs_ob hs) ?_
  refine And.intro (xi_ld (rs_1 hs) (h.1)) ?_
  replace h := h.2
  refine And.intro (xi_st (rs_1 hs) (h.1)) ?_
  replace h := h.2
  replace h := h _ rfl
  refine And.intro ⟨Nat.le_of_ble_eq_true rfl, Nat.le_of_ble_eq_true rfl, rs_ob hs⟩ ?_
  refine yV_use h (fun _ M6 h => ?_)
  refine And.intro (rs_ob hs) ?_
  refine And.intro (xi_ld (rs_1 hs) (h.1)) ?_
  replace h := h.2
  exact yI_ret h
theorem t_maker {e : yE} {d k : Nat} {x1 : Int} {x2 : Int} {x3 : Int} {x4 : Int} {x5 : Int} {M : xM} {Q : Int → xM → Prop} (h : R_maker_0 e d k x1 x2 x3 x4 x5 M Q) : R_maker e (d + 1) k x1 x2 x3 x4 x5 M Q := h _
def R_madeSize_0 (e : yE) (d k : Nat) (x1 x2 : Int) (M : xM) (Q : Int → xM → Prop) : Prop := ∀ (o3 o4 o5 : Option xV), xGo xft xNf xmt xtr d 104 0 [some (.inr (some k)), some (.inl x1), some (.inl x2), o3, o4, o5] [] (yS e M) (yI e Q)
def R_madeSize_5 (e : yE) (d k : Nat) (x1 x2 x3 x4 : Int) (M : xM) (Q : Int → xM → Prop) : Prop := ∀ (o5 : Option xV), xGo xft xNf xmt xtr d 104 5 [some (.inr (some k)), some (.inl x1), some (.inl x2), some (.inl x3), some (.inl x4), o5] [] (yS e M) (yI e Q)
theorem t_madeSize_0 {e : yE} {d k : Nat} {x1 x2 : Int} {M : xM} {Q : Int → xM → Prop} (hs : RSh k e) (h :
    R_madeSize_5 e d k x1 x2 (1 : Int) (0 : Int) M Q) : R_madeSize_0 e d k x1 x2 M Q := by
  intro o3 o4 o5
  refine xGo.in ?_
  exact h _
theorem t_madeSize_5 {e : yE} {d k : Nat} {x1 x2 x3 x4 : Int} {M : xM} {Q : Int → xM → Prop} (hs : RSh k e) (h :
    (0 ≤ (((6 : Int) * x1) + x2) ∧ (((6 : Int) * x1) + x2) < 48) ∧ 
    ((rg x4 ∧ rg (M (k + 2) (((6 : Int) * x1) + x2))) ∧ (((M (k + 2) (((6 : Int) * x1) + x2)) ≤ x4 → 
      (Q x3 M)) ∧ 
    (¬ ((M (k + 2) (((6 : Int) * x1) + x2)) ≤ x4) → 
      ((0 ≤ (((3 : Int) * (((6 : Int) * x1) + x2)) + x4) ∧ (((3 : Int) * (((6 : Int) * x1) + x2)) + x4) < 144) ∧ 
      ((0 ≤ (M (k + 3) (((3 : Int) * (((6 : Int) * x1) + x2)) + x4)) ∧ (M (k + 3) (((3 : Int) * (((6 : Int) * x1) + x2)) + x4)) < 8) ∧ 
      ((rg (M (k + 4) (M (k + 3) (((3 : Int) * (((6 : Int) * x1) + x2)) + x4)))) ∧ ((¬ (M (k + 4) (M (k + 3) (((3 : Int) * (((6 : Int) * x1) + x2)) + x4))) = 0 → 
        (R_madeSize_5 e d k x1 x2 (x3 + (M (k + 4) (M (k + 3) (((3 : Int) * (((6 : Int) * x1) + x2)) + x4)))) (x4 + 1) M Q)) ∧ 
      (¬ (¬ (M (k + 4) (M (k + 3) (((3 : Int) * (((6 : Int) * x1) + x2)) + x4))) = 0) → 
        (Q (0 : Int) M)))))))))) : R_madeSize_5 e d k x1 x2 x3 x4 M Q := by
  intro o5
  refine xGo.in ?_
  refine And.intro (rs_ob hs) ?_
  refine And.intro (xi_ld (rs_2 hs) (h.1)) ?_
  replace h := h.2
  refine And.intro (⟨h.1.1, h.1.2⟩) (And.intro (fun c => ?_) (fun c => ?_))
  · replace h := h.2.1 c
    exact yI_ret h
  · replace h := h.2.2 c
    refine And.intro (rs_ob hs) ?_
    refine And.intro (rs_ob hs) ?_
    refine And.intro (xi_ld (rs_3 hs) (h.1)) ?_
    replace h := h.2
    refine And.intro (xi_ld (rs_4 hs) (h.1)) ?_
    replace h := h.2
    refine And.intro (h.1) (And.intro (fun c => ?_) (fun c => ?_))
    · replace h := h.2.1 c
      exact h _
    · replace h := h.2.2 c
      exact yI_ret h
theorem t_madeSize {e : yE} {d k : Nat} {x1 : Int} {x2 : Int} {M : xM} {Q : Int → xM → Prop} (h : R_madeSize_0 e d k x1 x2 M Q) : R_madeSize e (d + 1) k x1 x2 M Q := h _ _ _
def R_findPlains_0 (e : yE) (d k : Nat) (M : xM) (Q : xM → Prop) : Prop := ∀ (o1 o2 o3 o4 : Option xV), xGo xft xNf xmt xtr d 105 0 [some (.inr (some k)), o1, o2, o3, o4] [] (yS e M) (yV e Q)
def R_findPlains_2 (e : yE) (d k : Nat) (x1 : Int) (M : xM) (Q : xM → Prop) : Prop := ∀ (o2 o3 o4 : Option xV), xGo xft xNf xmt xtr d 105 2 [some (.inr (some k)), some (.inl x1), o2, o3, o4] [] (yS e M) (yV e Q)
def R_findPlains_23 (e : yE) (d k : Nat) (x1 : Int) (M : xM) (Q : xM → Prop) : Prop := ∀ (o2 o3 o4 : Option xV), xGo xft xNf xmt xtr d 105 23 [some (.inr (some k)), some (.inl x1), o2, o3, o4] [] (yS e M) (yV e Q)
def R_findPlains_31 (e : yE) (d k : Nat) (x1 x2 : Int) (M : xM) (Q : xM → Prop) : Prop := ∀ (o3 o4 : Option xV), xGo xft xNf xmt xtr d 105 31 [some (.inr (some k)), some (.inl x1), some (.inl x2), o3, o4] [] (yS e M) (yV e Q)
def R_findPlains_41 (e : yE) (d k : Nat) (x1 x2 x3 : Int) (M : xM) (Q : xM → Prop) : Prop := ∀ (o4 : Option xV), xGo xft xNf xmt xtr d 105 41 [some (.inr (some k)), some (.inl x1), some (.inl x2), some (.inl x3), o4] [] (yS e M) (yV e Q)
def R_findPlains_84 (e : yE) (d k : Nat) (x2 x3 x4 : Int) (M : xM) (Q : xM → Prop) : Prop := ∀ (o1 : Option xV), xGo xft xNf xmt xtr d 105 84 [some (.inr (some k)), o1, some (.inl x2), some (.inl x3), some (.inl x4)] [] (yS e M) (yV e Q)
theorem t_findPlains_0 {e : yE} {d k : Nat} {M : xM} {Q : xM → Prop} (hs : RSh k e) (h :
    R_findPlains_2 e d k (1 : Int) M Q) : R_findPlains_0 e d k  M Q := by
  intro o1 o2 o3 o4
  refine xGo.in ?_
  exact h _ _ _
theorem t_findPlains_2 {e : yE} {d k : Nat} {x1 : Int} {M : xM} {Q : xM → Prop} (hs : RSh k e) (h :
    (rg x1) ∧ (((8 : Int) ≤ x1 → 
      (R_findPlains_23 e d k (1 : Int) M Q)) ∧ 
    (¬ ((8 : Int) ≤ x1) → 
      ((0 ≤ x1 ∧ x1 < 8) ∧ 
      (∀ M1 : xM, M1 = xup M (k + 4) x1 (0 : Int) → 
      (R_findPlains_2 e d k (x1 + 1) M1 Q)))))) : R_findPlains_2 e d k x1 M Q := by
  intro o2 o3 o4
  refine xGo.in ?_
  refine And.intro (⟨h.1, rg_lit (by decide)⟩) (And.intro (fun c => ?_) (fun c => ?_))
  · replace h := h.2.1 c
    exact h _ _ _
  · replace h := h.2.2 c
    refine And.intro (rs_ob hs) ?_
    refine And.intro (xi_st (rs_4 hs) (h.1)) ?_
    replace h := h.2
    replace h := h _ rfl
    exact h _ _ _
theorem t_findPlains_23 {e : yE} {d k : Nat} {x1 : Int} {M : xM} {Q : xM → Prop} (hs : RSh k e) (h :
    (rg x1) ∧ ((x1 = 0 → 
      (Q M)) ∧ 
    (¬ (x1 = 0) → 
      (R_findPlains_31 e d k (0 : Int) (1 : Int) M Q)))) : R_findPlains_23 e d k x1 M Q := by
  intro o2 o3 o4
  refine xGo.in ?_
  refine And.intro (h.1) (And.intro (fun c => ?_) (fun c => ?_))
  · replace h := h.2.1 c
    exact yV_ret (r := .inl 0) h
  · replace h := h.2.2 c
    exact h _ _
theorem t_findPlains_31 {e : yE} {d k : Nat} {x1 x2 : Int} {M : xM} {Q : xM → Prop} (hs : RSh k e) (h :
    (rg x2 ∧ rg (M k 1)) ∧ (((M k 1) ≤ x2 → 
      (R_findPlains_23 e d k x1 M Q)) ∧ 
    (¬ ((M k 1) ≤ x2) → 
      (R_findPlains_41 e d k x1 x2 (0 : Int) M Q)))) : R_findPlains_31 e d k x1 x2 M Q := by
  intro o3 o4
  refine xGo.in ?_
  refine And.intro (rs_ob hs) ?_
  refine And.intro (⟨h.1.1, h.1.2⟩) (And.intro (fun c => ?_) (fun c => ?_))
  · replace h := h.2.1 c
    exact h _ _ _
  · replace h := h.2.2 c
    exact h _
theorem t_findPlains_41 {e : yE} {d k : Nat} {x1 x2 x3 : Int} {M : xM} {Q : xM → Prop} (hs : RSh k e) (h :
    (0 ≤ x2 ∧ x2 < 8) ∧ 
    ((rg x3 ∧ rg (M (k + 1) x2)) ∧ (((M (k + 1) x2) ≤ x3 → 
      (R_findPlains_31 e d k x1 (x2 + 1) M Q)) ∧ 
    (¬ ((M (k + 1) x2) ≤ x3) → 
      (R_madeSize e d k x2 x3 M (fun y2 M1 => 
      (rg y2) ∧ ((y2 ≤ 0 → 
        (R_findPlains_41 e d k x1 x2 (x3 + 1) M1 Q)) ∧ 
      (¬ (y2 ≤ 0) → 
        ((0 ≤ x2 ∧ x2 < 8) ∧ 
        ((rg (M1 (k + 4) x2)) ∧ (((M1 (k + 4) x2) = 0 → 
          (R_findPlains_84 e d k x2 x3 y2 M1 Q)) ∧ 
        (¬ ((M1 (k + 4) x2) = 0) → 
          ((0 ≤ x2 ∧ x2 < 8) ∧ 
          ((rg y2 ∧ rg (M1 (k + 4) x2)) ∧ (((M1 (k + 4) x2) ≤ y2 → 
            (R_findPlains_41 e d k x1 x2 (x3 + 1) M1 Q)) ∧ 
          (¬ ((M1 (k + 4) x2) ≤ y2) → 
            (R_findPlains_84 e d k x2 x3 y2 M1 Q))))))))))))))))) : R_findPlains_41 e d k x1 x2 x3 M Q := by
  intro o4
  refine xGo.in ?_
  refine And.intro (rs_ob hs) ?_
  refine And.intro (xi_ld (rs_1 hs) (h.1)) ?_
  replace h := h.2
  refine And.intro (⟨h.1.1, h.1.2⟩) (And.intro (fun c => ?_) (fun c => ?_))
  · replace h := h.2.1 c
    exact h _ _
  · replace h := h.2.2 c
    refine And.intro ⟨Nat.le_of_ble_eq_true rfl, Nat.le_of_ble_eq_true rfl, rs_ob hs⟩ ?_
    refine yI_use h (fun y2 M1 h => ?_)
    refine And.intro (h.1) (And.intro (fun c => ?_) (fun c => ?_))
    · replace h := h.2.1 c
      exact h _
    · replace h := h.2.2 c
      refine And.intro (rs_ob hs) ?_
      refine And.intro (xi_ld (rs_4 hs) (h.1)) ?_
      replace h := h.2
      refine And.intro (h.1) (And.intro (fun c => ?_) (fun c => ?_))
      · replace h := h.2.1 c
        exact h _
      · replace h := h.2.2 c
        refine And.intro (rs_ob hs) ?_
        refine And.intro (xi_ld (rs_4 hs) (h.1)) ?_
        replace h := h.2
        refine And.intro (⟨h.1.1, h.1.2⟩) (And.intro (fun c => ?_) (fun c => ?_))
        · replace h := h.2.1 c
          exact h _
        · replace h := h.2.2 c
          exact h _
theorem t_findPlains_84 {e : yE} {d k : Nat} {x2 x3 x4 : Int} {M : xM} {Q : xM → Prop} (hs : RSh k e) (h :
    (0 ≤ x2 ∧ x2 < 8) ∧ 
    (∀ M1 : xM, M1 = xup M (k + 4) x2 x4 → 
    (R_findPlains_41 e d k (1 : Int) x2 (x3 + 1) M1 Q))) : R_findPlains_84 e d k x2 x3 x4 M Q := by
  intro o1
  refine xGo.in ?_
  refine And.intro (rs_ob hs) ?_
  refine And.intro (xi_st (rs_4 hs) (h.1)) ?_
  replace h := h.2
  replace h := h _ rfl
  exact h _
theorem t_findPlains {e : yE} {d k : Nat} {M : xM} {Q : xM → Prop} (h : R_findPlains_0 e d k  M Q) : R_findPlains e (d + 1) k  M Q := h _ _ _ _
def R_isMaker_0 (e : yE) (d k : Nat) (x1 x2 : Int) (M : xM) (Q : Int → xM → Prop) : Prop := xGo xft xNf xmt xtr d 106 0 [some (.inr (some k)), some (.inl x1), some (.inl x2)] [] (yS e M) (yI e Q)
theorem t_isMaker_0 {e : yE} {d k : Nat} {x1 x2 : Int} {M : xM} {Q : Int → xM → Prop} (hs : RSh k e) (h :
    R_isType e d k x1 M (fun y2 M1 => 
    (rg y2) ∧ ((y2 = 0 → 
      (Q (0 : Int) M1)) ∧ 
    (¬ (y2 = 0) → 
      ((rg x2) ∧ ((x2 < 0 → 
        (Q (0 : Int) M1)) ∧ 
      (¬ (x2 < 0) → 
        ((0 ≤ x1 ∧ x1 < 8) ∧ 
        ((rg x2 ∧ rg (M1 (k + 1) x1)) ∧ (((M1 (k + 1) x1) ≤ x2 → 
          (Q (0 : Int) M1)) ∧ 
        (¬ ((M1 (k + 1) x1) ≤ x2) → 
          (Q (1 : Int) M1)))))))))))) : R_isMaker_0 e d k x1 x2 M Q := by
  refine xGo.in ?_
  refine And.intro ⟨Nat.le_of_ble_eq_true rfl, Nat.le_of_ble_eq_true rfl, rs_ob hs⟩ ?_
  refine yI_use h (fun y2 M1 h => ?_)
  refine And.intro (h.1) (And.intro (fun c => ?_) (fun c => ?_))
  · replace h := h.2.1 c
    exact And.intro (by decide) (yI_ret h)
  · replace h := h.2.2 c
    refine And.intro (h.1) (And.intro (fun c => ?_) (fun c => ?_))
    · replace h := h.2.1 c
      exact And.intro (by decide) (yI_ret h)
    · replace h := h.2.2 c
      refine And.intro (rs_ob hs) ?_
      refine And.intro (xi_ld (rs_1 hs) (h.1)) ?_
      replace h := h.2
      refine And.intro (⟨h.1.1, h.1.2⟩) (And.intro (fun c => ?_) (fun c => ?_))
      · replace h := h.2.1 c
        exact And.intro (by decide) (yI_ret h)
      · replace h := h.2.2 c
        exact And.intro (by decide) (yI_ret h)
theorem t_isMaker {e : yE} {d k : Nat} {x1 : Int} {x2 : Int} {M : xM} {Q : Int → xM → Prop} (h : R_isMaker_0 e d k x1 x2 M Q) : R_isMaker e (d + 1) k x1 x2 M Q := h
def R_countOf_0 (e : yE) (d k : Nat) (x1 x2 : Int) (M : xM) (Q : Int → xM → Prop) : Prop := xGo xft xNf xmt xtr d 107 0 [some (.inr (some k)), some (.inl x1), some (.inl x2)] [] (yS e M) (yI e Q)
theorem t_countOf_0 {e : yE} {d k : Nat} {x1 x2 : Int} {M : xM} {Q : Int → xM → Prop} (hs : RSh k e) (h :
    (0 ≤ (((6 : Int) * x1) + x2) ∧ (((6 : Int) * x1) + x2) < 48) ∧ 
    (Q (M (k + 2) (((6 : Int) * x1) + x2)) M)) : R_countOf_0 e d k x1 x2 M Q := by
  refine xGo.in ?_
  refine And.intro (rs_ob hs) ?_
  refine And.intro (xi_ld (rs_2 hs) (h.1)) ?_
  replace h := h.2
  exact yI_ret h
theorem t_countOf {e : yE} {d k : Nat} {x1 : Int} {x2 : Int} {M : xM} {Q : Int → xM → Prop} (h : R_countOf_0 e d k x1 x2 M Q) : R_countOf e (d + 1) k x1 x2 M Q := h
def R_partType_0 (e : yE) (d k : Nat) (x1 x2 x3 : Int) (M : xM) (Q : Int → xM → Prop) : Prop := xGo xft xNf xmt xtr d 108 0 [some (.inr (some k)), some (.inl x1), some (.inl x2), some (.inl x3)] [] (yS e M) (yI e Q)
theorem t_partType_0 {e : yE} {d k : Nat} {x1 x2 x3 : Int} {M : xM} {Q : Int → xM → Prop} (hs : RSh k e) (h :
    (0 ≤ (((3 : Int) * (((6 : Int) * x1) + x2)) + x3) ∧ (((3 : Int) * (((6 : Int) * x1) + x2)) + x3) < 144) ∧ 
    (Q (M (k + 3) (((3 : Int) * (((6 : Int) * x1) + x2)) + x3)) M)) : R_partType_0 e d k x1 x2 x3 M Q := by
  refine xGo.in ?_
  refine And.intro (rs_ob hs) ?_
  refine And.intro (xi_ld (rs_3 hs) (h.1)) ?_
  replace h := h.2
  exact yI_ret h
theorem t_partType {e : yE} {d k : Nat} {x1 : Int} {x2 : Int} {x3 : Int} {M : xM} {Q : Int → xM → Prop} (h : R_partType_0 e d k x1 x2 x3 M Q) : R_partType e (d + 1) k x1 x2 x3 M Q := h
def R_addValue_0 (e : yE) (d k : Nat) (x1 x2 x3 : Int) (M : xM) (Q : Int → xM → Prop) : Prop := xGo xft xNf xmt xtr d 109 0 [some (.inr (some k)), some (.inl x1), some (.inl x2), some (.inl x3)] [] (yS e M) (yI e Q)
theorem t_addValue_0 {e : yE} {d k : Nat} {x1 x2 x3 : Int} {M : xM} {Q : Int → xM → Prop} (hs : RSh k e) (h :
    (0 ≤ (M k 10) ∧ (M k 10) < 300) ∧ 
    (∀ M1 : xM, M1 = xup M (k + 5) (M k 10) x1 → 
    ((0 ≤ (M1 k 10) ∧ (M1 k 10) < 300) ∧ 
    (∀ M2 : xM, M2 = xup M1 (k + 6) (M1 k 10) x2 → 
    ((0 ≤ (M2 k 10) ∧ (M2 k 10) < 300) ∧ 
    (∀ M3 : xM, M3 = xup M2 (k + 8) (M2 k 10) x3 → 
    (∀ M4 : xM, M4 = xup M3 k 10 ((M3 k 10) + (1 : Int)) → 
    (Q ((M4 k 10) - (1 : Int)) M4)))))))) : R_addValue_0 e d k x1 x2 x3 M Q := by
  refine xGo.in ?_
  refine And.intro (rs_ob hs) ?_
  refine And.intro (rs_ob hs) ?_
  refine And.intro (xi_st (rs_5 hs) (h.1)) ?_
  replace h := h.2
  replace h := h _ rfl
  refine And.intro (rs_ob hs) ?_
  refine And.intro (rs_ob hs) ?_
  refine And.intro (xi_st (rs_6 hs) (h.1)) ?_
  replace h := h.2
  replace h := h _ rfl
  refine And.intro (rs_ob hs) ?_
  refine And.intro (rs_ob hs) ?_
  refine And.intro (xi_st (rs_8 hs) (h.1)) ?_
  replace h := h.2
  replace h := h _ rfl
  refine And.intro (rs_ob hs) ?_
  refine And.intro (rs_ob hs) ?_
  replace h := h _ rfl
  refine And.intro (rs_ob hs) ?_
  exact yI_ret h
theorem t_addValue {e : yE} {d k : Nat} {x1 : Int} {x2 : Int} {x3 : Int} {M : xM} {Q : Int → xM → Prop} (h : R_addValue_0 e d k x1 x2 x3 M Q) : R_addValue e (d + 1) k x1 x2 x3 M Q := h
def R_number_0 (e : yE) (d k : Nat) (x1 : Int) (M : xM) (Q : Int → xM → Prop) : Prop := xGo xft xNf xmt xtr d 110 0 [some (.inr (some k)), some (.inl x1)] [] (yS e M) (yI e Q)
theorem t_number_0 {e : yE} {d k : Nat} {x1 : Int} {M : xM} {Q : Int → xM → Prop} (hs : RSh k e) (h :
    ∀ M1 : xM, M1 = xup M k 0 (0 : Int) → 
    ((rg (M1 k 10)) ∧ ((¬ (M1 k 10) = (300 : Int) → 
      (R_addValue e d k (0 : Int) x1 (1 : Int) M1 (fun y3 M2 => 
      Q y3 M2))) ∧ 
    (¬ (¬ (M1 k 10) = (300 : Int)) → 
      (Q (-1 : Int) M1))))) : R_number_0 e d k x1 M Q := by
  refine xGo.in ?_
  refine And.intro (rs_ob hs) ?_
  replace h := h _ rfl
  refine And.intro (rs_ob hs) ?_
  refine And.intro (⟨h.1, rg_lit (by decide)⟩) (And.intro (fun c => ?_) (fun c => ?_))
  · replace h := h.2.1 c
    refine And.intro ⟨Nat.le_of_ble_eq_true rfl, Nat.le_of_ble_eq_true rfl, rs_ob hs⟩ ?_
    refine yI_use h (fun y3 M2 h => ?_)
    exact yI_ret h
  · replace h := h.2.2 c
    exact yI_ret h
theorem t_number {e : yE} {d k : Nat} {x1 : Int} {M : xM} {Q : Int → xM → Prop} (h : R_number_0 e d k x1 M Q) : R_number e (d + 1) k x1 M Q := h
def R_isValueOf_0 (e : yE) (d k : Nat) (x1 x2 : Int) (M : xM) (Q : Int → xM → Prop) : Prop := xGo xft xNf xmt xtr d 111 0 [some (.inr (some k)), some (.inl x1), some (.inl x2)] [] (yS e M) (yI e Q)
theorem t_isValueOf_0 {e : yE} {d k : Nat} {x1 x2 : Int} {M : xM} {Q : Int → xM → Prop} (hs : RSh k e) (h :
    (rg x1) ∧ ((x1 < 0 → 
      (Q (0 : Int) M)) ∧ 
    (¬ (x1 < 0) → 
      ((rg x1 ∧ rg (M k 10)) ∧ (((M k 10) ≤ x1 → 
        (Q (0 : Int) M)) ∧ 
      (¬ ((M k 10) ≤ x1) → 
        ((0 ≤ x1 ∧ x1 < 300) ∧ 
        ((rg (M (k + 5) x1) ∧ rg x2) ∧ ((¬ (M (k + 5) x1) = x2 → 
          (Q (0 : Int) M)) ∧ 
        (¬ (¬ (M (k + 5) x1) = x2) → 
          (Q (1 : Int) M))))))))))) : R_isValueOf_0 e d k x1 x2 M Q := by
  refine xGo.in ?_
  refine And.intro (h.1) (And.intro (fun c => ?_) (fun c => ?_))
  · replace h := h.2.1 c
    exact And.intro (by decide) (yI_ret h)
  · replace h := h.2.2 c
    refine And.intro (rs_ob hs) ?_
    refine And.intro (⟨h.1.1, h.1.2⟩) (And.intro (fun c => ?_) (fun c => ?_))
    · replace h := h.2.1 c
      exact And.intro (by decide) (yI_ret h)
    · replace h := h.2.2 c
      refine And.intro (rs_ob hs) ?_
      refine And.intro (xi_ld (rs_5 hs) (h.1)) ?_
      replace h := h.2
      refine And.intro (⟨h.1.1, h.1.2⟩) (And.intro (fun c => ?_) (fun c => ?_))
      · replace h := h.2.1 c
        exact And.intro (by decide) (yI_ret h)
      · replace h := h.2.2 c
        exact And.intro (by decide) (yI_ret h)
theorem t_isValueOf {e : yE} {d k : Nat} {x1 : Int} {x2 : Int} {M : xM} {Q : Int → xM → Prop} (h : R_isValueOf_0 e d k x1 x2 M Q) : R_isValueOf e (d + 1) k x1 x2 M Q := h
def R_pick_0 (e : yE) (d : Nat) (x0 x1 x2 x3 : Int) (M : xM) (Q : Int → xM → Prop) : Prop := xGo xft xNf xmt xtr d 112 0 [some (.inl x0), some (.inl x1), some (.inl x2), some (.inl x3)] [] (yS e M) (yI e Q)
theorem t_pick_0 {e : yE} {d : Nat} {x0 x1 x2 x3 : Int} {M : xM} {Q : Int → xM → Prop} (h :
    (rg x0) ∧ ((¬ x0 = 0 → 
      ((rg x0) ∧ ((¬ x0 = (1 : Int) → 
        (Q x3 M)) ∧ 
      (¬ (¬ x0 = (1 : Int)) → 
        (Q x2 M))))) ∧ 
    (¬ (¬ x0 = 0) → 
      (Q x1 M)))) : R_pick_0 e d x0 x1 x2 x3 M Q := by
  refine xGo.in ?_
  refine And.intro (h.1) (And.intro (fun c => ?_) (fun c => ?_))
  · replace h := h.2.1 c
    refine And.intro (⟨h.1, rg_lit (by decide)⟩) (And.intro (fun c => ?_) (fun c => ?_))
    · replace h := h.2.1 c
      exact yI_ret h
    · replace h := h.2.2 c
      exact yI_ret h
  · replace h := h.2.2 c
    exact yI_ret h
theorem t_pick {e : yE} {d : Nat} {x0 : Int} {x1 : Int} {x2 : Int} {x3 : Int} {M : xM} {Q : Int → xM → Prop} (h : R_pick_0 e d x0 x1 x2 x3 M Q) : R_pick e (d + 1) x0 x1 x2 x3 M Q := h
def R_make_0 (e : yE) (d k : Nat) (x1 x2 x3 x4 x5 : Int) (M : xM) (Q : Int → xM → Prop) : Prop := ∀ (o6 o7 o8 : Option xV), xGo xft xNf xmt xtr d 113 0 [some (.inr (some k)), some (.inl x1), some (.inl x2), some (.inl x3), some (.inl x4), some (.inl x5), o6, o7, o8] [] (yS e M) (yI e Q)
def R_make_32 (e : yE) (d k : Nat) (x1 x2 x3 x4 x5 x6 x7 : Int) (M : xM) (Q : Int → xM → Prop) : Prop := ∀ (o8 : Option xV), xGo xft xNf xmt xtr d 113 32 [some (.inr (some k)), some (.inl x1), some (.inl x2), some (.inl x3), some (.inl x4), some (.inl x5), some (.inl x6), some (.inl x7), o8] [] (yS e M) (yI e Q)
def R_make_114 (e : yE) (d k : Nat) (x1 x2 x3 x4 x5 x7 x8 : Int) (M : xM) (Q : Int → xM → Prop) : Prop := ∀ (o6 : Option xV), xGo xft xNf xmt xtr d 113 114 [some (.inr (some k)), some (.inl x1), some (.inl x2), some (.inl x3), some (.inl x4), some (.inl x5), o6, some (.inl x7), some (.inl x8)] [] (yS e M) (yI e Q)
theorem t_make_0 {e : yE} {d k : Nat} {x1 x2 x3 x4 x5 : Int} {M : xM} {Q : Int → xM → Prop} (hs : RSh k e) (h :
    ∀ M1 : xM, M1 = xup M k 0 (0 : Int) → 
    (R_isMaker e d k x1 x2 M1 (fun y3 M2 => 
    (rg y3) ∧ ((y3 = 0 → 
      (Q (-1 : Int) M2)) ∧ 
    (¬ (y3 = 0) → 
      ((rg (M2 k 10)) ∧ ((¬ (M2 k 10) = (300 : Int) → 
        (R_make_32 e d k x1 x2 x3 x4 x5 (1 : Int) (0 : Int) M2 Q)) ∧ 
      (¬ (¬ (M2 k 10) = (300 : Int)) → 
        (Q (-1 : Int) M2))))))))) : R_make_0 e d k x1 x2 x3 x4 x5 M Q := by
  intro o6 o7 o8
  refine xGo.in ?_
  refine And.intro (rs_ob hs) ?_
  replace h := h _ rfl
  refine And.intro ⟨Nat.le_of_ble_eq_true rfl, Nat.le_of_ble_eq_true rfl, rs_ob hs⟩ ?_
  refine yI_use h (fun y3 M2 h => ?_)
  refine And.intro (h.1) (And.intro (fun c => ?_) (fun c => ?_))
  · replace h := h.2.1 c
    exact yI_ret h
  · replace h := h.2.2 c
    refine And.intro (rs_ob hs) ?_
    refine And.intro (⟨h.1, rg_lit (by decide)⟩) (And.intro (fun c => ?_) (fun c => ?_))
    · replace h := h.2.1 c
      exact h _
    · replace h := h.2.2 c
      exact yI_ret h
theorem t_make_32 {e : yE} {d k : Nat} {x1 x2 x3 x4 x5 x6 x7 : Int} {M : xM} {Q : Int → xM → Prop} (hs : RSh k e) (h :
    R_countOf e d k x1 x2 M (fun y2 M1 => 
    (rg x7 ∧ rg y2) ∧ ((y2 ≤ x7 → 
      ((rg x6) ∧ ((x6 ≤ (100 : Int) → 
        (R_addValue e d k x1 x2 x6 M1 (fun y4 M3 => 
        R_make_114 e d k x1 x2 x3 x4 x5 y4 (0 : Int) M3 Q))) ∧ 
      (¬ (x6 ≤ (100 : Int)) → 
        (Q (-1 : Int) M1))))) ∧ 
    (¬ (y2 ≤ x7) → 
      (R_pick e d x7 x3 x4 x5 M1 (fun y6 M5 => 
      R_partType e d k x1 x2 x7 M5 (fun y8 M7 => 
      R_isValueOf e d k y6 y8 M7 (fun y10 M9 => 
      (rg y10) ∧ ((¬ y10 = 0 → 
        ((0 ≤ y6 ∧ y6 < 300) ∧ 
        (R_make_32 e d k x1 x2 x3 x4 x5 (x6 + (M9 (k + 8) y6)) (x7 + 1) M9 Q))) ∧ 
      (¬ (¬ y10 = 0) → 
        (Q (-1 : Int) M9))))))))))) : R_make_32 e d k x1 x2 x3 x4 x5 x6 x7 M Q := by
  intro o8
  refine xGo.in ?_
  refine And.intro ⟨Nat.le_of_ble_eq_true rfl, Nat.le_of_ble_eq_true rfl, rs_ob hs⟩ ?_
  refine yI_use h (fun y2 M1 h => ?_)
  refine And.intro (⟨h.1.1, h.1.2⟩) (And.intro (fun c => ?_) (fun c => ?_))
  · replace h := h.2.1 c
    refine And.intro (⟨h.1, rg_lit (by decide)⟩) (And.intro (fun c => ?_) (fun c => ?_))
    · replace h := h.2.1 c
      refine And.intro ⟨Nat.le_of_ble_eq_true rfl, Nat.le_of_ble_eq_true rfl, rs_ob hs⟩ ?_
      refine yI_use h (fun y4 M3 h => ?_)
      exact h _
    · replace h := h.2.2 c
      exact yI_ret h
  · replace h := h.2.2 c
    refine And.intro ⟨Nat.le_of_ble_eq_true rfl, Nat.le_of_ble_eq_true rfl, trivial⟩ ?_
    refine yI_use h (fun y6 M5 h => ?_)
    refine And.intro ⟨Nat.le_of_ble_eq_true rfl, Nat.le_of_ble_eq_true rfl, rs_ob hs⟩ ?_
    refine yI_use h (fun y8 M7 h => ?_)
    refine And.intro ⟨Nat.le_of_ble_eq_true rfl, Nat.le_of_ble_eq_true rfl, rs_ob hs⟩ ?_
    refine yI_use h (fun y10 M9 h => ?_)
    refine And.intro (h.1) (And.intro (fun c => ?_) (fun c => ?_))
    · replace h := h.2.1 c
      refine And.intro (rs_ob hs) ?_
      refine And.intro (xi_ld (rs_8 hs) (h.1)) ?_
      replace h := h.2
      exact h _
    · replace h := h.2.2 c
      exact yI_ret h
theorem t_make_114 {e : yE} {d k : Nat} {x1 x2 x3 x4 x5 x7 x8 : Int} {M : xM} {Q : Int → xM → Prop} (hs : RSh k e) (h :
    R_countOf e d k x1 x2 M (fun y2 M1 => 
    (rg x8 ∧ rg y2) ∧ ((y2 ≤ x8 → 
      (Q x7 M1)) ∧ 
    (¬ (y2 ≤ x8) → 
      (R_pick e d x8 x3 x4 x5 M1 (fun y4 M3 => 
      (0 ≤ (((3 : Int) * x7) + x8) ∧ (((3 : Int) * x7) + x8) < 900) ∧ 
      (∀ M5 : xM, M5 = xup M3 (k + 7) (((3 : Int) * x7) + x8) y4 → 
      (R_make_114 e d k x1 x2 x3 x4 x5 x7 (x8 + 1) M5 Q)))))))) : R_make_114 e d k x1 x2 x3 x4 x5 x7 x8 M Q := by
  intro o6
  refine xGo.in ?_
  refine And.intro ⟨Nat.le_of_ble_eq_true rfl, Nat.le_of_ble_eq_true rfl, rs_ob hs⟩ ?_
  refine yI_use h (fun y2 M1 h => ?_)
  refine And.intro (⟨h.1.1, h.1.2⟩) (And.intro (fun c => ?_) (fun c => ?_))
  · replace h := h.2.1 c
    exact yI_ret h
  · replace h := h.2.2 c
    refine And.intro (rs_ob hs) ?_
    refine And.intro ⟨Nat.le_of_ble_eq_true rfl, Nat.le_of_ble_eq_true rfl, trivial⟩ ?_
    refine yI_use h (fun y4 M3 h => ?_)
    refine And.intro (xi_st (rs_7 hs) (h.1)) ?_
    replace h := h.2
    replace h := h _ rfl
    exact h _
theorem t_make {e : yE} {d k : Nat} {x1 : Int} {x2 : Int} {x3 : Int} {x4 : Int} {x5 : Int} {M : xM} {Q : Int → xM → Prop} (h : R_make_0 e d k x1 x2 x3 x4 x5 M Q) : R_make e (d + 1) k x1 x2 x3 x4 x5 M Q := h _ _ _
def R_addPattern_0 (e : yE) (d k : Nat) (x1 x2 x3 x4 x5 x6 : Int) (M : xM) (Q : Int → xM → Prop) : Prop := xGo xft xNf xmt xtr d 114 0 [some (.inr (some k)), some (.inl x1), some (.inl x2), some (.inl x3), some (.inl x4), some (.inl x5), some (.inl x6)] [] (yS e M) (yI e Q)
theorem t_addPattern_0 {e : yE} {d k : Nat} {x1 x2 x3 x4 x5 x6 : Int} {M : xM} {Q : Int → xM → Prop} (hs : RSh k e) (h :
    (0 ≤ (M k 18) ∧ (M k 18) < 300) ∧ 
    (∀ M1 : xM, M1 = xup M (k + 9) (M k 18) x1 → 
    ((0 ≤ (M1 k 18) ∧ (M1 k 18) < 300) ∧ 
    (∀ M2 : xM, M2 = xup M1 (k + 10) (M1 k 18) x2 → 
    ((0 ≤ (M2 k 18) ∧ (M2 k 18) < 300) ∧ 
    (∀ M3 : xM, M3 = xup M2 (k + 11) (M2 k 18) x3 → 
    ((0 ≤ (M3 k 18) ∧ (M3 k 18) < 300) ∧ 
    (∀ M4 : xM, M4 = xup M3 (k + 13) (M3 k 18) x4 → 
    ((0 ≤ (M4 k 18) ∧ (M4 k 18) < 300) ∧ 
    (∀ M5 : xM, M5 = xup M4 (k + 14) (M4 k 18) x5 → 
    (((0 ≤ (M5 k 18) ∧ (M5 k 18) < 300) ∧ (x6 = 0 ∨ x6 = 1)) ∧ 
    (∀ M6 : xM, M6 = xup M5 (k + 15) (M5 k 18) x6 → 
    (∀ M7 : xM, M7 = xup M6 k 18 ((M6 k 18) + (1 : Int)) → 
    (Q ((M7 k 18) - (1 : Int)) M7)))))))))))))) : R_addPattern_0 e d k x1 x2 x3 x4 x5 x6 M Q := by
  refine xGo.in ?_
  refine And.intro (rs_ob hs) ?_
  refine And.intro (rs_ob hs) ?_
  refine And.intro (xi_st (rs_9 hs) (h.1)) ?_
  replace h := h.2
  replace h := h _ rfl
  refine And.intro (rs_ob hs) ?_
  refine And.intro (rs_ob hs) ?_
  refine And.intro (xi_st (rs_10 hs) (h.1)) ?_
  replace h := h.2
  replace h := h _ rfl
  refine And.intro (rs_ob hs) ?_
  refine And.intro (rs_ob hs) ?_
  refine And.intro (xi_st (rs_11 hs) (h.1)) ?_
  replace h := h.2
  replace h := h _ rfl
  refine And.intro (rs_ob hs) ?_
  refine And.intro (rs_ob hs) ?_
  refine And.intro (xi_st (rs_13 hs) (h.1)) ?_
  replace h := h.2
  replace h := h _ rfl
  refine And.intro (rs_ob hs) ?_
  refine And.intro (rs_ob hs) ?_
  refine And.intro (xi_st (rs_14 hs) (h.1)) ?_
  replace h := h.2
  replace h := h _ rfl
  refine And.intro (rs_ob hs) ?_
  refine And.intro (rs_ob hs) ?_
  refine And.intro (xi_stv (rs_15 hs) (h.1.1) (h.1.2)) ?_
  replace h := h.2
  replace h := h _ rfl
  refine And.intro (rs_ob hs) ?_
  refine And.intro (rs_ob hs) ?_
  replace h := h _ rfl
  refine And.intro (rs_ob hs) ?_
  exact yI_ret h
theorem t_addPattern {e : yE} {d k : Nat} {x1 : Int} {x2 : Int} {x3 : Int} {x4 : Int} {x5 : Int} {x6 : Int} {M : xM} {Q : Int → xM → Prop} (h : R_addPattern_0 e d k x1 x2 x3 x4 x5 x6 M Q) : R_addPattern e (d + 1) k x1 x2 x3 x4 x5 x6 M Q := h
def R_isName_0 (e : yE) (d : Nat) (x0 : Int) (M : xM) (Q : Int → xM → Prop) : Prop := xGo xft xNf xmt xtr d 115 0 [some (.inl x0)] [] (yS e M) (yI e Q)
theorem t_isName_0 {e : yE} {d : Nat} {x0 : Int} {M : xM} {Q : Int → xM → Prop} (h :
    (rg x0) ∧ ((x0 < 0 → 
      (Q (0 : Int) M)) ∧ 
    (¬ (x0 < 0) → 
      ((rg x0) ∧ (((16 : Int) ≤ x0 → 
        (Q (0 : Int) M)) ∧ 
      (¬ ((16 : Int) ≤ x0) → 
        (Q (1 : Int) M))))))) : R_isName_0 e d x0 M Q := by
  refine xGo.in ?_
  refine And.intro (h.1) (And.intro (fun c => ?_) (fun c => ?_))
  · replace h := h.2.1 c
    exact And.intro (by decide) (yI_ret h)
  · replace h := h.2.2 c
    refine And.intro (⟨h.1, rg_lit (by decide)⟩) (And.intro (fun c => ?_) (fun c => ?_))
    · replace h := h.2.1 c
      exact And.intro (by decide) (yI_ret h)
    · replace h := h.2.2 c
      exact And.intro (by decide) (yI_ret h)
theorem t_isName {e : yE} {d : Nat} {x0 : Int} {M : xM} {Q : Int → xM → Prop} (h : R_isName_0 e d x0 M Q) : R_isName e (d + 1) x0 M Q := h
def R_isPattern_0 (e : yE) (d k : Nat) (x1 : Int) (M : xM) (Q : Int → xM → Prop) : Prop := xGo xft xNf xmt xtr d 116 0 [some (.inr (some k)), some (.inl x1)] [] (yS e M) (yI e Q)
theorem t_isPattern_0 {e : yE} {d k : Nat} {x1 : Int} {M : xM} {Q : Int → xM → Prop} (hs : RSh k e) (h :
    (rg x1) ∧ ((x1 < 0 → 
      (Q (0 : Int) M)) ∧ 
    (¬ (x1 < 0) → 
      ((rg x1 ∧ rg (M k 18)) ∧ (((M k 18) ≤ x1 → 
        (Q (0 : Int) M)) ∧ 
      (¬ ((M k 18) ≤ x1) → 
        (Q (1 : Int) M))))))) : R_isPattern_0 e d k x1 M Q := by
  refine xGo.in ?_
  refine And.intro (h.1) (And.intro (fun c => ?_) (fun c => ?_))
  · replace h := h.2.1 c
    exact And.intro (by decide) (yI_ret h)
  · replace h := h.2.2 c
    refine And.intro (rs_ob hs) ?_
    refine And.intro (⟨h.1.1, h.1.2⟩) (And.intro (fun c => ?_) (fun c => ?_))
    · replace h := h.2.1 c
      exact And.intro (by decide) (yI_ret h)
    · replace h := h.2.2 c
      exact And.intro (by decide) (yI_ret h)
theorem t_isPattern {e : yE} {d k : Nat} {x1 : Int} {M : xM} {Q : Int → xM → Prop} (h : R_isPattern_0 e d k x1 M Q) : R_isPattern e (d + 1) k x1 M Q := h
def R_hasName_0 (e : yE) (d k : Nat) (x1 x2 : Int) (M : xM) (Q : Int → xM → Prop) : Prop := xGo xft xNf xmt xtr d 117 0 [some (.inr (some k)), some (.inl x1), some (.inl x2)] [] (yS e M) (yI e Q)
theorem t_hasName_0 {e : yE} {d k : Nat} {x1 x2 : Int} {M : xM} {Q : Int → xM → Prop} (hs : RSh k e) (h :
    (0 ≤ x1 ∧ x1 < 300) ∧ 
    ((rg (xand32 (xshr32 (M (k + 14) x1) x2) (1 : Int))) ∧ ((¬ (xand32 (xshr32 (M (k + 14) x1) x2) (1 : Int)) = (1 : Int) → 
      (Q (0 : Int) M)) ∧ 
    (¬ (¬ (xand32 (xshr32 (M (k + 14) x1) x2) (1 : Int)) = (1 : Int)) → 
      (Q (1 : Int) M))))) : R_hasName_0 e d k x1 x2 M Q := by
  refine xGo.in ?_
  refine And.intro (rs_ob hs) ?_
  refine And.intro (xi_ld (rs_14 hs) (h.1)) ?_
  replace h := h.2
  refine And.intro (⟨h.1, rg_lit (by decide)⟩) (And.intro (fun c => ?_) (fun c => ?_))
  · replace h := h.2.1 c
    exact And.intro (by decide) (yI_ret h)
  · replace h := h.2.2 c
    exact And.intro (by decide) (yI_ret h)
theorem t_hasName {e : yE} {d k : Nat} {x1 : Int} {x2 : Int} {M : xM} {Q : Int → xM → Prop} (h : R_hasName_0 e d k x1 x2 M Q) : R_hasName e (d + 1) k x1 x2 M Q := h
def R_any_0 (e : yE) (d k : Nat) (x1 x2 : Int) (M : xM) (Q : Int → xM → Prop) : Prop := xGo xft xNf xmt xtr d 118 0 [some (.inr (some k)), some (.inl x1), some (.inl x2)] [] (yS e M) (yI e Q)
def R_any_25 (e : yE) (d k : Nat) (x1 x2 : Int) (M : xM) (Q : Int → xM → Prop) : Prop := xGo xft xNf xmt xtr d 118 25 [some (.inr (some k)), some (.inl x1), some (.inl x2)] [] (yS e M) (yI e Q)
theorem t_any_0 {e : yE} {d k : Nat} {x1 x2 : Int} {M : xM} {Q : Int → xM → Prop} (hs : RSh k e) (h :
    ∀ M1 : xM, M1 = xup M k 0 (0 : Int) → 
    (R_isType e d k x1 M1 (fun y3 M2 => 
    (rg y3) ∧ ((y3 = 0 → 
      (Q (-1 : Int) M2)) ∧ 
    (¬ (y3 = 0) → 
      ((rg x2) ∧ ((x2 = (-1 : Int) → 
        (R_any_25 e d k x1 x2 M2 Q)) ∧ 
      (¬ (x2 = (-1 : Int)) → 
        (R_isName e d x2 M2 (fun y5 M4 => 
        (rg y5) ∧ ((y5 = 0 → 
          (Q (-1 : Int) M4)) ∧ 
        (¬ (y5 = 0) → 
          (R_any_25 e d k x1 x2 M4 Q))))))))))))) : R_any_0 e d k x1 x2 M Q := by
  refine xGo.in ?_
  refine And.intro (rs_ob hs) ?_
  replace h := h _ rfl
  refine And.intro ⟨Nat.le_of_ble_eq_true rfl, Nat.le_of_ble_eq_true rfl, rs_ob hs⟩ ?_
  refine yI_use h (fun y3 M2 h => ?_)
  refine And.intro (h.1) (And.intro (fun c => ?_) (fun c => ?_))
  · replace h := h.2.1 c
    exact yI_ret h
  · replace h := h.2.2 c
    refine And.intro (⟨h.1, rg_lit (by decide)⟩) (And.intro (fun c => ?_) (fun c => ?_))
    · replace h := h.2.1 c
      exact h
    · replace h := h.2.2 c
      refine And.intro ⟨Nat.le_of_ble_eq_true rfl, Nat.le_of_ble_eq_true rfl, trivial⟩ ?_
      refine yI_use h (fun y5 M4 h => ?_)
      refine And.intro (h.1) (And.intro (fun c => ?_) (fun c => ?_))
      · replace h := h.2.1 c
        exact yI_ret h
      · replace h := h.2.2 c
        exact h
theorem t_any_25 {e : yE} {d k : Nat} {x1 x2 : Int} {M : xM} {Q : Int → xM → Prop} (hs : RSh k e) (h :
    (rg (M k 18)) ∧ ((¬ (M k 18) = (300 : Int) → 
      ((rg x2) ∧ ((¬ x2 = (-1 : Int) → 
        (R_addPattern e d k (0 : Int) x1 x2 (1 : Int) (xshl32 (1 : Int) x2) (0 : Int) M (fun y2 M1 => 
        Q y2 M1))) ∧ 
      (¬ (¬ x2 = (-1 : Int)) → 
        (R_addPattern e d k (0 : Int) x1 x2 (1 : Int) (0 : Int) (0 : Int) M (fun y4 M3 => 
        Q y4 M3)))))) ∧ 
    (¬ (¬ (M k 18) = (300 : Int)) → 
      (Q (-1 : Int) M)))) : R_any_25 e d k x1 x2 M Q := by
  refine xGo.in ?_
  refine And.intro (rs_ob hs) ?_
  refine And.intro (⟨h.1, rg_lit (by decide)⟩) (And.intro (fun c => ?_) (fun c => ?_))
  · replace h := h.2.1 c
    refine And.intro (⟨h.1, rg_lit (by decide)⟩) (And.intro (fun c => ?_) (fun c => ?_))
    · replace h := h.2.1 c
      refine And.intro ⟨Nat.le_of_ble_eq_true rfl, Nat.le_of_ble_eq_true rfl, rs_ob hs⟩ ?_
      refine yI_use h (fun y2 M1 h => ?_)
      exact yI_ret h
    · replace h := h.2.2 c
      refine And.intro ⟨Nat.le_of_ble_eq_true rfl, Nat.le_of_ble_eq_true rfl, rs_ob hs⟩ ?_
      refine yI_use h (fun y4 M3 h => ?_)
      exact yI_ret h
  · replace h := h.2.2 c
    exact yI_ret h
theorem t_any {e : yE} {d k : Nat} {x1 : Int} {x2 : Int} {M : xM} {Q : Int → xM → Prop} (h : R_any_0 e d k x1 x2 M Q) : R_any e (d + 1) k x1 x2 M Q := h
def R_also_0 (e : yE) (d k : Nat) (x1 x2 : Int) (M : xM) (Q : Int → xM → Prop) : Prop := xGo xft xNf xmt xtr d 119 0 [some (.inr (some k)), some (.inl x1), some (.inl x2)] [] (yS e M) (yI e Q)
theorem t_also_0 {e : yE} {d k : Nat} {x1 x2 : Int} {M : xM} {Q : Int → xM → Prop} (hs : RSh k e) (h :
    ∀ M1 : xM, M1 = xup M k 0 (0 : Int) → 
    (R_isName e d x1 M1 (fun y3 M2 => 
    (rg y3) ∧ ((y3 = 0 → 
      (Q (-1 : Int) M2)) ∧ 
    (¬ (y3 = 0) → 
      (R_isPattern e d k x2 M2 (fun y5 M4 => 
      (rg y5) ∧ ((y5 = 0 → 
        (Q (-1 : Int) M4)) ∧ 
      (¬ (y5 = 0) → 
        ((rg (M4 k 18)) ∧ (((M4 k 18) = (300 : Int) → 
          (Q (-1 : Int) M4)) ∧ 
        (¬ ((M4 k 18) = (300 : Int)) → 
          (R_hasName e d k x2 x1 M4 (fun y7 M6 => 
          (rg y7) ∧ ((¬ y7 = 0 → 
            (Q (-1 : Int) M6)) ∧ 
          (¬ (¬ y7 = 0) → 
            ((0 ≤ x2 ∧ x2 < 300) ∧ 
            ((rg (M6 (k + 13) x2)) ∧ (((M6 (k + 13) x2) ≤ (39 : Int) → 
              ((0 ≤ ((3 : Int) * (M6 k 18)) ∧ ((3 : Int) * (M6 k 18)) < 900) ∧ 
              (∀ M8 : xM, M8 = xup M6 (k + 12) ((3 : Int) * (M6 k 18)) x2 → 
              ((0 ≤ x2 ∧ x2 < 300) ∧ 
              ((0 ≤ x2 ∧ x2 < 300) ∧ 
              ((0 ≤ x2 ∧ x2 < 300) ∧ 
              ((0 ≤ x2 ∧ x2 < 300) ∧ 
              (R_addPattern e d k (3 : Int) (M8 (k + 10) x2) x1 ((M8 (k + 13) x2) + (1 : Int)) (xor32 (M8 (k + 14) x2) (xshl32 (1 : Int) x1)) (M8 (k + 15) x2) M8 (fun y10 M9 => 
              Q y10 M9))))))))) ∧ 
            (¬ ((M6 (k + 13) x2) ≤ (39 : Int)) → 
              (Q (-1 : Int) M6))))))))))))))))))))) : R_also_0 e d k x1 x2 M Q := by
  refine xGo.in ?_
  refine And.intro (rs_ob hs) ?_
  replace h := h _ rfl
  refine And.intro ⟨Nat.le_of_ble_eq_true rfl, Nat.le_of_ble_eq_true rfl, trivial⟩ ?_
  refine yI_use h (fun y3 M2 h => ?_)
  refine And.intro (h.1) (And.intro (fun c => ?_) (fun c => ?_))
  · replace h := h.2.1 c
    exact yI_ret h
  · replace h := h.2.2 c
    refine And.intro ⟨Nat.le_of_ble_eq_true rfl, Nat.le_of_ble_eq_true rfl, rs_ob hs⟩ ?_
    refine yI_use h (fun y5 M4 h => ?_)
    refine And.intro (h.1) (And.intro (fun c => ?_) (fun c => ?_))
    · replace h := h.2.1 c
      exact yI_ret h
    · replace h := h.2.2 c
      refine And.intro (rs_ob hs) ?_
      refine And.intro (⟨h.1, rg_lit (by decide)⟩) (And.intro (fun c => ?_) (fun c => ?_))
      · replace h := h.2.1 c
        exact yI_ret h
      · replace h := h.2.2 c
        refine And.intro ⟨Nat.le_of_ble_eq_true rfl, Nat.le_of_ble_eq_true rfl, rs_ob hs⟩ ?_
        refine yI_use h (fun y7 M6 h => ?_)
        refine And.intro (h.1) (And.intro (fun c => ?_) (fun c => ?_))
        · replace h := h.2.1 c
          exact yI_ret h
        · replace h := h.2.2 c
          refine And.intro (rs_ob hs) ?_
          refine And.intro (xi_ld (rs_13 hs) (h.1)) ?_
          replace h := h.2
          refine And.intro (⟨h.1, rg_lit (by decide)⟩) (And.intro (fun c => ?_) (fun c => ?_))
          · replace h := h.2.1 c
            refine And.intro (rs_ob hs) ?_
            refine And.intro (rs_ob hs) ?_
            refine And.intro (xi_st (rs_12 hs) (h.1)) ?_
            replace h := h.2
            replace h := h _ rfl
            refine And.intro (rs_ob hs) ?_
            refine And.intro (xi_ld (rs_10 hs) (h.1)) ?_
            replace h := h.2
            refine And.intro (rs_ob hs) ?_
            refine And.intro (xi_ld (rs_13 hs) (h.1)) ?_
            replace h := h.2
            refine And.intro (rs_ob hs) ?_
            refine And.intro (xi_ld (rs_14 hs) (h.1)) ?_
            replace h := h.2
            refine And.intro (rs_ob hs) ?_
            refine And.intro (xi_ldb (rs_15 hs) (h.1)) ?_
            replace h := h.2
            refine And.intro ⟨Nat.le_of_ble_eq_true rfl, Nat.le_of_ble_eq_true rfl, rs_ob hs⟩ ?_
            refine yI_use h (fun y10 M9 h => ?_)
            exact yI_ret h
          · replace h := h.2.2 c
            exact yI_ret h
theorem t_also {e : yE} {d k : Nat} {x1 : Int} {x2 : Int} {M : xM} {Q : Int → xM → Prop} (h : R_also_0 e d k x1 x2 M Q) : R_also e (d + 1) k x1 x2 M Q := h
def R_exactly_0 (e : yE) (d k : Nat) (x1 : Int) (M : xM) (Q : Int → xM → Prop) : Prop := xGo xft xNf xmt xtr d 120 0 [some (.inr (some k)), some (.inl x1)] [] (yS e M) (yI e Q)
theorem t_exactly_0 {e : yE} {d k : Nat} {x1 : Int} {M : xM} {Q : Int → xM → Prop} (hs : RSh k e) (h :
    ∀ M1 : xM, M1 = xup M k 0 (0 : Int) → 
    ((rg (M1 k 18)) ∧ ((¬ (M1 k 18) = (300 : Int) → 
      (R_addPattern e d k (1 : Int) (0 : Int) x1 (1 : Int) (0 : Int) (0 : Int) M1 (fun y3 M2 => 
      Q y3 M2))) ∧ 
    (¬ (¬ (M1 k 18) = (300 : Int)) → 
      (Q (-1 : Int) M1))))) : R_exactly_0 e d k x1 M Q := by
  refine xGo.in ?_
  refine And.intro (rs_ob hs) ?_
  replace h := h _ rfl
  refine And.intro (rs_ob hs) ?_
  refine And.intro (⟨h.1, rg_lit (by decide)⟩) (And.intro (fun c => ?_) (fun c => ?_))
  · replace h := h.2.1 c
    refine And.intro ⟨Nat.le_of_ble_eq_true rfl, Nat.le_of_ble_eq_true rfl, rs_ob hs⟩ ?_
    refine yI_use h (fun y3 M2 h => ?_)
    exact yI_ret h
  · replace h := h.2.2 c
    exact yI_ret h
theorem t_exactly {e : yE} {d k : Nat} {x1 : Int} {M : xM} {Q : Int → xM → Prop} (h : R_exactly_0 e d k x1 M Q) : R_exactly e (d + 1) k x1 M Q := h
def R_made_0 (e : yE) (d k : Nat) (x1 x2 x3 x4 x5 : Int) (M : xM) (Q : Int → xM → Prop) : Prop := ∀ (o6 o7 o8 o9 o10 : Option xV), xGo xft xNf xmt xtr d 121 0 [some (.inr (some k)), some (.inl x1), some (.inl x2), some (.inl x3), some (.inl x4), some (.inl x5), o6, o7, o8, o9, o10] [] (yS e M) (yI e Q)
def R_made_38 (e : yE) (d k : Nat) (x1 x2 x3 x4 x5 x6 x7 x8 x9 : Int) (M : xM) (Q : Int → xM → Prop) : Prop := ∀ (o10 : Option xV), xGo xft xNf xmt xtr d 121 38 [some (.inr (some k)), some (.inl x1), some (.inl x2), some (.inl x3), some (.inl x4), some (.inl x5), some (.inl x6), some (.inl x7), some (.inl x8), some (.inl x9), o10] [] (yS e M) (yI e Q)
def R_made_167 (e : yE) (d k : Nat) (x1 x2 x3 x4 x5 x6 x7 x8 x9 : Int) (M : xM) (Q : Int → xM → Prop) : Prop := ∀ (o10 : Option xV), xGo xft xNf xmt xtr d 121 167 [some (.inr (some k)), some (.inl x1), some (.inl x2), some (.inl x3), some (.inl x4), some (.inl x5), some (.inl x6), some (.inl x7), some (.inl x8), some (.inl x9), o10] [] (yS e M) (yI e Q)
theorem t_made_0 {e : yE} {d k : Nat} {x1 x2 x3 x4 x5 : Int} {M : xM} {Q : Int → xM → Prop} (hs : RSh k e) (h :
    ∀ M1 : xM, M1 = xup M k 0 (0 : Int) → 
    (R_isMaker e d k x1 x2 M1 (fun y3 M2 => 
    (rg y3) ∧ ((y3 = 0 → 
      (Q (-1 : Int) M2)) ∧ 
    (¬ (y3 = 0) → 
      ((rg (M2 k 18)) ∧ ((¬ (M2 k 18) = (300 : Int) → 
        (R_made_38 e d k x1 x2 x3 x4 x5 (1 : Int) (0 : Int) (0 : Int) (0 : Int) M2 Q)) ∧ 
      (¬ (¬ (M2 k 18) = (300 : Int)) → 
        (Q (-1 : Int) M2))))))))) : R_made_0 e d k x1 x2 x3 x4 x5 M Q := by
  intro o6 o7 o8 o9 o10
  refine xGo.in ?_
  refine And.intro (rs_ob hs) ?_
  replace h := h _ rfl
  refine And.intro ⟨Nat.le_of_ble_eq_true rfl, Nat.le_of_ble_eq_true rfl, rs_ob hs⟩ ?_
  refine yI_use h (fun y3 M2 h => ?_)
  refine And.intro (h.1) (And.intro (fun c => ?_) (fun c => ?_))
  · replace h := h.2.1 c
    exact yI_ret h
  · replace h := h.2.2 c
    refine And.intro (rs_ob hs) ?_
    refine And.intro (⟨h.1, rg_lit (by decide)⟩) (And.intro (fun c => ?_) (fun c => ?_))
    · replace h := h.2.1 c
      exact h _
    · replace h := h.2.2 c
      exact yI_ret h
theorem t_made_38 {e : yE} {d k : Nat} {x1 x2 x3 x4 x5 x6 x7 x8 x9 : Int} {M : xM} {Q : Int → xM → Prop} (hs : RSh k e) (h :
    R_countOf e d k x1 x2 M (fun y2 M1 => 
    (rg x9 ∧ rg y2) ∧ ((y2 ≤ x9 → 
      ((rg x6) ∧ ((x6 ≤ (40 : Int) → 
        (R_made_167 e d k x1 x2 x3 x4 x5 x6 x7 x8 (0 : Int) M1 Q)) ∧ 
      (¬ (x6 ≤ (40 : Int)) → 
        (Q (-1 : Int) M1))))) ∧ 
    (¬ (y2 ≤ x9) → 
      (R_pick e d x9 x3 x4 x5 M1 (fun y4 M3 => 
      R_isPattern e d k y4 M3 (fun y6 M5 => 
      (rg y6) ∧ ((y6 = 0 → 
        (Q (-1 : Int) M5)) ∧ 
      (¬ (y6 = 0) → 
        ((0 ≤ y4 ∧ y4 < 300) ∧ 
        (R_partType e d k x1 x2 x9 M5 (fun y8 M7 => 
        (rg (M5 (k + 10) y4) ∧ rg y8) ∧ ((¬ (M5 (k + 10) y4) = y8 → 
          (Q (-1 : Int) M7)) ∧ 
        (¬ (¬ (M5 (k + 10) y4) = y8) → 
          ((0 ≤ y4 ∧ y4 < 300) ∧ 
          ((rg (xand32 (M7 (k + 14) y4) x7)) ∧ (((xand32 (M7 (k + 14) y4) x7) = 0 → 
            ((0 ≤ y4 ∧ y4 < 300) ∧ 
            ((0 ≤ y4 ∧ y4 < 300) ∧ 
            ((rg x8) ∧ ((¬ x8 = 0 → 
              (R_made_38 e d k x1 x2 x3 x4 x5 (x6 + (M7 (k + 13) y4)) (xor32 x7 (M7 (k + 14) y4)) (1 : Int) (x9 + 1) M7 Q)) ∧ 
            (¬ (¬ x8 = 0) → 
              ((0 ≤ y4 ∧ y4 < 300) ∧ 
              ((rg (M7 (k + 15) y4)) ∧ (((M7 (k + 15) y4) = 0 → 
                (R_made_38 e d k x1 x2 x3 x4 x5 (x6 + (M7 (k + 13) y4)) (xor32 x7 (M7 (k + 14) y4)) (0 : Int) (x9 + 1) M7 Q)) ∧ 
              (¬ ((M7 (k + 15) y4) = 0) → 
                (R_made_38 e d k x1 x2 x3 x4 x5 (x6 + (M7 (k + 13) y4)) (xor32 x7 (M7 (k + 14) y4)) (1 : Int) (x9 + 1) M7 Q))))))))))) ∧ 
          (¬ ((xand32 (M7 (k + 14) y4) x7) = 0) → 
            (Q (-1 : Int) M7))))))))))))))))))) : R_made_38 e d k x1 x2 x3 x4 x5 x6 x7 x8 x9 M Q := by
  intro o10
  refine xGo.in ?_
  refine And.intro ⟨Nat.le_of_ble_eq_true rfl, Nat.le_of_ble_eq_true rfl, rs_ob hs⟩ ?_
  refine yI_use h (fun y2 M1 h => ?_)
  refine And.intro (⟨h.1.1, h.1.2⟩) (And.intro (fun c => ?_) (fun c => ?_))
  · replace h := h.2.1 c
    refine And.intro (⟨h.1, rg_lit (by decide)⟩) (And.intro (fun c => ?_) (fun c => ?_))
    · replace h := h.2.1 c
      exact h _
    · replace h := h.2.2 c
      exact yI_ret h
  · replace h := h.2.2 c
    refine And.intro ⟨Nat.le_of_ble_eq_true rfl, Nat.le_of_ble_eq_true rfl, trivial⟩ ?_
    refine yI_use h (fun y4 M3 h => ?_)
    refine And.intro ⟨Nat.le_of_ble_eq_true rfl, Nat.le_of_ble_eq_true rfl, rs_ob hs⟩ ?_
    refine yI_use h (fun y6 M5 h => ?_)
    refine And.intro (h.1) (And.intro (fun c => ?_) (fun c => ?_))
    · replace h := h.2.1 c
      exact yI_ret h
    · replace h := h.2.2 c
      refine And.intro (rs_ob hs) ?_
      refine And.intro (xi_ld (rs_10 hs) (h.1)) ?_
      replace h := h.2
      refine And.intro ⟨Nat.le_of_ble_eq_true rfl, Nat.le_of_ble_eq_true rfl, rs_ob hs⟩ ?_
      refine yI_use h (fun y8 M7 h => ?_)
      refine And.intro (⟨h.1.1, h.1.2⟩) (And.intro (fun c => ?_) (fun c => ?_))
      · replace h := h.2.1 c
        exact yI_ret h
      · replace h := h.2.2 c
        refine And.intro (rs_ob hs) ?_
        refine And.intro (xi_ld (rs_14 hs) (h.1)) ?_
        replace h := h.2
        refine And.intro (h.1) (And.intro (fun c => ?_) (fun c => ?_))
        · replace h := h.2.1 c
          refine And.intro (rs_ob hs) ?_
          refine And.intro (xi_ld (rs_13 hs) (h.1)) ?_
          replace h := h.2
          refine And.intro (rs_ob hs) ?_
          refine And.intro (xi_ld (rs_14 hs) (h.1)) ?_
          replace h := h.2
          refine And.intro (h.1) (And.intro (fun c => ?_) (fun c => ?_))
          · replace h := h.2.1 c
            exact h _
          · replace h := h.2.2 c
            refine And.intro (rs_ob hs) ?_
            refine And.intro (xi_ldb (rs_15 hs) (h.1)) ?_
            replace h := h.2
            refine And.intro (h.1) (And.intro (fun c => ?_) (fun c => ?_))
            · replace h := h.2.1 c
              exact h _
            · replace h := h.2.2 c
              exact h _
        · replace h := h.2.2 c
          exact yI_ret h
theorem t_made_167 {e : yE} {d k : Nat} {x1 x2 x3 x4 x5 x6 x7 x8 x9 : Int} {M : xM} {Q : Int → xM → Prop} (hs : RSh k e) (h :
    R_countOf e d k x1 x2 M (fun y2 M1 => 
    (rg x9 ∧ rg y2) ∧ ((y2 ≤ x9 → 
      (R_addPattern e d k (2 : Int) x1 x2 x6 x7 x8 M1 (fun y4 M3 => 
      Q y4 M3))) ∧ 
    (¬ (y2 ≤ x9) → 
      (R_pick e d x9 x3 x4 x5 M1 (fun y6 M5 => 
      (0 ≤ (((3 : Int) * (M1 k 18)) + x9) ∧ (((3 : Int) * (M1 k 18)) + x9) < 900) ∧ 
      (∀ M7 : xM, M7 = xup M5 (k + 12) (((3 : Int) * (M1 k 18)) + x9) y6 → 
      (R_made_167 e d k x1 x2 x3 x4 x5 x6 x7 x8 (x9 + 1) M7 Q)))))))) : R_made_167 e d k x1 x2 x3 x4 x5 x6 x7 x8 x9 M Q := by
  intro o10
  refine xGo.in ?_
  refine And.intro ⟨Nat.le_of_ble_eq_true rfl, Nat.le_of_ble_eq_true rfl, rs_ob hs⟩ ?_
  refine yI_use h (fun y2 M1 h => ?_)
  refine And.intro (⟨h.1.1, h.1.2⟩) (And.intro (fun c => ?_) (fun c => ?_))
  · replace h := h.2.1 c
    refine And.intro ⟨Nat.le_of_ble_eq_true rfl, Nat.le_of_ble_eq_true rfl, rs_ob hs⟩ ?_
    refine yI_use h (fun y4 M3 h => ?_)
    exact yI_ret h
  · replace h := h.2.2 c
    refine And.intro (rs_ob hs) ?_
    refine And.intro (rs_ob hs) ?_
    refine And.intro ⟨Nat.le_of_ble_eq_true rfl, Nat.le_of_ble_eq_true rfl, trivial⟩ ?_
    refine yI_use h (fun y6 M5 h => ?_)
    refine And.intro (xi_st (rs_12 hs) (h.1)) ?_
    replace h := h.2
    replace h := h _ rfl
    exact h _
theorem t_made {e : yE} {d k : Nat} {x1 : Int} {x2 : Int} {x3 : Int} {x4 : Int} {x5 : Int} {M : xM} {Q : Int → xM → Prop} (h : R_made_0 e d k x1 x2 x3 x4 x5 M Q) : R_made e (d + 1) k x1 x2 x3 x4 x5 M Q := h _ _ _ _ _
def R_either_0 (e : yE) (d k : Nat) (x1 x2 : Int) (M : xM) (Q : Int → xM → Prop) : Prop := xGo xft xNf xmt xtr d 122 0 [some (.inr (some k)), some (.inl x1), some (.inl x2)] [] (yS e M) (yI e Q)
theorem t_either_0 {e : yE} {d k : Nat} {x1 x2 : Int} {M : xM} {Q : Int → xM → Prop} (hs : RSh k e) (h :
    ∀ M1 : xM, M1 = xup M k 0 (0 : Int) → 
    (R_isPattern e d k x1 M1 (fun y3 M2 => 
    (rg y3) ∧ ((y3 = 0 → 
      (Q (-1 : Int) M2)) ∧ 
    (¬ (y3 = 0) → 
      (R_isPattern e d k x2 M2 (fun y5 M4 => 
      (rg y5) ∧ ((y5 = 0 → 
        (Q (-1 : Int) M4)) ∧ 
      (¬ (y5 = 0) → 
        ((rg (M4 k 18)) ∧ ((¬ (M4 k 18) = (300 : Int) → 
          ((0 ≤ x1 ∧ x1 < 300) ∧ 
          ((0 ≤ x2 ∧ x2 < 300) ∧ 
          ((rg (M4 (k + 10) x1) ∧ rg (M4 (k + 10) x2)) ∧ ((¬ (M4 (k + 10) x1) = (M4 (k + 10) x2) → 
            (Q (-1 : Int) M4)) ∧ 
          (¬ (¬ (M4 (k + 10) x1) = (M4 (k + 10) x2)) → 
            ((0 ≤ x1 ∧ x1 < 300) ∧ 
            ((0 ≤ x2 ∧ x2 < 300) ∧ 
            ((rg (M4 (k + 14) x1) ∧ rg (M4 (k + 14) x2)) ∧ ((¬ (M4 (k + 14) x1) = (M4 (k + 14) x2) → 
              (Q (-1 : Int) M4)) ∧ 
            (¬ (¬ (M4 (k + 14) x1) = (M4 (k + 14) x2)) → 
              ((0 ≤ x1 ∧ x1 < 300) ∧ 
              ((0 ≤ x2 ∧ x2 < 300) ∧ 
              ((rg (((1 : Int) + (M4 (k + 13) x1)) + (M4 (k + 13) x2))) ∧ (((((1 : Int) + (M4 (k + 13) x1)) + (M4 (k + 13) x2)) ≤ (40 : Int) → 
                ((0 ≤ ((3 : Int) * (M4 k 18)) ∧ ((3 : Int) * (M4 k 18)) < 900) ∧ 
                (∀ M6 : xM, M6 = xup M4 (k + 12) ((3 : Int) * (M4 k 18)) x1 → 
                ((0 ≤ (((3 : Int) * (M6 k 18)) + (1 : Int)) ∧ (((3 : Int) * (M6 k 18)) + (1 : Int)) < 900) ∧ 
                (∀ M7 : xM, M7 = xup M6 (k + 12) (((3 : Int) * (M6 k 18)) + (1 : Int)) x2 → 
                ((0 ≤ x1 ∧ x1 < 300) ∧ 
                ((0 ≤ x1 ∧ x1 < 300) ∧ 
                ((0 ≤ x2 ∧ x2 < 300) ∧ 
                ((0 ≤ x1 ∧ x1 < 300) ∧ 
                (R_addPattern e d k (4 : Int) (M7 (k + 10) x1) (-1 : Int) (((1 : Int) + (M7 (k + 13) x1)) + (M7 (k + 13) x2)) (M7 (k + 14) x1) (1 : Int) M7 (fun y9 M8 => 
                Q y9 M8))))))))))) ∧ 
              (¬ ((((1 : Int) + (M4 (k + 13) x1)) + (M4 (k + 13) x2)) ≤ (40 : Int)) → 
                (Q (-1 : Int) M4))))))))))))))))) ∧ 
        (¬ (¬ (M4 k 18) = (300 : Int)) → 
          (Q (-1 : Int) M4))))))))))))) : R_either_0 e d k x1 x2 M Q := by
  refine xGo.in ?_
  refine And.intro (rs_ob hs) ?_
  replace h := h _ rfl
  refine And.intro ⟨Nat.le_of_ble_eq_true rfl, Nat.le_of_ble_eq_true rfl, rs_ob hs⟩ ?_
  refine yI_use h (fun y3 M2 h => ?_)
  refine And.intro (h.1) (And.intro (fun c => ?_) (fun c => ?_))
  · replace h := h.2.1 c
    exact yI_ret h
  · replace h := h.2.2 c
    refine And.intro ⟨Nat.le_of_ble_eq_true rfl, Nat.le_of_ble_eq_true rfl, rs_ob hs⟩ ?_
    refine yI_use h (fun y5 M4 h => ?_)
    refine And.intro (h.1) (And.intro (fun c => ?_) (fun c => ?_))
    · replace h := h.2.1 c
      exact yI_ret h
    · replace h := h.2.2 c
      refine And.intro (rs_ob hs) ?_
      refine And.intro (⟨h.1, rg_lit (by decide)⟩) (And.intro (fun c => ?_) (fun c => ?_))
      · replace h := h.2.1 c
        refine And.intro (rs_ob hs) ?_
        refine And.intro (xi_ld (rs_10 hs) (h.1)) ?_
        replace h := h.2
        refine And.intro (rs_ob hs) ?_
        refine And.intro (xi_ld (rs_10 hs) (h.1)) ?_
        replace h := h.2
        refine And.intro (⟨h.1.1, h.1.2⟩) (And.intro (fun c => ?_) (fun c => ?_))
        · replace h := h.2.1 c
          exact yI_ret h
        · replace h := h.2.2 c
          refine And.intro (rs_ob hs) ?_
          refine And.intro (xi_ld (rs_14 hs) (h.1)) ?_
          replace h := h.2
          refine And.intro (rs_ob hs) ?_
          refine And.intro (xi_ld (rs_14 hs) (h.1)) ?_
          replace h := h.2
          refine And.intro (⟨h.1.1, h.1.2⟩) (And.intro (fun c => ?_) (fun c => ?_))
          · replace h := h.2.1 c
            exact yI_ret h
          · replace h := h.2.2 c
            refine And.intro (rs_ob hs) ?_
            refine And.intro (xi_ld (rs_13 hs) (h.1)) ?_
            replace h := h.2
            refine And.intro (rs_ob hs) ?_
            refine And.intro (xi_ld (rs_13 hs) (h.1)) ?_
            replace h := h.2
            refine And.intro (⟨h.1, rg_lit (by decide)⟩) (And.intro (fun c => ?_) (fun c => ?_))
            · replace h := h.2.1 c
              refine And.intro (rs_ob hs) ?_
              refine And.intro (rs_ob hs) ?_
              refine And.intro (xi_st (rs_12 hs) (h.1)) ?_
              replace h := h.2
              replace h := h _ rfl
              refine And.intro (rs_ob hs) ?_
              refine And.intro (rs_ob hs) ?_
              refine And.intro (xi_st (rs_12 hs) (h.1)) ?_
              replace h := h.2
              replace h := h _ rfl
              refine And.intro (rs_ob hs) ?_
              refine And.intro (xi_ld (rs_10 hs) (h.1)) ?_
              replace h := h.2
              refine And.intro (rs_ob hs) ?_
              refine And.intro (xi_ld (rs_13 hs) (h.1)) ?_
              replace h := h.2
              refine And.intro (rs_ob hs) ?_
              refine And.intro (xi_ld (rs_13 hs) (h.1)) ?_
              replace h := h.2
              refine And.intro (rs_ob hs) ?_
              refine And.intro (xi_ld (rs_14 hs) (h.1)) ?_
              replace h := h.2
              refine And.intro ⟨Nat.le_of_ble_eq_true rfl, Nat.le_of_ble_eq_true rfl, rs_ob hs⟩ ?_
              refine yI_use h (fun y9 M8 h => ?_)
              exact yI_ret h
            · replace h := h.2.2 c
              exact yI_ret h
      · replace h := h.2.2 c
        exact yI_ret h
theorem t_either {e : yE} {d k : Nat} {x1 : Int} {x2 : Int} {M : xM} {Q : Int → xM → Prop} (h : R_either_0 e d k x1 x2 M Q) : R_either e (d + 1) k x1 x2 M Q := h
def R_match_0 (e : yE) (d k : Nat) (x1 x2 x3 x4 : Int) (M : xM) (Q : Int → xM → Prop) : Prop := ∀ (o5 : Option xV), xGo xft xNf xmt xtr d 123 0 [some (.inr (some k)), some (.inl x1), some (.inl x2), some (.inl x3), some (.inl x4), o5] [] (yS e M) (yI e Q)
def R_match_29 (e : yE) (d k : Nat) (x1 x2 x3 x4 x5 : Int) (M : xM) (Q : Int → xM → Prop) : Prop := xGo xft xNf xmt xtr d 123 29 [some (.inr (some k)), some (.inl x1), some (.inl x2), some (.inl x3), some (.inl x4), some (.inl x5)] [] (yS e M) (yI e Q)
def R_match_85 (e : yE) (d k : Nat) (x1 x5 : Int) (M : xM) (Q : Int → xM → Prop) : Prop := ∀ (o2 o3 o4 : Option xV), xGo xft xNf xmt xtr d 123 85 [some (.inr (some k)), some (.inl x1), o2, o3, o4, some (.inl x5)] [] (yS e M) (yI e Q)
theorem t_match_0 {e : yE} {d k : Nat} {x1 x2 x3 x4 : Int} {M : xM} {Q : Int → xM → Prop} (hs : RSh k e) (h :
    ∀ M1 : xM, M1 = xup M k 0 (0 : Int) → 
    ((rg x1) ∧ ((x1 < (1 : Int) → 
      (Q (-1 : Int) M1)) ∧ 
    (¬ (x1 < (1 : Int)) → 
      ((rg x1) ∧ (((3 : Int) < x1 → 
        (Q (-1 : Int) M1)) ∧ 
      (¬ ((3 : Int) < x1) → 
        ((rg (M1 k 25)) ∧ ((¬ (M1 k 25) = (20 : Int) → 
          (R_match_29 e d k x1 x2 x3 x4 (0 : Int) M1 Q)) ∧ 
        (¬ (¬ (M1 k 25) = (20 : Int)) → 
          (Q (-1 : Int) M1))))))))))) : R_match_0 e d k x1 x2 x3 x4 M Q := by
  intro o5
  refine xGo.in ?_
  refine And.intro (rs_ob hs) ?_
  replace h := h _ rfl
  refine And.intro (⟨h.1, rg_lit (by decide)⟩) (And.intro (fun c => ?_) (fun c => ?_))
  · replace h := h.2.1 c
    exact yI_ret h
  · replace h := h.2.2 c
    refine And.intro (⟨h.1, rg_lit (by decide)⟩) (And.intro (fun c => ?_) (fun c => ?_))
    · replace h := h.2.1 c
      exact yI_ret h
    · replace h := h.2.2 c
      refine And.intro (rs_ob hs) ?_
      refine And.intro (⟨h.1, rg_lit (by decide)⟩) (And.intro (fun c => ?_) (fun c => ?_))
      · replace h := h.2.1 c
        exact h
      · replace h := h.2.2 c
        exact yI_ret h
theorem t_match_29 {e : yE} {d k : Nat} {x1 x2 x3 x4 x5 : Int} {M : xM} {Q : Int → xM → Prop} (hs : RSh k e) (h :
    (rg x5 ∧ rg x1) ∧ ((x1 ≤ x5 → 
      (R_match_85 e d k x1 (0 : Int) M Q)) ∧ 
    (¬ (x1 ≤ x5) → 
      (R_pick e d x5 x2 x3 x4 M (fun y2 M1 => 
      R_isType e d k y2 M1 (fun y4 M3 => 
      (rg y4) ∧ ((¬ y4 = 0 → 
        (R_pick e d x5 x2 x3 x4 M3 (fun y6 M5 => 
        (0 ≤ (((3 : Int) * (M3 k 25)) + x5) ∧ (((3 : Int) * (M3 k 25)) + x5) < 60) ∧ 
        (∀ M7 : xM, M7 = xup M5 (k + 17) (((3 : Int) * (M3 k 25)) + x5) y6 → 
        (R_match_29 e d k x1 x2 x3 x4 (x5 + 1) M7 Q))))) ∧ 
      (¬ (¬ y4 = 0) → 
        (Q (-1 : Int) M3))))))))) : R_match_29 e d k x1 x2 x3 x4 x5 M Q := by
  refine xGo.in ?_
  refine And.intro (⟨h.1.1, h.1.2⟩) (And.intro (fun c => ?_) (fun c => ?_))
  · replace h := h.2.1 c
    exact h _ _ _
  · replace h := h.2.2 c
    refine And.intro ⟨Nat.le_of_ble_eq_true rfl, Nat.le_of_ble_eq_true rfl, trivial⟩ ?_
    refine yI_use h (fun y2 M1 h => ?_)
    refine And.intro ⟨Nat.le_of_ble_eq_true rfl, Nat.le_of_ble_eq_true rfl, rs_ob hs⟩ ?_
    refine yI_use h (fun y4 M3 h => ?_)
    refine And.intro (h.1) (And.intro (fun c => ?_) (fun c => ?_))
    · replace h := h.2.1 c
      refine And.intro (rs_ob hs) ?_
      refine And.intro (rs_ob hs) ?_
      refine And.intro ⟨Nat.le_of_ble_eq_true rfl, Nat.le_of_ble_eq_true rfl, trivial⟩ ?_
      refine yI_use h (fun y6 M5 h => ?_)
      refine And.intro (xi_st (rs_17 hs) (h.1)) ?_
      replace h := h.2
      replace h := h _ rfl
      exact h
    · replace h := h.2.2 c
      exact yI_ret h
theorem t_match_85 {e : yE} {d k : Nat} {x1 x5 : Int} {M : xM} {Q : Int → xM → Prop} (hs : RSh k e) (h :
    (rg x5 ∧ rg (M k 1)) ∧ (((M k 1) ≤ x5 → 
      ((0 ≤ (M k 25) ∧ (M k 25) < 20) ∧ 
      (∀ M1 : xM, M1 = xup M (k + 16) (M k 25) x1 → 
      ((0 ≤ (M1 k 25) ∧ (M1 k 25) < 20) ∧ 
      (∀ M2 : xM, M2 = xup M1 (k + 18) (M1 k 25) (0 : Int) → 
      (∀ M3 : xM, M3 = xup M2 k 25 ((M2 k 25) + (1 : Int)) → 
      (Q ((M3 k 25) - (1 : Int)) M3))))))) ∧ 
    (¬ ((M k 1) ≤ x5) → 
      ((0 ≤ x5 ∧ x5 < 8) ∧ 
      ((rg (M (k + 4) x5)) ∧ ((¬ (M (k + 4) x5) = 0 → 
        (R_match_85 e d k x1 (x5 + 1) M Q)) ∧ 
      (¬ (¬ (M (k + 4) x5) = 0) → 
        (Q (-1 : Int) M)))))))) : R_match_85 e d k x1 x5 M Q := by
  intro o2 o3 o4
  refine xGo.in ?_
  refine And.intro (rs_ob hs) ?_
  refine And.intro (⟨h.1.1, h.1.2⟩) (And.intro (fun c => ?_) (fun c => ?_))
  · replace h := h.2.1 c
    refine And.intro (rs_ob hs) ?_
    refine And.intro (rs_ob hs) ?_
    refine And.intro (xi_st (rs_16 hs) (h.1)) ?_
    replace h := h.2
    replace h := h _ rfl
    refine And.intro (rs_ob hs) ?_
    refine And.intro (rs_ob hs) ?_
    refine And.intro (xi_st (rs_18 hs) (h.1)) ?_
    replace h := h.2
    replace h := h _ rfl
    refine And.intro (rs_ob hs) ?_
    refine And.intro (rs_ob hs) ?_
    replace h := h _ rfl
    refine And.intro (rs_ob hs) ?_
    exact yI_ret h
  · replace h := h.2.2 c
    refine And.intro (rs_ob hs) ?_
    refine And.intro (xi_ld (rs_4 hs) (h.1)) ?_
    replace h := h.2
    refine And.intro (h.1) (And.intro (fun c => ?_) (fun c => ?_))
    · replace h := h.2.1 c
      exact h _ _ _
    · replace h := h.2.2 c
      exact yI_ret h
theorem t_match {e : yE} {d k : Nat} {x1 : Int} {x2 : Int} {x3 : Int} {x4 : Int} {M : xM} {Q : Int → xM → Prop} (h : R_match_0 e d k x1 x2 x3 x4 M Q) : R_match e (d + 1) k x1 x2 x3 x4 M Q := h _
def R_isMatch_0 (e : yE) (d k : Nat) (x1 : Int) (M : xM) (Q : Int → xM → Prop) : Prop := xGo xft xNf xmt xtr d 124 0 [some (.inr (some k)), some (.inl x1)] [] (yS e M) (yI e Q)
theorem t_isMatch_0 {e : yE} {d k : Nat} {x1 : Int} {M : xM} {Q : Int → xM → Prop} (hs : RSh k e) (h :
    (rg x1) ∧ ((x1 < 0 → 
      (Q (0 : Int) M)) ∧ 
    (¬ (x1 < 0) → 
      ((rg x1 ∧ rg (M k 25)) ∧ (((M k 25) ≤ x1 → 
        (Q (0 : Int) M)) ∧ 
      (¬ ((M k 25) ≤ x1) → 
        (Q (1 : Int) M))))))) : R_isMatch_0 e d k x1 M Q := by
  refine xGo.in ?_
  refine And.intro (h.1) (And.intro (fun c => ?_) (fun c => ?_))
  · replace h := h.2.1 c
    exact And.intro (by decide) (yI_ret h)
  · replace h := h.2.2 c
    refine And.intro (rs_ob hs) ?_
    refine And.intro (⟨h.1.1, h.1.2⟩) (And.intro (fun c => ?_) (fun c => ?_))
    · replace h := h.2.1 c
      exact And.intro (by decide) (yI_ret h)
    · replace h := h.2.2 c
      exact And.intro (by decide) (yI_ret h)
theorem t_isMatch {e : yE} {d k : Nat} {x1 : Int} {M : xM} {Q : Int → xM → Prop} (h : R_isMatch_0 e d k x1 M Q) : R_isMatch e (d + 1) k x1 M Q := h
def R_patternOf_0 (e : yE) (d k : Nat) (x1 x2 x3 : Int) (M : xM) (Q : Int → xM → Prop) : Prop := xGo xft xNf xmt xtr d 125 0 [some (.inr (some k)), some (.inl x1), some (.inl x2), some (.inl x3)] [] (yS e M) (yI e Q)
theorem t_patternOf_0 {e : yE} {d k : Nat} {x1 x2 x3 : Int} {M : xM} {Q : Int → xM → Prop} (hs : RSh k e) (h :
    (0 ≤ ((((36 : Int) * x1) + ((3 : Int) * x2)) + x3) ∧ ((((36 : Int) * x1) + ((3 : Int) * x2)) + x3) < 720) ∧ 
    (Q (M (k + 19) ((((36 : Int) * x1) + ((3 : Int) * x2)) + x3)) M)) : R_patternOf_0 e d k x1 x2 x3 M Q := by
  refine xGo.in ?_
  refine And.intro (rs_ob hs) ?_
  refine And.intro (xi_ld (rs_19 hs) (h.1)) ?_
  replace h := h.2
  exact yI_ret h
theorem t_patternOf {e : yE} {d k : Nat} {x1 : Int} {x2 : Int} {x3 : Int} {M : xM} {Q : Int → xM → Prop} (h : R_patternOf_0 e d k x1 x2 x3 M Q) : R_patternOf e (d + 1) k x1 x2 x3 M Q := h
def R_typeOfName_0 (e : yE) (d k : Nat) (x1 x2 : Int) (M : xM) (Q : Int → xM → Prop) : Prop := ∀ (o3 o4 o5 : Option xV), xGo xft xNf xmt xtr d 126 0 [some (.inr (some k)), some (.inl x1), some (.inl x2), o3, o4, o5] [] (yS e M) (yI e Q)
def R_typeOfName_19 (e : yE) (d k : Nat) (x1 x2 : Int) (M : xM) (Q : Int → xM → Prop) : Prop := ∀ (o3 o4 o5 : Option xV), xGo xft xNf xmt xtr d 126 19 [some (.inr (some k)), some (.inl x1), some (.inl x2), o3, o4, o5] [] (yS e M) (yI e Q)
def R_typeOfName_36 (e : yE) (d k : Nat) (x1 x2 : Int) (M : xM) (Q : Int → xM → Prop) : Prop := ∀ (o3 o4 o5 : Option xV), xGo xft xNf xmt xtr d 126 36 [some (.inr (some k)), some (.inl x1), some (.inl x2), o3, o4, o5] [] (yS e M) (yI e Q)
def R_typeOfName_70 (e : yE) (d k : Nat) (x1 x2 x3 x4 : Int) (M : xM) (Q : Int → xM → Prop) : Prop := ∀ (o5 : Option xV), xGo xft xNf xmt xtr d 126 70 [some (.inr (some k)), some (.inl x1), some (.inl x2), some (.inl x3), some (.inl x4), o5] [] (yS e M) (yI e Q)
theorem t_typeOfName_0 {e : yE} {d k : Nat} {x1 x2 : Int} {M : xM} {Q : Int → xM → Prop} (hs : RSh k e) (h :
    (0 ≤ x1 ∧ x1 < 300) ∧ 
    ((rg (M (k + 9) x1)) ∧ (((M (k + 9) x1) = 0 → 
      (R_typeOfName_19 e d k x1 x2 M Q)) ∧ 
    (¬ ((M (k + 9) x1) = 0) → 
      ((0 ≤ x1 ∧ x1 < 300) ∧ 
      ((rg (M (k + 9) x1)) ∧ ((¬ (M (k + 9) x1) = (3 : Int) → 
        (R_typeOfName_36 e d k x1 x2 M Q)) ∧ 
      (¬ (¬ (M (k + 9) x1) = (3 : Int)) → 
        (R_typeOfName_19 e d k x1 x2 M Q))))))))) : R_typeOfName_0 e d k x1 x2 M Q := by
  intro o3 o4 o5
  refine xGo.in ?_
  refine And.intro (rs_ob hs) ?_
  refine And.intro (xi_ld (rs_9 hs) (h.1)) ?_
  replace h := h.2
  refine And.intro (h.1) (And.intro (fun c => ?_) (fun c => ?_))
  · replace h := h.2.1 c
    exact h _ _ _
  · replace h := h.2.2 c
    refine And.intro (rs_ob hs) ?_
    refine And.intro (xi_ld (rs_9 hs) (h.1)) ?_
    replace h := h.2
    refine And.intro (⟨h.1, rg_lit (by decide)⟩) (And.intro (fun c => ?_) (fun c => ?_))
    · replace h := h.2.1 c
      exact h _ _ _
    · replace h := h.2.2 c
      exact h _ _ _
theorem t_typeOfName_19 {e : yE} {d k : Nat} {x1 x2 : Int} {M : xM} {Q : Int → xM → Prop} (hs : RSh k e) (h :
    (0 ≤ x1 ∧ x1 < 300) ∧ 
    ((rg (M (k + 11) x1) ∧ rg x2) ∧ ((¬ (M (k + 11) x1) = x2 → 
      (R_typeOfName_36 e d k x1 x2 M Q)) ∧ 
    (¬ (¬ (M (k + 11) x1) = x2) → 
      ((0 ≤ x1 ∧ x1 < 300) ∧ 
      (Q (M (k + 10) x1) M)))))) : R_typeOfName_19 e d k x1 x2 M Q := by
  intro o3 o4 o5
  refine xGo.in ?_
  refine And.intro (rs_ob hs) ?_
  refine And.intro (xi_ld (rs_11 hs) (h.1)) ?_
  replace h := h.2
  refine And.intro (⟨h.1.1, h.1.2⟩) (And.intro (fun c => ?_) (fun c => ?_))
  · replace h := h.2.1 c
    exact h _ _ _
  · replace h := h.2.2 c
    refine And.intro (rs_ob hs) ?_
    refine And.intro (xi_ld (rs_10 hs) (h.1)) ?_
    replace h := h.2
    exact yI_ret h
theorem t_typeOfName_36 {e : yE} {d k : Nat} {x1 x2 : Int} {M : xM} {Q : Int → xM → Prop} (hs : RSh k e) (h :
    (0 ≤ x1 ∧ x1 < 300) ∧ 
    ((rg (M (k + 9) x1)) ∧ ((¬ (M (k + 9) x1) = (2 : Int) → 
      (R_typeOfName_70 e d k x1 x2 (1 : Int) (0 : Int) M Q)) ∧ 
    (¬ (¬ (M (k + 9) x1) = (2 : Int)) → 
      ((0 ≤ x1 ∧ x1 < 300) ∧ 
      ((0 ≤ x1 ∧ x1 < 300) ∧ 
      (R_countOf e d k (M (k + 10) x1) (M (k + 11) x1) M (fun y2 M1 => 
      R_typeOfName_70 e d k x1 x2 y2 (0 : Int) M1 Q)))))))) : R_typeOfName_36 e d k x1 x2 M Q := by
  intro o3 o4 o5
  refine xGo.in ?_
  refine And.intro (rs_ob hs) ?_
  refine And.intro (xi_ld (rs_9 hs) (h.1)) ?_
  replace h := h.2
  refine And.intro (⟨h.1, rg_lit (by decide)⟩) (And.intro (fun c => ?_) (fun c => ?_))
  · replace h := h.2.1 c
    exact h _
  · replace h := h.2.2 c
    refine And.intro (rs_ob hs) ?_
    refine And.intro (xi_ld (rs_10 hs) (h.1)) ?_
    replace h := h.2
    refine And.intro (rs_ob hs) ?_
    refine And.intro (xi_ld (rs_11 hs) (h.1)) ?_
    replace h := h.2
    refine And.intro ⟨Nat.le_of_ble_eq_true rfl, Nat.le_of_ble_eq_true rfl, rs_ob hs⟩ ?_
    refine yI_use h (fun y2 M1 h => ?_)
    exact h _
theorem t_typeOfName_70 {e : yE} {d k : Nat} {x1 x2 x3 x4 : Int} {M : xM} {Q : Int → xM → Prop} (hs : RSh k e) (h :
    (rg x4 ∧ rg x3) ∧ ((x3 ≤ x4 → 
      (Q (-1 : Int) M)) ∧ 
    (¬ (x3 ≤ x4) → 
      ((0 ≤ (((3 : Int) * x1) + x4) ∧ (((3 : Int) * x1) + x4) < 900) ∧ 
      (R_hasName e d k (M (k + 12) (((3 : Int) * x1) + x4)) x2 M (fun y2 M1 => 
      (rg y2) ∧ ((y2 = 0 → 
        (R_typeOfName_70 e d k x1 x2 x3 (x4 + 1) M1 Q)) ∧ 
      (¬ (y2 = 0) → 
        (R_typeOfName e d k (M (k + 12) (((3 : Int) * x1) + x4)) x2 M1 (fun y4 M3 => 
        Q y4 M3)))))))))) : R_typeOfName_70 e d k x1 x2 x3 x4 M Q := by
  intro o5
  refine xGo.in ?_
  refine And.intro (⟨h.1.1, h.1.2⟩) (And.intro (fun c => ?_) (fun c => ?_))
  · replace h := h.2.1 c
    exact yI_ret h
  · replace h := h.2.2 c
    refine And.intro (rs_ob hs) ?_
    refine And.intro (xi_ld (rs_12 hs) (h.1)) ?_
    replace h := h.2
    refine And.intro ⟨Nat.le_of_ble_eq_true rfl, Nat.le_of_ble_eq_true rfl, rs_ob hs⟩ ?_
    refine yI_use h (fun y2 M1 h => ?_)
    refine And.intro (h.1) (And.intro (fun c => ?_) (fun c => ?_))
    · replace h := h.2.1 c
      exact h _
    · replace h := h.2.2 c
      refine And.intro ⟨Nat.le_of_ble_eq_true rfl, Nat.le_of_ble_eq_true rfl, rs_ob hs⟩ ?_
      refine yI_use h (fun y4 M3 h => ?_)
      exact yI_ret h
theorem t_typeOfName {e : yE} {d k : Nat} {x1 : Int} {x2 : Int} {M : xM} {Q : Int → xM → Prop} (h : R_typeOfName_0 e d k x1 x2 M Q) : R_typeOfName e (d + 1) k x1 x2 M Q := h _ _ _
def R_row_0 (e : yE) (d k : Nat) (x1 x2 x3 x4 x5 x6 : Int) (M : xM) (Q : Int → xM → Prop) : Prop := ∀ (o7 o8 o9 o10 o11 o12 : Option xV), xGo xft xNf xmt xtr d 127 0 [some (.inr (some k)), some (.inl x1), some (.inl x2), some (.inl x3), some (.inl x4), some (.inl x5), some (.inl x6), o7, o8, o9, o10, o11, o12] [] (yS e M) (yI e Q)
def R_row_41 (e : yE) (d k : Nat) (x1 x2 x3 x4 x5 x6 x7 x8 x9 x10 x11 : Int) (M : xM) (Q : Int → xM → Prop) : Prop := ∀ (o12 : Option xV), xGo xft xNf xmt xtr d 127 41 [some (.inr (some k)), some (.inl x1), some (.inl x2), some (.inl x3), some (.inl x4), some (.inl x5), some (.inl x6), some (.inl x7), some (.inl x8), some (.inl x9), some (.inl x10), some (.inl x11), o12] [] (yS e M) (yI e Q)
def R_row_140 (e : yE) (d k : Nat) (x1 x2 x3 x4 x5 x6 x7 x9 x10 x11 x12 s0 : Int) (M : xM) (Q : Int → xM → Prop) : Prop := ∀ (o8 : Option xV), xGo xft xNf xmt xtr d 127 140 [some (.inr (some k)), some (.inl x1), some (.inl x2), some (.inl x3), some (.inl x4), some (.inl x5), some (.inl x6), some (.inl x7), o8, some (.inl x9), some (.inl x10), some (.inl x11), some (.inl x12)] [.inl s0] (yS e M) (yI e Q)
def R_row_182 (e : yE) (d k : Nat) (x1 x2 x3 x4 x5 x6 x7 x8 x10 x11 x12 s0 : Int) (M : xM) (Q : Int → xM → Prop) : Prop := ∀ (o9 : Option xV), xGo xft xNf xmt xtr d 127 182 [some (.inr (some k)), some (.inl x1), some (.inl x2), some (.inl x3), some (.inl x4), some (.inl x5), some (.inl x6), some (.inl x7), some (.inl x8), o9, some (.inl x10), some (.inl x11), some (.inl x12)] [.inl s0] (yS e M) (yI e Q)
def R_row_258 (e : yE) (d k : Nat) (x1 x2 x3 x4 x5 x6 x11 : Int) (M : xM) (Q : Int → xM → Prop) : Prop := ∀ (o7 o8 o9 o10 o12 : Option xV), xGo xft xNf xmt xtr d 127 258 [some (.inr (some k)), some (.inl x1), some (.inl x2), some (.inl x3), some (.inl x4), some (.inl x5), some (.inl x6), o7, o8, o9, o10, some (.inl x11), o12] [] (yS e M) (yI e Q)
theorem t_row_0 {e : yE} {d k : Nat} {x1 x2 x3 x4 x5 x6 : Int} {M : xM} {Q : Int → xM → Prop} (hs : RSh k e) (h :
    ∀ M1 : xM, M1 = xup M k 0 (0 : Int) → 
    (R_isMatch e d k x1 M1 (fun y3 M2 => 
    (rg y3) ∧ ((y3 = 0 → 
      (Q (-1 : Int) M2)) ∧ 
    (¬ (y3 = 0) → 
      ((0 ≤ x1 ∧ x1 < 20) ∧ 
      ((rg (M2 (k + 18) x1)) ∧ ((¬ (M2 (k + 18) x1) = (12 : Int) → 
        (R_row_41 e d k x1 x2 x3 x4 x5 x6 (0 : Int) (0 : Int) (0 : Int) (0 : Int) (0 : Int) M2 Q)) ∧ 
      (¬ (¬ (M2 (k + 18) x1) = (12 : Int)) → 
        (Q (-1 : Int) M2)))))))))) : R_row_0 e d k x1 x2 x3 x4 x5 x6 M Q := by
  intro o7 o8 o9 o10 o11 o12
  refine xGo.in ?_
  refine And.intro (rs_ob hs) ?_
  replace h := h _ rfl
  refine And.intro ⟨Nat.le_of_ble_eq_true rfl, Nat.le_of_ble_eq_true rfl, rs_ob hs⟩ ?_
  refine yI_use h (fun y3 M2 h => ?_)
  refine And.intro (h.1) (And.intro (fun c => ?_) (fun c => ?_))
  · replace h := h.2.1 c
    exact yI_ret h
  · replace h := h.2.2 c
    refine And.intro (rs_ob hs) ?_
    refine And.intro (xi_ld (rs_18 hs) (h.1)) ?_
    replace h := h.2
    refine And.intro (⟨h.1, rg_lit (by decide)⟩) (And.intro (fun c => ?_) (fun c => ?_))
    · replace h := h.2.1 c
      exact h _
    · replace h := h.2.2 c
      exact yI_ret h
theorem t_row_41 {e : yE} {d k : Nat} {x1 x2 x3 x4 x5 x6 x7 x8 x9 x10 x11 : Int} {M : xM} {Q : Int → xM → Prop} (hs : RSh k e) (h :
    (0 ≤ x1 ∧ x1 < 20) ∧ 
    ((rg x11 ∧ rg (M (k + 16) x1)) ∧ (((M (k + 16) x1) ≤ x11 → 
      ((rg x5) ∧ ((x5 = (-1 : Int) → 
        (R_row_258 e d k x1 x2 x3 x4 x5 x6 (0 : Int) M Q)) ∧ 
      (¬ (x5 = (-1 : Int)) → 
        ((rg x8) ∧ ((¬ x8 = 0 → 
          (Q (-1 : Int) M)) ∧ 
        (¬ (¬ x8 = 0) → 
          ((rg x9) ∧ ((x9 = 0 → 
            (Q (-1 : Int) M)) ∧ 
          (¬ (x9 = 0) → 
            ((rg x10) ∧ ((¬ x10 = 0 → 
              (R_row_258 e d k x1 x2 x3 x4 x5 x6 (0 : Int) M Q)) ∧ 
            (¬ (¬ x10 = 0) → 
              (Q (-1 : Int) M)))))))))))))) ∧ 
    (¬ ((M (k + 16) x1) ≤ x11) → 
      (R_pick e d x11 x2 x3 x4 M (fun y2 M1 => 
      R_isPattern e d k y2 M1 (fun y4 M3 => 
      (rg y4) ∧ ((y4 = 0 → 
        (Q (-1 : Int) M3)) ∧ 
      (¬ (y4 = 0) → 
        ((0 ≤ y2 ∧ y2 < 300) ∧ 
        ((0 ≤ (((3 : Int) * x1) + x11) ∧ (((3 : Int) * x1) + x11) < 60) ∧ 
        ((rg (M3 (k + 10) y2) ∧ rg (M3 (k + 17) (((3 : Int) * x1) + x11))) ∧ ((¬ (M3 (k + 10) y2) = (M3 (k + 17) (((3 : Int) * x1) + x11)) → 
          (Q (-1 : Int) M3)) ∧ 
        (¬ (¬ (M3 (k + 10) y2) = (M3 (k + 17) (((3 : Int) * x1) + x11))) → 
          ((0 ≤ y2 ∧ y2 < 300) ∧ 
          ((rg (xand32 (M3 (k + 14) y2) x7)) ∧ (((xand32 (M3 (k + 14) y2) x7) = 0 → 
            ((0 ≤ y2 ∧ y2 < 300) ∧ 
            ((rg x8) ∧ ((¬ x8 = 0 → 
              (R_row_140 e d k x1 x2 x3 x4 x5 x6 (xor32 x7 (M3 (k + 14) y2)) x9 x10 x11 y2 (1 : Int) M3 Q)) ∧ 
            (¬ (¬ x8 = 0) → 
              ((0 ≤ y2 ∧ y2 < 300) ∧ 
              ((rg (M3 (k + 15) y2)) ∧ (((M3 (k + 15) y2) = 0 → 
                (R_row_140 e d k x1 x2 x3 x4 x5 x6 (xor32 x7 (M3 (k + 14) y2)) x9 x10 x11 y2 (0 : Int) M3 Q)) ∧ 
              (¬ ((M3 (k + 15) y2) = 0) → 
                (R_row_140 e d k x1 x2 x3 x4 x5 x6 (xor32 x7 (M3 (k + 14) y2)) x9 x10 x11 y2 (1 : Int) M3 Q)))))))))) ∧ 
          (¬ ((xand32 (M3 (k + 14) y2) x7) = 0) → 
            (Q (-1 : Int) M3))))))))))))))))))) : R_row_41 e d k x1 x2 x3 x4 x5 x6 x7 x8 x9 x10 x11 M Q := by
  intro o12
  refine xGo.in ?_
  refine And.intro (rs_ob hs) ?_
  refine And.intro (xi_ld (rs_16 hs) (h.1)) ?_
  replace h := h.2
  refine And.intro (⟨h.1.1, h.1.2⟩) (And.intro (fun c => ?_) (fun c => ?_))
  · replace h := h.2.1 c
    refine And.intro (⟨h.1, rg_lit (by decide)⟩) (And.intro (fun c => ?_) (fun c => ?_))
    · replace h := h.2.1 c
      exact h _ _ _ _ _
    · replace h := h.2.2 c
      refine And.intro (h.1) (And.intro (fun c => ?_) (fun c => ?_))
      · replace h := h.2.1 c
        exact yI_ret h
      · replace h := h.2.2 c
        refine And.intro (h.1) (And.intro (fun c => ?_) (fun c => ?_))
        · replace h := h.2.1 c
          exact yI_ret h
        · replace h := h.2.2 c
          refine And.intro (h.1) (And.intro (fun c => ?_) (fun c => ?_))
          · replace h := h.2.1 c
            exact h _ _ _ _ _
          · replace h := h.2.2 c
            exact yI_ret h
  · replace h := h.2.2 c
    refine And.intro ⟨Nat.le_of_ble_eq_true rfl, Nat.le_of_ble_eq_true rfl, trivial⟩ ?_
    refine yI_use h (fun y2 M1 h => ?_)
    refine And.intro ⟨Nat.le_of_ble_eq_true rfl, Nat.le_of_ble_eq_true rfl, rs_ob hs⟩ ?_
    refine yI_use h (fun y4 M3 h => ?_)
    refine And.intro (h.1) (And.intro (fun c => ?_) (fun c => ?_))
    · replace h := h.2.1 c
      exact yI_ret h
    · replace h := h.2.2 c
      refine And.intro (rs_ob hs) ?_
      refine And.intro (xi_ld (rs_10 hs) (h.1)) ?_
      replace h := h.2
      refine And.intro (rs_ob hs) ?_
      refine And.intro (xi_ld (rs_17 hs) (h.1)) ?_
      replace h := h.2
      refine And.intro (⟨h.1.1, h.1.2⟩) (And.intro (fun c => ?_) (fun c => ?_))
      · replace h := h.2.1 c
        exact yI_ret h
      · replace h := h.2.2 c
        refine And.intro (rs_ob hs) ?_
        refine And.intro (xi_ld (rs_14 hs) (h.1)) ?_
        replace h := h.2
        refine And.intro (h.1) (And.intro (fun c => ?_) (fun c => ?_))
        · replace h := h.2.1 c
          refine And.intro (rs_ob hs) ?_
          refine And.intro (xi_ld (rs_14 hs) (h.1)) ?_
          replace h := h.2
          refine And.intro (h.1) (And.intro (fun c => ?_) (fun c => ?_))
          · replace h := h.2.1 c
            exact h _
          · replace h := h.2.2 c
            refine And.intro (rs_ob hs) ?_
            refine And.intro (xi_ldb (rs_15 hs) (h.1)) ?_
            replace h := h.2
            refine And.intro (h.1) (And.intro (fun c => ?_) (fun c => ?_))
            · replace h := h.2.1 c
              exact h _
            · replace h := h.2.2 c
              exact h _
        · replace h := h.2.2 c
          exact yI_ret h
theorem t_row_140 {e : yE} {d k : Nat} {x1 x2 x3 x4 x5 x6 x7 x9 x10 x11 x12 s0 : Int} {M : xM} {Q : Int → xM → Prop} (hs : RSh k e) (h :
    (rg x9) ∧ ((¬ x9 = 0 → 
      (R_row_182 e d k x1 x2 x3 x4 x5 x6 x7 s0 x10 x11 x12 (1 : Int) M Q)) ∧ 
    (¬ (¬ x9 = 0) → 
      (R_isName e d x5 M (fun y2 M1 => 
      (rg y2) ∧ ((y2 = 0 → 
        (R_row_182 e d k x1 x2 x3 x4 x5 x6 x7 s0 x10 x11 x12 (0 : Int) M1 Q)) ∧ 
      (¬ (y2 = 0) → 
        (R_hasName e d k x12 x5 M1 (fun y4 M3 => 
        (rg y4) ∧ ((y4 = 0 → 
          (R_row_182 e d k x1 x2 x3 x4 x5 x6 x7 s0 x10 x11 x12 (0 : Int) M3 Q)) ∧ 
        (¬ (y4 = 0) → 
          (R_typeOfName e d k x12 x5 M3 (fun y6 M5 => 
          (rg y6) ∧ ((¬ y6 = 0 → 
            (R_row_182 e d k x1 x2 x3 x4 x5 x6 x7 s0 x10 x11 x12 (0 : Int) M5 Q)) ∧ 
          (¬ (¬ y6 = 0) → 
            (R_row_182 e d k x1 x2 x3 x4 x5 x6 x7 s0 x10 x11 x12 (1 : Int) M5 Q)))))))))))))))) : R_row_140 e d k x1 x2 x3 x4 x5 x6 x7 x9 x10 x11 x12 s0 M Q := by
  intro o8
  refine xGo.in ?_
  refine And.intro (h.1) (And.intro (fun c => ?_) (fun c => ?_))
  · replace h := h.2.1 c
    exact h _
  · replace h := h.2.2 c
    refine And.intro ⟨Nat.le_of_ble_eq_true rfl, Nat.le_of_ble_eq_true rfl, trivial⟩ ?_
    refine yI_use h (fun y2 M1 h => ?_)
    refine And.intro (h.1) (And.intro (fun c => ?_) (fun c => ?_))
    · replace h := h.2.1 c
      exact h _
    · replace h := h.2.2 c
      refine And.intro ⟨Nat.le_of_ble_eq_true rfl, Nat.le_of_ble_eq_true rfl, rs_ob hs⟩ ?_
      refine yI_use h (fun y4 M3 h => ?_)
      refine And.intro (h.1) (And.intro (fun c => ?_) (fun c => ?_))
      · replace h := h.2.1 c
        exact h _
      · replace h := h.2.2 c
        refine And.intro ⟨Nat.le_of_ble_eq_true rfl, Nat.le_of_ble_eq_true rfl, rs_ob hs⟩ ?_
        refine yI_use h (fun y6 M5 h => ?_)
        refine And.intro (h.1) (And.intro (fun c => ?_) (fun c => ?_))
        · replace h := h.2.1 c
          exact h _
        · replace h := h.2.2 c
          exact h _
theorem t_row_182 {e : yE} {d k : Nat} {x1 x2 x3 x4 x5 x6 x7 x8 x10 x11 x12 s0 : Int} {M : xM} {Q : Int → xM → Prop} (hs : RSh k e) (h :
    (rg x10) ∧ ((¬ x10 = 0 → 
      (R_row_41 e d k x1 x2 x3 x4 x5 x6 x7 x8 s0 (1 : Int) (x11 + 1) M Q)) ∧ 
    (¬ (¬ x10 = 0) → 
      (R_isName e d x6 M (fun y2 M1 => 
      (rg y2) ∧ ((y2 = 0 → 
        (R_row_41 e d k x1 x2 x3 x4 x5 x6 x7 x8 s0 (0 : Int) (x11 + 1) M1 Q)) ∧ 
      (¬ (y2 = 0) → 
        (R_hasName e d k x12 x6 M1 (fun y4 M3 => 
        (rg y4) ∧ ((y4 = 0 → 
          (R_row_41 e d k x1 x2 x3 x4 x5 x6 x7 x8 s0 (0 : Int) (x11 + 1) M3 Q)) ∧ 
        (¬ (y4 = 0) → 
          (R_typeOfName e d k x12 x6 M3 (fun y6 M5 => 
          (rg y6) ∧ ((¬ y6 = 0 → 
            (R_row_41 e d k x1 x2 x3 x4 x5 x6 x7 x8 s0 (0 : Int) (x11 + 1) M5 Q)) ∧ 
          (¬ (¬ y6 = 0) → 
            (R_row_41 e d k x1 x2 x3 x4 x5 x6 x7 x8 s0 (1 : Int) (x11 + 1) M5 Q)))))))))))))))) : R_row_182 e d k x1 x2 x3 x4 x5 x6 x7 x8 x10 x11 x12 s0 M Q := by
  intro o9
  refine xGo.in ?_
  refine And.intro (h.1) (And.intro (fun c => ?_) (fun c => ?_))
  · replace h := h.2.1 c
    exact h _
  · replace h := h.2.2 c
    refine And.intro ⟨Nat.le_of_ble_eq_true rfl, Nat.le_of_ble_eq_true rfl, trivial⟩ ?_
    refine yI_use h (fun y2 M1 h => ?_)
    refine And.intro (h.1) (And.intro (fun c => ?_) (fun c => ?_))
    · replace h := h.2.1 c
      exact h _
    · replace h := h.2.2 c
      refine And.intro ⟨Nat.le_of_ble_eq_true rfl, Nat.le_of_ble_eq_true rfl, rs_ob hs⟩ ?_
      refine yI_use h (fun y4 M3 h => ?_)
      refine And.intro (h.1) (And.intro (fun c => ?_) (fun c => ?_))
      · replace h := h.2.1 c
        exact h _
      · replace h := h.2.2 c
        refine And.intro ⟨Nat.le_of_ble_eq_true rfl, Nat.le_of_ble_eq_true rfl, rs_ob hs⟩ ?_
        refine yI_use h (fun y6 M5 h => ?_)
        refine And.intro (h.1) (And.intro (fun c => ?_) (fun c => ?_))
        · replace h := h.2.1 c
          exact h _
        · replace h := h.2.2 c
          exact h _
theorem t_row_258 {e : yE} {d k : Nat} {x1 x2 x3 x4 x5 x6 x11 : Int} {M : xM} {Q : Int → xM → Prop} (hs : RSh k e) (h :
    (0 ≤ x1 ∧ x1 < 20) ∧ 
    ((rg x11 ∧ rg (M (k + 16) x1)) ∧ (((M (k + 16) x1) ≤ x11 → 
      ((0 ≤ x1 ∧ x1 < 20) ∧ 
      ((0 ≤ (((12 : Int) * x1) + (M (k + 18) x1)) ∧ (((12 : Int) * x1) + (M (k + 18) x1)) < 240) ∧ 
      (∀ M1 : xM, M1 = xup M (k + 20) (((12 : Int) * x1) + (M (k + 18) x1)) x5 → 
      ((0 ≤ x1 ∧ x1 < 20) ∧ 
      ((0 ≤ (((12 : Int) * x1) + (M1 (k + 18) x1)) ∧ (((12 : Int) * x1) + (M1 (k + 18) x1)) < 240) ∧ 
      (∀ M2 : xM, M2 = xup M1 (k + 21) (((12 : Int) * x1) + (M1 (k + 18) x1)) x6 → 
      ((0 ≤ x1 ∧ x1 < 20) ∧ 
      ((0 ≤ x1 ∧ x1 < 20) ∧ 
      (∀ M3 : xM, M3 = xup M2 (k + 18) x1 ((M2 (k + 18) x1) + (1 : Int)) → 
      ((0 ≤ x1 ∧ x1 < 20) ∧ 
      (∀ M4 : xM, M4 = xup M3 (k + 37) x1 (0 : Int) → 
      ((0 ≤ x1 ∧ x1 < 20) ∧ 
      (Q ((M4 (k + 18) x1) - (1 : Int)) M4)))))))))))))) ∧ 
    (¬ ((M (k + 16) x1) ≤ x11) → 
      ((0 ≤ x1 ∧ x1 < 20) ∧ 
      (R_pick e d x11 x2 x3 x4 M (fun y6 M5 => 
      (0 ≤ ((((36 : Int) * x1) + ((3 : Int) * (M (k + 18) x1))) + x11) ∧ ((((36 : Int) * x1) + ((3 : Int) * (M (k + 18) x1))) + x11) < 720) ∧ 
      (∀ M7 : xM, M7 = xup M5 (k + 19) ((((36 : Int) * x1) + ((3 : Int) * (M (k + 18) x1))) + x11) y6 → 
      (R_row_258 e d k x1 x2 x3 x4 x5 x6 (x11 + 1) M7 Q))))))))) : R_row_258 e d k x1 x2 x3 x4 x5 x6 x11 M Q := by
  intro o7 o8 o9 o10 o12
  refine xGo.in ?_
  refine And.intro (rs_ob hs) ?_
  refine And.intro (xi_ld (rs_16 hs) (h.1)) ?_
  replace h := h.2
  refine And.intro (⟨h.1.1, h.1.2⟩) (And.intro (fun c => ?_) (fun c => ?_))
  · replace h := h.2.1 c
    refine And.intro (rs_ob hs) ?_
    refine And.intro (rs_ob hs) ?_
    refine And.intro (xi_ld (rs_18 hs) (h.1)) ?_
    replace h := h.2
    refine And.intro (xi_st (rs_20 hs) (h.1)) ?_
    replace h := h.2
    replace h := h _ rfl
    refine And.intro (rs_ob hs) ?_
    refine And.intro (rs_ob hs) ?_
    refine And.intro (xi_ld (rs_18 hs) (h.1)) ?_
    replace h := h.2
    refine And.intro (xi_st (rs_21 hs) (h.1)) ?_
    replace h := h.2
    replace h := h _ rfl
    refine And.intro (rs_ob hs) ?_
    refine And.intro (xi_ld (rs_18 hs) (h.1)) ?_
    replace h := h.2
    refine And.intro (xi_st (rs_18 hs) (h.1)) ?_
    replace h := h.2
    replace h := h _ rfl
    refine And.intro (rs_ob hs) ?_
    refine And.intro (xi_stv (rs_37 hs) (h.1) (by decide)) ?_
    replace h := h.2
    replace h := h _ rfl
    refine And.intro (rs_ob hs) ?_
    refine And.intro (xi_ld (rs_18 hs) (h.1)) ?_
    replace h := h.2
    exact yI_ret h
  · replace h := h.2.2 c
    refine And.intro (rs_ob hs) ?_
    refine And.intro (rs_ob hs) ?_
    refine And.intro (xi_ld (rs_18 hs) (h.1)) ?_
    replace h := h.2
    refine And.intro ⟨Nat.le_of_ble_eq_true rfl, Nat.le_of_ble_eq_true rfl, trivial⟩ ?_
    refine yI_use h (fun y6 M5 h => ?_)
    refine And.intro (xi_st (rs_19 hs) (h.1)) ?_
    replace h := h.2
    replace h := h _ rfl
    exact h _ _ _ _ _
theorem t_row {e : yE} {d k : Nat} {x1 : Int} {x2 : Int} {x3 : Int} {x4 : Int} {x5 : Int} {x6 : Int} {M : xM} {Q : Int → xM → Prop} (h : R_row_0 e d k x1 x2 x3 x4 x5 x6 M Q) : R_row e (d + 1) k x1 x2 x3 x4 x5 x6 M Q := h _ _ _ _ _ _
def R_doesMatch_0 (e : yE) (d k : Nat) (x1 x2 : Int) (M : xM) (Q : Int → xM → Prop) : Prop := ∀ (o3 o4 o5 : Option xV), xGo xft xNf xmt xtr d 128 0 [some (.inr (some k)), some (.inl x1), some (.inl x2), o3, o4, o5] [] (yS e M) (yI e Q)
def R_doesMatch_48 (e : yE) (d k : Nat) (x2 x3 : Int) (M : xM) (Q : Int → xM → Prop) : Prop := ∀ (o1 o4 o5 : Option xV), xGo xft xNf xmt xtr d 128 48 [some (.inr (some k)), o1, some (.inl x2), some (.inl x3), o4, o5] [] (yS e M) (yI e Q)
def R_doesMatch_61 (e : yE) (d k : Nat) (x2 x3 : Int) (M : xM) (Q : Int → xM → Prop) : Prop := ∀ (o1 o4 o5 : Option xV), xGo xft xNf xmt xtr d 128 61 [some (.inr (some k)), o1, some (.inl x2), some (.inl x3), o4, o5] [] (yS e M) (yI e Q)
def R_doesMatch_77 (e : yE) (d k : Nat) (x1 x2 x3 : Int) (M : xM) (Q : Int → xM → Prop) : Prop := ∀ (o4 o5 : Option xV), xGo xft xNf xmt xtr d 128 77 [some (.inr (some k)), some (.inl x1), some (.inl x2), some (.inl x3), o4, o5] [] (yS e M) (yI e Q)
def R_doesMatch_98 (e : yE) (d k : Nat) (x1 x2 : Int) (M : xM) (Q : Int → xM → Prop) : Prop := ∀ (o3 o4 o5 : Option xV), xGo xft xNf xmt xtr d 128 98 [some (.inr (some k)), some (.inl x1), some (.inl x2), o3, o4, o5] [] (yS e M) (yI e Q)
def R_doesMatch_138 (e : yE) (d k : Nat) (x1 x2 x3 : Int) (M : xM) (Q : Int → xM → Prop) : Prop := ∀ (o4 o5 : Option xV), xGo xft xNf xmt xtr d 128 138 [some (.inr (some k)), some (.inl x1), some (.inl x2), some (.inl x3), o4, o5] [] (yS e M) (yI e Q)
def R_doesMatch_158 (e : yE) (d k : Nat) (x1 x2 x3 x4 x5 : Int) (M : xM) (Q : Int → xM → Prop) : Prop := xGo xft xNf xmt xtr d 128 158 [some (.inr (some k)), some (.inl x1), some (.inl x2), some (.inl x3), some (.inl x4), some (.inl x5)] [] (yS e M) (yI e Q)
theorem t_doesMatch_0 {e : yE} {d k : Nat} {x1 x2 : Int} {M : xM} {Q : Int → xM → Prop} (hs : RSh k e) (h :
    (0 ≤ x1 ∧ x1 < 300) ∧ 
    ((0 ≤ x1 ∧ x1 < 300) ∧ 
    ((rg (M (k + 9) x1)) ∧ (((M (k + 9) x1) < 0 ∨ 4 < (M (k + 9) x1)) → 
    (R_doesMatch_138 e d k x1 x2 (M (k + 11) x1) M Q)) ∧ 
    ((M (k + 9) x1) = 0 → 
    (R_doesMatch_48 e d k x2 (M (k + 11) x1) M Q)) ∧ 
    ((M (k + 9) x1) = 1 → 
    (R_doesMatch_61 e d k x2 (M (k + 11) x1) M Q)) ∧ 
    ((M (k + 9) x1) = 2 → 
    (R_doesMatch_138 e d k x1 x2 (M (k + 11) x1) M Q)) ∧ 
    ((M (k + 9) x1) = 3 → 
    (R_doesMatch_77 e d k x1 x2 (M (k + 11) x1) M Q)) ∧ 
    ((M (k + 9) x1) = 4 → 
    (R_doesMatch_98 e d k x1 x2 M Q))))) : R_doesMatch_0 e d k x1 x2 M Q := by
  intro o3 o4 o5
  refine xGo.in ?_
  refine And.intro (rs_ob hs) ?_
  refine And.intro (xi_ld (rs_11 hs) (h.1)) ?_
  replace h := h.2
  refine And.intro (rs_ob hs) ?_
  refine And.intro (xi_ld (rs_9 hs) (h.1)) ?_
  replace h := h.2
  obtain ⟨hr, h0, h1, h2, h3, h4, h5⟩ := h
  refine And.intro hr (And.intro (fun c => ?_) (fun c => ?_))
  · have h := h0 c
    exact h _ _
  · have c2 : ¬ ((M (k + 9) x1) < 0 ∨ 4 < (M (k + 9) x1)) := c
    rcases (show (M (k + 9) x1) = 0 ∨ (M (k + 9) x1) = 1 ∨ (M (k + 9) x1) = 2 ∨ (M (k + 9) x1) = 3 ∨ (M (k + 9) x1) = 4 by omega) with hv | hv | hv | hv | hv
    · have h := h1 hv
      show xGo xft xNf xmt xtr d 128 ((((13 : Nat) : Int) + (#[35, 48, 125, 64, 85] : Array Int).getD ((M (k + 9) x1) - 0).toNat 0).toNat) _ _ _ _
      rw [hv]
      exact h _ _ _
    · have h := h2 hv
      show xGo xft xNf xmt xtr d 128 ((((13 : Nat) : Int) + (#[35, 48, 125, 64, 85] : Array Int).getD ((M (k + 9) x1) - 0).toNat 0).toNat) _ _ _ _
      rw [hv]
      exact h _ _ _
    · have h := h3 hv
      show xGo xft xNf xmt xtr d 128 ((((13 : Nat) : Int) + (#[35, 48, 125, 64, 85] : Array Int).getD ((M (k + 9) x1) - 0).toNat 0).toNat) _ _ _ _
      rw [hv]
      exact h _ _
    · have h := h4 hv
      show xGo xft xNf xmt xtr d 128 ((((13 : Nat) : Int) + (#[35, 48, 125, 64, 85] : Array Int).getD ((M (k + 9) x1) - 0).toNat 0).toNat) _ _ _ _
      rw [hv]
      exact h _ _
    · have h := h5 hv
      show xGo xft xNf xmt xtr d 128 ((((13 : Nat) : Int) + (#[35, 48, 125, 64, 85] : Array Int).getD ((M (k + 9) x1) - 0).toNat 0).toNat) _ _ _ _
      rw [hv]
      exact h _ _ _
theorem t_doesMatch_48 {e : yE} {d k : Nat} {x2 x3 : Int} {M : xM} {Q : Int → xM → Prop} (hs : RSh k e) (h :
    (rg x3) ∧ ((x3 < 0 → 
      (Q (1 : Int) M)) ∧ 
    (¬ (x3 < 0) → 
      ((0 ≤ x3 ∧ x3 < 16) ∧ 
      (∀ M1 : xM, M1 = xup M (k + 23) x3 x2 → 
      (Q (1 : Int) M1)))))) : R_doesMatch_48 e d k x2 x3 M Q := by
  intro o1 o4 o5
  refine xGo.in ?_
  refine And.intro (h.1) (And.intro (fun c => ?_) (fun c => ?_))
  · replace h := h.2.1 c
    exact And.intro (by decide) (yI_ret h)
  · replace h := h.2.2 c
    refine And.intro (rs_ob hs) ?_
    refine And.intro (xi_st (rs_23 hs) (h.1)) ?_
    replace h := h.2
    replace h := h _ rfl
    exact And.intro (by decide) (yI_ret h)
theorem t_doesMatch_61 {e : yE} {d k : Nat} {x2 x3 : Int} {M : xM} {Q : Int → xM → Prop} (hs : RSh k e) (h :
    (0 ≤ x2 ∧ x2 < 300) ∧ 
    ((rg (M (k + 6) x2) ∧ rg x3) ∧ ((¬ (M (k + 6) x2) = x3 → 
      (Q (0 : Int) M)) ∧ 
    (¬ (¬ (M (k + 6) x2) = x3) → 
      (Q (1 : Int) M))))) : R_doesMatch_61 e d k x2 x3 M Q := by
  intro o1 o4 o5
  refine xGo.in ?_
  refine And.intro (rs_ob hs) ?_
  refine And.intro (xi_ld (rs_6 hs) (h.1)) ?_
  replace h := h.2
  refine And.intro (⟨h.1.1, h.1.2⟩) (And.intro (fun c => ?_) (fun c => ?_))
  · replace h := h.2.1 c
    exact And.intro (by decide) (yI_ret h)
  · replace h := h.2.2 c
    exact And.intro (by decide) (yI_ret h)
theorem t_doesMatch_77 {e : yE} {d k : Nat} {x1 x2 x3 : Int} {M : xM} {Q : Int → xM → Prop} (hs : RSh k e) (h :
    (0 ≤ x3 ∧ x3 < 16) ∧ 
    (∀ M1 : xM, M1 = xup M (k + 23) x3 x2 → 
    ((0 ≤ ((3 : Int) * x1) ∧ ((3 : Int) * x1) < 900) ∧ 
    (R_doesMatch e d k (M1 (k + 12) ((3 : Int) * x1)) x2 M1 (fun y3 M2 => 
    (y3 = 0 ∨ y3 = 1) ∧ Q y3 M2))))) : R_doesMatch_77 e d k x1 x2 x3 M Q := by
  intro o4 o5
  refine xGo.in ?_
  refine And.intro (rs_ob hs) ?_
  refine And.intro (xi_st (rs_23 hs) (h.1)) ?_
  replace h := h.2
  replace h := h _ rfl
  refine And.intro (rs_ob hs) ?_
  refine And.intro (xi_ld (rs_12 hs) (h.1)) ?_
  replace h := h.2
  refine And.intro ⟨Nat.le_of_ble_eq_true rfl, Nat.le_of_ble_eq_true rfl, rs_ob hs⟩ ?_
  refine yI_use h (fun y3 M2 h => ?_)
  exact And.intro h.1 (yI_ret h.2)
theorem t_doesMatch_98 {e : yE} {d k : Nat} {x1 x2 : Int} {M : xM} {Q : Int → xM → Prop} (hs : RSh k e) (h :
    (0 ≤ ((3 : Int) * x1) ∧ ((3 : Int) * x1) < 900) ∧ 
    (R_doesMatch e d k (M (k + 12) ((3 : Int) * x1)) x2 M (fun y2 M1 => 
    (rg y2) ∧ ((¬ y2 = 0 → 
      (Q (1 : Int) M1)) ∧ 
    (¬ (¬ y2 = 0) → 
      ((0 ≤ (((3 : Int) * x1) + (1 : Int)) ∧ (((3 : Int) * x1) + (1 : Int)) < 900) ∧ 
      (R_doesMatch e d k (M1 (k + 12) (((3 : Int) * x1) + (1 : Int))) x2 M1 (fun y4 M3 => 
      (rg y4) ∧ ((y4 = 0 → 
        (Q (0 : Int) M3)) ∧ 
      (¬ (y4 = 0) → 
        (Q (1 : Int) M3))))))))))) : R_doesMatch_98 e d k x1 x2 M Q := by
  intro o3 o4 o5
  refine xGo.in ?_
  refine And.intro (rs_ob hs) ?_
  refine And.intro (xi_ld (rs_12 hs) (h.1)) ?_
  replace h := h.2
  refine And.intro ⟨Nat.le_of_ble_eq_true rfl, Nat.le_of_ble_eq_true rfl, rs_ob hs⟩ ?_
  refine yI_use h (fun y2 M1 h => ?_)
  refine And.intro (h.1) (And.intro (fun c => ?_) (fun c => ?_))
  · replace h := h.2.1 c
    exact And.intro (by decide) (yI_ret h)
  · replace h := h.2.2 c
    refine And.intro (rs_ob hs) ?_
    refine And.intro (xi_ld (rs_12 hs) (h.1)) ?_
    replace h := h.2
    refine And.intro ⟨Nat.le_of_ble_eq_true rfl, Nat.le_of_ble_eq_true rfl, rs_ob hs⟩ ?_
    refine yI_use h (fun y4 M3 h => ?_)
    refine And.intro (h.1) (And.intro (fun c => ?_) (fun c => ?_))
    · replace h := h.2.1 c
      exact And.intro (by decide) (yI_ret h)
    · replace h := h.2.2 c
      exact And.intro (by decide) (yI_ret h)
theorem t_doesMatch_138 {e : yE} {d k : Nat} {x1 x2 x3 : Int} {M : xM} {Q : Int → xM → Prop} (hs : RSh k e) (h :
    (0 ≤ x2 ∧ x2 < 300) ∧ 
    ((rg (M (k + 6) x2) ∧ rg x3) ∧ ((¬ (M (k + 6) x2) = x3 → 
      (R_doesMatch_158 e d k x1 x2 x3 (0 : Int) (0 : Int) M Q)) ∧ 
    (¬ (¬ (M (k + 6) x2) = x3) → 
      (R_doesMatch_158 e d k x1 x2 x3 (1 : Int) (0 : Int) M Q))))) : R_doesMatch_138 e d k x1 x2 x3 M Q := by
  intro o4 o5
  refine xGo.in ?_
  refine And.intro (rs_ob hs) ?_
  refine And.intro (xi_ld (rs_6 hs) (h.1)) ?_
  replace h := h.2
  refine And.intro (⟨h.1.1, h.1.2⟩) (And.intro (fun c => ?_) (fun c => ?_))
  · replace h := h.2.1 c
    exact h
  · replace h := h.2.2 c
    exact h
theorem t_doesMatch_158 {e : yE} {d k : Nat} {x1 x2 x3 x4 x5 : Int} {M : xM} {Q : Int → xM → Prop} (hs : RSh k e) (h :
    (rg x4) ∧ ((x4 = 0 → 
      ((x4 = 0 ∨ x4 = 1) ∧ Q x4 M)) ∧ 
    (¬ (x4 = 0) → 
      ((0 ≤ x1 ∧ x1 < 300) ∧ 
      (R_countOf e d k (M (k + 10) x1) x3 M (fun y2 M1 => 
      (rg x5 ∧ rg y2) ∧ ((y2 ≤ x5 → 
        ((x4 = 0 ∨ x4 = 1) ∧ Q x4 M1)) ∧ 
      (¬ (y2 ≤ x5) → 
        ((0 ≤ (((3 : Int) * x1) + x5) ∧ (((3 : Int) * x1) + x5) < 900) ∧ 
        ((0 ≤ (((3 : Int) * x2) + x5) ∧ (((3 : Int) * x2) + x5) < 900) ∧ 
        (R_doesMatch e d k (M1 (k + 12) (((3 : Int) * x1) + x5)) (M1 (k + 7) (((3 : Int) * x2) + x5)) M1 (fun y4 M3 => 
        R_doesMatch_158 e d k x1 x2 x3 y4 (x5 + 1) M3 Q)))))))))))) : R_doesMatch_158 e d k x1 x2 x3 x4 x5 M Q := by
  refine xGo.in ?_
  refine And.intro (h.1) (And.intro (fun c => ?_) (fun c => ?_))
  · replace h := h.2.1 c
    exact And.intro h.1 (yI_ret h.2)
  · replace h := h.2.2 c
    refine And.intro (rs_ob hs) ?_
    refine And.intro (xi_ld (rs_10 hs) (h.1)) ?_
    replace h := h.2
    refine And.intro ⟨Nat.le_of_ble_eq_true rfl, Nat.le_of_ble_eq_true rfl, rs_ob hs⟩ ?_
    refine yI_use h (fun y2 M1 h => ?_)
    refine And.intro (⟨h.1.1, h.1.2⟩) (And.intro (fun c => ?_) (fun c => ?_))
    · replace h := h.2.1 c
      exact And.intro h.1 (yI_ret h.2)
    · replace h := h.2.2 c
      refine And.intro (rs_ob hs) ?_
      refine And.intro (xi_ld (rs_12 hs) (h.1)) ?_
      replace h := h.2
      refine And.intro (rs_ob hs) ?_
      refine And.intro (xi_ld (rs_7 hs) (h.1)) ?_
      replace h := h.2
      refine And.intro ⟨Nat.le_of_ble_eq_true rfl, Nat.le_of_ble_eq_true rfl, rs_ob hs⟩ ?_
      refine yI_use h (fun y4 M3 h => ?_)
      exact h
theorem t_doesMatch {e : yE} {d k : Nat} {x1 : Int} {x2 : Int} {M : xM} {Q : Int → xM → Prop} (h : R_doesMatch_0 e d k x1 x2 M Q) : R_doesMatch e (d + 1) k x1 x2 M Q := h _ _ _
def R_takes_0 (e : yE) (d k : Nat) (x1 x2 x3 x4 x5 : Int) (M : xM) (Q : Int → xM → Prop) : Prop := ∀ (o6 : Option xV), xGo xft xNf xmt xtr d 129 0 [some (.inr (some k)), some (.inl x1), some (.inl x2), some (.inl x3), some (.inl x4), some (.inl x5), o6] [] (yS e M) (yI e Q)
def R_takes_3 (e : yE) (d k : Nat) (x1 x2 x3 x4 x5 x6 : Int) (M : xM) (Q : Int → xM → Prop) : Prop := xGo xft xNf xmt xtr d 129 3 [some (.inr (some k)), some (.inl x1), some (.inl x2), some (.inl x3), some (.inl x4), some (.inl x5), some (.inl x6)] [] (yS e M) (yI e Q)
def R_takes_27 (e : yE) (d k : Nat) (x1 x2 x3 x4 x5 x6 : Int) (M : xM) (Q : Int → xM → Prop) : Prop := xGo xft xNf xmt xtr d 129 27 [some (.inr (some k)), some (.inl x1), some (.inl x2), some (.inl x3), some (.inl x4), some (.inl x5), some (.inl x6)] [] (yS e M) (yI e Q)
theorem t_takes_0 {e : yE} {d k : Nat} {x1 x2 x3 x4 x5 : Int} {M : xM} {Q : Int → xM → Prop} (hs : RSh k e) (h :
    R_takes_3 e d k x1 x2 x3 x4 x5 (0 : Int) M Q) : R_takes_0 e d k x1 x2 x3 x4 x5 M Q := by
  intro o6
  refine xGo.in ?_
  exact h
theorem t_takes_3 {e : yE} {d k : Nat} {x1 x2 x3 x4 x5 x6 : Int} {M : xM} {Q : Int → xM → Prop} (hs : RSh k e) (h :
    (rg x6) ∧ (((16 : Int) ≤ x6 → 
      (R_takes_27 e d k x1 x2 x3 x4 x5 (0 : Int) M Q)) ∧ 
    (¬ ((16 : Int) ≤ x6) → 
      ((0 ≤ x6 ∧ x6 < 16) ∧ 
      (∀ M1 : xM, M1 = xup M (k + 23) x6 (-1 : Int) → 
      (R_takes_3 e d k x1 x2 x3 x4 x5 (x6 + 1) M1 Q)))))) : R_takes_3 e d k x1 x2 x3 x4 x5 x6 M Q := by
  refine xGo.in ?_
  refine And.intro (⟨h.1, rg_lit (by decide)⟩) (And.intro (fun c => ?_) (fun c => ?_))
  · replace h := h.2.1 c
    exact h
  · replace h := h.2.2 c
    refine And.intro (rs_ob hs) ?_
    refine And.intro (xi_st (rs_23 hs) (h.1)) ?_
    replace h := h.2
    replace h := h _ rfl
    exact h
theorem t_takes_27 {e : yE} {d k : Nat} {x1 x2 x3 x4 x5 x6 : Int} {M : xM} {Q : Int → xM → Prop} (hs : RSh k e) (h :
    (0 ≤ x1 ∧ x1 < 20) ∧ 
    ((rg x6 ∧ rg (M (k + 16) x1)) ∧ (((M (k + 16) x1) ≤ x6 → 
      ((0 ≤ (((12 : Int) * x1) + x2) ∧ (((12 : Int) * x1) + x2) < 240) ∧ 
      ((rg (M (k + 20) (((12 : Int) * x1) + x2))) ∧ (((M (k + 20) (((12 : Int) * x1) + x2)) < 0 → 
        (Q (1 : Int) M)) ∧ 
      (¬ ((M (k + 20) (((12 : Int) * x1) + x2)) < 0) → 
        ((0 ≤ (M (k + 20) (((12 : Int) * x1) + x2)) ∧ (M (k + 20) (((12 : Int) * x1) + x2)) < 16) ∧ 
        ((0 ≤ (M (k + 23) (M (k + 20) (((12 : Int) * x1) + x2))) ∧ (M (k + 23) (M (k + 20) (((12 : Int) * x1) + x2))) < 300) ∧ 
        ((0 ≤ (((12 : Int) * x1) + x2) ∧ (((12 : Int) * x1) + x2) < 240) ∧ 
        ((0 ≤ (M (k + 21) (((12 : Int) * x1) + x2)) ∧ (M (k + 21) (((12 : Int) * x1) + x2)) < 16) ∧ 
        ((0 ≤ (M (k + 23) (M (k + 21) (((12 : Int) * x1) + x2))) ∧ (M (k + 23) (M (k + 21) (((12 : Int) * x1) + x2))) < 300) ∧ 
        ((rg (M (k + 6) (M (k + 23) (M (k + 20) (((12 : Int) * x1) + x2)))) ∧ rg (M (k + 6) (M (k + 23) (M (k + 21) (((12 : Int) * x1) + x2))))) ∧ (((M (k + 6) (M (k + 23) (M (k + 21) (((12 : Int) * x1) + x2)))) ≤ (M (k + 6) (M (k + 23) (M (k + 20) (((12 : Int) * x1) + x2)))) → 
          (Q (0 : Int) M)) ∧ 
        (¬ ((M (k + 6) (M (k + 23) (M (k + 21) (((12 : Int) * x1) + x2)))) ≤ (M (k + 6) (M (k + 23) (M (k + 20) (((12 : Int) * x1) + x2))))) → 
          (Q (1 : Int) M)))))))))))))) ∧ 
    (¬ ((M (k + 16) x1) ≤ x6) → 
      (R_patternOf e d k x1 x2 x6 M (fun y2 M1 => 
      R_pick e d x6 x3 x4 x5 M1 (fun y4 M3 => 
      R_doesMatch e d k y2 y4 M3 (fun y6 M5 => 
      (rg y6) ∧ ((¬ y6 = 0 → 
        (R_takes_27 e d k x1 x2 x3 x4 x5 (x6 + 1) M5 Q)) ∧ 
      (¬ (¬ y6 = 0) → 
        (Q (0 : Int) M5))))))))))) : R_takes_27 e d k x1 x2 x3 x4 x5 x6 M Q := by
  refine xGo.in ?_
  refine And.intro (rs_ob hs) ?_
  refine And.intro (xi_ld (rs_16 hs) (h.1)) ?_
  replace h := h.2
  refine And.intro (⟨h.1.1, h.1.2⟩) (And.intro (fun c => ?_) (fun c => ?_))
  · replace h := h.2.1 c
    refine And.intro (rs_ob hs) ?_
    refine And.intro (xi_ld (rs_20 hs) (h.1)) ?_
    replace h := h.2
    refine And.intro (h.1) (And.intro (fun c => ?_) (fun c => ?_))
    · replace h := h.2.1 c
      exact And.intro (by decide) (yI_ret h)
    · replace h := h.2.2 c
      refine And.intro (rs_ob hs) ?_
      refine And.intro (rs_ob hs) ?_
      refine And.intro (xi_ld (rs_23 hs) (h.1)) ?_
      replace h := h.2
      refine And.intro (xi_ld (rs_6 hs) (h.1)) ?_
      replace h := h.2
      refine And.intro (rs_ob hs) ?_
      refine And.intro (rs_ob hs) ?_
      refine And.intro (rs_ob hs) ?_
      refine And.intro (xi_ld (rs_21 hs) (h.1)) ?_
      replace h := h.2
      refine And.intro (xi_ld (rs_23 hs) (h.1)) ?_
      replace h := h.2
      refine And.intro (xi_ld (rs_6 hs) (h.1)) ?_
      replace h := h.2
      refine And.intro (⟨h.1.1, h.1.2⟩) (And.intro (fun c => ?_) (fun c => ?_))
      · replace h := h.2.1 c
        exact And.intro (by decide) (yI_ret h)
      · replace h := h.2.2 c
        exact And.intro (by decide) (yI_ret h)
  · replace h := h.2.2 c
    refine And.intro ⟨Nat.le_of_ble_eq_true rfl, Nat.le_of_ble_eq_true rfl, rs_ob hs⟩ ?_
    refine yI_use h (fun y2 M1 h => ?_)
    refine And.intro ⟨Nat.le_of_ble_eq_true rfl, Nat.le_of_ble_eq_true rfl, trivial⟩ ?_
    refine yI_use h (fun y4 M3 h => ?_)
    refine And.intro ⟨Nat.le_of_ble_eq_true rfl, Nat.le_of_ble_eq_true rfl, rs_ob hs⟩ ?_
    refine yI_use h (fun y6 M5 h => ?_)
    refine And.intro (h.1) (And.intro (fun c => ?_) (fun c => ?_))
    · replace h := h.2.1 c
      exact h
    · replace h := h.2.2 c
      exact And.intro (by decide) (yI_ret h)
theorem t_takes {e : yE} {d k : Nat} {x1 : Int} {x2 : Int} {x3 : Int} {x4 : Int} {x5 : Int} {M : xM} {Q : Int → xM → Prop} (h : R_takes_0 e d k x1 x2 x3 x4 x5 M Q) : R_takes e (d + 1) k x1 x2 x3 x4 x5 M Q := h _
def R_newPlace_0 (e : yE) (d k : Nat) (x1 x2 : Int) (M : xM) (Q : Int → xM → Prop) : Prop := xGo xft xNf xmt xtr d 130 0 [some (.inr (some k)), some (.inl x1), some (.inl x2)] [] (yS e M) (yI e Q)
theorem t_newPlace_0 {e : yE} {d k : Nat} {x1 x2 : Int} {M : xM} {Q : Int → xM → Prop} (hs : RSh k e) (h :
    (0 ≤ (M k 42) ∧ (M k 42) < 1000) ∧ 
    (∀ M1 : xM, M1 = xup M (k + 29) (M k 42) x1 → 
    ((0 ≤ (M1 k 42) ∧ (M1 k 42) < 1000) ∧ 
    (∀ M2 : xM, M2 = xup M1 (k + 30) (M1 k 42) (0 : Int) → 
    ((0 ≤ (M2 k 42) ∧ (M2 k 42) < 1000) ∧ 
    (∀ M3 : xM, M3 = xup M2 (k + 34) (M2 k 42) x2 → 
    (∀ M4 : xM, M4 = xup M3 k 42 ((M3 k 42) + (1 : Int)) → 
    (Q ((M4 k 42) - (1 : Int)) M4)))))))) : R_newPlace_0 e d k x1 x2 M Q := by
  refine xGo.in ?_
  refine And.intro (rs_ob hs) ?_
  refine And.intro (rs_ob hs) ?_
  refine And.intro (xi_st (rs_29 hs) (h.1)) ?_
  replace h := h.2
  replace h := h _ rfl
  refine And.intro (rs_ob hs) ?_
  refine And.intro (rs_ob hs) ?_
  refine And.intro (xi_stv (rs_30 hs) (h.1) (by decide)) ?_
  replace h := h.2
  replace h := h _ rfl
  refine And.intro (rs_ob hs) ?_
  refine And.intro (rs_ob hs) ?_
  refine And.intro (xi_st (rs_34 hs) (h.1)) ?_
  replace h := h.2
  replace h := h _ rfl
  refine And.intro (rs_ob hs) ?_
  refine And.intro (rs_ob hs) ?_
  replace h := h _ rfl
  refine And.intro (rs_ob hs) ?_
  exact yI_ret h
theorem t_newPlace {e : yE} {d k : Nat} {x1 : Int} {x2 : Int} {M : xM} {Q : Int → xM → Prop} (h : R_newPlace_0 e d k x1 x2 M Q) : R_newPlace e (d + 1) k x1 x2 M Q := h
def R_pushRow_0 (e : yE) (d k : Nat) (x1 x2 : Int) (M : xM) (Q : Int → xM → Prop) : Prop := xGo xft xNf xmt xtr d 131 0 [some (.inr (some k)), some (.inl x1), some (.inl x2)] [] (yS e M) (yI e Q)
theorem t_pushRow_0 {e : yE} {d k : Nat} {x1 x2 : Int} {M : xM} {Q : Int → xM → Prop} (hs : RSh k e) (h :
    (0 ≤ (M k 31) ∧ (M k 31) < 8000) ∧ 
    (∀ M1 : xM, M1 = xup M (k + 24) (M k 31) x1 → 
    ((0 ≤ (M1 k 31) ∧ (M1 k 31) < 8000) ∧ 
    (∀ M2 : xM, M2 = xup M1 (k + 25) (M1 k 31) (M1 k 33) → 
    (∀ M3 : xM, M3 = xup M2 k 33 ((M2 k 33) + x2) → 
    (∀ M4 : xM, M4 = xup M3 k 31 ((M3 k 31) + (1 : Int)) → 
    (Q ((M4 k 31) - (1 : Int)) M4))))))) : R_pushRow_0 e d k x1 x2 M Q := by
  refine xGo.in ?_
  refine And.intro (rs_ob hs) ?_
  refine And.intro (rs_ob hs) ?_
  refine And.intro (xi_st (rs_24 hs) (h.1)) ?_
  replace h := h.2
  replace h := h _ rfl
  refine And.intro (rs_ob hs) ?_
  refine And.intro (rs_ob hs) ?_
  refine And.intro (rs_ob hs) ?_
  refine And.intro (xi_st (rs_25 hs) (h.1)) ?_
  replace h := h.2
  replace h := h _ rfl
  refine And.intro (rs_ob hs) ?_
  refine And.intro (rs_ob hs) ?_
  replace h := h _ rfl
  refine And.intro (rs_ob hs) ?_
  refine And.intro (rs_ob hs) ?_
  replace h := h _ rfl
  refine And.intro (rs_ob hs) ?_
  exact yI_ret h
theorem t_pushRow {e : yE} {d k : Nat} {x1 : Int} {x2 : Int} {M : xM} {Q : Int → xM → Prop} (h : R_pushRow_0 e d k x1 x2 M Q) : R_pushRow e (d + 1) k x1 x2 M Q := h
def R_cell_0 (e : yE) (d k : Nat) (x1 x2 : Int) (M : xM) (Q : Int → xM → Prop) : Prop := xGo xft xNf xmt xtr d 132 0 [some (.inr (some k)), some (.inl x1), some (.inl x2)] [] (yS e M) (yI e Q)
theorem t_cell_0 {e : yE} {d k : Nat} {x1 x2 : Int} {M : xM} {Q : Int → xM → Prop} (hs : RSh k e) (h :
    (0 ≤ x1 ∧ x1 < 8000) ∧ 
    ((0 ≤ ((M (k + 25) x1) + x2) ∧ ((M (k + 25) x1) + x2) < 2300000) ∧ 
    (Q (M (k + 27) ((M (k + 25) x1) + x2)) M))) : R_cell_0 e d k x1 x2 M Q := by
  refine xGo.in ?_
  refine And.intro (rs_ob hs) ?_
  refine And.intro (rs_ob hs) ?_
  refine And.intro (xi_ld (rs_25 hs) (h.1)) ?_
  replace h := h.2
  refine And.intro (xi_ldb (rs_27 hs) (h.1)) ?_
  replace h := h.2
  exact yI_ret h
theorem t_cell {e : yE} {d k : Nat} {x1 : Int} {x2 : Int} {M : xM} {Q : Int → xM → Prop} (h : R_cell_0 e d k x1 x2 M Q) : R_cell e (d + 1) k x1 x2 M Q := h
def R_setCell_0 (e : yE) (d k : Nat) (x1 x2 x3 x4 : Int) (M : xM) (Q : xM → Prop) : Prop := ∀ (o5 : Option xV), xGo xft xNf xmt xtr d 133 0 [some (.inr (some k)), some (.inl x1), some (.inl x2), some (.inl x3), some (.inl x4), o5] [] (yS e M) (yV e Q)
def R_setCell_3 (e : yE) (d k : Nat) (x1 x2 x4 x5 : Int) (M : xM) (Q : xM → Prop) : Prop := ∀ (o3 : Option xV), xGo xft xNf xmt xtr d 133 3 [some (.inr (some k)), some (.inl x1), some (.inl x2), o3, some (.inl x4), some (.inl x5)] [] (yS e M) (yV e Q)
def R_setCell_29 (e : yE) (d k : Nat) (x1 x2 x4 x5 : Int) (M : xM) (Q : xM → Prop) : Prop := ∀ (o3 : Option xV), xGo xft xNf xmt xtr d 133 29 [some (.inr (some k)), some (.inl x1), some (.inl x2), o3, some (.inl x4), some (.inl x5)] [] (yS e M) (yV e Q)
def R_setCell_58 (e : yE) (d k : Nat) (x1 x2 x4 x5 : Int) (M : xM) (Q : xM → Prop) : Prop := ∀ (o3 : Option xV), xGo xft xNf xmt xtr d 133 58 [some (.inr (some k)), some (.inl x1), some (.inl x2), o3, some (.inl x4), some (.inl x5)] [] (yS e M) (yV e Q)
def R_setCell_87 (e : yE) (d k : Nat) (x1 x2 x5 : Int) (M : xM) (Q : xM → Prop) : Prop := ∀ (o3 o4 : Option xV), xGo xft xNf xmt xtr d 133 87 [some (.inr (some k)), some (.inl x1), some (.inl x2), o3, o4, some (.inl x5)] [] (yS e M) (yV e Q)
theorem t_setCell_0 {e : yE} {d k : Nat} {x1 x2 x3 x4 : Int} {M : xM} {Q : xM → Prop} (hs : RSh k e) (h :
    R_setCell_3 e d k x1 x2 x4 x3 M Q) : R_setCell_0 e d k x1 x2 x3 x4 M Q := by
  intro o5
  refine xGo.in ?_
  exact h _
theorem t_setCell_3 {e : yE} {d k : Nat} {x1 x2 x4 x5 : Int} {M : xM} {Q : xM → Prop} (hs : RSh k e) (h :
    (rg x5) ∧ ((x5 < 0 → 
      (R_setCell_87 e d k x1 x2 x5 M Q)) ∧ 
    (¬ (x5 < 0) → 
      ((0 ≤ x5 ∧ x5 < 300) ∧ 
      ((rg (M (k + 9) x5)) ∧ (((M (k + 9) x5) = (3 : Int) → 
        (R_setCell_29 e d k x1 x2 x4 x5 M Q)) ∧ 
      (¬ ((M (k + 9) x5) = (3 : Int)) → 
        ((0 ≤ x5 ∧ x5 < 300) ∧ 
        ((rg (M (k + 9) x5)) ∧ ((¬ (M (k + 9) x5) = 0 → 
          (R_setCell_87 e d k x1 x2 x5 M Q)) ∧ 
        (¬ (¬ (M (k + 9) x5) = 0) → 
          (R_setCell_29 e d k x1 x2 x4 x5 M Q)))))))))))) : R_setCell_3 e d k x1 x2 x4 x5 M Q := by
  intro o3
  refine xGo.in ?_
  refine And.intro (h.1) (And.intro (fun c => ?_) (fun c => ?_))
  · replace h := h.2.1 c
    exact h _ _
  · replace h := h.2.2 c
    refine And.intro (rs_ob hs) ?_
    refine And.intro (xi_ld (rs_9 hs) (h.1)) ?_
    replace h := h.2
    refine And.intro (⟨h.1, rg_lit (by decide)⟩) (And.intro (fun c => ?_) (fun c => ?_))
    · replace h := h.2.1 c
      exact h _
    · replace h := h.2.2 c
      refine And.intro (rs_ob hs) ?_
      refine And.intro (xi_ld (rs_9 hs) (h.1)) ?_
      replace h := h.2
      refine And.intro (h.1) (And.intro (fun c => ?_) (fun c => ?_))
      · replace h := h.2.1 c
        exact h _ _
      · replace h := h.2.2 c
        exact h _
theorem t_setCell_29 {e : yE} {d k : Nat} {x1 x2 x4 x5 : Int} {M : xM} {Q : xM → Prop} (hs : RSh k e) (h :
    (0 ≤ x5 ∧ x5 < 300) ∧ 
    ((rg (M (k + 11) x5)) ∧ (((M (k + 11) x5) < 0 → 
      (R_setCell_58 e d k x1 x2 x4 x5 M Q)) ∧ 
    (¬ ((M (k + 11) x5) < 0) → 
      ((0 ≤ x5 ∧ x5 < 300) ∧ 
      ((0 ≤ (((16 : Int) * x1) + (M (k + 11) x5)) ∧ (((16 : Int) * x1) + (M (k + 11) x5)) < 128000) ∧ 
      (∀ M1 : xM, M1 = xup M (k + 26) (((16 : Int) * x1) + (M (k + 11) x5)) x4 → 
      (R_setCell_58 e d k x1 x2 x4 x5 M1 Q)))))))) : R_setCell_29 e d k x1 x2 x4 x5 M Q := by
  intro o3
  refine xGo.in ?_
  refine And.intro (rs_ob hs) ?_
  refine And.intro (xi_ld (rs_11 hs) (h.1)) ?_
  replace h := h.2
  refine And.intro (h.1) (And.intro (fun c => ?_) (fun c => ?_))
  · replace h := h.2.1 c
    exact h _
  · replace h := h.2.2 c
    refine And.intro (rs_ob hs) ?_
    refine And.intro (rs_ob hs) ?_
    refine And.intro (xi_ld (rs_11 hs) (h.1)) ?_
    replace h := h.2
    refine And.intro (xi_st (rs_26 hs) (h.1)) ?_
    replace h := h.2
    replace h := h _ rfl
    exact h _
theorem t_setCell_58 {e : yE} {d k : Nat} {x1 x2 x4 x5 : Int} {M : xM} {Q : xM → Prop} (hs : RSh k e) (h :
    (0 ≤ x5 ∧ x5 < 300) ∧ 
    ((rg (M (k + 9) x5)) ∧ ((¬ (M (k + 9) x5) = (3 : Int) → 
      (R_setCell_3 e d k x1 x2 x4 (-1 : Int) M Q)) ∧ 
    (¬ (¬ (M (k + 9) x5) = (3 : Int)) → 
      ((0 ≤ ((3 : Int) * x5) ∧ ((3 : Int) * x5) < 900) ∧ 
      (R_setCell_3 e d k x1 x2 x4 (M (k + 12) ((3 : Int) * x5)) M Q)))))) : R_setCell_58 e d k x1 x2 x4 x5 M Q := by
  intro o3
  refine xGo.in ?_
  refine And.intro (rs_ob hs) ?_
  refine And.intro (xi_ld (rs_9 hs) (h.1)) ?_
  replace h := h.2
  refine And.intro (⟨h.1, rg_lit (by decide)⟩) (And.intro (fun c => ?_) (fun c => ?_))
  · replace h := h.2.1 c
    exact h _
  · replace h := h.2.2 c
    refine And.intro (rs_ob hs) ?_
    refine And.intro (xi_ld (rs_12 hs) (h.1)) ?_
    replace h := h.2
    exact h _
theorem t_setCell_87 {e : yE} {d k : Nat} {x1 x2 x5 : Int} {M : xM} {Q : xM → Prop} (hs : RSh k e) (h :
    (0 ≤ x1 ∧ x1 < 8000) ∧ 
    (((0 ≤ ((M (k + 25) x1) + x2) ∧ ((M (k + 25) x1) + x2) < 2300000) ∧ (-32768 ≤ (xi2s x5) ∧ (xi2s x5) ≤ 32767)) ∧ 
    (∀ M1 : xM, M1 = xup M (k + 27) ((M (k + 25) x1) + x2) (xi2s x5) → 
    (Q M1)))) : R_setCell_87 e d k x1 x2 x5 M Q := by
  intro o3 o4
  refine xGo.in ?_
  refine And.intro (rs_ob hs) ?_
  refine And.intro (rs_ob hs) ?_
  refine And.intro (xi_ld (rs_25 hs) (h.1)) ?_
  replace h := h.2
  refine And.intro (xi_stv (rs_27 hs) (h.1.1) (h.1.2)) ?_
  replace h := h.2
  replace h := h _ rfl
  exact yV_ret (r := .inl 0) h
theorem t_setCell {e : yE} {d k : Nat} {x1 : Int} {x2 : Int} {x3 : Int} {x4 : Int} {M : xM} {Q : xM → Prop} (h : R_setCell_0 e d k x1 x2 x3 x4 M Q) : R_setCell e (d + 1) k x1 x2 x3 x4 M Q := h _
def R_copyRow_0 (e : yE) (d k : Nat) (x1 x2 x3 : Int) (M : xM) (Q : xM → Prop) : Prop := ∀ (o4 : Option xV), xGo xft xNf xmt xtr d 134 0 [some (.inr (some k)), some (.inl x1), some (.inl x2), some (.inl x3), o4] [] (yS e M) (yV e Q)
def R_copyRow_3 (e : yE) (d k : Nat) (x1 x2 x3 x4 : Int) (M : xM) (Q : xM → Prop) : Prop := xGo xft xNf xmt xtr d 134 3 [some (.inr (some k)), some (.inl x1), some (.inl x2), some (.inl x3), some (.inl x4)] [] (yS e M) (yV e Q)
def R_copyRow_43 (e : yE) (d k : Nat) (x1 x2 x3 x4 : Int) (M : xM) (Q : xM → Prop) : Prop := xGo xft xNf xmt xtr d 134 43 [some (.inr (some k)), some (.inl x1), some (.inl x2), some (.inl x3), some (.inl x4)] [] (yS e M) (yV e Q)
theorem t_copyRow_0 {e : yE} {d k : Nat} {x1 x2 x3 : Int} {M : xM} {Q : xM → Prop} (hs : RSh k e) (h :
    R_copyRow_3 e d k x1 x2 x3 (0 : Int) M Q) : R_copyRow_0 e d k x1 x2 x3 M Q := by
  intro o4
  refine xGo.in ?_
  exact h
theorem t_copyRow_3 {e : yE} {d k : Nat} {x1 x2 x3 x4 : Int} {M : xM} {Q : xM → Prop} (hs : RSh k e) (h :
    (rg x4) ∧ (((16 : Int) ≤ x4 → 
      (R_copyRow_43 e d k x1 x2 x3 (0 : Int) M Q)) ∧ 
    (¬ ((16 : Int) ≤ x4) → 
      ((0 ≤ (((16 : Int) * x1) + x4) ∧ (((16 : Int) * x1) + x4) < 128000) ∧ 
      ((0 ≤ (((16 : Int) * x2) + x4) ∧ (((16 : Int) * x2) + x4) < 128000) ∧ 
      (∀ M1 : xM, M1 = xup M (k + 26) (((16 : Int) * x2) + x4) (M (k + 26) (((16 : Int) * x1) + x4)) → 
      (R_copyRow_3 e d k x1 x2 x3 (x4 + 1) M1 Q))))))) : R_copyRow_3 e d k x1 x2 x3 x4 M Q := by
  refine xGo.in ?_
  refine And.intro (⟨h.1, rg_lit (by decide)⟩) (And.intro (fun c => ?_) (fun c => ?_))
  · replace h := h.2.1 c
    exact h
  · replace h := h.2.2 c
    refine And.intro (rs_ob hs) ?_
    refine And.intro (rs_ob hs) ?_
    refine And.intro (xi_ld (rs_26 hs) (h.1)) ?_
    replace h := h.2
    refine And.intro (xi_st (rs_26 hs) (h.1)) ?_
    replace h := h.2
    replace h := h _ rfl
    exact h
theorem t_copyRow_43 {e : yE} {d k : Nat} {x1 x2 x3 x4 : Int} {M : xM} {Q : xM → Prop} (hs : RSh k e) (h :
    (rg x4 ∧ rg x3) ∧ ((x3 ≤ x4 → 
      (Q M)) ∧ 
    (¬ (x3 ≤ x4) → 
      ((0 ≤ x2 ∧ x2 < 8000) ∧ 
      ((0 ≤ x1 ∧ x1 < 8000) ∧ 
      ((0 ≤ ((M (k + 25) x1) + x4) ∧ ((M (k + 25) x1) + x4) < 2300000) ∧ 
      (((0 ≤ ((M (k + 25) x2) + x4) ∧ ((M (k + 25) x2) + x4) < 2300000) ∧ (-32768 ≤ (M (k + 27) ((M (k + 25) x1) + x4)) ∧ (M (k + 27) ((M (k + 25) x1) + x4)) ≤ 32767)) ∧ 
      (∀ M1 : xM, M1 = xup M (k + 27) ((M (k + 25) x2) + x4) (M (k + 27) ((M (k + 25) x1) + x4)) → 
      (R_copyRow_43 e d k x1 x2 x3 (x4 + 1) M1 Q))))))))) : R_copyRow_43 e d k x1 x2 x3 x4 M Q := by
  refine xGo.in ?_
  refine And.intro (⟨h.1.1, h.1.2⟩) (And.intro (fun c => ?_) (fun c => ?_))
  · replace h := h.2.1 c
    exact yV_ret (r := .inl 0) h
  · replace h := h.2.2 c
    refine And.intro (rs_ob hs) ?_
    refine And.intro (rs_ob hs) ?_
    refine And.intro (xi_ld (rs_25 hs) (h.1)) ?_
    replace h := h.2
    refine And.intro (rs_ob hs) ?_
    refine And.intro (rs_ob hs) ?_
    refine And.intro (xi_ld (rs_25 hs) (h.1)) ?_
    replace h := h.2
    refine And.intro (xi_ldb (rs_27 hs) (h.1)) ?_
    replace h := h.2
    refine And.intro (xi_stv (rs_27 hs) (h.1.1) (h.1.2)) ?_
    replace h := h.2
    replace h := h _ rfl
    exact h
theorem t_copyRow {e : yE} {d k : Nat} {x1 : Int} {x2 : Int} {x3 : Int} {M : xM} {Q : xM → Prop} (h : R_copyRow_0 e d k x1 x2 x3 M Q) : R_copyRow e (d + 1) k x1 x2 x3 M Q := h _
def R_goThrough_0 (e : yE) (d k : Nat) (x1 x2 x3 x4 x5 : Int) (M : xM) (Q : xM → Prop) : Prop := ∀ (o6 o7 o8 : Option xV), xGo xft xNf xmt xtr d 135 0 [some (.inr (some k)), some (.inl x1), some (.inl x2), some (.inl x3), some (.inl x4), some (.inl x5), o6, o7, o8] [] (yS e M) (yV e Q)
def R_goThrough_28 (e : yE) (d k : Nat) (x1 x3 x4 x5 x6 : Int) (M : xM) (Q : xM → Prop) : Prop := ∀ (o2 o7 o8 : Option xV), xGo xft xNf xmt xtr d 135 28 [some (.inr (some k)), some (.inl x1), o2, some (.inl x3), some (.inl x4), some (.inl x5), some (.inl x6), o7, o8] [] (yS e M) (yV e Q)
def R_goThrough_76 (e : yE) (d k : Nat) (x1 x3 x4 x5 x6 : Int) (M : xM) (Q : xM → Prop) : Prop := ∀ (o2 o7 o8 : Option xV), xGo xft xNf xmt xtr d 135 76 [some (.inr (some k)), some (.inl x1), o2, some (.inl x3), some (.inl x4), some (.inl x5), some (.inl x6), o7, o8] [] (yS e M) (yV e Q)
def R_goThrough_128 (e : yE) (d k : Nat) (x1 x6 : Int) (M : xM) (Q : xM → Prop) : Prop := ∀ (o2 o3 o4 o5 o7 o8 : Option xV), xGo xft xNf xmt xtr d 135 128 [some (.inr (some k)), some (.inl x1), o2, o3, o4, o5, some (.inl x6), o7, o8] [] (yS e M) (yV e Q)
def R_goThrough_156 (e : yE) (d k : Nat) (x1 x6 x7 x8 : Int) (M : xM) (Q : xM → Prop) : Prop := ∀ (o2 o3 o4 o5 : Option xV), xGo xft xNf xmt xtr d 135 156 [some (.inr (some k)), some (.inl x1), o2, o3, o4, o5, some (.inl x6), some (.inl x7), some (.inl x8)] [] (yS e M) (yV e Q)
def R_goThrough_186 (e : yE) (d k : Nat) (x1 x6 x7 x8 : Int) (M : xM) (Q : xM → Prop) : Prop := ∀ (o2 o3 o4 o5 : Option xV), xGo xft xNf xmt xtr d 135 186 [some (.inr (some k)), some (.inl x1), o2, o3, o4, o5, some (.inl x6), some (.inl x7), some (.inl x8)] [] (yS e M) (yV e Q)
theorem t_goThrough_0 {e : yE} {d k : Nat} {x1 x2 x3 x4 x5 : Int} {M : xM} {Q : xM → Prop} (hs : RSh k e) (h :
    ∀ M1 : xM, M1 = xup M k 43 x1 → 
    ((x2 = 0 ∨ x2 = 1) ∧ 
    (∀ M2 : xM, M2 = xup M1 k 44 x2 → 
    (∀ M3 : xM, M3 = xup M2 k 45 (0 : Int) → 
    (∀ M4 : xM, M4 = xup M3 k 46 (0 : Int) → 
    (∀ M5 : xM, M5 = xup M4 k 48 (0 : Int) → 
    (R_goThrough_28 e d k x1 x3 x4 x5 (0 : Int) M5 Q))))))) : R_goThrough_0 e d k x1 x2 x3 x4 x5 M Q := by
  intro o6 o7 o8
  refine xGo.in ?_
  refine And.intro (rs_ob hs) ?_
  replace h := h _ rfl
  refine And.intro (rs_obv hs h.1) ?_
  replace h := h.2
  replace h := h _ rfl
  refine And.intro (rs_obv hs (by decide)) ?_
  replace h := h _ rfl
  refine And.intro (rs_ob hs) ?_
  replace h := h _ rfl
  refine And.intro (rs_obv hs (by decide)) ?_
  replace h := h _ rfl
  exact h _ _ _
theorem t_goThrough_28 {e : yE} {d k : Nat} {x1 x3 x4 x5 x6 : Int} {M : xM} {Q : xM → Prop} (hs : RSh k e) (h :
    (rg x6) ∧ (((5 : Int) ≤ x6 → 
      (∀ M1 : xM, M1 = xup M k 31 (0 : Int) → 
      (∀ M2 : xM, M2 = xup M1 k 33 (0 : Int) → 
      (∀ M3 : xM, M3 = xup M2 k 42 (0 : Int) → 
      ((0 ≤ x1 ∧ x1 < 20) ∧ 
      (∀ M4 : xM, M4 = xup M3 k 35 (M3 (k + 16) x1) → 
      (R_goThrough_76 e d k x1 x3 x4 x5 (0 : Int) M4 Q))))))) ∧ 
    (¬ ((5 : Int) ≤ x6) → 
      ((0 ≤ x6 ∧ x6 < 5) ∧ 
      (∀ M5 : xM, M5 = xup M (k + 35) x6 (0 : Int) → 
      (R_goThrough_28 e d k x1 x3 x4 x5 (x6 + 1) M5 Q)))))) : R_goThrough_28 e d k x1 x3 x4 x5 x6 M Q := by
  intro o2 o7 o8
  refine xGo.in ?_
  refine And.intro (⟨h.1, rg_lit (by decide)⟩) (And.intro (fun c => ?_) (fun c => ?_))
  · replace h := h.2.1 c
    refine And.intro (rs_ob hs) ?_
    replace h := h _ rfl
    refine And.intro (rs_ob hs) ?_
    replace h := h _ rfl
    refine And.intro (rs_ob hs) ?_
    replace h := h _ rfl
    refine And.intro (rs_ob hs) ?_
    refine And.intro (xi_ld (rs_16 hs) (h.1)) ?_
    replace h := h.2
    refine And.intro (rs_ob hs) ?_
    replace h := h _ rfl
    exact h _ _ _
  · replace h := h.2.2 c
    refine And.intro (rs_ob hs) ?_
    refine And.intro (xi_st (rs_35 hs) (h.1)) ?_
    replace h := h.2
    replace h := h _ rfl
    exact h _ _ _
theorem t_goThrough_76 {e : yE} {d k : Nat} {x1 x3 x4 x5 x6 : Int} {M : xM} {Q : xM → Prop} (hs : RSh k e) (h :
    (0 ≤ x1 ∧ x1 < 20) ∧ 
    ((rg x6 ∧ rg (M (k + 16) x1)) ∧ (((M (k + 16) x1) ≤ x6 → 
      (R_goThrough_128 e d k x1 (0 : Int) M Q)) ∧ 
    (¬ ((M (k + 16) x1) ≤ x6) → 
      ((0 ≤ (((3 : Int) * x1) + x6) ∧ (((3 : Int) * x1) + x6) < 60) ∧ 
      (R_pick e d x6 x3 x4 x5 M (fun y2 M1 => 
      R_newPlace e d k (M (k + 17) (((3 : Int) * x1) + x6)) y2 M1 (fun y4 M3 => 
      (0 ≤ x6 ∧ x6 < 100000) ∧ 
      (∀ M5 : xM, M5 = xup M3 (k + 28) x6 y4 → 
      (R_goThrough_76 e d k x1 x3 x4 x5 (x6 + 1) M5 Q)))))))))) : R_goThrough_76 e d k x1 x3 x4 x5 x6 M Q := by
  intro o2 o7 o8
  refine xGo.in ?_
  refine And.intro (rs_ob hs) ?_
  refine And.intro (xi_ld (rs_16 hs) (h.1)) ?_
  replace h := h.2
  refine And.intro (⟨h.1.1, h.1.2⟩) (And.intro (fun c => ?_) (fun c => ?_))
  · replace h := h.2.1 c
    exact h _ _ _ _ _ _
  · replace h := h.2.2 c
    refine And.intro (rs_ob hs) ?_
    refine And.intro (rs_ob hs) ?_
    refine And.intro (xi_ld (rs_17 hs) (h.1)) ?_
    replace h := h.2
    refine And.intro ⟨Nat.le_of_ble_eq_true rfl, Nat.le_of_ble_eq_true rfl, trivial⟩ ?_
    refine yI_use h (fun y2 M1 h => ?_)
    refine And.intro ⟨Nat.le_of_ble_eq_true rfl, Nat.le_of_ble_eq_true rfl, rs_ob hs⟩ ?_
    refine yI_use h (fun y4 M3 h => ?_)
    refine And.intro (xi_st (rs_28 hs) (h.1)) ?_
    replace h := h.2
    replace h := h _ rfl
    exact h _ _ _
theorem t_goThrough_128 {e : yE} {d k : Nat} {x1 x6 : Int} {M : xM} {Q : xM → Prop} (hs : RSh k e) (h :
    (0 ≤ x1 ∧ x1 < 20) ∧ 
    ((rg x6 ∧ rg (M (k + 18) x1)) ∧ (((M (k + 18) x1) ≤ x6 → 
      ((0 ≤ x1 ∧ x1 < 20) ∧ 
      (R_node e d k (0 : Int) (0 : Int) (M (k + 16) x1) M (fun M1 => 
      Q M1)))) ∧ 
    (¬ ((M (k + 18) x1) ≤ x6) → 
      ((0 ≤ x1 ∧ x1 < 20) ∧ 
      (R_pushRow e d k x6 (M (k + 16) x1) M (fun y3 M2 => 
      R_goThrough_156 e d k x1 x6 y3 (0 : Int) M2 Q))))))) : R_goThrough_128 e d k x1 x6 M Q := by
  intro o2 o3 o4 o5 o7 o8
  refine xGo.in ?_
  refine And.intro (rs_ob hs) ?_
  refine And.intro (xi_ld (rs_18 hs) (h.1)) ?_
  replace h := h.2
  refine And.intro (⟨h.1.1, h.1.2⟩) (And.intro (fun c => ?_) (fun c => ?_))
  · replace h := h.2.1 c
    refine And.intro (rs_ob hs) ?_
    refine And.intro (xi_ld (rs_16 hs) (h.1)) ?_
    replace h := h.2
    refine And.intro ⟨Nat.le_of_ble_eq_true rfl, Nat.le_of_ble_eq_true rfl, rs_ob hs⟩ ?_
    refine yV_use h (fun _ M1 h => ?_)
    exact yV_ret (r := .inl 0) h
  · replace h := h.2.2 c
    refine And.intro (rs_ob hs) ?_
    refine And.intro (xi_ld (rs_16 hs) (h.1)) ?_
    replace h := h.2
    refine And.intro ⟨Nat.le_of_ble_eq_true rfl, Nat.le_of_ble_eq_true rfl, rs_ob hs⟩ ?_
    refine yI_use h (fun y3 M2 h => ?_)
    exact h _ _ _ _
theorem t_goThrough_156 {e : yE} {d k : Nat} {x1 x6 x7 x8 : Int} {M : xM} {Q : xM → Prop} (hs : RSh k e) (h :
    (rg x8) ∧ (((16 : Int) ≤ x8 → 
      (R_goThrough_186 e d k x1 x6 x7 (0 : Int) M Q)) ∧ 
    (¬ ((16 : Int) ≤ x8) → 
      ((0 ≤ (((16 : Int) * x7) + x8) ∧ (((16 : Int) * x7) + x8) < 128000) ∧ 
      (∀ M1 : xM, M1 = xup M (k + 26) (((16 : Int) * x7) + x8) (-1 : Int) → 
      (R_goThrough_156 e d k x1 x6 x7 (x8 + 1) M1 Q)))))) : R_goThrough_156 e d k x1 x6 x7 x8 M Q := by
  intro o2 o3 o4 o5
  refine xGo.in ?_
  refine And.intro (⟨h.1, rg_lit (by decide)⟩) (And.intro (fun c => ?_) (fun c => ?_))
  · replace h := h.2.1 c
    exact h _ _ _ _
  · replace h := h.2.2 c
    refine And.intro (rs_ob hs) ?_
    refine And.intro (xi_st (rs_26 hs) (h.1)) ?_
    replace h := h.2
    replace h := h _ rfl
    exact h _ _ _ _
theorem t_goThrough_186 {e : yE} {d k : Nat} {x1 x6 x7 x8 : Int} {M : xM} {Q : xM → Prop} (hs : RSh k e) (h :
    (0 ≤ x1 ∧ x1 < 20) ∧ 
    ((rg x8 ∧ rg (M (k + 16) x1)) ∧ (((M (k + 16) x1) ≤ x8 → 
      (R_goThrough_128 e d k x1 (x6 + 1) M Q)) ∧ 
    (¬ ((M (k + 16) x1) ≤ x8) → 
      (R_patternOf e d k x1 x6 x8 M (fun y2 M1 => 
      (0 ≤ x8 ∧ x8 < 100000) ∧ 
      (R_setCell e d k x7 x8 y2 (M1 (k + 28) x8) M1 (fun M3 => 
      R_goThrough_186 e d k x1 x6 x7 (x8 + 1) M3 Q)))))))) : R_goThrough_186 e d k x1 x6 x7 x8 M Q := by
  intro o2 o3 o4 o5
  refine xGo.in ?_
  refine And.intro (rs_ob hs) ?_
  refine And.intro (xi_ld (rs_16 hs) (h.1)) ?_
  replace h := h.2
  refine And.intro (⟨h.1.1, h.1.2⟩) (And.intro (fun c => ?_) (fun c => ?_))
  · replace h := h.2.1 c
    exact h _ _ _ _ _ _
  · replace h := h.2.2 c
    refine And.intro ⟨Nat.le_of_ble_eq_true rfl, Nat.le_of_ble_eq_true rfl, rs_ob hs⟩ ?_
    refine yI_use h (fun y2 M1 h => ?_)
    refine And.intro (rs_ob hs) ?_
    refine And.intro (xi_ld (rs_28 hs) (h.1)) ?_
    replace h := h.2
    refine And.intro ⟨Nat.le_of_ble_eq_true rfl, Nat.le_of_ble_eq_true rfl, rs_ob hs⟩ ?_
    refine yV_use h (fun _ M3 h => ?_)
    exact h _ _ _ _
theorem t_goThrough {e : yE} {d k : Nat} {x1 : Int} {x2 : Int} {x3 : Int} {x4 : Int} {x5 : Int} {M : xM} {Q : xM → Prop} (h : R_goThrough_0 e d k x1 x2 x3 x4 x5 M Q) : R_goThrough e (d + 1) k x1 x2 x3 x4 x5 M Q := h _ _ _
def R_countNode_0 (e : yE) (d k : Nat) (x1 : Int) (M : xM) (Q : Int → xM → Prop) : Prop := xGo xft xNf xmt xtr d 136 0 [some (.inr (some k)), some (.inl x1)] [] (yS e M) (yI e Q)
def R_countNode_22 (e : yE) (d k : Nat) (x1 s1 : Int) (M : xM) (Q : Int → xM → Prop) : Prop := xGo xft xNf xmt xtr d 136 22 [some (.inr (some k)), some (.inl x1)] [.inl s1, .inr (some k)] (yS e M) (yI e Q)
theorem t_countNode_0 {e : yE} {d k : Nat} {x1 : Int} {M : xM} {Q : Int → xM → Prop} (hs : RSh k e) (h :
    (rg (M k 45)) ∧ ((¬ (M k 45) = 0 → 
      (R_countNode_22 e d k x1 (1 : Int) M Q)) ∧ 
    (¬ (¬ (M k 45) = 0) → 
      ((rg (M k 46)) ∧ ((¬ (M k 46) = (120 : Int) → 
        (R_countNode_22 e d k x1 (0 : Int) M Q)) ∧ 
      (¬ (¬ (M k 46) = (120 : Int)) → 
        (R_countNode_22 e d k x1 (1 : Int) M Q))))))) : R_countNode_0 e d k x1 M Q := by
  refine xGo.in ?_
  refine And.intro (rs_ob hs) ?_
  refine And.intro (h.1) (And.intro (fun c => ?_) (fun c => ?_))
  · replace h := h.2.1 c
    exact h
  · replace h := h.2.2 c
    refine And.intro (rs_ob hs) ?_
    refine And.intro (⟨h.1, rg_lit (by decide)⟩) (And.intro (fun c => ?_) (fun c => ?_))
    · replace h := h.2.1 c
      exact h
    · replace h := h.2.2 c
      exact h
theorem t_countNode_22 {e : yE} {d k : Nat} {x1 s1 : Int} {M : xM} {Q : Int → xM → Prop} (hs : RSh k e) (h :
    (s1 = 0 ∨ s1 = 1) ∧ 
    (∀ M1 : xM, M1 = xup M k 45 s1 → 
    (∀ M2 : xM, M2 = xup M1 k 46 ((M1 k 46) + (1 : Int)) → 
    ((0 ≤ x1 ∧ x1 < 5) ∧ 
    ((0 ≤ x1 ∧ x1 < 5) ∧ 
    (∀ M3 : xM, M3 = xup M2 (k + 35) x1 ((M2 (k + 35) x1) + (1 : Int)) → 
    ((rg (M3 k 45)) ∧ ((¬ (M3 k 45) = 0 → 
      (Q (0 : Int) M3)) ∧ 
    (¬ (¬ (M3 k 45) = 0) → 
      (Q (1 : Int) M3)))))))))) : R_countNode_22 e d k x1 s1 M Q := by
  refine xGo.in ?_
  refine And.intro (rs_obv hs h.1) ?_
  replace h := h.2
  replace h := h _ rfl
  refine And.intro (rs_ob hs) ?_
  refine And.intro (rs_ob hs) ?_
  replace h := h _ rfl
  refine And.intro (rs_ob hs) ?_
  refine And.intro (xi_ld (rs_35 hs) (h.1)) ?_
  replace h := h.2
  refine And.intro (xi_st (rs_35 hs) (h.1)) ?_
  replace h := h.2
  replace h := h _ rfl
  refine And.intro (rs_ob hs) ?_
  refine And.intro (h.1) (And.intro (fun c => ?_) (fun c => ?_))
  · replace h := h.2.1 c
    exact And.intro (by decide) (yI_ret h)
  · replace h := h.2.2 c
    exact And.intro (by decide) (yI_ret h)
theorem t_countNode {e : yE} {d k : Nat} {x1 : Int} {M : xM} {Q : Int → xM → Prop} (h : R_countNode_0 e d k x1 M Q) : R_countNode e (d + 1) k x1 M Q := h
def R_firstOpen_0 (e : yE) (d k : Nat) (x1 x2 : Int) (M : xM) (Q : Int → xM → Prop) : Prop := ∀ (o3 : Option xV), xGo xft xNf xmt xtr d 137 0 [some (.inr (some k)), some (.inl x1), some (.inl x2), o3] [] (yS e M) (yI e Q)
def R_firstOpen_2 (e : yE) (d k : Nat) (x1 x2 x3 : Int) (M : xM) (Q : Int → xM → Prop) : Prop := xGo xft xNf xmt xtr d 137 2 [some (.inr (some k)), some (.inl x1), some (.inl x2), some (.inl x3)] [] (yS e M) (yI e Q)
theorem t_firstOpen_0 {e : yE} {d k : Nat} {x1 x2 : Int} {M : xM} {Q : Int → xM → Prop} (hs : RSh k e) (h :
    R_firstOpen_2 e d k x1 x2 (0 : Int) M Q) : R_firstOpen_0 e d k x1 x2 M Q := by
  intro o3
  refine xGo.in ?_
  exact h
theorem t_firstOpen_2 {e : yE} {d k : Nat} {x1 x2 x3 : Int} {M : xM} {Q : Int → xM → Prop} (hs : RSh k e) (h :
    (rg x3 ∧ rg x2) ∧ ((x2 ≤ x3 → 
      (Q (-1 : Int) M)) ∧ 
    (¬ (x2 ≤ x3) → 
      (R_cell e d k x1 x3 M (fun y2 M1 => 
      (rg y2) ∧ ((y2 < 0 → 
        (R_firstOpen_2 e d k x1 x2 (x3 + 1) M1 Q)) ∧ 
      (¬ (y2 < 0) → 
        (Q x3 M1)))))))) : R_firstOpen_2 e d k x1 x2 x3 M Q := by
  refine xGo.in ?_
  refine And.intro (⟨h.1.1, h.1.2⟩) (And.intro (fun c => ?_) (fun c => ?_))
  · replace h := h.2.1 c
    exact yI_ret h
  · replace h := h.2.2 c
    refine And.intro ⟨Nat.le_of_ble_eq_true rfl, Nat.le_of_ble_eq_true rfl, rs_ob hs⟩ ?_
    refine yI_use h (fun y2 M1 h => ?_)
    refine And.intro (h.1) (And.intro (fun c => ?_) (fun c => ?_))
    · replace h := h.2.1 c
      exact h
    · replace h := h.2.2 c
      exact yI_ret h
theorem t_firstOpen {e : yE} {d k : Nat} {x1 : Int} {x2 : Int} {M : xM} {Q : Int → xM → Prop} (h : R_firstOpen_0 e d k x1 x2 M Q) : R_firstOpen e (d + 1) k x1 x2 M Q := h _
def R_isEither_0 (e : yE) (d k : Nat) (x1 x2 : Int) (M : xM) (Q : Int → xM → Prop) : Prop := xGo xft xNf xmt xtr d 138 0 [some (.inr (some k)), some (.inl x1), some (.inl x2)] [] (yS e M) (yI e Q)
theorem t_isEither_0 {e : yE} {d k : Nat} {x1 x2 : Int} {M : xM} {Q : Int → xM → Prop} (hs : RSh k e) (h :
    R_cell e d k x1 x2 M (fun y2 M1 => 
    (rg y2) ∧ ((y2 < 0 → 
      (Q (0 : Int) M1)) ∧ 
    (¬ (y2 < 0) → 
      (R_cell e d k x1 x2 M1 (fun y4 M3 => 
      (0 ≤ y4 ∧ y4 < 300) ∧ 
      ((rg (M3 (k + 9) y4)) ∧ ((¬ (M3 (k + 9) y4) = (4 : Int) → 
        (Q (0 : Int) M3)) ∧ 
      (¬ (¬ (M3 (k + 9) y4) = (4 : Int)) → 
        (Q (1 : Int) M3)))))))))) : R_isEither_0 e d k x1 x2 M Q := by
  refine xGo.in ?_
  refine And.intro ⟨Nat.le_of_ble_eq_true rfl, Nat.le_of_ble_eq_true rfl, rs_ob hs⟩ ?_
  refine yI_use h (fun y2 M1 h => ?_)
  refine And.intro (h.1) (And.intro (fun c => ?_) (fun c => ?_))
  · replace h := h.2.1 c
    exact And.intro (by decide) (yI_ret h)
  · replace h := h.2.2 c
    refine And.intro (rs_ob hs) ?_
    refine And.intro ⟨Nat.le_of_ble_eq_true rfl, Nat.le_of_ble_eq_true rfl, rs_ob hs⟩ ?_
    refine yI_use h (fun y4 M3 h => ?_)
    refine And.intro (xi_ld (rs_9 hs) (h.1)) ?_
    replace h := h.2
    refine And.intro (⟨h.1, rg_lit (by decide)⟩) (And.intro (fun c => ?_) (fun c => ?_))
    · replace h := h.2.1 c
      exact And.intro (by decide) (yI_ret h)
    · replace h := h.2.2 c
      exact And.intro (by decide) (yI_ret h)
theorem t_isEither {e : yE} {d k : Nat} {x1 : Int} {x2 : Int} {M : xM} {Q : Int → xM → Prop} (h : R_isEither_0 e d k x1 x2 M Q) : R_isEither e (d + 1) k x1 x2 M Q := h
def R_split_0 (e : yE) (d k : Nat) (x1 x2 x3 x4 x5 : Int) (M : xM) (Q : xM → Prop) : Prop := ∀ (o6 o7 : Option xV), xGo xft xNf xmt xtr d 139 0 [some (.inr (some k)), some (.inl x1), some (.inl x2), some (.inl x3), some (.inl x4), some (.inl x5), o6, o7] [] (yS e M) (yV e Q)
def R_split_30 (e : yE) (d k : Nat) (x2 x3 x4 x5 x7 : Int) (M : xM) (Q : xM → Prop) : Prop := ∀ (o1 o6 : Option xV), xGo xft xNf xmt xtr d 139 30 [some (.inr (some k)), o1, some (.inl x2), some (.inl x3), some (.inl x4), some (.inl x5), o6, some (.inl x7)] [] (yS e M) (yV e Q)
theorem t_split_0 {e : yE} {d k : Nat} {x1 x2 x3 x4 x5 : Int} {M : xM} {Q : xM → Prop} (hs : RSh k e) (h :
    (rg ((M k 31) - x1)) ∧ ((¬ ((M k 31) - x1) = (24 : Int) → 
      (R_pushRow e d k (0 : Int) x5 M (fun y2 M1 => 
      R_split_30 e d k x2 x3 x4 x5 y2 M1 Q))) ∧ 
    (¬ (¬ ((M k 31) - x1) = (24 : Int)) → 
      (∀ M3 : xM, M3 = xup M k 45 (1 : Int) → 
      (Q M3))))) : R_split_0 e d k x1 x2 x3 x4 x5 M Q := by
  intro o6 o7
  refine xGo.in ?_
  refine And.intro (rs_ob hs) ?_
  refine And.intro (⟨h.1, rg_lit (by decide)⟩) (And.intro (fun c => ?_) (fun c => ?_))
  · replace h := h.2.1 c
    refine And.intro ⟨Nat.le_of_ble_eq_true rfl, Nat.le_of_ble_eq_true rfl, rs_ob hs⟩ ?_
    refine yI_use h (fun y2 M1 h => ?_)
    exact h _ _
  · replace h := h.2.2 c
    refine And.intro (rs_obv hs (by decide)) ?_
    replace h := h _ rfl
    exact yV_ret (r := .inl 0) h
theorem t_split_30 {e : yE} {d k : Nat} {x2 x3 x4 x5 x7 : Int} {M : xM} {Q : xM → Prop} (hs : RSh k e) (h :
    (rg x7 ∧ rg x2) ∧ ((x7 ≤ x2 → 
      (R_cell e d k x2 x3 M (fun y2 M1 => 
      (0 ≤ ((3 : Int) * y2) ∧ ((3 : Int) * y2) < 900) ∧ 
      ((0 ≤ (x4 + x3) ∧ (x4 + x3) < 100000) ∧ 
      (R_setCell e d k x2 x3 (M1 (k + 12) ((3 : Int) * y2)) (M1 (k + 28) (x4 + x3)) M1 (fun M3 => 
      (0 ≤ (((3 : Int) * y2) + (1 : Int)) ∧ (((3 : Int) * y2) + (1 : Int)) < 900) ∧ 
      ((0 ≤ (x4 + x3) ∧ (x4 + x3) < 100000) ∧ 
      (R_setCell e d k (x2 + (1 : Int)) x3 (M3 (k + 12) (((3 : Int) * y2) + (1 : Int))) (M3 (k + 28) (x4 + x3)) M3 (fun M4 => 
      Q M4))))))))) ∧ 
    (¬ (x7 ≤ x2) → 
      ((0 ≤ (x7 - (1 : Int)) ∧ (x7 - (1 : Int)) < 8000) ∧ 
      ((0 ≤ x7 ∧ x7 < 8000) ∧ 
      (∀ M5 : xM, M5 = xup M (k + 24) x7 (M (k + 24) (x7 - (1 : Int))) → 
      (R_copyRow e d k (x7 - (1 : Int)) x7 x5 M5 (fun M6 => 
      R_split_30 e d k x2 x3 x4 x5 (x7 + (-1 : Int)) M6 Q)))))))) : R_split_30 e d k x2 x3 x4 x5 x7 M Q := by
  intro o1 o6
  refine xGo.in ?_
  refine And.intro (⟨h.1.1, h.1.2⟩) (And.intro (fun c => ?_) (fun c => ?_))
  · replace h := h.2.1 c
    refine And.intro ⟨Nat.le_of_ble_eq_true rfl, Nat.le_of_ble_eq_true rfl, rs_ob hs⟩ ?_
    refine yI_use h (fun y2 M1 h => ?_)
    refine And.intro (rs_ob hs) ?_
    refine And.intro (xi_ld (rs_12 hs) (h.1)) ?_
    replace h := h.2
    refine And.intro (rs_ob hs) ?_
    refine And.intro (xi_ld (rs_28 hs) (h.1)) ?_
    replace h := h.2
    refine And.intro ⟨Nat.le_of_ble_eq_true rfl, Nat.le_of_ble_eq_true rfl, rs_ob hs⟩ ?_
    refine yV_use h (fun _ M3 h => ?_)
    refine And.intro (rs_ob hs) ?_
    refine And.intro (xi_ld (rs_12 hs) (h.1)) ?_
    replace h := h.2
    refine And.intro (rs_ob hs) ?_
    refine And.intro (xi_ld (rs_28 hs) (h.1)) ?_
    replace h := h.2
    refine And.intro ⟨Nat.le_of_ble_eq_true rfl, Nat.le_of_ble_eq_true rfl, rs_ob hs⟩ ?_
    refine yV_use h (fun _ M4 h => ?_)
    exact yV_ret (r := .inl 0) h
  · replace h := h.2.2 c
    refine And.intro (rs_ob hs) ?_
    refine And.intro (rs_ob hs) ?_
    refine And.intro (xi_ld (rs_24 hs) (h.1)) ?_
    replace h := h.2
    refine And.intro (xi_st (rs_24 hs) (h.1)) ?_
    replace h := h.2
    replace h := h _ rfl
    refine And.intro ⟨Nat.le_of_ble_eq_true rfl, Nat.le_of_ble_eq_true rfl, rs_ob hs⟩ ?_
    refine yV_use h (fun _ M6 h => ?_)
    exact h _ _
theorem t_split {e : yE} {d k : Nat} {x1 : Int} {x2 : Int} {x3 : Int} {x4 : Int} {x5 : Int} {M : xM} {Q : xM → Prop} (h : R_split_0 e d k x1 x2 x3 x4 x5 M Q) : R_split e (d + 1) k x1 x2 x3 x4 x5 M Q := h _ _
def R_node_0 (e : yE) (d k : Nat) (x1 x2 x3 : Int) (M : xM) (Q : xM → Prop) : Prop := ∀ (o4 o5 o6 : Option xV), xGo xft xNf xmt xtr d 140 0 [some (.inr (some k)), some (.inl x1), some (.inl x2), some (.inl x3), o4, o5, o6] [] (yS e M) (yV e Q)
def R_node_35 (e : yE) (d k : Nat) (x1 x2 x3 x4 x5 : Int) (M : xM) (Q : xM → Prop) : Prop := ∀ (o6 : Option xV), xGo xft xNf xmt xtr d 140 35 [some (.inr (some k)), some (.inl x1), some (.inl x2), some (.inl x3), some (.inl x4), some (.inl x5), o6] [] (yS e M) (yV e Q)
def R_node_78 (e : yE) (d k : Nat) (x1 x2 x3 x4 x5 : Int) (M : xM) (Q : xM → Prop) : Prop := ∀ (o6 : Option xV), xGo xft xNf xmt xtr d 140 78 [some (.inr (some k)), some (.inl x1), some (.inl x2), some (.inl x3), some (.inl x4), some (.inl x5), o6] [] (yS e M) (yV e Q)
def R_node_118 (e : yE) (d k : Nat) (x1 x2 x3 x4 x5 x6 : Int) (M : xM) (Q : xM → Prop) : Prop := xGo xft xNf xmt xtr d 140 118 [some (.inr (some k)), some (.inl x1), some (.inl x2), some (.inl x3), some (.inl x4), some (.inl x5), some (.inl x6)] [] (yS e M) (yV e Q)
def R_node_127 (e : yE) (d k : Nat) (x1 x2 x3 x4 x5 x6 : Int) (M : xM) (Q : xM → Prop) : Prop := xGo xft xNf xmt xtr d 140 127 [some (.inr (some k)), some (.inl x1), some (.inl x2), some (.inl x3), some (.inl x4), some (.inl x5), some (.inl x6)] [] (yS e M) (yV e Q)
def R_node_182 (e : yE) (d k : Nat) (x1 x4 : Int) (M : xM) (Q : xM → Prop) : Prop := ∀ (o2 o3 o5 o6 : Option xV), xGo xft xNf xmt xtr d 140 182 [some (.inr (some k)), some (.inl x1), o2, o3, some (.inl x4), o5, o6] [] (yS e M) (yV e Q)
theorem t_node_0 {e : yE} {d k : Nat} {x1 x2 x3 : Int} {M : xM} {Q : xM → Prop} (hs : RSh k e) (h :
    (rg x1 ∧ rg (M k 31)) ∧ (((M k 31) ≤ x1 → 
      (R_node_35 e d k x1 x2 x3 ((M k 33) - (((M k 31) - x1) * x3)) (-1 : Int) M Q)) ∧ 
    (¬ ((M k 31) ≤ x1) → 
      (R_firstOpen e d k x1 x3 M (fun y2 M1 => 
      R_node_35 e d k x1 x2 x3 ((M k 33) - (((M k 31) - x1) * x3)) y2 M1 Q))))) : R_node_0 e d k x1 x2 x3 M Q := by
  intro o4 o5 o6
  refine xGo.in ?_
  refine And.intro (rs_ob hs) ?_
  refine And.intro (rs_ob hs) ?_
  refine And.intro (rs_ob hs) ?_
  refine And.intro (⟨h.1.1, h.1.2⟩) (And.intro (fun c => ?_) (fun c => ?_))
  · replace h := h.2.1 c
    exact h _
  · replace h := h.2.2 c
    refine And.intro ⟨Nat.le_of_ble_eq_true rfl, Nat.le_of_ble_eq_true rfl, rs_ob hs⟩ ?_
    refine yI_use h (fun y2 M1 h => ?_)
    exact h _
theorem t_node_35 {e : yE} {d k : Nat} {x1 x2 x3 x4 x5 : Int} {M : xM} {Q : xM → Prop} (hs : RSh k e) (h :
    (rg x5) ∧ ((x5 < 0 → 
      (R_node_78 e d k x1 x2 x3 x4 x5 M Q)) ∧ 
    (¬ (x5 < 0) → 
      (R_isEither e d k x1 x5 M (fun y2 M1 => 
      (rg y2) ∧ ((y2 = 0 → 
        (R_node_78 e d k x1 x2 x3 x4 x5 M1 Q)) ∧ 
      (¬ (y2 = 0) → 
        ((rg (M1 k 45)) ∧ ((¬ (M1 k 45) = 0 → 
          (R_node_78 e d k x1 x2 x3 x4 x5 M1 Q)) ∧ 
        (¬ (¬ (M1 k 45) = 0) → 
          (R_split e d k x1 x1 x5 x2 x3 M1 (fun M3 => 
          R_firstOpen e d k x1 x3 M3 (fun y5 M4 => 
          R_node_35 e d k x1 x2 x3 x4 y5 M4 Q))))))))))))) : R_node_35 e d k x1 x2 x3 x4 x5 M Q := by
  intro o6
  refine xGo.in ?_
  refine And.intro (h.1) (And.intro (fun c => ?_) (fun c => ?_))
  · replace h := h.2.1 c
    exact h _
  · replace h := h.2.2 c
    refine And.intro ⟨Nat.le_of_ble_eq_true rfl, Nat.le_of_ble_eq_true rfl, rs_ob hs⟩ ?_
    refine yI_use h (fun y2 M1 h => ?_)
    refine And.intro (h.1) (And.intro (fun c => ?_) (fun c => ?_))
    · replace h := h.2.1 c
      exact h _
    · replace h := h.2.2 c
      refine And.intro (rs_ob hs) ?_
      refine And.intro (h.1) (And.intro (fun c => ?_) (fun c => ?_))
      · replace h := h.2.1 c
        exact h _
      · replace h := h.2.2 c
        refine And.intro ⟨Nat.le_of_ble_eq_true rfl, Nat.le_of_ble_eq_true rfl, rs_ob hs⟩ ?_
        refine yV_use h (fun _ M3 h => ?_)
        refine And.intro ⟨Nat.le_of_ble_eq_true rfl, Nat.le_of_ble_eq_true rfl, rs_ob hs⟩ ?_
        refine yI_use h (fun y5 M4 h => ?_)
        exact h _
theorem t_node_78 {e : yE} {d k : Nat} {x1 x2 x3 x4 x5 : Int} {M : xM} {Q : xM → Prop} (hs : RSh k e) (h :
    (rg (M k 45)) ∧ ((¬ (M k 45) = 0 → 
      (R_node_182 e d k x1 x4 M Q)) ∧ 
    (¬ (¬ (M k 45) = 0) → 
      ((rg x1 ∧ rg (M k 31)) ∧ ((¬ x1 = (M k 31) → 
        ((rg x5) ∧ ((0 ≤ x5 → 
          (R_node_118 e d k x1 x2 x3 x4 x5 x1 M Q)) ∧ 
        (¬ (0 ≤ x5) → 
          (R_leaf e d k x1 x2 x3 M (fun M1 => 
          R_node_182 e d k x1 x4 M1 Q)))))) ∧ 
      (¬ (¬ x1 = (M k 31)) → 
        (R_failure e d k  M (fun M2 => 
        R_node_182 e d k x1 x4 M2 Q)))))))) : R_node_78 e d k x1 x2 x3 x4 x5 M Q := by
  intro o6
  refine xGo.in ?_
  refine And.intro (rs_ob hs) ?_
  refine And.intro (h.1) (And.intro (fun c => ?_) (fun c => ?_))
  · replace h := h.2.1 c
    exact h _ _ _ _
  · replace h := h.2.2 c
    refine And.intro (rs_ob hs) ?_
    refine And.intro (⟨h.1.1, h.1.2⟩) (And.intro (fun c => ?_) (fun c => ?_))
    · replace h := h.2.1 c
      refine And.intro (h.1) (And.intro (fun c => ?_) (fun c => ?_))
      · replace h := h.2.1 c
        exact h
      · replace h := h.2.2 c
        refine And.intro ⟨Nat.le_of_ble_eq_true rfl, Nat.le_of_ble_eq_true rfl, rs_ob hs⟩ ?_
        refine yV_use h (fun _ M1 h => ?_)
        exact h _ _ _ _
    · replace h := h.2.2 c
      refine And.intro ⟨Nat.le_of_ble_eq_true rfl, Nat.le_of_ble_eq_true rfl, rs_ob hs⟩ ?_
      refine yV_use h (fun _ M2 h => ?_)
      exact h _ _ _ _
theorem t_node_118 {e : yE} {d k : Nat} {x1 x2 x3 x4 x5 x6 : Int} {M : xM} {Q : xM → Prop} (hs : RSh k e) (h :
    (rg x6 ∧ rg (M k 31)) ∧ (((M k 31) ≤ x6 → 
      (R_countNode e d k (0 : Int) M (fun y2 M1 => 
      (rg y2) ∧ ((y2 = 0 → 
        (R_node_182 e d k x1 x4 M1 Q)) ∧ 
      (¬ (y2 = 0) → 
        (R_test e d k x1 x5 x2 x3 M1 (fun M3 => 
        R_node_182 e d k x1 x4 M3 Q))))))) ∧ 
    (¬ ((M k 31) ≤ x6) → 
      (R_node_127 e d k x1 x2 x3 x4 x5 x6 M Q)))) : R_node_118 e d k x1 x2 x3 x4 x5 x6 M Q := by
  refine xGo.in ?_
  refine And.intro (rs_ob hs) ?_
  refine And.intro (⟨h.1.1, h.1.2⟩) (And.intro (fun c => ?_) (fun c => ?_))
  · replace h := h.2.1 c
    refine And.intro ⟨Nat.le_of_ble_eq_true rfl, Nat.le_of_ble_eq_true rfl, rs_ob hs⟩ ?_
    refine yI_use h (fun y2 M1 h => ?_)
    refine And.intro (h.1) (And.intro (fun c => ?_) (fun c => ?_))
    · replace h := h.2.1 c
      exact h _ _ _ _
    · replace h := h.2.2 c
      refine And.intro ⟨Nat.le_of_ble_eq_true rfl, Nat.le_of_ble_eq_true rfl, rs_ob hs⟩ ?_
      refine yV_use h (fun _ M3 h => ?_)
      exact h _ _ _ _
  · replace h := h.2.2 c
    exact h
theorem t_node_127 {e : yE} {d k : Nat} {x1 x2 x3 x4 x5 x6 : Int} {M : xM} {Q : xM → Prop} (hs : RSh k e) (h :
    R_isEither e d k x6 x5 M (fun y2 M1 => 
    (rg y2) ∧ ((y2 = 0 → 
      (R_node_118 e d k x1 x2 x3 x4 x5 (x6 + 1) M1 Q)) ∧ 
    (¬ (y2 = 0) → 
      ((rg (M1 k 45)) ∧ ((¬ (M1 k 45) = 0 → 
        (R_node_118 e d k x1 x2 x3 x4 x5 (x6 + 1) M1 Q)) ∧ 
      (¬ (¬ (M1 k 45) = 0) → 
        (R_split e d k x1 x6 x5 x2 x3 M1 (fun M3 => 
        R_node_127 e d k x1 x2 x3 x4 x5 x6 M3 Q))))))))) : R_node_127 e d k x1 x2 x3 x4 x5 x6 M Q := by
  refine xGo.in ?_
  refine And.intro ⟨Nat.le_of_ble_eq_true rfl, Nat.le_of_ble_eq_true rfl, rs_ob hs⟩ ?_
  refine yI_use h (fun y2 M1 h => ?_)
  refine And.intro (h.1) (And.intro (fun c => ?_) (fun c => ?_))
  · replace h := h.2.1 c
    exact h
  · replace h := h.2.2 c
    refine And.intro (rs_ob hs) ?_
    refine And.intro (h.1) (And.intro (fun c => ?_) (fun c => ?_))
    · replace h := h.2.1 c
      exact h
    · replace h := h.2.2 c
      refine And.intro ⟨Nat.le_of_ble_eq_true rfl, Nat.le_of_ble_eq_true rfl, rs_ob hs⟩ ?_
      refine yV_use h (fun _ M3 h => ?_)
      exact h
theorem t_node_182 {e : yE} {d k : Nat} {x1 x4 : Int} {M : xM} {Q : xM → Prop} (hs : RSh k e) (h :
    ∀ M1 : xM, M1 = xup M k 31 x1 → 
    (∀ M2 : xM, M2 = xup M1 k 33 x4 → 
    (Q M2))) : R_node_182 e d k x1 x4 M Q := by
  intro o2 o3 o5 o6
  refine xGo.in ?_
  refine And.intro (rs_ob hs) ?_
  replace h := h _ rfl
  refine And.intro (rs_ob hs) ?_
  replace h := h _ rfl
  exact yV_ret (r := .inl 0) h
theorem t_node {e : yE} {d k : Nat} {x1 : Int} {x2 : Int} {x3 : Int} {M : xM} {Q : xM → Prop} (h : R_node_0 e d k x1 x2 x3 M Q) : R_node e (d + 1) k x1 x2 x3 M Q := h _ _ _
def R_failure_0 (e : yE) (d k : Nat) (M : xM) (Q : xM → Prop) : Prop := ∀ (o1 : Option xV), xGo xft xNf xmt xtr d 141 0 [some (.inr (some k)), o1] [] (yS e M) (yV e Q)
def R_failure_34 (e : yE) (d k : Nat) (x1 : Int) (M : xM) (Q : xM → Prop) : Prop := xGo xft xNf xmt xtr d 141 34 [some (.inr (some k)), some (.inl x1)] [] (yS e M) (yV e Q)
theorem t_failure_0 {e : yE} {d k : Nat} {M : xM} {Q : xM → Prop} (hs : RSh k e) (h :
    R_countNode e d k (3 : Int) M (fun y2 M1 => 
    (rg y2) ∧ ((y2 = 0 → 
      (Q M1)) ∧ 
    (¬ (y2 = 0) → 
      ((rg (M1 k 44)) ∧ ((¬ (M1 k 44) = 0 → 
        (Q M1)) ∧ 
      (¬ (¬ (M1 k 44) = 0) → 
        ((rg (M1 k 48)) ∧ ((¬ (M1 k 48) = 0 → 
          (Q M1)) ∧ 
        (¬ (¬ (M1 k 48) = 0) → 
          (∀ M3 : xM, M3 = xup M1 k 48 (1 : Int) → 
          (∀ M4 : xM, M4 = xup M3 k 50 (0 : Int) → 
          (R_failure_34 e d k (0 : Int) M4 Q))))))))))))) : R_failure_0 e d k  M Q := by
  intro o1
  refine xGo.in ?_
  refine And.intro ⟨Nat.le_of_ble_eq_true rfl, Nat.le_of_ble_eq_true rfl, rs_ob hs⟩ ?_
  refine yI_use h (fun y2 M1 h => ?_)
  refine And.intro (h.1) (And.intro (fun c => ?_) (fun c => ?_))
  · replace h := h.2.1 c
    exact yV_ret (r := .inl 0) h
  · replace h := h.2.2 c
    refine And.intro (rs_ob hs) ?_
    refine And.intro (h.1) (And.intro (fun c => ?_) (fun c => ?_))
    · replace h := h.2.1 c
      exact yV_ret (r := .inl 0) h
    · replace h := h.2.2 c
      refine And.intro (rs_ob hs) ?_
      refine And.intro (h.1) (And.intro (fun c => ?_) (fun c => ?_))
      · replace h := h.2.1 c
        exact yV_ret (r := .inl 0) h
      · replace h := h.2.2 c
        refine And.intro (rs_obv hs (by decide)) ?_
        replace h := h _ rfl
        refine And.intro (rs_ob hs) ?_
        replace h := h _ rfl
        exact h
theorem t_failure_34 {e : yE} {d k : Nat} {x1 : Int} {M : xM} {Q : xM → Prop} (hs : RSh k e) (h :
    (0 ≤ (M k 43) ∧ (M k 43) < 20) ∧ 
    ((rg x1 ∧ rg (M (k + 16) (M k 43))) ∧ (((M (k + 16) (M k 43)) ≤ x1 → 
      (Q M)) ∧ 
    (¬ ((M (k + 16) (M k 43)) ≤ x1) → 
      (R_tell e d k x1 M (fun M1 => 
      R_failure_34 e d k (x1 + 1) M1 Q)))))) : R_failure_34 e d k x1 M Q := by
  refine xGo.in ?_
  refine And.intro (rs_ob hs) ?_
  refine And.intro (rs_ob hs) ?_
  refine And.intro (xi_ld (rs_16 hs) (h.1)) ?_
  replace h := h.2
  refine And.intro (⟨h.1.1, h.1.2⟩) (And.intro (fun c => ?_) (fun c => ?_))
  · replace h := h.2.1 c
    exact yV_ret (r := .inl 0) h
  · replace h := h.2.2 c
    refine And.intro ⟨Nat.le_of_ble_eq_true rfl, Nat.le_of_ble_eq_true rfl, rs_ob hs⟩ ?_
    refine yV_use h (fun _ M1 h => ?_)
    exact h
theorem t_failure {e : yE} {d k : Nat} {M : xM} {Q : xM → Prop} (h : R_failure_0 e d k  M Q) : R_failure e (d + 1) k  M Q := h _
def R_leaf_0 (e : yE) (d k : Nat) (x1 x2 x3 : Int) (M : xM) (Q : xM → Prop) : Prop := ∀ (o4 o5 o6 o7 o8 : Option xV), xGo xft xNf xmt xtr d 142 0 [some (.inr (some k)), some (.inl x1), some (.inl x2), some (.inl x3), o4, o5, o6, o7, o8] [] (yS e M) (yV e Q)
def R_leaf_53 (e : yE) (d k : Nat) (x1 x2 x3 x4 x5 s1 : Int) (M : xM) (Q : xM → Prop) : Prop := ∀ (o6 o7 o8 : Option xV), xGo xft xNf xmt xtr d 142 53 [some (.inr (some k)), some (.inl x1), some (.inl x2), some (.inl x3), some (.inl x4), some (.inl x5), o6, o7, o8] [.inl s1, .inr (some k)] (yS e M) (yV e Q)
def R_leaf_141 (e : yE) (d k : Nat) (x1 x2 x3 : Int) (M : xM) (Q : xM → Prop) : Prop := ∀ (o4 o5 o6 o7 o8 : Option xV), xGo xft xNf xmt xtr d 142 141 [some (.inr (some k)), some (.inl x1), some (.inl x2), some (.inl x3), o4, o5, o6, o7, o8] [] (yS e M) (yV e Q)
def R_leaf_152 (e : yE) (d k : Nat) (x2 x3 x6 x7 : Int) (M : xM) (Q : xM → Prop) : Prop := ∀ (o1 o4 o5 o8 : Option xV), xGo xft xNf xmt xtr d 142 152 [some (.inr (some k)), o1, some (.inl x2), some (.inl x3), o4, o5, some (.inl x6), some (.inl x7), o8] [] (yS e M) (yV e Q)
theorem t_leaf_0 {e : yE} {d k : Nat} {x1 x2 x3 : Int} {M : xM} {Q : xM → Prop} (hs : RSh k e) (h :
    (0 ≤ x1 ∧ x1 < 8000) ∧ 
    ((0 ≤ (((12 : Int) * (M k 43)) + (M (k + 24) x1)) ∧ (((12 : Int) * (M k 43)) + (M (k + 24) x1)) < 240) ∧ 
    (∀ M1 : xM, M1 = xup M (k + 35) (4 : Int) (xor32 (M (k + 35) (4 : Int)) (xshl32 (1 : Int) (M (k + 24) x1))) → 
    ((rg (M (k + 20) (((12 : Int) * (M k 43)) + (M (k + 24) x1)))) ∧ ((0 ≤ (M (k + 20) (((12 : Int) * (M k 43)) + (M (k + 24) x1))) → 
      (R_leaf_53 e d k x1 x2 x3 (M (k + 24) x1) (M (k + 20) (((12 : Int) * (M k 43)) + (M (k + 24) x1))) (1 : Int) M1 Q)) ∧ 
    (¬ (0 ≤ (M (k + 20) (((12 : Int) * (M k 43)) + (M (k + 24) x1)))) → 
      (R_leaf_53 e d k x1 x2 x3 (M (k + 24) x1) (M (k + 20) (((12 : Int) * (M k 43)) + (M (k + 24) x1))) (2 : Int) M1 Q))))))) : R_leaf_0 e d k x1 x2 x3 M Q := by
  intro o4 o5 o6 o7 o8
  refine xGo.in ?_
  refine And.intro (rs_ob hs) ?_
  refine And.intro (xi_ld (rs_24 hs) (h.1)) ?_
  replace h := h.2
  refine And.intro (rs_ob hs) ?_
  refine And.intro (rs_ob hs) ?_
  refine And.intro (xi_ld (rs_20 hs) (h.1)) ?_
  replace h := h.2
  refine And.intro (rs_ob hs) ?_
  refine And.intro (rs_ob hs) ?_
  refine And.intro (xi_ld (rs_35 hs) (⟨by decide, by decide⟩)) ?_
  refine And.intro (xi_st (rs_35 hs) (⟨by decide, by decide⟩)) ?_
  replace h := h _ rfl
  refine And.intro (h.1) (And.intro (fun c => ?_) (fun c => ?_))
  · replace h := h.2.1 c
    exact h _ _ _
  · replace h := h.2.2 c
    exact h _ _ _
theorem t_leaf_53 {e : yE} {d k : Nat} {x1 x2 x3 x4 x5 s1 : Int} {M : xM} {Q : xM → Prop} (hs : RSh k e) (h :
    R_countNode e d k s1 M (fun y2 M1 => 
    (rg y2) ∧ ((y2 = 0 → 
      (Q M1)) ∧ 
    (¬ (y2 = 0) → 
      ((rg x5) ∧ ((0 ≤ x5 → 
        ((rg (M1 k 44)) ∧ (((M1 k 44) = 0 → 
          (R_leaf_141 e d k x1 x2 x3 M1 Q)) ∧ 
        (¬ ((M1 k 44) = 0) → 
          ((0 ≤ (((16 : Int) * x1) + x5) ∧ (((16 : Int) * x1) + x5) < 128000) ∧ 
          ((0 ≤ (M1 (k + 26) (((16 : Int) * x1) + x5)) ∧ (M1 (k + 26) (((16 : Int) * x1) + x5)) < 1000) ∧ 
          ((0 ≤ (((12 : Int) * (M1 k 43)) + x4) ∧ (((12 : Int) * (M1 k 43)) + x4) < 240) ∧ 
          ((0 ≤ (((16 : Int) * x1) + (M1 (k + 21) (((12 : Int) * (M1 k 43)) + x4))) ∧ (((16 : Int) * x1) + (M1 (k + 21) (((12 : Int) * (M1 k 43)) + x4))) < 128000) ∧ 
          ((0 ≤ (M1 (k + 26) (((16 : Int) * x1) + (M1 (k + 21) (((12 : Int) * (M1 k 43)) + x4)))) ∧ (M1 (k + 26) (((16 : Int) * x1) + (M1 (k + 21) (((12 : Int) * (M1 k 43)) + x4)))) < 1000) ∧ 
          ((0 ≤ (M1 (k + 34) (M1 (k + 26) (((16 : Int) * x1) + x5))) ∧ (M1 (k + 34) (M1 (k + 26) (((16 : Int) * x1) + x5))) < 300) ∧ 
          ((0 ≤ (M1 (k + 34) (M1 (k + 26) (((16 : Int) * x1) + (M1 (k + 21) (((12 : Int) * (M1 k 43)) + x4))))) ∧ (M1 (k + 34) (M1 (k + 26) (((16 : Int) * x1) + (M1 (k + 21) (((12 : Int) * (M1 k 43)) + x4))))) < 300) ∧ 
          ((rg (M1 (k + 6) (M1 (k + 34) (M1 (k + 26) (((16 : Int) * x1) + x5)))) ∧ rg (M1 (k + 6) (M1 (k + 34) (M1 (k + 26) (((16 : Int) * x1) + (M1 (k + 21) (((12 : Int) * (M1 k 43)) + x4))))))) ∧ (((M1 (k + 6) (M1 (k + 34) (M1 (k + 26) (((16 : Int) * x1) + (M1 (k + 21) (((12 : Int) * (M1 k 43)) + x4)))))) ≤ (M1 (k + 6) (M1 (k + 34) (M1 (k + 26) (((16 : Int) * x1) + x5)))) → 
            (R_leaf_141 e d k x1 x2 x3 M1 Q)) ∧ 
          (¬ ((M1 (k + 6) (M1 (k + 34) (M1 (k + 26) (((16 : Int) * x1) + (M1 (k + 21) (((12 : Int) * (M1 k 43)) + x4)))))) ≤ (M1 (k + 6) (M1 (k + 34) (M1 (k + 26) (((16 : Int) * x1) + x5))))) → 
            (Q M1))))))))))))))) ∧ 
      (¬ (0 ≤ x5) → 
        (Q M1)))))))) : R_leaf_53 e d k x1 x2 x3 x4 x5 s1 M Q := by
  intro o6 o7 o8
  refine xGo.in ?_
  refine And.intro ⟨Nat.le_of_ble_eq_true rfl, Nat.le_of_ble_eq_true rfl, rs_ob hs⟩ ?_
  refine yI_use h (fun y2 M1 h => ?_)
  refine And.intro (h.1) (And.intro (fun c => ?_) (fun c => ?_))
  · replace h := h.2.1 c
    exact yV_ret (r := .inl 0) h
  · replace h := h.2.2 c
    refine And.intro (h.1) (And.intro (fun c => ?_) (fun c => ?_))
    · replace h := h.2.1 c
      refine And.intro (rs_ob hs) ?_
      refine And.intro (h.1) (And.intro (fun c => ?_) (fun c => ?_))
      · replace h := h.2.1 c
        exact h _ _ _ _ _
      · replace h := h.2.2 c
        refine And.intro (rs_ob hs) ?_
        refine And.intro (rs_ob hs) ?_
        refine And.intro (xi_ld (rs_26 hs) (h.1)) ?_
        replace h := h.2
        refine And.intro (xi_ld (rs_34 hs) (h.1)) ?_
        replace h := h.2
        refine And.intro (rs_ob hs) ?_
        refine And.intro (rs_ob hs) ?_
        refine And.intro (rs_ob hs) ?_
        refine And.intro (rs_ob hs) ?_
        refine And.intro (xi_ld (rs_21 hs) (h.1)) ?_
        replace h := h.2
        refine And.intro (xi_ld (rs_26 hs) (h.1)) ?_
        replace h := h.2
        refine And.intro (xi_ld (rs_34 hs) (h.1)) ?_
        replace h := h.2
        refine And.intro (rs_ob hs) ?_
        refine And.intro (xi_ld (rs_6 hs) (h.1)) ?_
        replace h := h.2
        refine And.intro (rs_ob hs) ?_
        refine And.intro (xi_ld (rs_6 hs) (h.1)) ?_
        replace h := h.2
        refine And.intro (⟨h.1.1, h.1.2⟩) (And.intro (fun c => ?_) (fun c => ?_))
        · replace h := h.2.1 c
          exact h _ _ _ _ _
        · replace h := h.2.2 c
          exact yV_ret (r := .inl 0) h
    · replace h := h.2.2 c
      exact yV_ret (r := .inl 0) h
theorem t_leaf_141 {e : yE} {d k : Nat} {x1 x2 x3 : Int} {M : xM} {Q : xM → Prop} (hs : RSh k e) (h :
    R_leaf_152 e d k x2 x3 (M k 31) (x1 + (1 : Int)) M Q) : R_leaf_141 e d k x1 x2 x3 M Q := by
  intro o4 o5 o6 o7 o8
  refine xGo.in ?_
  refine And.intro (rs_ob hs) ?_
  exact h _ _ _ _
theorem t_leaf_152 {e : yE} {d k : Nat} {x2 x3 x6 x7 : Int} {M : xM} {Q : xM → Prop} (hs : RSh k e) (h :
    (rg x7 ∧ rg x6) ∧ ((x6 ≤ x7 → 
      (R_node e d k x6 x2 x3 M (fun M1 => 
      Q M1))) ∧ 
    (¬ (x6 ≤ x7) → 
      ((0 ≤ x7 ∧ x7 < 8000) ∧ 
      (R_pushRow e d k (M (k + 24) x7) x3 M (fun y3 M2 => 
      R_copyRow e d k x7 y3 x3 M2 (fun M4 => 
      R_leaf_152 e d k x2 x3 x6 (x7 + 1) M4 Q))))))) : R_leaf_152 e d k x2 x3 x6 x7 M Q := by
  intro o1 o4 o5 o8
  refine xGo.in ?_
  refine And.intro (⟨h.1.1, h.1.2⟩) (And.intro (fun c => ?_) (fun c => ?_))
  · replace h := h.2.1 c
    refine And.intro ⟨Nat.le_of_ble_eq_true rfl, Nat.le_of_ble_eq_true rfl, rs_ob hs⟩ ?_
    refine yV_use h (fun _ M1 h => ?_)
    exact yV_ret (r := .inl 0) h
  · replace h := h.2.2 c
    refine And.intro (rs_ob hs) ?_
    refine And.intro (xi_ld (rs_24 hs) (h.1)) ?_
    replace h := h.2
    refine And.intro ⟨Nat.le_of_ble_eq_true rfl, Nat.le_of_ble_eq_true rfl, rs_ob hs⟩ ?_
    refine yI_use h (fun y3 M2 h => ?_)
    refine And.intro ⟨Nat.le_of_ble_eq_true rfl, Nat.le_of_ble_eq_true rfl, rs_ob hs⟩ ?_
    refine yV_use h (fun _ M4 h => ?_)
    exact h _ _ _ _
theorem t_leaf {e : yE} {d k : Nat} {x1 : Int} {x2 : Int} {x3 : Int} {M : xM} {Q : xM → Prop} (h : R_leaf_0 e d k x1 x2 x3 M Q) : R_leaf e (d + 1) k x1 x2 x3 M Q := h _ _ _ _ _
def R_test_0 (e : yE) (d k : Nat) (x1 x2 x3 x4 : Int) (M : xM) (Q : xM → Prop) : Prop := ∀ (o5 o6 o7 o8 o9 o10 o11 o12 o13 o14 o15 o16 : Option xV), xGo xft xNf xmt xtr d 143 0 [some (.inr (some k)), some (.inl x1), some (.inl x2), some (.inl x3), some (.inl x4), o5, o6, o7, o8, o9, o10, o11, o12, o13, o14, o15, o16] [] (yS e M) (yV e Q)
def R_test_40 (e : yE) (d k : Nat) (x1 x2 x3 x4 x5 x6 x7 x8 x9 x10 x11 x12 : Int) (M : xM) (Q : xM → Prop) : Prop := ∀ (o13 o14 o15 o16 : Option xV), xGo xft xNf xmt xtr d 143 40 [some (.inr (some k)), some (.inl x1), some (.inl x2), some (.inl x3), some (.inl x4), some (.inl x5), some (.inl x6), some (.inl x7), some (.inl x8), some (.inl x9), some (.inl x10), some (.inl x11), some (.inl x12), o13, o14, o15, o16] [] (yS e M) (yV e Q)
def R_test_61 (e : yE) (d k : Nat) (x1 x2 x3 x4 x5 x6 x7 x8 x9 x10 x11 x12 x13 x14 : Int) (M : xM) (Q : xM → Prop) : Prop := ∀ (o15 o16 : Option xV), xGo xft xNf xmt xtr d 143 61 [some (.inr (some k)), some (.inl x1), some (.inl x2), some (.inl x3), some (.inl x4), some (.inl x5), some (.inl x6), some (.inl x7), some (.inl x8), some (.inl x9), some (.inl x10), some (.inl x11), some (.inl x12), some (.inl x13), some (.inl x14), o15, o16] [] (yS e M) (yV e Q)
def R_test_104 (e : yE) (d k : Nat) (x1 x2 x3 x4 x5 x6 x7 x8 x9 x10 x11 x12 x13 x14 x15 s0 : Int) (M : xM) (Q : xM → Prop) : Prop := ∀ (o16 : Option xV), xGo xft xNf xmt xtr d 143 104 [some (.inr (some k)), some (.inl x1), some (.inl x2), some (.inl x3), some (.inl x4), some (.inl x5), some (.inl x6), some (.inl x7), some (.inl x8), some (.inl x9), some (.inl x10), some (.inl x11), some (.inl x12), some (.inl x13), some (.inl x14), some (.inl x15), o16] [.inl s0] (yS e M) (yV e Q)
def R_test_128 (e : yE) (d k : Nat) (x1 x2 x3 x4 x5 x6 x7 x8 x9 x11 x12 x14 x15 : Int) (M : xM) (Q : xM → Prop) : Prop := ∀ (o10 o13 o16 : Option xV), xGo xft xNf xmt xtr d 143 128 [some (.inr (some k)), some (.inl x1), some (.inl x2), some (.inl x3), some (.inl x4), some (.inl x5), some (.inl x6), some (.inl x7), some (.inl x8), some (.inl x9), o10, some (.inl x11), some (.inl x12), o13, some (.inl x14), some (.inl x15), o16] [] (yS e M) (yV e Q)
def R_test_185 (e : yE) (d k : Nat) (x1 x2 x3 x4 x5 x6 x7 x8 x9 x10 x11 x13 : Int) (M : xM) (Q : xM → Prop) : Prop := ∀ (o12 o14 o15 o16 : Option xV), xGo xft xNf xmt xtr d 143 185 [some (.inr (some k)), some (.inl x1), some (.inl x2), some (.inl x3), some (.inl x4), some (.inl x5), some (.inl x6), some (.inl x7), some (.inl x8), some (.inl x9), some (.inl x10), some (.inl x11), o12, some (.inl x13), o14, o15, o16] [] (yS e M) (yV e Q)
def R_test_205 (e : yE) (d k : Nat) (x1 x2 x3 x4 x5 x6 x7 x8 x12 : Int) (M : xM) (Q : xM → Prop) : Prop := ∀ (o9 o10 o11 o13 o14 o15 o16 : Option xV), xGo xft xNf xmt xtr d 143 205 [some (.inr (some k)), some (.inl x1), some (.inl x2), some (.inl x3), some (.inl x4), some (.inl x5), some (.inl x6), some (.inl x7), some (.inl x8), o9, o10, o11, some (.inl x12), o13, o14, o15, o16] [] (yS e M) (yV e Q)
def R_test_222 (e : yE) (d k : Nat) (x1 x2 x3 x4 x5 x7 x12 : Int) (M : xM) (Q : xM → Prop) : Prop := ∀ (o6 o8 o9 o10 o11 o13 o14 o15 o16 : Option xV), xGo xft xNf xmt xtr d 143 222 [some (.inr (some k)), some (.inl x1), some (.inl x2), some (.inl x3), some (.inl x4), some (.inl x5), o6, some (.inl x7), o8, o9, o10, o11, some (.inl x12), o13, o14, o15, o16] [] (yS e M) (yV e Q)
def R_test_241 (e : yE) (d k : Nat) (x1 x2 x3 x4 x5 x7 : Int) (M : xM) (Q : xM → Prop) : Prop := ∀ (o6 o8 o9 o10 o11 o12 o13 o14 o15 o16 : Option xV), xGo xft xNf xmt xtr d 143 241 [some (.inr (some k)), some (.inl x1), some (.inl x2), some (.inl x3), some (.inl x4), some (.inl x5), o6, some (.inl x7), o8, o9, o10, o11, o12, o13, o14, o15, o16] [] (yS e M) (yV e Q)
theorem t_test_0 {e : yE} {d k : Nat} {x1 x2 x3 x4 : Int} {M : xM} {Q : xM → Prop} (hs : RSh k e) (h :
    (0 ≤ (x3 + x2) ∧ (x3 + x2) < 100000) ∧ 
    ((0 ≤ (M (k + 28) (x3 + x2)) ∧ (M (k + 28) (x3 + x2)) < 1000) ∧ 
    (R_test_40 e d k x1 x2 x3 x4 (M (k + 28) (x3 + x2)) (M (k + 29) (M (k + 28) (x3 + x2))) (M k 31) (0 : Int) (-1 : Int) (1 : Int) (1 : Int) (0 : Int) M Q))) : R_test_0 e d k x1 x2 x3 x4 M Q := by
  intro o5 o6 o7 o8 o9 o10 o11 o12 o13 o14 o15 o16
  refine xGo.in ?_
  refine And.intro (rs_ob hs) ?_
  refine And.intro (xi_ld (rs_28 hs) (h.1)) ?_
  replace h := h.2
  refine And.intro (rs_ob hs) ?_
  refine And.intro (xi_ld (rs_29 hs) (h.1)) ?_
  replace h := h.2
  refine And.intro (rs_ob hs) ?_
  exact h _ _ _ _
theorem t_test_40 {e : yE} {d k : Nat} {x1 x2 x3 x4 x5 x6 x7 x8 x9 x10 x11 x12 : Int} {M : xM} {Q : xM → Prop} (hs : RSh k e) (h :
    (rg x10) ∧ ((x10 = 0 → 
      (R_test_205 e d k x1 x2 x3 x4 x5 x6 x7 x8 x12 M Q)) ∧ 
    (¬ (x10 = 0) → 
      ((rg (M k 45)) ∧ ((¬ (M k 45) = 0 → 
        (R_test_205 e d k x1 x2 x3 x4 x5 x6 x7 x8 x12 M Q)) ∧ 
      (¬ (¬ (M k 45) = 0) → 
        (R_test_61 e d k x1 x2 x3 x4 x5 x6 x7 x8 x9 (0 : Int) x11 x12 (0 : Int) x1 M Q))))))) : R_test_40 e d k x1 x2 x3 x4 x5 x6 x7 x8 x9 x10 x11 x12 M Q := by
  intro o13 o14 o15 o16
  refine xGo.in ?_
  refine And.intro (h.1) (And.intro (fun c => ?_) (fun c => ?_))
  · replace h := h.2.1 c
    exact h _ _ _ _ _ _ _
  · replace h := h.2.2 c
    refine And.intro (rs_ob hs) ?_
    refine And.intro (h.1) (And.intro (fun c => ?_) (fun c => ?_))
    · replace h := h.2.1 c
      exact h _ _ _ _ _ _ _
    · replace h := h.2.2 c
      exact h _ _
theorem t_test_61 {e : yE} {d k : Nat} {x1 x2 x3 x4 x5 x6 x7 x8 x9 x10 x11 x12 x13 x14 : Int} {M : xM} {Q : xM → Prop} (hs : RSh k e) (h :
    (rg x14 ∧ rg x7) ∧ ((x7 ≤ x14 → 
      ((rg x10) ∧ ((x10 = 0 → 
        (R_test_40 e d k x1 x2 x3 x4 x5 x6 x7 x8 x9 x10 x11 x12 M Q)) ∧ 
      (¬ (x10 = 0) → 
        ((rg (M k 44)) ∧ (((M k 44) = 0 → 
          (R_test_185 e d k x1 x2 x3 x4 x5 x6 x7 (x8 + 1) x13 x10 (0 : Int) x13 M Q)) ∧ 
        (¬ ((M k 44) = 0) → 
          ((0 ≤ x5 ∧ x5 < 1000) ∧ 
          ((0 ≤ (M (k + 34) x5) ∧ (M (k + 34) x5) < 300) ∧ 
          ((rg (M (k + 6) (M (k + 34) x5)) ∧ rg x13) ∧ ((¬ (M (k + 6) (M (k + 34) x5)) = x13 → 
            (R_test_40 e d k x1 x2 x3 x4 x5 x6 x7 (x8 + 1) x13 x10 (0 : Int) x12 M Q)) ∧ 
          (¬ (¬ (M (k + 6) (M (k + 34) x5)) = x13) → 
            (R_test_185 e d k x1 x2 x3 x4 x5 x6 x7 (x8 + 1) x13 x10 (0 : Int) x13 M Q))))))))))))) ∧ 
    (¬ (x7 ≤ x14) → 
      (R_cell e d k x14 x2 M (fun y2 M1 => 
      (rg y2) ∧ ((y2 < 0 → 
        (R_test_104 e d k x1 x2 x3 x4 x5 x6 x7 x8 x9 x10 x11 x12 x13 x14 y2 (0 : Int) M1 Q)) ∧ 
      (¬ (y2 < 0) → 
        ((rg x11) ∧ ((¬ x11 = 0 → 
          (R_test_104 e d k x1 x2 x3 x4 x5 x6 x7 x8 x9 x10 x11 x12 x13 x14 y2 (1 : Int) M1 Q)) ∧ 
        (¬ (¬ x11 = 0) → 
          ((0 ≤ y2 ∧ y2 < 300) ∧ 
          ((rg (M1 (k + 11) y2) ∧ rg x9) ∧ (((M1 (k + 11) y2) ≤ x9 → 
            (R_test_104 e d k x1 x2 x3 x4 x5 x6 x7 x8 x9 x10 x11 x12 x13 x14 y2 (0 : Int) M1 Q)) ∧ 
          (¬ ((M1 (k + 11) y2) ≤ x9) → 
            (R_test_104 e d k x1 x2 x3 x4 x5 x6 x7 x8 x9 x10 x11 x12 x13 x14 y2 (1 : Int) M1 Q))))))))))))))) : R_test_61 e d k x1 x2 x3 x4 x5 x6 x7 x8 x9 x10 x11 x12 x13 x14 M Q := by
  intro o15 o16
  refine xGo.in ?_
  refine And.intro (⟨h.1.1, h.1.2⟩) (And.intro (fun c => ?_) (fun c => ?_))
  · replace h := h.2.1 c
    refine And.intro (h.1) (And.intro (fun c => ?_) (fun c => ?_))
    · replace h := h.2.1 c
      exact h _ _ _ _
    · replace h := h.2.2 c
      refine And.intro (rs_ob hs) ?_
      refine And.intro (h.1) (And.intro (fun c => ?_) (fun c => ?_))
      · replace h := h.2.1 c
        exact h _ _ _ _
      · replace h := h.2.2 c
        refine And.intro (rs_ob hs) ?_
        refine And.intro (rs_ob hs) ?_
        refine And.intro (xi_ld (rs_34 hs) (h.1)) ?_
        replace h := h.2
        refine And.intro (xi_ld (rs_6 hs) (h.1)) ?_
        replace h := h.2
        refine And.intro (⟨h.1.1, h.1.2⟩) (And.intro (fun c => ?_) (fun c => ?_))
        · replace h := h.2.1 c
          exact h _ _ _ _
        · replace h := h.2.2 c
          exact h _ _ _ _
  · replace h := h.2.2 c
    refine And.intro ⟨Nat.le_of_ble_eq_true rfl, Nat.le_of_ble_eq_true rfl, rs_ob hs⟩ ?_
    refine yI_use h (fun y2 M1 h => ?_)
    refine And.intro (h.1) (And.intro (fun c => ?_) (fun c => ?_))
    · replace h := h.2.1 c
      exact h _
    · replace h := h.2.2 c
      refine And.intro (h.1) (And.intro (fun c => ?_) (fun c => ?_))
      · replace h := h.2.1 c
        exact h _
      · replace h := h.2.2 c
        refine And.intro (rs_ob hs) ?_
        refine And.intro (xi_ld (rs_11 hs) (h.1)) ?_
        replace h := h.2
        refine And.intro (⟨h.1.1, h.1.2⟩) (And.intro (fun c => ?_) (fun c => ?_))
        · replace h := h.2.1 c
          exact h _
        · replace h := h.2.2 c
          exact h _
theorem t_test_104 {e : yE} {d k : Nat} {x1 x2 x3 x4 x5 x6 x7 x8 x9 x10 x11 x12 x13 x14 x15 s0 : Int} {M : xM} {Q : xM → Prop} (hs : RSh k e) (h :
    (rg s0) ∧ ((s0 = 0 → 
      (R_test_61 e d k x1 x2 x3 x4 x5 x6 x7 x8 x9 x10 x11 x12 x13 (x14 + 1) M Q)) ∧ 
    (¬ (s0 = 0) → 
      ((rg x10) ∧ ((x10 = 0 → 
        (R_test_128 e d k x1 x2 x3 x4 x5 x6 x7 x8 x9 x11 x12 x14 x15 M Q)) ∧ 
      (¬ (x10 = 0) → 
        ((0 ≤ x15 ∧ x15 < 300) ∧ 
        ((rg (M (k + 11) x15) ∧ rg x13) ∧ ((x13 ≤ (M (k + 11) x15) → 
          (R_test_61 e d k x1 x2 x3 x4 x5 x6 x7 x8 x9 x10 x11 x12 x13 (x14 + 1) M Q)) ∧ 
        (¬ (x13 ≤ (M (k + 11) x15)) → 
          (R_test_128 e d k x1 x2 x3 x4 x5 x6 x7 x8 x9 x11 x12 x14 x15 M Q))))))))))) : R_test_104 e d k x1 x2 x3 x4 x5 x6 x7 x8 x9 x10 x11 x12 x13 x14 x15 s0 M Q := by
  intro o16
  refine xGo.in ?_
  refine And.intro (h.1) (And.intro (fun c => ?_) (fun c => ?_))
  · replace h := h.2.1 c
    exact h _ _
  · replace h := h.2.2 c
    refine And.intro (h.1) (And.intro (fun c => ?_) (fun c => ?_))
    · replace h := h.2.1 c
      exact h _ _ _
    · replace h := h.2.2 c
      refine And.intro (rs_ob hs) ?_
      refine And.intro (xi_ld (rs_11 hs) (h.1)) ?_
      replace h := h.2
      refine And.intro (⟨h.1.1, h.1.2⟩) (And.intro (fun c => ?_) (fun c => ?_))
      · replace h := h.2.1 c
        exact h _ _
      · replace h := h.2.2 c
        exact h _ _ _
theorem t_test_128 {e : yE} {d k : Nat} {x1 x2 x3 x4 x5 x6 x7 x8 x9 x11 x12 x14 x15 : Int} {M : xM} {Q : xM → Prop} (hs : RSh k e) (h :
    (0 ≤ x15 ∧ x15 < 300) ∧ 
    (R_test_61 e d k x1 x2 x3 x4 x5 x6 x7 x8 x9 (1 : Int) x11 x12 (M (k + 11) x15) (x14 + 1) M Q)) : R_test_128 e d k x1 x2 x3 x4 x5 x6 x7 x8 x9 x11 x12 x14 x15 M Q := by
  intro o10 o13 o16
  refine xGo.in ?_
  refine And.intro (rs_ob hs) ?_
  refine And.intro (xi_ld (rs_11 hs) (h.1)) ?_
  replace h := h.2
  exact h _ _
theorem t_test_185 {e : yE} {d k : Nat} {x1 x2 x3 x4 x5 x6 x7 x8 x9 x10 x11 x13 : Int} {M : xM} {Q : xM → Prop} (hs : RSh k e) (h :
    R_branch e d k x1 x7 x2 x13 (0 : Int) x3 x4 M (fun M1 => 
    R_test_40 e d k x1 x2 x3 x4 x5 x6 x7 x8 x9 x10 x11 (1 : Int) M1 Q)) : R_test_185 e d k x1 x2 x3 x4 x5 x6 x7 x8 x9 x10 x11 x13 M Q := by
  intro o12 o14 o15 o16
  refine xGo.in ?_
  refine And.intro ⟨Nat.le_of_ble_eq_true rfl, Nat.le_of_ble_eq_true rfl, rs_ob hs⟩ ?_
  refine yV_use h (fun _ M1 h => ?_)
  exact h _ _ _ _
theorem t_test_205 {e : yE} {d k : Nat} {x1 x2 x3 x4 x5 x6 x7 x8 x12 : Int} {M : xM} {Q : xM → Prop} (hs : RSh k e) (h :
    (rg x6) ∧ ((x6 = 0 → 
      (R_test_222 e d k x1 x2 x3 x4 x5 x7 x12 M Q)) ∧ 
    (¬ (x6 = 0) → 
      ((0 ≤ x6 ∧ x6 < 8) ∧ 
      ((rg x8 ∧ rg (M (k + 1) x6)) ∧ (((M (k + 1) x6) ≤ x8 → 
        ((0 ≤ x5 ∧ x5 < 1000) ∧ 
        (∀ M1 : xM, M1 = xup M (k + 30) x5 (0 : Int) → 
        (Q M1)))) ∧ 
      (¬ ((M (k + 1) x6) ≤ x8) → 
        (R_test_222 e d k x1 x2 x3 x4 x5 x7 x12 M Q)))))))) : R_test_205 e d k x1 x2 x3 x4 x5 x6 x7 x8 x12 M Q := by
  intro o9 o10 o11 o13 o14 o15 o16
  refine xGo.in ?_
  refine And.intro (h.1) (And.intro (fun c => ?_) (fun c => ?_))
  · replace h := h.2.1 c
    exact h _ _ _ _ _ _ _ _ _
  · replace h := h.2.2 c
    refine And.intro (rs_ob hs) ?_
    refine And.intro (xi_ld (rs_1 hs) (h.1)) ?_
    replace h := h.2
    refine And.intro (⟨h.1.1, h.1.2⟩) (And.intro (fun c => ?_) (fun c => ?_))
    · replace h := h.2.1 c
      refine And.intro (rs_ob hs) ?_
      refine And.intro (xi_stv (rs_30 hs) (h.1) (by decide)) ?_
      replace h := h.2
      replace h := h _ rfl
      exact yV_ret (r := .inl 0) h
    · replace h := h.2.2 c
      exact h _ _ _ _ _ _ _ _ _
theorem t_test_222 {e : yE} {d k : Nat} {x1 x2 x3 x4 x5 x7 x12 : Int} {M : xM} {Q : xM → Prop} (hs : RSh k e) (h :
    (rg (M k 45)) ∧ ((¬ (M k 45) = 0 → 
      ((0 ≤ x5 ∧ x5 < 1000) ∧ 
      (∀ M1 : xM, M1 = xup M (k + 30) x5 (0 : Int) → 
      (Q M1)))) ∧ 
    (¬ (¬ (M k 45) = 0) → 
      ((rg (M k 44)) ∧ (((M k 44) = 0 → 
        (R_test_241 e d k x1 x2 x3 x4 x5 x7 M Q)) ∧ 
      (¬ ((M k 44) = 0) → 
        ((rg x12) ∧ ((¬ x12 = 0 → 
          ((0 ≤ x5 ∧ x5 < 1000) ∧ 
          (∀ M2 : xM, M2 = xup M (k + 30) x5 (0 : Int) → 
          (Q M2)))) ∧ 
        (¬ (¬ x12 = 0) → 
          (R_test_241 e d k x1 x2 x3 x4 x5 x7 M Q)))))))))) : R_test_222 e d k x1 x2 x3 x4 x5 x7 x12 M Q := by
  intro o6 o8 o9 o10 o11 o13 o14 o15 o16
  refine xGo.in ?_
  refine And.intro (rs_ob hs) ?_
  refine And.intro (h.1) (And.intro (fun c => ?_) (fun c => ?_))
  · replace h := h.2.1 c
    refine And.intro (rs_ob hs) ?_
    refine And.intro (xi_stv (rs_30 hs) (h.1) (by decide)) ?_
    replace h := h.2
    replace h := h _ rfl
    exact yV_ret (r := .inl 0) h
  · replace h := h.2.2 c
    refine And.intro (rs_ob hs) ?_
    refine And.intro (h.1) (And.intro (fun c => ?_) (fun c => ?_))
    · replace h := h.2.1 c
      exact h _ _ _ _ _ _ _ _ _ _
    · replace h := h.2.2 c
      refine And.intro (h.1) (And.intro (fun c => ?_) (fun c => ?_))
      · replace h := h.2.1 c
        refine And.intro (rs_ob hs) ?_
        refine And.intro (xi_stv (rs_30 hs) (h.1) (by decide)) ?_
        replace h := h.2
        replace h := h _ rfl
        exact yV_ret (r := .inl 0) h
      · replace h := h.2.2 c
        exact h _ _ _ _ _ _ _ _ _ _
theorem t_test_241 {e : yE} {d k : Nat} {x1 x2 x3 x4 x5 x7 : Int} {M : xM} {Q : xM → Prop} (hs : RSh k e) (h :
    R_leastOther e d k x1 x7 x2 M (fun y2 M1 => 
    R_branch e d k x1 x7 x2 y2 (1 : Int) x3 x4 M1 (fun M3 => 
    (0 ≤ x5 ∧ x5 < 1000) ∧ 
    (∀ M4 : xM, M4 = xup M3 (k + 30) x5 (0 : Int) → 
    (Q M4))))) : R_test_241 e d k x1 x2 x3 x4 x5 x7 M Q := by
  intro o6 o8 o9 o10 o11 o12 o13 o14 o15 o16
  refine xGo.in ?_
  refine And.intro ⟨Nat.le_of_ble_eq_true rfl, Nat.le_of_ble_eq_true rfl, rs_ob hs⟩ ?_
  refine yI_use h (fun y2 M1 h => ?_)
  refine And.intro ⟨Nat.le_of_ble_eq_true rfl, Nat.le_of_ble_eq_true rfl, rs_ob hs⟩ ?_
  refine yV_use h (fun _ M3 h => ?_)
  refine And.intro (rs_ob hs) ?_
  refine And.intro (xi_stv (rs_30 hs) (h.1) (by decide)) ?_
  replace h := h.2
  replace h := h _ rfl
  exact yV_ret (r := .inl 0) h
theorem t_test {e : yE} {d k : Nat} {x1 : Int} {x2 : Int} {x3 : Int} {x4 : Int} {M : xM} {Q : xM → Prop} (h : R_test_0 e d k x1 x2 x3 x4 M Q) : R_test e (d + 1) k x1 x2 x3 x4 M Q := h _ _ _ _ _ _ _ _ _ _ _ _
def R_leastOther_0 (e : yE) (d k : Nat) (x1 x2 x3 : Int) (M : xM) (Q : Int → xM → Prop) : Prop := ∀ (o4 o5 o6 : Option xV), xGo xft xNf xmt xtr d 144 0 [some (.inr (some k)), some (.inl x1), some (.inl x2), some (.inl x3), o4, o5, o6] [] (yS e M) (yI e Q)
def R_leastOther_6 (e : yE) (d k : Nat) (x1 x2 x3 x4 x5 : Int) (M : xM) (Q : Int → xM → Prop) : Prop := ∀ (o6 : Option xV), xGo xft xNf xmt xtr d 144 6 [some (.inr (some k)), some (.inl x1), some (.inl x2), some (.inl x3), some (.inl x4), some (.inl x5), o6] [] (yS e M) (yI e Q)
def R_leastOther_17 (e : yE) (d k : Nat) (x1 x2 x3 x4 x5 x6 : Int) (M : xM) (Q : Int → xM → Prop) : Prop := xGo xft xNf xmt xtr d 144 17 [some (.inr (some k)), some (.inl x1), some (.inl x2), some (.inl x3), some (.inl x4), some (.inl x5), some (.inl x6)] [] (yS e M) (yI e Q)
theorem t_leastOther_0 {e : yE} {d k : Nat} {x1 x2 x3 : Int} {M : xM} {Q : Int → xM → Prop} (hs : RSh k e) (h :
    R_leastOther_6 e d k x1 x2 x3 (0 : Int) (1 : Int) M Q) : R_leastOther_0 e d k x1 x2 x3 M Q := by
  intro o4 o5 o6
  refine xGo.in ?_
  exact h _
theorem t_leastOther_6 {e : yE} {d k : Nat} {x1 x2 x3 x4 x5 : Int} {M : xM} {Q : Int → xM → Prop} (hs : RSh k e) (h :
    (rg x5) ∧ ((x5 = 0 → 
      (Q x4 M)) ∧ 
    (¬ (x5 = 0) → 
      (R_leastOther_17 e d k x1 x2 x3 x4 (0 : Int) x1 M Q)))) : R_leastOther_6 e d k x1 x2 x3 x4 x5 M Q := by
  intro o6
  refine xGo.in ?_
  refine And.intro (h.1) (And.intro (fun c => ?_) (fun c => ?_))
  · replace h := h.2.1 c
    exact yI_ret h
  · replace h := h.2.2 c
    exact h
theorem t_leastOther_17 {e : yE} {d k : Nat} {x1 x2 x3 x4 x5 x6 : Int} {M : xM} {Q : Int → xM → Prop} (hs : RSh k e) (h :
    (rg x6 ∧ rg x2) ∧ ((x2 ≤ x6 → 
      ((rg x5) ∧ ((x5 = 0 → 
        (R_leastOther_6 e d k x1 x2 x3 x4 x5 M Q)) ∧ 
      (¬ (x5 = 0) → 
        (R_leastOther_6 e d k x1 x2 x3 (x4 + (1 : Int)) x5 M Q))))) ∧ 
    (¬ (x2 ≤ x6) → 
      ((rg x5) ∧ ((¬ x5 = 0 → 
        (R_leastOther_17 e d k x1 x2 x3 x4 (1 : Int) (x6 + 1) M Q)) ∧ 
      (¬ (¬ x5 = 0) → 
        (R_cell e d k x6 x3 M (fun y2 M1 => 
        (rg y2) ∧ ((y2 < 0 → 
          (R_leastOther_17 e d k x1 x2 x3 x4 (0 : Int) (x6 + 1) M1 Q)) ∧ 
        (¬ (y2 < 0) → 
          (R_cell e d k x6 x3 M1 (fun y4 M3 => 
          (0 ≤ y4 ∧ y4 < 300) ∧ 
          ((rg (M3 (k + 11) y4) ∧ rg x4) ∧ ((¬ (M3 (k + 11) y4) = x4 → 
            (R_leastOther_17 e d k x1 x2 x3 x4 (0 : Int) (x6 + 1) M3 Q)) ∧ 
          (¬ (¬ (M3 (k + 11) y4) = x4) → 
            (R_leastOther_17 e d k x1 x2 x3 x4 (1 : Int) (x6 + 1) M3 Q)))))))))))))))) : R_leastOther_17 e d k x1 x2 x3 x4 x5 x6 M Q := by
  refine xGo.in ?_
  refine And.intro (⟨h.1.1, h.1.2⟩) (And.intro (fun c => ?_) (fun c => ?_))
  · replace h := h.2.1 c
    refine And.intro (h.1) (And.intro (fun c => ?_) (fun c => ?_))
    · replace h := h.2.1 c
      exact h _
    · replace h := h.2.2 c
      exact h _
  · replace h := h.2.2 c
    refine And.intro (h.1) (And.intro (fun c => ?_) (fun c => ?_))
    · replace h := h.2.1 c
      exact h
    · replace h := h.2.2 c
      refine And.intro ⟨Nat.le_of_ble_eq_true rfl, Nat.le_of_ble_eq_true rfl, rs_ob hs⟩ ?_
      refine yI_use h (fun y2 M1 h => ?_)
      refine And.intro (h.1) (And.intro (fun c => ?_) (fun c => ?_))
      · replace h := h.2.1 c
        exact h
      · replace h := h.2.2 c
        refine And.intro (rs_ob hs) ?_
        refine And.intro ⟨Nat.le_of_ble_eq_true rfl, Nat.le_of_ble_eq_true rfl, rs_ob hs⟩ ?_
        refine yI_use h (fun y4 M3 h => ?_)
        refine And.intro (xi_ld (rs_11 hs) (h.1)) ?_
        replace h := h.2
        refine And.intro (⟨h.1.1, h.1.2⟩) (And.intro (fun c => ?_) (fun c => ?_))
        · replace h := h.2.1 c
          exact h
        · replace h := h.2.2 c
          exact h
theorem t_leastOther {e : yE} {d k : Nat} {x1 : Int} {x2 : Int} {x3 : Int} {M : xM} {Q : Int → xM → Prop} (h : R_leastOther_0 e d k x1 x2 x3 M Q) : R_leastOther e (d + 1) k x1 x2 x3 M Q := h _ _ _
def R_branch_0 (e : yE) (d k : Nat) (x1 x2 x3 x4 x5 x6 x7 : Int) (M : xM) (Q : xM → Prop) : Prop := ∀ (o8 o9 o10 o11 o12 o13 o14 o15 o16 : Option xV), xGo xft xNf xmt xtr d 145 0 [some (.inr (some k)), some (.inl x1), some (.inl x2), some (.inl x3), some (.inl x4), some (.inl x5), some (.inl x6), some (.inl x7), o8, o9, o10, o11, o12, o13, o14, o15, o16] [] (yS e M) (yV e Q)
def R_branch_42 (e : yE) (d k : Nat) (x1 x2 x3 x4 x5 x6 x7 x8 x9 s0 : Int) (M : xM) (Q : xM → Prop) : Prop := ∀ (o10 o11 o12 o13 o14 o15 o16 : Option xV), xGo xft xNf xmt xtr d 145 42 [some (.inr (some k)), some (.inl x1), some (.inl x2), some (.inl x3), some (.inl x4), some (.inl x5), some (.inl x6), some (.inl x7), some (.inl x8), some (.inl x9), o10, o11, o12, o13, o14, o15, o16] [.inl s0] (yS e M) (yV e Q)
def R_branch_112 (e : yE) (d k : Nat) (x1 x2 x3 x4 x5 x6 x7 x8 x9 x10 x11 x12 x13 : Int) (M : xM) (Q : xM → Prop) : Prop := ∀ (o14 o15 o16 : Option xV), xGo xft xNf xmt xtr d 145 112 [some (.inr (some k)), some (.inl x1), some (.inl x2), some (.inl x3), some (.inl x4), some (.inl x5), some (.inl x6), some (.inl x7), some (.inl x8), some (.inl x9), some (.inl x10), some (.inl x11), some (.inl x12), some (.inl x13), o14, o15, o16] [] (yS e M) (yV e Q)
def R_branch_144 (e : yE) (d k : Nat) (x1 x2 x3 x4 x5 x6 x7 x8 x9 x10 x11 x12 x13 s0 : Int) (M : xM) (Q : xM → Prop) : Prop := ∀ (o14 o15 o16 : Option xV), xGo xft xNf xmt xtr d 145 144 [some (.inr (some k)), some (.inl x1), some (.inl x2), some (.inl x3), some (.inl x4), some (.inl x5), some (.inl x6), some (.inl x7), some (.inl x8), some (.inl x9), some (.inl x10), some (.inl x11), some (.inl x12), some (.inl x13), o14, o15, o16] [.inl s0] (yS e M) (yV e Q)
def R_branch_181 (e : yE) (d k : Nat) (x1 x2 x3 x4 x5 x6 x7 x8 x9 x10 x11 x12 x13 x14 s0 : Int) (M : xM) (Q : xM → Prop) : Prop := ∀ (o15 o16 : Option xV), xGo xft xNf xmt xtr d 145 181 [some (.inr (some k)), some (.inl x1), some (.inl x2), some (.inl x3), some (.inl x4), some (.inl x5), some (.inl x6), some (.inl x7), some (.inl x8), some (.inl x9), some (.inl x10), some (.inl x11), some (.inl x12), some (.inl x13), some (.inl x14), o15, o16] [.inl s0] (yS e M) (yV e Q)
def R_branch_254 (e : yE) (d k : Nat) (x2 x3 x4 x5 x7 x10 x11 x12 x13 : Int) (M : xM) (Q : xM → Prop) : Prop := ∀ (o1 o6 o8 o9 o14 o15 o16 : Option xV), xGo xft xNf xmt xtr d 145 254 [some (.inr (some k)), o1, some (.inl x2), some (.inl x3), some (.inl x4), some (.inl x5), o6, some (.inl x7), o8, o9, some (.inl x10), some (.inl x11), some (.inl x12), some (.inl x13), o14, o15, o16] [] (yS e M) (yV e Q)
def R_branch_291 (e : yE) (d k : Nat) (x2 x3 x4 x5 x7 x10 x11 x12 x13 x14 : Int) (M : xM) (Q : xM → Prop) : Prop := ∀ (o1 o6 o8 o9 o15 o16 : Option xV), xGo xft xNf xmt xtr d 145 291 [some (.inr (some k)), o1, some (.inl x2), some (.inl x3), some (.inl x4), some (.inl x5), o6, some (.inl x7), o8, o9, some (.inl x10), some (.inl x11), some (.inl x12), some (.inl x13), some (.inl x14), o15, o16] [] (yS e M) (yV e Q)
def R_branch_314 (e : yE) (d k : Nat) (x2 x3 x4 x5 x7 x10 x11 x12 x13 x14 x15 x16 : Int) (M : xM) (Q : xM → Prop) : Prop := ∀ (o1 o6 o8 o9 : Option xV), xGo xft xNf xmt xtr d 145 314 [some (.inr (some k)), o1, some (.inl x2), some (.inl x3), some (.inl x4), some (.inl x5), o6, some (.inl x7), o8, o9, some (.inl x10), some (.inl x11), some (.inl x12), some (.inl x13), some (.inl x14), some (.inl x15), some (.inl x16)] [] (yS e M) (yV e Q)
def R_branch_356 (e : yE) (d k : Nat) (x2 x3 x4 x5 x7 x10 x11 x12 x13 x14 x15 x16 : Int) (M : xM) (Q : xM → Prop) : Prop := ∀ (o1 o6 o8 o9 : Option xV), xGo xft xNf xmt xtr d 145 356 [some (.inr (some k)), o1, some (.inl x2), some (.inl x3), some (.inl x4), some (.inl x5), o6, some (.inl x7), o8, o9, some (.inl x10), some (.inl x11), some (.inl x12), some (.inl x13), some (.inl x14), some (.inl x15), some (.inl x16)] [] (yS e M) (yV e Q)
def R_branch_411 (e : yE) (d k : Nat) (x2 x3 x4 x5 x7 x10 x11 x12 x13 x14 x15 x16 s1 s2 s3 : Int) (M : xM) (Q : xM → Prop) : Prop := ∀ (o1 o6 o8 o9 : Option xV), xGo xft xNf xmt xtr d 145 411 [some (.inr (some k)), o1, some (.inl x2), some (.inl x3), some (.inl x4), some (.inl x5), o6, some (.inl x7), o8, o9, some (.inl x10), some (.inl x11), some (.inl x12), some (.inl x13), some (.inl x14), some (.inl x15), some (.inl x16)] [.inl s3, .inl s2, .inl s1, .inr (some k)] (yS e M) (yV e Q)
def R_branch_427 (e : yE) (d k : Nat) (x2 x3 x4 x5 x7 x10 x11 x12 x13 x14 x15 x16 : Int) (M : xM) (Q : xM → Prop) : Prop := ∀ (o1 o6 o8 o9 : Option xV), xGo xft xNf xmt xtr d 145 427 [some (.inr (some k)), o1, some (.inl x2), some (.inl x3), some (.inl x4), some (.inl x5), o6, some (.inl x7), o8, o9, some (.inl x10), some (.inl x11), some (.inl x12), some (.inl x13), some (.inl x14), some (.inl x15), some (.inl x16)] [] (yS e M) (yV e Q)
theorem t_branch_0 {e : yE} {d k : Nat} {x1 x2 x3 x4 x5 x6 x7 : Int} {M : xM} {Q : xM → Prop} (hs : RSh k e) (h :
    (0 ≤ (x6 + x3) ∧ (x6 + x3) < 100000) ∧ 
    ((0 ≤ (M (k + 28) (x6 + x3)) ∧ (M (k + 28) (x6 + x3)) < 1000) ∧ 
    ((rg x5) ∧ ((¬ x5 = 0 → 
      (R_branch_42 e d k x1 x2 x3 x4 x5 x6 x7 (M (k + 28) (x6 + x3)) (M (k + 29) (M (k + 28) (x6 + x3))) (0 : Int) M Q)) ∧ 
    (¬ (¬ x5 = 0) → 
      ((rg (M (k + 29) (M (k + 28) (x6 + x3)))) ∧ ((¬ (M (k + 29) (M (k + 28) (x6 + x3))) = 0 → 
        (R_countOf e d k (M (k + 29) (M (k + 28) (x6 + x3))) x4 M (fun y2 M1 => 
        R_branch_42 e d k x1 x2 x3 x4 x5 x6 x7 (M (k + 28) (x6 + x3)) (M (k + 29) (M (k + 28) (x6 + x3))) y2 M1 Q))) ∧ 
      (¬ (¬ (M (k + 29) (M (k + 28) (x6 + x3))) = 0) → 
        (R_branch_42 e d k x1 x2 x3 x4 x5 x6 x7 (M (k + 28) (x6 + x3)) (M (k + 29) (M (k + 28) (x6 + x3))) (0 : Int) M Q))))))))) : R_branch_0 e d k x1 x2 x3 x4 x5 x6 x7 M Q := by
  intro o8 o9 o10 o11 o12 o13 o14 o15 o16
  refine xGo.in ?_
  refine And.intro (rs_ob hs) ?_
  refine And.intro (xi_ld (rs_28 hs) (h.1)) ?_
  replace h := h.2
  refine And.intro (rs_ob hs) ?_
  refine And.intro (xi_ld (rs_29 hs) (h.1)) ?_
  replace h := h.2
  refine And.intro (h.1) (And.intro (fun c => ?_) (fun c => ?_))
  · replace h := h.2.1 c
    exact h _ _ _ _ _ _ _
  · replace h := h.2.2 c
    refine And.intro (h.1) (And.intro (fun c => ?_) (fun c => ?_))
    · replace h := h.2.1 c
      refine And.intro ⟨Nat.le_of_ble_eq_true rfl, Nat.le_of_ble_eq_true rfl, rs_ob hs⟩ ?_
      refine yI_use h (fun y2 M1 h => ?_)
      exact h _ _ _ _ _ _ _
    · replace h := h.2.2 c
      exact h _ _ _ _ _ _ _
theorem t_branch_42 {e : yE} {d k : Nat} {x1 x2 x3 x4 x5 x6 x7 x8 x9 s0 : Int} {M : xM} {Q : xM → Prop} (hs : RSh k e) (h :
    ∀ M1 : xM, M1 = xup M k 35 ((((M k 35) + x7) - (1 : Int)) + s0) → 
    ((0 ≤ x8 ∧ x8 < 1000) ∧ 
    (∀ M2 : xM, M2 = xup M1 (k + 30) x8 (1 : Int) → 
    ((0 ≤ x8 ∧ x8 < 1000) ∧ 
    (∀ M3 : xM, M3 = xup M2 (k + 31) x8 x4 → 
    (((0 ≤ x8 ∧ x8 < 1000) ∧ (x5 = 0 ∨ x5 = 1)) ∧ 
    (∀ M4 : xM, M4 = xup M3 (k + 32) x8 x5 → 
    ((0 ≤ x8 ∧ x8 < 1000) ∧ 
    (∀ M5 : xM, M5 = xup M4 (k + 33) x8 (M4 k 42) → 
    (R_branch_112 e d k x1 x2 x3 x4 x5 x6 x7 x8 x9 s0 (M k 35) (M k 42) (0 : Int) M5 Q)))))))))) : R_branch_42 e d k x1 x2 x3 x4 x5 x6 x7 x8 x9 s0 M Q := by
  intro o10 o11 o12 o13 o14 o15 o16
  refine xGo.in ?_
  refine And.intro (rs_ob hs) ?_
  refine And.intro (rs_ob hs) ?_
  refine And.intro (rs_ob hs) ?_
  refine And.intro (rs_ob hs) ?_
  replace h := h _ rfl
  refine And.intro (rs_ob hs) ?_
  refine And.intro (xi_stv (rs_30 hs) (h.1) (by decide)) ?_
  replace h := h.2
  replace h := h _ rfl
  refine And.intro (rs_ob hs) ?_
  refine And.intro (xi_st (rs_31 hs) (h.1)) ?_
  replace h := h.2
  replace h := h _ rfl
  refine And.intro (rs_ob hs) ?_
  refine And.intro (xi_stv (rs_32 hs) (h.1.1) (h.1.2)) ?_
  replace h := h.2
  replace h := h _ rfl
  refine And.intro (rs_ob hs) ?_
  refine And.intro (rs_ob hs) ?_
  refine And.intro (xi_st (rs_33 hs) (h.1)) ?_
  replace h := h.2
  replace h := h _ rfl
  exact h _ _ _
theorem t_branch_112 {e : yE} {d k : Nat} {x1 x2 x3 x4 x5 x6 x7 x8 x9 x10 x11 x12 x13 : Int} {M : xM} {Q : xM → Prop} (hs : RSh k e) (h :
    (rg x13 ∧ rg ((x7 - (1 : Int)) + x10)) ∧ ((((x7 - (1 : Int)) + x10) ≤ x13 → 
      (R_branch_254 e d k x2 x3 x4 x5 x7 x10 x11 x12 x1 M Q)) ∧ 
    (¬ (((x7 - (1 : Int)) + x10) ≤ x13) → 
      ((rg x13 ∧ rg x3) ∧ ((x13 < x3 → 
        (R_branch_144 e d k x1 x2 x3 x4 x5 x6 x7 x8 x9 x10 x11 x12 x13 (0 : Int) M Q)) ∧ 
      (¬ (x13 < x3) → 
        ((rg x13 ∧ rg (x3 + x10)) ∧ (((x3 + x10) ≤ x13 → 
          (R_branch_144 e d k x1 x2 x3 x4 x5 x6 x7 x8 x9 x10 x11 x12 x13 (0 : Int) M Q)) ∧ 
        (¬ ((x3 + x10) ≤ x13) → 
          (R_branch_144 e d k x1 x2 x3 x4 x5 x6 x7 x8 x9 x10 x11 x12 x13 (1 : Int) M Q)))))))))) : R_branch_112 e d k x1 x2 x3 x4 x5 x6 x7 x8 x9 x10 x11 x12 x13 M Q := by
  intro o14 o15 o16
  refine xGo.in ?_
  refine And.intro (⟨h.1.1, h.1.2⟩) (And.intro (fun c => ?_) (fun c => ?_))
  · replace h := h.2.1 c
    exact h _ _ _ _ _ _ _
  · replace h := h.2.2 c
    refine And.intro (⟨h.1.1, h.1.2⟩) (And.intro (fun c => ?_) (fun c => ?_))
    · replace h := h.2.1 c
      exact h _ _ _
    · replace h := h.2.2 c
      refine And.intro (⟨h.1.1, h.1.2⟩) (And.intro (fun c => ?_) (fun c => ?_))
      · replace h := h.2.1 c
        exact h _ _ _
      · replace h := h.2.2 c
        exact h _ _ _
theorem t_branch_144 {e : yE} {d k : Nat} {x1 x2 x3 x4 x5 x6 x7 x8 x9 x10 x11 x12 x13 s0 : Int} {M : xM} {Q : xM → Prop} (hs : RSh k e) (h :
    (rg s0) ∧ ((s0 = 0 → 
      (R_branch_181 e d k x1 x2 x3 x4 x5 x6 x7 x8 x9 x10 x11 x12 x13 s0 (-1 : Int) M Q)) ∧ 
    (¬ (s0 = 0) → 
      ((rg (M k 44)) ∧ (((M k 44) = 0 → 
        (R_branch_181 e d k x1 x2 x3 x4 x5 x6 x7 x8 x9 x10 x11 x12 x13 s0 (-1 : Int) M Q)) ∧ 
      (¬ ((M k 44) = 0) → 
        ((0 ≤ x8 ∧ x8 < 1000) ∧ 
        ((0 ≤ ((((3 : Int) * (M (k + 34) x8)) + x13) - x3) ∧ ((((3 : Int) * (M (k + 34) x8)) + x13) - x3) < 900) ∧ 
        (R_branch_181 e d k x1 x2 x3 x4 x5 x6 x7 x8 x9 x10 x11 x12 x13 s0 (M (k + 7) ((((3 : Int) * (M (k + 34) x8)) + x13) - x3)) M Q))))))))) : R_branch_144 e d k x1 x2 x3 x4 x5 x6 x7 x8 x9 x10 x11 x12 x13 s0 M Q := by
  intro o14 o15 o16
  refine xGo.in ?_
  refine And.intro (h.1) (And.intro (fun c => ?_) (fun c => ?_))
  · replace h := h.2.1 c
    exact h _ _
  · replace h := h.2.2 c
    refine And.intro (rs_ob hs) ?_
    refine And.intro (h.1) (And.intro (fun c => ?_) (fun c => ?_))
    · replace h := h.2.1 c
      exact h _ _
    · replace h := h.2.2 c
      refine And.intro (rs_ob hs) ?_
      refine And.intro (rs_ob hs) ?_
      refine And.intro (xi_ld (rs_34 hs) (h.1)) ?_
      replace h := h.2
      refine And.intro (xi_ld (rs_7 hs) (h.1)) ?_
      replace h := h.2
      exact h _ _
theorem t_branch_181 {e : yE} {d k : Nat} {x1 x2 x3 x4 x5 x6 x7 x8 x9 x10 x11 x12 x13 x14 s0 : Int} {M : xM} {Q : xM → Prop} (hs : RSh k e) (h :
    (rg x14) ∧ ((x14 = 0 → 
      ((rg x13 ∧ rg x3) ∧ ((x3 ≤ x13 → 
        ((0 ≤ (x6 + ((x13 - x10) + (1 : Int))) ∧ (x6 + ((x13 - x10) + (1 : Int))) < 100000) ∧ 
        ((0 ≤ (x11 + x13) ∧ (x11 + x13) < 100000) ∧ 
        (∀ M1 : xM, M1 = xup M (k + 28) (x11 + x13) (M (k + 28) (x6 + ((x13 - x10) + (1 : Int)))) → 
        (R_branch_112 e d k x1 x2 x3 x4 x5 x6 x7 x8 x9 x10 x11 x12 (x13 + 1) M1 Q))))) ∧ 
      (¬ (x3 ≤ x13) → 
        ((0 ≤ (x6 + x13) ∧ (x6 + x13) < 100000) ∧ 
        ((0 ≤ (x11 + x13) ∧ (x11 + x13) < 100000) ∧ 
        (∀ M2 : xM, M2 = xup M (k + 28) (x11 + x13) (M (k + 28) (x6 + x13)) → 
        (R_branch_112 e d k x1 x2 x3 x4 x5 x6 x7 x8 x9 x10 x11 x12 (x13 + 1) M2 Q)))))))) ∧ 
    (¬ (x14 = 0) → 
      (R_partType e d k x9 x4 (x13 - x3) M (fun y4 M3 => 
      R_newPlace e d k y4 s0 M3 (fun y6 M5 => 
      (0 ≤ (x11 + x13) ∧ (x11 + x13) < 100000) ∧ 
      (∀ M7 : xM, M7 = xup M5 (k + 28) (x11 + x13) y6 → 
      (R_branch_112 e d k x1 x2 x3 x4 x5 x6 x7 x8 x9 x10 x11 x12 (x13 + 1) M7 Q)))))))) : R_branch_181 e d k x1 x2 x3 x4 x5 x6 x7 x8 x9 x10 x11 x12 x13 x14 s0 M Q := by
  intro o15 o16
  refine xGo.in ?_
  refine And.intro (rs_ob hs) ?_
  refine And.intro (h.1) (And.intro (fun c => ?_) (fun c => ?_))
  · replace h := h.2.1 c
    refine And.intro (rs_ob hs) ?_
    refine And.intro (⟨h.1.1, h.1.2⟩) (And.intro (fun c => ?_) (fun c => ?_))
    · replace h := h.2.1 c
      refine And.intro (xi_ld (rs_28 hs) (h.1)) ?_
      replace h := h.2
      refine And.intro (xi_st (rs_28 hs) (h.1)) ?_
      replace h := h.2
      replace h := h _ rfl
      exact h _ _ _
    · replace h := h.2.2 c
      refine And.intro (xi_ld (rs_28 hs) (h.1)) ?_
      replace h := h.2
      refine And.intro (xi_st (rs_28 hs) (h.1)) ?_
      replace h := h.2
      replace h := h _ rfl
      exact h _ _ _
  · replace h := h.2.2 c
    refine And.intro ⟨Nat.le_of_ble_eq_true rfl, Nat.le_of_ble_eq_true rfl, rs_ob hs⟩ ?_
    refine yI_use h (fun y4 M3 h => ?_)
    refine And.intro ⟨Nat.le_of_ble_eq_true rfl, Nat.le_of_ble_eq_true rfl, rs_ob hs⟩ ?_
    refine yI_use h (fun y6 M5 h => ?_)
    refine And.intro (xi_st (rs_28 hs) (h.1)) ?_
    replace h := h.2
    replace h := h _ rfl
    exact h _ _ _
theorem t_branch_254 {e : yE} {d k : Nat} {x2 x3 x4 x5 x7 x10 x11 x12 x13 : Int} {M : xM} {Q : xM → Prop} (hs : RSh k e) (h :
    (rg x13 ∧ rg x2) ∧ ((x2 ≤ x13 → 
      (R_node e d k x2 x11 ((x7 - (1 : Int)) + x10) M (fun M1 => 
      ∀ M2 : xM, M2 = xup M1 k 42 x12 → 
      (∀ M3 : xM, M3 = xup M2 k 35 x11 → 
      (Q M3))))) ∧ 
    (¬ (x2 ≤ x13) → 
      (R_cell e d k x13 x3 M (fun y5 M4 => 
      (rg y5) ∧ ((y5 < 0 → 
        (R_branch_291 e d k x2 x3 x4 x5 x7 x10 x11 x12 x13 y5 M4 Q)) ∧ 
      (¬ (y5 < 0) → 
        ((rg x5) ∧ ((¬ x5 = 0 → 
          (R_branch_254 e d k x2 x3 x4 x5 x7 x10 x11 x12 (x13 + 1) M4 Q)) ∧ 
        (¬ (¬ x5 = 0) → 
          ((0 ≤ y5 ∧ y5 < 300) ∧ 
          ((rg (M4 (k + 11) y5) ∧ rg x4) ∧ ((¬ (M4 (k + 11) y5) = x4 → 
            (R_branch_254 e d k x2 x3 x4 x5 x7 x10 x11 x12 (x13 + 1) M4 Q)) ∧ 
          (¬ (¬ (M4 (k + 11) y5) = x4) → 
            (R_branch_291 e d k x2 x3 x4 x5 x7 x10 x11 x12 x13 y5 M4 Q))))))))))))))) : R_branch_254 e d k x2 x3 x4 x5 x7 x10 x11 x12 x13 M Q := by
  intro o1 o6 o8 o9 o14 o15 o16
  refine xGo.in ?_
  refine And.intro (⟨h.1.1, h.1.2⟩) (And.intro (fun c => ?_) (fun c => ?_))
  · replace h := h.2.1 c
    refine And.intro ⟨Nat.le_of_ble_eq_true rfl, Nat.le_of_ble_eq_true rfl, rs_ob hs⟩ ?_
    refine yV_use h (fun _ M1 h => ?_)
    refine And.intro (rs_ob hs) ?_
    replace h := h _ rfl
    refine And.intro (rs_ob hs) ?_
    replace h := h _ rfl
    exact yV_ret (r := .inl 0) h
  · replace h := h.2.2 c
    refine And.intro ⟨Nat.le_of_ble_eq_true rfl, Nat.le_of_ble_eq_true rfl, rs_ob hs⟩ ?_
    refine yI_use h (fun y5 M4 h => ?_)
    refine And.intro (h.1) (And.intro (fun c => ?_) (fun c => ?_))
    · replace h := h.2.1 c
      exact h _ _ _ _ _ _
    · replace h := h.2.2 c
      refine And.intro (h.1) (And.intro (fun c => ?_) (fun c => ?_))
      · replace h := h.2.1 c
        exact h _ _ _ _ _ _ _
      · replace h := h.2.2 c
        refine And.intro (rs_ob hs) ?_
        refine And.intro (xi_ld (rs_11 hs) (h.1)) ?_
        replace h := h.2
        refine And.intro (⟨h.1.1, h.1.2⟩) (And.intro (fun c => ?_) (fun c => ?_))
        · replace h := h.2.1 c
          exact h _ _ _ _ _ _ _
        · replace h := h.2.2 c
          exact h _ _ _ _ _ _
theorem t_branch_291 {e : yE} {d k : Nat} {x2 x3 x4 x5 x7 x10 x11 x12 x13 x14 : Int} {M : xM} {Q : xM → Prop} (hs : RSh k e) (h :
    (0 ≤ x13 ∧ x13 < 8000) ∧ 
    (R_pushRow e d k (M (k + 24) x13) ((x7 - (1 : Int)) + x10) M (fun y2 M1 => 
    R_branch_314 e d k x2 x3 x4 x5 x7 x10 x11 x12 x13 x14 y2 (0 : Int) M1 Q))) : R_branch_291 e d k x2 x3 x4 x5 x7 x10 x11 x12 x13 x14 M Q := by
  intro o1 o6 o8 o9 o15 o16
  refine xGo.in ?_
  refine And.intro (rs_ob hs) ?_
  refine And.intro (xi_ld (rs_24 hs) (h.1)) ?_
  replace h := h.2
  refine And.intro ⟨Nat.le_of_ble_eq_true rfl, Nat.le_of_ble_eq_true rfl, rs_ob hs⟩ ?_
  refine yI_use h (fun y2 M1 h => ?_)
  exact h _ _ _ _
theorem t_branch_314 {e : yE} {d k : Nat} {x2 x3 x4 x5 x7 x10 x11 x12 x13 x14 x15 x16 : Int} {M : xM} {Q : xM → Prop} (hs : RSh k e) (h :
    (rg x16) ∧ (((16 : Int) ≤ x16 → 
      (R_branch_356 e d k x2 x3 x4 x5 x7 x10 x11 x12 x13 x14 x15 (0 : Int) M Q)) ∧ 
    (¬ ((16 : Int) ≤ x16) → 
      ((0 ≤ (((16 : Int) * x13) + x16) ∧ (((16 : Int) * x13) + x16) < 128000) ∧ 
      ((0 ≤ (((16 : Int) * x15) + x16) ∧ (((16 : Int) * x15) + x16) < 128000) ∧ 
      (∀ M1 : xM, M1 = xup M (k + 26) (((16 : Int) * x15) + x16) (M (k + 26) (((16 : Int) * x13) + x16)) → 
      (R_branch_314 e d k x2 x3 x4 x5 x7 x10 x11 x12 x13 x14 x15 (x16 + 1) M1 Q))))))) : R_branch_314 e d k x2 x3 x4 x5 x7 x10 x11 x12 x13 x14 x15 x16 M Q := by
  intro o1 o6 o8 o9
  refine xGo.in ?_
  refine And.intro (⟨h.1, rg_lit (by decide)⟩) (And.intro (fun c => ?_) (fun c => ?_))
  · replace h := h.2.1 c
    exact h _ _ _ _
  · replace h := h.2.2 c
    refine And.intro (rs_ob hs) ?_
    refine And.intro (rs_ob hs) ?_
    refine And.intro (xi_ld (rs_26 hs) (h.1)) ?_
    replace h := h.2
    refine And.intro (xi_st (rs_26 hs) (h.1)) ?_
    replace h := h.2
    replace h := h _ rfl
    exact h _ _ _ _
theorem t_branch_356 {e : yE} {d k : Nat} {x2 x3 x4 x5 x7 x10 x11 x12 x13 x14 x15 x16 : Int} {M : xM} {Q : xM → Prop} (hs : RSh k e) (h :
    (rg x16 ∧ rg ((x7 - (1 : Int)) + x10)) ∧ ((((x7 - (1 : Int)) + x10) ≤ x16 → 
      (R_branch_254 e d k x2 x3 x4 x5 x7 x10 x11 x12 (x13 + 1) M Q)) ∧ 
    (¬ (((x7 - (1 : Int)) + x10) ≤ x16) → 
      ((rg x16 ∧ rg x3) ∧ ((x16 < x3 → 
        (R_branch_427 e d k x2 x3 x4 x5 x7 x10 x11 x12 x13 x14 x15 x16 M Q)) ∧ 
      (¬ (x16 < x3) → 
        ((rg x16 ∧ rg (x3 + x10)) ∧ (((x3 + x10) ≤ x16 → 
          (R_branch_427 e d k x2 x3 x4 x5 x7 x10 x11 x12 x13 x14 x15 x16 M Q)) ∧ 
        (¬ ((x3 + x10) ≤ x16) → 
          ((rg x14) ∧ ((0 ≤ x14 → 
            ((0 ≤ ((((3 : Int) * x14) + x16) - x3) ∧ ((((3 : Int) * x14) + x16) - x3) < 900) ∧ 
            (R_branch_411 e d k x2 x3 x4 x5 x7 x10 x11 x12 x13 x14 x15 x16 x15 x16 (M (k + 12) ((((3 : Int) * x14) + x16) - x3)) M Q))) ∧ 
          (¬ (0 ≤ x14) → 
            (R_branch_411 e d k x2 x3 x4 x5 x7 x10 x11 x12 x13 x14 x15 x16 x15 x16 (-1 : Int) M Q))))))))))))) : R_branch_356 e d k x2 x3 x4 x5 x7 x10 x11 x12 x13 x14 x15 x16 M Q := by
  intro o1 o6 o8 o9
  refine xGo.in ?_
  refine And.intro (⟨h.1.1, h.1.2⟩) (And.intro (fun c => ?_) (fun c => ?_))
  · replace h := h.2.1 c
    exact h _ _ _ _ _ _ _
  · replace h := h.2.2 c
    refine And.intro (⟨h.1.1, h.1.2⟩) (And.intro (fun c => ?_) (fun c => ?_))
    · replace h := h.2.1 c
      exact h _ _ _ _
    · replace h := h.2.2 c
      refine And.intro (⟨h.1.1, h.1.2⟩) (And.intro (fun c => ?_) (fun c => ?_))
      · replace h := h.2.1 c
        exact h _ _ _ _
      · replace h := h.2.2 c
        refine And.intro (h.1) (And.intro (fun c => ?_) (fun c => ?_))
        · replace h := h.2.1 c
          refine And.intro (rs_ob hs) ?_
          refine And.intro (xi_ld (rs_12 hs) (h.1)) ?_
          replace h := h.2
          exact h _ _ _ _
        · replace h := h.2.2 c
          exact h _ _ _ _
theorem t_branch_411 {e : yE} {d k : Nat} {x2 x3 x4 x5 x7 x10 x11 x12 x13 x14 x15 x16 s1 s2 s3 : Int} {M : xM} {Q : xM → Prop} (hs : RSh k e) (h :
    (0 ≤ (x11 + x16) ∧ (x11 + x16) < 100000) ∧ 
    (R_setCell e d k s1 s2 s3 (M (k + 28) (x11 + x16)) M (fun M1 => 
    R_branch_356 e d k x2 x3 x4 x5 x7 x10 x11 x12 x13 x14 x15 (x16 + 1) M1 Q))) : R_branch_411 e d k x2 x3 x4 x5 x7 x10 x11 x12 x13 x14 x15 x16 s1 s2 s3 M Q := by
  intro o1 o6 o8 o9
  refine xGo.in ?_
  refine And.intro (rs_ob hs) ?_
  refine And.intro (xi_ld (rs_28 hs) (h.1)) ?_
  replace h := h.2
  refine And.intro ⟨Nat.le_of_ble_eq_true rfl, Nat.le_of_ble_eq_true rfl, rs_ob hs⟩ ?_
  refine yV_use h (fun _ M1 h => ?_)
  exact h _ _ _ _
theorem t_branch_427 {e : yE} {d k : Nat} {x2 x3 x4 x5 x7 x10 x11 x12 x13 x14 x15 x16 : Int} {M : xM} {Q : xM → Prop} (hs : RSh k e) (h :
    (0 ≤ x15 ∧ x15 < 8000) ∧ 
    ((0 ≤ x13 ∧ x13 < 8000) ∧ 
    ((rg x16 ∧ rg x3) ∧ ((x3 ≤ x16 → 
      ((0 ≤ ((M (k + 25) x13) + ((x16 - x10) + (1 : Int))) ∧ ((M (k + 25) x13) + ((x16 - x10) + (1 : Int))) < 2300000) ∧ 
      (((0 ≤ ((M (k + 25) x15) + x16) ∧ ((M (k + 25) x15) + x16) < 2300000) ∧ (-32768 ≤ (M (k + 27) ((M (k + 25) x13) + ((x16 - x10) + (1 : Int)))) ∧ (M (k + 27) ((M (k + 25) x13) + ((x16 - x10) + (1 : Int)))) ≤ 32767)) ∧ 
      (∀ M1 : xM, M1 = xup M (k + 27) ((M (k + 25) x15) + x16) (M (k + 27) ((M (k + 25) x13) + ((x16 - x10) + (1 : Int)))) → 
      (R_branch_356 e d k x2 x3 x4 x5 x7 x10 x11 x12 x13 x14 x15 (x16 + 1) M1 Q))))) ∧ 
    (¬ (x3 ≤ x16) → 
      ((0 ≤ ((M (k + 25) x13) + x16) ∧ ((M (k + 25) x13) + x16) < 2300000) ∧ 
      (((0 ≤ ((M (k + 25) x15) + x16) ∧ ((M (k + 25) x15) + x16) < 2300000) ∧ (-32768 ≤ (M (k + 27) ((M (k + 25) x13) + x16)) ∧ (M (k + 27) ((M (k + 25) x13) + x16)) ≤ 32767)) ∧ 
      (∀ M2 : xM, M2 = xup M (k + 27) ((M (k + 25) x15) + x16) (M (k + 27) ((M (k + 25) x13) + x16)) → 
      (R_branch_356 e d k x2 x3 x4 x5 x7 x10 x11 x12 x13 x14 x15 (x16 + 1) M2 Q))))))))) : R_branch_427 e d k x2 x3 x4 x5 x7 x10 x11 x12 x13 x14 x15 x16 M Q := by
  intro o1 o6 o8 o9
  refine xGo.in ?_
  refine And.intro (rs_ob hs) ?_
  refine And.intro (rs_ob hs) ?_
  refine And.intro (xi_ld (rs_25 hs) (h.1)) ?_
  replace h := h.2
  refine And.intro (rs_ob hs) ?_
  refine And.intro (rs_ob hs) ?_
  refine And.intro (xi_ld (rs_25 hs) (h.1)) ?_
  replace h := h.2
  refine And.intro (⟨h.1.1, h.1.2⟩) (And.intro (fun c => ?_) (fun c => ?_))
  · replace h := h.2.1 c
    refine And.intro (xi_ldb (rs_27 hs) (h.1)) ?_
    replace h := h.2
    refine And.intro (xi_stv (rs_27 hs) (h.1.1) (h.1.2)) ?_
    replace h := h.2
    replace h := h _ rfl
    exact h _ _ _ _
  · replace h := h.2.2 c
    refine And.intro (xi_ldb (rs_27 hs) (h.1)) ?_
    replace h := h.2
    refine And.intro (xi_stv (rs_27 hs) (h.1.1) (h.1.2)) ?_
    replace h := h.2
    replace h := h _ rfl
    exact h _ _ _ _
theorem t_branch {e : yE} {d k : Nat} {x1 : Int} {x2 : Int} {x3 : Int} {x4 : Int} {x5 : Int} {x6 : Int} {x7 : Int} {M : xM} {Q : xM → Prop} (h : R_branch_0 e d k x1 x2 x3 x4 x5 x6 x7 M Q) : R_branch e (d + 1) k x1 x2 x3 x4 x5 x6 x7 M Q := h _ _ _ _ _ _ _ _ _
def R_put_0 (e : yE) (d k : Nat) (x1 : Int) (M : xM) (Q : xM → Prop) : Prop := xGo xft xNf xmt xtr d 146 0 [some (.inr (some k)), some (.inl x1)] [] (yS e M) (yV e Q)
theorem t_put_0 {e : yE} {d k : Nat} {x1 : Int} {M : xM} {Q : xM → Prop} (hs : RSh k e) (h :
    (rg (M k 50)) ∧ (((4001 : Int) ≤ (M k 50) → 
      (Q M)) ∧ 
    (¬ ((4001 : Int) ≤ (M k 50)) → 
      ((0 ≤ (M k 50) ∧ (M k 50) < 4001) ∧ 
      (∀ M1 : xM, M1 = xup M (k + 36) (M k 50) x1 → 
      (∀ M2 : xM, M2 = xup M1 k 50 ((M1 k 50) + (1 : Int)) → 
      (Q M2))))))) : R_put_0 e d k x1 M Q := by
  refine xGo.in ?_
  refine And.intro (rs_ob hs) ?_
  refine And.intro (⟨h.1, rg_lit (by decide)⟩) (And.intro (fun c => ?_) (fun c => ?_))
  · replace h := h.2.1 c
    exact yV_ret (r := .inl 0) h
  · replace h := h.2.2 c
    refine And.intro (rs_ob hs) ?_
    refine And.intro (rs_ob hs) ?_
    refine And.intro (xi_st (rs_36 hs) (h.1)) ?_
    replace h := h.2
    replace h := h _ rfl
    refine And.intro (rs_ob hs) ?_
    refine And.intro (rs_ob hs) ?_
    replace h := h _ rfl
    exact yV_ret (r := .inl 0) h
theorem t_put {e : yE} {d k : Nat} {x1 : Int} {M : xM} {Q : xM → Prop} (h : R_put_0 e d k x1 M Q) : R_put e (d + 1) k x1 M Q := h
def R_tellPlain_0 (e : yE) (d k : Nat) (x1 : Int) (M : xM) (Q : xM → Prop) : Prop := ∀ (o2 o3 : Option xV), xGo xft xNf xmt xtr d 147 0 [some (.inr (some k)), some (.inl x1), o2, o3] [] (yS e M) (yV e Q)
def R_tellPlain_12 (e : yE) (d k : Nat) (x1 x2 : Int) (M : xM) (Q : xM → Prop) : Prop := ∀ (o3 : Option xV), xGo xft xNf xmt xtr d 147 12 [some (.inr (some k)), some (.inl x1), some (.inl x2), o3] [] (yS e M) (yV e Q)
def R_tellPlain_40 (e : yE) (d k : Nat) (x1 x2 x3 : Int) (M : xM) (Q : xM → Prop) : Prop := xGo xft xNf xmt xtr d 147 40 [some (.inr (some k)), some (.inl x1), some (.inl x2), some (.inl x3)] [] (yS e M) (yV e Q)
theorem t_tellPlain_0 {e : yE} {d k : Nat} {x1 : Int} {M : xM} {Q : xM → Prop} (hs : RSh k e) (h :
    (rg x1) ∧ ((¬ x1 = 0 → 
      (R_tellPlain_12 e d k x1 (0 : Int) M Q)) ∧ 
    (¬ (¬ x1 = 0) → 
      (R_put e d k (0 : Int) M (fun M1 => 
      Q M1))))) : R_tellPlain_0 e d k x1 M Q := by
  intro o2 o3
  refine xGo.in ?_
  refine And.intro (h.1) (And.intro (fun c => ?_) (fun c => ?_))
  · replace h := h.2.1 c
    exact h _
  · replace h := h.2.2 c
    refine And.intro ⟨Nat.le_of_ble_eq_true rfl, Nat.le_of_ble_eq_true rfl, rs_ob hs⟩ ?_
    refine yV_use h (fun _ M1 h => ?_)
    exact yV_ret (r := .inl 0) h
theorem t_tellPlain_12 {e : yE} {d k : Nat} {x1 x2 : Int} {M : xM} {Q : xM → Prop} (hs : RSh k e) (h :
    R_madeSize e d k x1 x2 M (fun y2 M1 => 
    (0 ≤ x1 ∧ x1 < 8) ∧ 
    ((rg y2 ∧ rg (M1 (k + 4) x1)) ∧ ((y2 = (M1 (k + 4) x1) → 
      (R_put e d k x2 M1 (fun M3 => 
      R_tellPlain_40 e d k x1 x2 (0 : Int) M3 Q))) ∧ 
    (¬ (y2 = (M1 (k + 4) x1)) → 
      (R_tellPlain_12 e d k x1 (x2 + 1) M1 Q)))))) : R_tellPlain_12 e d k x1 x2 M Q := by
  intro o3
  refine xGo.in ?_
  refine And.intro ⟨Nat.le_of_ble_eq_true rfl, Nat.le_of_ble_eq_true rfl, rs_ob hs⟩ ?_
  refine yI_use h (fun y2 M1 h => ?_)
  refine And.intro (rs_ob hs) ?_
  refine And.intro (xi_ld (rs_4 hs) (h.1)) ?_
  replace h := h.2
  refine And.intro (⟨h.1.1, h.1.2⟩) (And.intro (fun c => ?_) (fun c => ?_))
  · replace h := h.2.1 c
    refine And.intro ⟨Nat.le_of_ble_eq_true rfl, Nat.le_of_ble_eq_true rfl, rs_ob hs⟩ ?_
    refine yV_use h (fun _ M3 h => ?_)
    exact h
  · replace h := h.2.2 c
    exact h _
theorem t_tellPlain_40 {e : yE} {d k : Nat} {x1 x2 x3 : Int} {M : xM} {Q : xM → Prop} (hs : RSh k e) (h :
    R_countOf e d k x1 x2 M (fun y2 M1 => 
    (rg x3 ∧ rg y2) ∧ ((y2 ≤ x3 → 
      (Q M1)) ∧ 
    (¬ (y2 ≤ x3) → 
      ((rg (M1 k 50)) ∧ (((4001 : Int) ≤ (M1 k 50) → 
        (Q M1)) ∧ 
      (¬ ((4001 : Int) ≤ (M1 k 50)) → 
        (R_partType e d k x1 x2 x3 M1 (fun y4 M3 => 
        R_tellPlain e d k y4 M3 (fun M5 => 
        R_tellPlain_40 e d k x1 x2 (x3 + 1) M5 Q)))))))))) : R_tellPlain_40 e d k x1 x2 x3 M Q := by
  refine xGo.in ?_
  refine And.intro ⟨Nat.le_of_ble_eq_true rfl, Nat.le_of_ble_eq_true rfl, rs_ob hs⟩ ?_
  refine yI_use h (fun y2 M1 h => ?_)
  refine And.intro (⟨h.1.1, h.1.2⟩) (And.intro (fun c => ?_) (fun c => ?_))
  · replace h := h.2.1 c
    exact yV_ret (r := .inl 0) h
  · replace h := h.2.2 c
    refine And.intro (rs_ob hs) ?_
    refine And.intro (⟨h.1, rg_lit (by decide)⟩) (And.intro (fun c => ?_) (fun c => ?_))
    · replace h := h.2.1 c
      exact yV_ret (r := .inl 0) h
    · replace h := h.2.2 c
      refine And.intro ⟨Nat.le_of_ble_eq_true rfl, Nat.le_of_ble_eq_true rfl, rs_ob hs⟩ ?_
      refine yI_use h (fun y4 M3 h => ?_)
      refine And.intro ⟨Nat.le_of_ble_eq_true rfl, Nat.le_of_ble_eq_true rfl, rs_ob hs⟩ ?_
      refine yV_use h (fun _ M5 h => ?_)
      exact h
theorem t_tellPlain {e : yE} {d k : Nat} {x1 : Int} {M : xM} {Q : xM → Prop} (h : R_tellPlain_0 e d k x1 M Q) : R_tellPlain e (d + 1) k x1 M Q := h _ _
def R_tell_0 (e : yE) (d k : Nat) (x1 : Int) (M : xM) (Q : xM → Prop) : Prop := ∀ (o2 o3 o4 : Option xV), xGo xft xNf xmt xtr d 148 0 [some (.inr (some k)), some (.inl x1), o2, o3, o4] [] (yS e M) (yV e Q)
def R_tell_37 (e : yE) (d k : Nat) (x1 x2 x3 x4 : Int) (M : xM) (Q : xM → Prop) : Prop := xGo xft xNf xmt xtr d 148 37 [some (.inr (some k)), some (.inl x1), some (.inl x2), some (.inl x3), some (.inl x4)] [] (yS e M) (yV e Q)
theorem t_tell_0 {e : yE} {d k : Nat} {x1 : Int} {M : xM} {Q : xM → Prop} (hs : RSh k e) (h :
    (0 ≤ x1 ∧ x1 < 1000) ∧ 
    ((0 ≤ x1 ∧ x1 < 1000) ∧ 
    ((0 ≤ x1 ∧ x1 < 1000) ∧ 
    ((rg (M (k + 30) x1)) ∧ ((¬ (M (k + 30) x1) = 0 → 
      (R_put e d k (M (k + 31) x1) M (fun M1 => 
      R_tell_37 e d k x1 (M (k + 29) x1) (M (k + 31) x1) (0 : Int) M1 Q))) ∧ 
    (¬ (¬ (M (k + 30) x1) = 0) → 
      (R_tellPlain e d k (M (k + 29) x1) M (fun M2 => 
      Q M2)))))))) : R_tell_0 e d k x1 M Q := by
  intro o2 o3 o4
  refine xGo.in ?_
  refine And.intro (rs_ob hs) ?_
  refine And.intro (xi_ld (rs_29 hs) (h.1)) ?_
  replace h := h.2
  refine And.intro (rs_ob hs) ?_
  refine And.intro (xi_ld (rs_31 hs) (h.1)) ?_
  replace h := h.2
  refine And.intro (rs_ob hs) ?_
  refine And.intro (xi_ldb (rs_30 hs) (h.1)) ?_
  replace h := h.2
  refine And.intro (h.1) (And.intro (fun c => ?_) (fun c => ?_))
  · replace h := h.2.1 c
    refine And.intro ⟨Nat.le_of_ble_eq_true rfl, Nat.le_of_ble_eq_true rfl, rs_ob hs⟩ ?_
    refine yV_use h (fun _ M1 h => ?_)
    exact h
  · replace h := h.2.2 c
    refine And.intro ⟨Nat.le_of_ble_eq_true rfl, Nat.le_of_ble_eq_true rfl, rs_ob hs⟩ ?_
    refine yV_use h (fun _ M2 h => ?_)
    exact yV_ret (r := .inl 0) h
theorem t_tell_37 {e : yE} {d k : Nat} {x1 x2 x3 x4 : Int} {M : xM} {Q : xM → Prop} (hs : RSh k e) (h :
    (rg x2) ∧ ((x2 ≤ 0 → 
      (Q M)) ∧ 
    (¬ (x2 ≤ 0) → 
      (R_countOf e d k x2 x3 M (fun y2 M1 => 
      (rg x4 ∧ rg y2) ∧ ((y2 ≤ x4 → 
        (Q M1)) ∧ 
      (¬ (y2 ≤ x4) → 
        ((rg (M1 k 50)) ∧ (((4001 : Int) ≤ (M1 k 50) → 
          (Q M1)) ∧ 
        (¬ ((4001 : Int) ≤ (M1 k 50)) → 
          ((0 ≤ x1 ∧ x1 < 1000) ∧ 
          ((rg (M1 (k + 32) x1)) ∧ (((M1 (k + 32) x1) = 0 → 
            ((0 ≤ x1 ∧ x1 < 1000) ∧ 
            (R_tell e d k ((M1 (k + 33) x1) + x4) M1 (fun M3 => 
            R_tell_37 e d k x1 x2 x3 (x4 + 1) M3 Q)))) ∧ 
          (¬ ((M1 (k + 32) x1) = 0) → 
            (R_partType e d k x2 x3 x4 M1 (fun y5 M4 => 
            R_tellPlain e d k y5 M4 (fun M6 => 
            R_tell_37 e d k x1 x2 x3 (x4 + 1) M6 Q))))))))))))))))) : R_tell_37 e d k x1 x2 x3 x4 M Q := by
  refine xGo.in ?_
  refine And.intro (h.1) (And.intro (fun c => ?_) (fun c => ?_))
  · replace h := h.2.1 c
    exact yV_ret (r := .inl 0) h
  · replace h := h.2.2 c
    refine And.intro ⟨Nat.le_of_ble_eq_true rfl, Nat.le_of_ble_eq_true rfl, rs_ob hs⟩ ?_
    refine yI_use h (fun y2 M1 h => ?_)
    refine And.intro (⟨h.1.1, h.1.2⟩) (And.intro (fun c => ?_) (fun c => ?_))
    · replace h := h.2.1 c
      exact yV_ret (r := .inl 0) h
    · replace h := h.2.2 c
      refine And.intro (rs_ob hs) ?_
      refine And.intro (⟨h.1, rg_lit (by decide)⟩) (And.intro (fun c => ?_) (fun c => ?_))
      · replace h := h.2.1 c
        exact yV_ret (r := .inl 0) h
      · replace h := h.2.2 c
        refine And.intro (rs_ob hs) ?_
        refine And.intro (xi_ldb (rs_32 hs) (h.1)) ?_
        replace h := h.2
        refine And.intro (h.1) (And.intro (fun c => ?_) (fun c => ?_))
        · replace h := h.2.1 c
          refine And.intro (rs_ob hs) ?_
          refine And.intro (xi_ld (rs_33 hs) (h.1)) ?_
          replace h := h.2
          refine And.intro ⟨Nat.le_of_ble_eq_true rfl, Nat.le_of_ble_eq_true rfl, rs_ob hs⟩ ?_
          refine yV_use h (fun _ M3 h => ?_)
          exact h
        · replace h := h.2.2 c
          refine And.intro ⟨Nat.le_of_ble_eq_true rfl, Nat.le_of_ble_eq_true rfl, rs_ob hs⟩ ?_
          refine yI_use h (fun y5 M4 h => ?_)
          refine And.intro ⟨Nat.le_of_ble_eq_true rfl, Nat.le_of_ble_eq_true rfl, rs_ob hs⟩ ?_
          refine yV_use h (fun _ M6 h => ?_)
          exact h
theorem t_tell {e : yE} {d k : Nat} {x1 : Int} {M : xM} {Q : xM → Prop} (h : R_tell_0 e d k x1 M Q) : R_tell e (d + 1) k x1 M Q := h _ _ _
def R_look_0 (e : yE) (d k : Nat) (x1 : Int) (M : xM) (Q : xM → Prop) : Prop := ∀ (o2 : Option xV), xGo xft xNf xmt xtr d 149 0 [some (.inr (some k)), some (.inl x1), o2] [] (yS e M) (yV e Q)
def R_look_37 (e : yE) (d k : Nat) (x1 x2 : Int) (M : xM) (Q : xM → Prop) : Prop := xGo xft xNf xmt xtr d 149 37 [some (.inr (some k)), some (.inl x1), some (.inl x2)] [] (yS e M) (yV e Q)
theorem t_look_0 {e : yE} {d k : Nat} {x1 : Int} {M : xM} {Q : xM → Prop} (hs : RSh k e) (h :
    (0 ≤ x1 ∧ x1 < 20) ∧ 
    ((rg (M (k + 37) x1)) ∧ ((¬ (M (k + 37) x1) = 0 → 
      (Q M)) ∧ 
    (¬ (¬ (M (k + 37) x1) = 0) → 
      (R_goThrough e d k x1 (0 : Int) (-1 : Int) (-1 : Int) (-1 : Int) M (fun M1 => 
      (0 ≤ x1 ∧ x1 < 20) ∧ 
      (∀ M2 : xM, M2 = xup M1 (k + 37) x1 (1 : Int) → 
      (((0 ≤ x1 ∧ x1 < 20) ∧ ((M2 k 45) = 0 ∨ (M2 k 45) = 1)) ∧ 
      (∀ M3 : xM, M3 = xup M2 (k + 38) x1 (M2 k 45) → 
      (R_look_37 e d k x1 (0 : Int) M3 Q)))))))))) : R_look_0 e d k x1 M Q := by
  intro o2
  refine xGo.in ?_
  refine And.intro (rs_ob hs) ?_
  refine And.intro (xi_ldb (rs_37 hs) (h.1)) ?_
  replace h := h.2
  refine And.intro (h.1) (And.intro (fun c => ?_) (fun c => ?_))
  · replace h := h.2.1 c
    exact yV_ret (r := .inl 0) h
  · replace h := h.2.2 c
    refine And.intro ⟨Nat.le_of_ble_eq_true rfl, Nat.le_of_ble_eq_true rfl, rs_ob hs⟩ ?_
    refine yV_use h (fun _ M1 h => ?_)
    refine And.intro (rs_ob hs) ?_
    refine And.intro (xi_stv (rs_37 hs) (h.1) (by decide)) ?_
    replace h := h.2
    replace h := h _ rfl
    refine And.intro (rs_ob hs) ?_
    refine And.intro (rs_ob hs) ?_
    refine And.intro (xi_stv (rs_38 hs) (h.1.1) (h.1.2)) ?_
    replace h := h.2
    replace h := h _ rfl
    exact h
theorem t_look_37 {e : yE} {d k : Nat} {x1 x2 : Int} {M : xM} {Q : xM → Prop} (hs : RSh k e) (h :
    (rg x2) ∧ (((5 : Int) ≤ x2 → 
      (Q M)) ∧ 
    (¬ ((5 : Int) ≤ x2) → 
      ((0 ≤ x2 ∧ x2 < 5) ∧ 
      ((0 ≤ (((5 : Int) * x1) + x2) ∧ (((5 : Int) * x1) + x2) < 100) ∧ 
      (∀ M1 : xM, M1 = xup M (k + 39) (((5 : Int) * x1) + x2) (M (k + 35) x2) → 
      (R_look_37 e d k x1 (x2 + 1) M1 Q))))))) : R_look_37 e d k x1 x2 M Q := by
  refine xGo.in ?_
  refine And.intro (⟨h.1, rg_lit (by decide)⟩) (And.intro (fun c => ?_) (fun c => ?_))
  · replace h := h.2.1 c
    exact yV_ret (r := .inl 0) h
  · replace h := h.2.2 c
    refine And.intro (rs_ob hs) ?_
    refine And.intro (rs_ob hs) ?_
    refine And.intro (xi_ld (rs_35 hs) (h.1)) ?_
    replace h := h.2
    refine And.intro (xi_st (rs_39 hs) (h.1)) ?_
    replace h := h.2
    replace h := h _ rfl
    exact h
theorem t_look {e : yE} {d k : Nat} {x1 : Int} {M : xM} {Q : xM → Prop} (h : R_look_0 e d k x1 M Q) : R_look e (d + 1) k x1 M Q := h _
def R_forget_0 (e : yE) (d k : Nat) (M : xM) (Q : xM → Prop) : Prop := ∀ (o1 : Option xV), xGo xft xNf xmt xtr d 150 0 [some (.inr (some k)), o1] [] (yS e M) (yV e Q)
def R_forget_2 (e : yE) (d k : Nat) (x1 : Int) (M : xM) (Q : xM → Prop) : Prop := xGo xft xNf xmt xtr d 150 2 [some (.inr (some k)), some (.inl x1)] [] (yS e M) (yV e Q)
theorem t_forget_0 {e : yE} {d k : Nat} {M : xM} {Q : xM → Prop} (hs : RSh k e) (h :
    R_forget_2 e d k (0 : Int) M Q) : R_forget_0 e d k  M Q := by
  intro o1
  refine xGo.in ?_
  exact h
theorem t_forget_2 {e : yE} {d k : Nat} {x1 : Int} {M : xM} {Q : xM → Prop} (hs : RSh k e) (h :
    (rg x1) ∧ (((16 : Int) ≤ x1 → 
      (∀ M1 : xM, M1 = xup M (k + 22) (16 : Int) (0 : Int) → 
      (∀ M2 : xM, M2 = xup M1 (k + 22) (17 : Int) (0 : Int) → 
      (Q M2)))) ∧ 
    (¬ ((16 : Int) ≤ x1) → 
      ((0 ≤ x1 ∧ x1 < 18) ∧ 
      (∀ M3 : xM, M3 = xup M (k + 22) x1 (-1 : Int) → 
      (R_forget_2 e d k (x1 + 1) M3 Q)))))) : R_forget_2 e d k x1 M Q := by
  refine xGo.in ?_
  refine And.intro (⟨h.1, rg_lit (by decide)⟩) (And.intro (fun c => ?_) (fun c => ?_))
  · replace h := h.2.1 c
    refine And.intro (rs_ob hs) ?_
    refine And.intro (xi_st (rs_22 hs) (⟨by decide, by decide⟩)) ?_
    replace h := h _ rfl
    refine And.intro (rs_ob hs) ?_
    refine And.intro (xi_st (rs_22 hs) (⟨by decide, by decide⟩)) ?_
    replace h := h _ rfl
    exact yV_ret (r := .inl 0) h
  · replace h := h.2.2 c
    refine And.intro (rs_ob hs) ?_
    refine And.intro (xi_st (rs_22 hs) (h.1)) ?_
    replace h := h.2
    replace h := h _ rfl
    exact h
theorem t_forget {e : yE} {d k : Nat} {M : xM} {Q : xM → Prop} (h : R_forget_0 e d k  M Q) : R_forget e (d + 1) k  M Q := h _
def R_run_0 (e : yE) (d k : Nat) (x1 x2 x3 x4 : Int) (M : xM) (Q : Int → xM → Prop) : Prop := ∀ (o5 o6 o7 : Option xV), xGo xft xNf xmt xtr d 151 0 [some (.inr (some k)), some (.inl x1), some (.inl x2), some (.inl x3), some (.inl x4), o5, o6, o7] [] (yS e M) (yI e Q)
def R_run_15 (e : yE) (d k : Nat) (x1 x2 x3 x4 x5 x6 : Int) (M : xM) (Q : Int → xM → Prop) : Prop := ∀ (o7 : Option xV), xGo xft xNf xmt xtr d 151 15 [some (.inr (some k)), some (.inl x1), some (.inl x2), some (.inl x3), some (.inl x4), some (.inl x5), some (.inl x6), o7] [] (yS e M) (yI e Q)
def R_run_63 (e : yE) (d k : Nat) (x1 x2 x3 x4 x5 : Int) (M : xM) (Q : Int → xM → Prop) : Prop := ∀ (o6 o7 : Option xV), xGo xft xNf xmt xtr d 151 63 [some (.inr (some k)), some (.inl x1), some (.inl x2), some (.inl x3), some (.inl x4), some (.inl x5), o6, o7] [] (yS e M) (yI e Q)
def R_run_134 (e : yE) (d k : Nat) (x1 x2 x3 x4 x6 : Int) (M : xM) (Q : Int → xM → Prop) : Prop := ∀ (o5 o7 : Option xV), xGo xft xNf xmt xtr d 151 134 [some (.inr (some k)), some (.inl x1), some (.inl x2), some (.inl x3), some (.inl x4), o5, some (.inl x6), o7] [] (yS e M) (yI e Q)
def R_run_162 (e : yE) (d k : Nat) (x6 x7 : Int) (M : xM) (Q : Int → xM → Prop) : Prop := ∀ (o1 o2 o3 o4 o5 : Option xV), xGo xft xNf xmt xtr d 151 162 [some (.inr (some k)), o1, o2, o3, o4, o5, some (.inl x6), some (.inl x7)] [] (yS e M) (yI e Q)
theorem t_run_0 {e : yE} {d k : Nat} {x1 x2 x3 x4 : Int} {M : xM} {Q : Int → xM → Prop} (hs : RSh k e) (h :
    ∀ M1 : xM, M1 = xup M k 0 (0 : Int) → 
    (R_isMatch e d k x1 M1 (fun y3 M2 => 
    R_run_15 e d k x1 x2 x3 x4 y3 (0 : Int) M2 Q))) : R_run_0 e d k x1 x2 x3 x4 M Q := by
  intro o5 o6 o7
  refine xGo.in ?_
  refine And.intro (rs_ob hs) ?_
  replace h := h _ rfl
  refine And.intro ⟨Nat.le_of_ble_eq_true rfl, Nat.le_of_ble_eq_true rfl, rs_ob hs⟩ ?_
  refine yI_use h (fun y3 M2 h => ?_)
  exact h _
theorem t_run_15 {e : yE} {d k : Nat} {x1 x2 x3 x4 x5 x6 : Int} {M : xM} {Q : Int → xM → Prop} (hs : RSh k e) (h :
    (rg x5) ∧ ((x5 = 0 → 
      (R_run_63 e d k x1 x2 x3 x4 x5 M Q)) ∧ 
    (¬ (x5 = 0) → 
      ((0 ≤ x1 ∧ x1 < 20) ∧ 
      ((rg x6 ∧ rg (M (k + 16) x1)) ∧ (((M (k + 16) x1) ≤ x6 → 
        (R_run_63 e d k x1 x2 x3 x4 x5 M Q)) ∧ 
      (¬ ((M (k + 16) x1) ≤ x6) → 
        (R_pick e d x6 x2 x3 x4 M (fun y2 M1 => 
        (0 ≤ (((3 : Int) * x1) + x6) ∧ (((3 : Int) * x1) + x6) < 60) ∧ 
        (R_isValueOf e d k y2 (M1 (k + 17) (((3 : Int) * x1) + x6)) M1 (fun y4 M3 => 
        R_run_15 e d k x1 x2 x3 x4 y4 (x6 + 1) M3 Q))))))))))) : R_run_15 e d k x1 x2 x3 x4 x5 x6 M Q := by
  intro o7
  refine xGo.in ?_
  refine And.intro (h.1) (And.intro (fun c => ?_) (fun c => ?_))
  · replace h := h.2.1 c
    exact h _ _
  · replace h := h.2.2 c
    refine And.intro (rs_ob hs) ?_
    refine And.intro (xi_ld (rs_16 hs) (h.1)) ?_
    replace h := h.2
    refine And.intro (⟨h.1.1, h.1.2⟩) (And.intro (fun c => ?_) (fun c => ?_))
    · replace h := h.2.1 c
      exact h _ _
    · replace h := h.2.2 c
      refine And.intro ⟨Nat.le_of_ble_eq_true rfl, Nat.le_of_ble_eq_true rfl, trivial⟩ ?_
      refine yI_use h (fun y2 M1 h => ?_)
      refine And.intro (rs_ob hs) ?_
      refine And.intro (xi_ld (rs_17 hs) (h.1)) ?_
      replace h := h.2
      refine And.intro ⟨Nat.le_of_ble_eq_true rfl, Nat.le_of_ble_eq_true rfl, rs_ob hs⟩ ?_
      refine yI_use h (fun y4 M3 h => ?_)
      exact h _
theorem t_run_63 {e : yE} {d k : Nat} {x1 x2 x3 x4 x5 : Int} {M : xM} {Q : Int → xM → Prop} (hs : RSh k e) (h :
    (rg x5) ∧ ((¬ x5 = 0 → 
      (R_look e d k x1 M (fun M1 => 
      (0 ≤ x1 ∧ x1 < 20) ∧ 
      ((rg (M1 (k + 38) x1)) ∧ (((M1 (k + 38) x1) = 0 → 
        (R_forget e d k  M1 (fun M2 => 
        R_goThrough e d k x1 (1 : Int) x2 x3 x4 M2 (fun M3 => 
        ∀ M4 : xM, M4 = xup M3 (k + 22) (16 : Int) (M3 (k + 35) (0 : Int)) → 
        (∀ M5 : xM, M5 = xup M4 (k + 22) (17 : Int) (M4 (k + 35) (1 : Int)) → 
        (R_run_134 e d k x1 x2 x3 x4 (0 : Int) M5 Q)))))) ∧ 
      (¬ ((M1 (k + 38) x1) = 0) → 
        (Q (-2 : Int) M1))))))) ∧ 
    (¬ (¬ x5 = 0) → 
      (R_forget e d k  M (fun M6 => 
      Q (-1 : Int) M6))))) : R_run_63 e d k x1 x2 x3 x4 x5 M Q := by
  intro o6 o7
  refine xGo.in ?_
  refine And.intro (h.1) (And.intro (fun c => ?_) (fun c => ?_))
  · replace h := h.2.1 c
    refine And.intro ⟨Nat.le_of_ble_eq_true rfl, Nat.le_of_ble_eq_true rfl, rs_ob hs⟩ ?_
    refine yV_use h (fun _ M1 h => ?_)
    refine And.intro (rs_ob hs) ?_
    refine And.intro (xi_ldb (rs_38 hs) (h.1)) ?_
    replace h := h.2
    refine And.intro (h.1) (And.intro (fun c => ?_) (fun c => ?_))
    · replace h := h.2.1 c
      refine And.intro ⟨Nat.le_of_ble_eq_true rfl, Nat.le_of_ble_eq_true rfl, rs_ob hs⟩ ?_
      refine yV_use h (fun _ M2 h => ?_)
      refine And.intro ⟨Nat.le_of_ble_eq_true rfl, Nat.le_of_ble_eq_true rfl, rs_ob hs⟩ ?_
      refine yV_use h (fun _ M3 h => ?_)
      refine And.intro (rs_ob hs) ?_
      refine And.intro (rs_ob hs) ?_
      refine And.intro (xi_ld (rs_35 hs) (⟨by decide, by decide⟩)) ?_
      refine And.intro (xi_st (rs_22 hs) (⟨by decide, by decide⟩)) ?_
      replace h := h _ rfl
      refine And.intro (rs_ob hs) ?_
      refine And.intro (rs_ob hs) ?_
      refine And.intro (xi_ld (rs_35 hs) (⟨by decide, by decide⟩)) ?_
      refine And.intro (xi_st (rs_22 hs) (⟨by decide, by decide⟩)) ?_
      replace h := h _ rfl
      exact h _ _
    · replace h := h.2.2 c
      exact yI_ret h
  · replace h := h.2.2 c
    refine And.intro ⟨Nat.le_of_ble_eq_true rfl, Nat.le_of_ble_eq_true rfl, rs_ob hs⟩ ?_
    refine yV_use h (fun _ M6 h => ?_)
    exact yI_ret h
theorem t_run_134 {e : yE} {d k : Nat} {x1 x2 x3 x4 x6 : Int} {M : xM} {Q : Int → xM → Prop} (hs : RSh k e) (h :
    (0 ≤ x1 ∧ x1 < 20) ∧ 
    ((rg x6 ∧ rg (M (k + 18) x1)) ∧ (((M (k + 18) x1) ≤ x6 → 
      (Q (-1 : Int) M)) ∧ 
    (¬ ((M (k + 18) x1) ≤ x6) → 
      (R_takes e d k x1 x6 x2 x3 x4 M (fun y2 M1 => 
      (rg y2) ∧ ((y2 = 0 → 
        (R_run_134 e d k x1 x2 x3 x4 (x6 + 1) M1 Q)) ∧ 
      (¬ (y2 = 0) → 
        (R_run_162 e d k x6 (0 : Int) M1 Q))))))))) : R_run_134 e d k x1 x2 x3 x4 x6 M Q := by
  intro o5 o7
  refine xGo.in ?_
  refine And.intro (rs_ob hs) ?_
  refine And.intro (xi_ld (rs_18 hs) (h.1)) ?_
  replace h := h.2
  refine And.intro (⟨h.1.1, h.1.2⟩) (And.intro (fun c => ?_) (fun c => ?_))
  · replace h := h.2.1 c
    exact yI_ret h
  · replace h := h.2.2 c
    refine And.intro ⟨Nat.le_of_ble_eq_true rfl, Nat.le_of_ble_eq_true rfl, rs_ob hs⟩ ?_
    refine yI_use h (fun y2 M1 h => ?_)
    refine And.intro (h.1) (And.intro (fun c => ?_) (fun c => ?_))
    · replace h := h.2.1 c
      exact h _ _
    · replace h := h.2.2 c
      exact h _ _ _ _ _
theorem t_run_162 {e : yE} {d k : Nat} {x6 x7 : Int} {M : xM} {Q : Int → xM → Prop} (hs : RSh k e) (h :
    (rg x7) ∧ (((16 : Int) ≤ x7 → 
      (Q x6 M)) ∧ 
    (¬ ((16 : Int) ≤ x7) → 
      ((0 ≤ x7 ∧ x7 < 16) ∧ 
      ((0 ≤ x7 ∧ x7 < 18) ∧ 
      (∀ M1 : xM, M1 = xup M (k + 22) x7 (M (k + 23) x7) → 
      (R_run_162 e d k x6 (x7 + 1) M1 Q))))))) : R_run_162 e d k x6 x7 M Q := by
  intro o1 o2 o3 o4 o5
  refine xGo.in ?_
  refine And.intro (⟨h.1, rg_lit (by decide)⟩) (And.intro (fun c => ?_) (fun c => ?_))
  · replace h := h.2.1 c
    exact yI_ret h
  · replace h := h.2.2 c
    refine And.intro (rs_ob hs) ?_
    refine And.intro (rs_ob hs) ?_
    refine And.intro (xi_ld (rs_23 hs) (h.1)) ?_
    replace h := h.2
    refine And.intro (xi_st (rs_22 hs) (h.1)) ?_
    replace h := h.2
    replace h := h _ rfl
    exact h _ _ _ _ _
theorem t_run {e : yE} {d k : Nat} {x1 : Int} {x2 : Int} {x3 : Int} {x4 : Int} {M : xM} {Q : Int → xM → Prop} (h : R_run_0 e d k x1 x2 x3 x4 M Q) : R_run e (d + 1) k x1 x2 x3 x4 M Q := h _ _ _
def R_took_0 (e : yE) (d k : Nat) (x1 : Int) (M : xM) (Q : Int → xM → Prop) : Prop := xGo xft xNf xmt xtr d 152 0 [some (.inr (some k)), some (.inl x1)] [] (yS e M) (yI e Q)
theorem t_took_0 {e : yE} {d k : Nat} {x1 : Int} {M : xM} {Q : Int → xM → Prop} (hs : RSh k e) (h :
    ∀ M1 : xM, M1 = xup M k 0 (0 : Int) → 
    ((rg x1) ∧ ((x1 < 0 → 
      (Q (-1 : Int) M1)) ∧ 
    (¬ (x1 < 0) → 
      ((rg x1) ∧ (((18 : Int) ≤ x1 → 
        (Q (-1 : Int) M1)) ∧ 
      (¬ ((18 : Int) ≤ x1) → 
        ((0 ≤ x1 ∧ x1 < 18) ∧ 
        (Q (M1 (k + 22) x1) M1))))))))) : R_took_0 e d k x1 M Q := by
  refine xGo.in ?_
  refine And.intro (rs_ob hs) ?_
  replace h := h _ rfl
  refine And.intro (h.1) (And.intro (fun c => ?_) (fun c => ?_))
  · replace h := h.2.1 c
    exact yI_ret h
  · replace h := h.2.2 c
    refine And.intro (⟨h.1, rg_lit (by decide)⟩) (And.intro (fun c => ?_) (fun c => ?_))
    · replace h := h.2.1 c
      exact yI_ret h
    · replace h := h.2.2 c
      refine And.intro (rs_ob hs) ?_
      refine And.intro (xi_ld (rs_22 hs) (h.1)) ?_
      replace h := h.2
      exact yI_ret h
theorem t_took {e : yE} {d k : Nat} {x1 : Int} {M : xM} {Q : Int → xM → Prop} (h : R_took_0 e d k x1 M Q) : R_took e (d + 1) k x1 M Q := h
def R_tree_0 (e : yE) (d k : Nat) (x1 x2 : Int) (M : xM) (Q : Int → xM → Prop) : Prop := xGo xft xNf xmt xtr d 153 0 [some (.inr (some k)), some (.inl x1), some (.inl x2)] [] (yS e M) (yI e Q)
theorem t_tree_0 {e : yE} {d k : Nat} {x1 x2 : Int} {M : xM} {Q : Int → xM → Prop} (hs : RSh k e) (h :
    ∀ M1 : xM, M1 = xup M k 0 (0 : Int) → 
    (R_isMatch e d k x1 M1 (fun y3 M2 => 
    (rg y3) ∧ ((y3 = 0 → 
      (Q (-1 : Int) M2)) ∧ 
    (¬ (y3 = 0) → 
      ((rg x2) ∧ ((x2 < 0 → 
        (Q (-1 : Int) M2)) ∧ 
      (¬ (x2 < 0) → 
        ((rg x2) ∧ ((x2 ≤ (4 : Int) → 
          (R_look e d k x1 M2 (fun M4 => 
          (0 ≤ x1 ∧ x1 < 20) ∧ 
          ((rg (M4 (k + 38) x1)) ∧ (((M4 (k + 38) x1) = 0 → 
            ((0 ≤ (((5 : Int) * x1) + x2) ∧ (((5 : Int) * x1) + x2) < 100) ∧ 
            (Q (M4 (k + 39) (((5 : Int) * x1) + x2)) M4))) ∧ 
          (¬ ((M4 (k + 38) x1) = 0) → 
            (Q (-2 : Int) M4))))))) ∧ 
        (¬ (x2 ≤ (4 : Int)) → 
          (Q (-1 : Int) M2)))))))))))) : R_tree_0 e d k x1 x2 M Q := by
  refine xGo.in ?_
  refine And.intro (rs_ob hs) ?_
  replace h := h _ rfl
  refine And.intro ⟨Nat.le_of_ble_eq_true rfl, Nat.le_of_ble_eq_true rfl, rs_ob hs⟩ ?_
  refine yI_use h (fun y3 M2 h => ?_)
  refine And.intro (h.1) (And.intro (fun c => ?_) (fun c => ?_))
  · replace h := h.2.1 c
    exact yI_ret h
  · replace h := h.2.2 c
    refine And.intro (h.1) (And.intro (fun c => ?_) (fun c => ?_))
    · replace h := h.2.1 c
      exact yI_ret h
    · replace h := h.2.2 c
      refine And.intro (⟨h.1, rg_lit (by decide)⟩) (And.intro (fun c => ?_) (fun c => ?_))
      · replace h := h.2.1 c
        refine And.intro ⟨Nat.le_of_ble_eq_true rfl, Nat.le_of_ble_eq_true rfl, rs_ob hs⟩ ?_
        refine yV_use h (fun _ M4 h => ?_)
        refine And.intro (rs_ob hs) ?_
        refine And.intro (xi_ldb (rs_38 hs) (h.1)) ?_
        replace h := h.2
        refine And.intro (h.1) (And.intro (fun c => ?_) (fun c => ?_))
        · replace h := h.2.1 c
          refine And.intro (rs_ob hs) ?_
          refine And.intro (xi_ld (rs_39 hs) (h.1)) ?_
          replace h := h.2
          exact yI_ret h
        · replace h := h.2.2 c
          exact yI_ret h
      · replace h := h.2.2 c
        exact yI_ret h
theorem t_tree {e : yE} {d k : Nat} {x1 : Int} {x2 : Int} {M : xM} {Q : Int → xM → Prop} (h : R_tree_0 e d k x1 x2 M Q) : R_tree e (d + 1) k x1 x2 M Q := h
def R_missing_0 (e : yE) (d k : Nat) (x1 : Int) (M : xM) (Q : Int → xM → Prop) : Prop := ∀ (o2 : Option xV), xGo xft xNf xmt xtr d 154 0 [some (.inr (some k)), some (.inl x1), o2] [] (yS e M) (yI e Q)
def R_missing_59 (e : yE) (d k : Nat) (x2 : Int) (M : xM) (Q : Int → xM → Prop) : Prop := ∀ (o1 : Option xV), xGo xft xNf xmt xtr d 154 59 [some (.inr (some k)), o1, some (.inl x2)] [] (yS e M) (yI e Q)
theorem t_missing_0 {e : yE} {d k : Nat} {x1 : Int} {M : xM} {Q : Int → xM → Prop} (hs : RSh k e) (h :
    ∀ M1 : xM, M1 = xup M k 0 (0 : Int) → 
    (R_isMatch e d k x1 M1 (fun y3 M2 => 
    (rg y3) ∧ ((¬ y3 = 0 → 
      (∀ M4 : xM, M4 = xup M2 k 50 (0 : Int) → 
      (R_goThrough e d k x1 (0 : Int) (-1 : Int) (-1 : Int) (-1 : Int) M4 (fun M5 => 
      (rg (M5 k 45)) ∧ ((¬ (M5 k 45) = 0 → 
        (Q (-2 : Int) M5)) ∧ 
      (¬ (¬ (M5 k 45) = 0) → 
        ((rg (M5 k 50)) ∧ (((M5 k 50) ≤ (4000 : Int) → 
          (∀ M6 : xM, M6 = xup M5 k 55 (M5 k 50) → 
          (R_missing_59 e d k (0 : Int) M6 Q))) ∧ 
        (¬ ((M5 k 50) ≤ (4000 : Int)) → 
          (Q (-2 : Int) M5)))))))))) ∧ 
    (¬ (¬ y3 = 0) → 
      (Q (-1 : Int) M2)))))) : R_missing_0 e d k x1 M Q := by
  intro o2
  refine xGo.in ?_
  refine And.intro (rs_ob hs) ?_
  replace h := h _ rfl
  refine And.intro ⟨Nat.le_of_ble_eq_true rfl, Nat.le_of_ble_eq_true rfl, rs_ob hs⟩ ?_
  refine yI_use h (fun y3 M2 h => ?_)
  refine And.intro (h.1) (And.intro (fun c => ?_) (fun c => ?_))
  · replace h := h.2.1 c
    refine And.intro (rs_ob hs) ?_
    replace h := h _ rfl
    refine And.intro ⟨Nat.le_of_ble_eq_true rfl, Nat.le_of_ble_eq_true rfl, rs_ob hs⟩ ?_
    refine yV_use h (fun _ M5 h => ?_)
    refine And.intro (rs_ob hs) ?_
    refine And.intro (h.1) (And.intro (fun c => ?_) (fun c => ?_))
    · replace h := h.2.1 c
      exact yI_ret h
    · replace h := h.2.2 c
      refine And.intro (rs_ob hs) ?_
      refine And.intro (⟨h.1, rg_lit (by decide)⟩) (And.intro (fun c => ?_) (fun c => ?_))
      · replace h := h.2.1 c
        refine And.intro (rs_ob hs) ?_
        refine And.intro (rs_ob hs) ?_
        replace h := h _ rfl
        exact h _
      · replace h := h.2.2 c
        exact yI_ret h
  · replace h := h.2.2 c
    exact yI_ret h
theorem t_missing_59 {e : yE} {d k : Nat} {x2 : Int} {M : xM} {Q : Int → xM → Prop} (hs : RSh k e) (h :
    (rg x2 ∧ rg (M k 50)) ∧ (((M k 50) ≤ x2 → 
      (Q (M k 55) M)) ∧ 
    (¬ ((M k 50) ≤ x2) → 
      ((0 ≤ x2 ∧ x2 < 4001) ∧ 
      ((0 ≤ x2 ∧ x2 < 4000) ∧ 
      (∀ M1 : xM, M1 = xup M (k + 40) x2 (M (k + 36) x2) → 
      (R_missing_59 e d k (x2 + 1) M1 Q))))))) : R_missing_59 e d k x2 M Q := by
  intro o1
  refine xGo.in ?_
  refine And.intro (rs_ob hs) ?_
  refine And.intro (⟨h.1.1, h.1.2⟩) (And.intro (fun c => ?_) (fun c => ?_))
  · replace h := h.2.1 c
    refine And.intro (rs_ob hs) ?_
    exact yI_ret h
  · replace h := h.2.2 c
    refine And.intro (rs_ob hs) ?_
    refine And.intro (rs_ob hs) ?_
    refine And.intro (xi_ld (rs_36 hs) (h.1)) ?_
    replace h := h.2
    refine And.intro (xi_st (rs_40 hs) (h.1)) ?_
    replace h := h.2
    replace h := h _ rfl
    exact h _
theorem t_missing {e : yE} {d k : Nat} {x1 : Int} {M : xM} {Q : Int → xM → Prop} (h : R_missing_0 e d k x1 M Q) : R_missing e (d + 1) k x1 M Q := h _
def R_part_0 (e : yE) (d k : Nat) (x1 : Int) (M : xM) (Q : Int → xM → Prop) : Prop := xGo xft xNf xmt xtr d 155 0 [some (.inr (some k)), some (.inl x1)] [] (yS e M) (yI e Q)
theorem t_part_0 {e : yE} {d k : Nat} {x1 : Int} {M : xM} {Q : Int → xM → Prop} (hs : RSh k e) (h :
    ∀ M1 : xM, M1 = xup M k 0 (0 : Int) → 
    ((rg x1) ∧ ((x1 < 0 → 
      (Q (-1 : Int) M1)) ∧ 
    (¬ (x1 < 0) → 
      ((rg x1 ∧ rg (M1 k 55)) ∧ (((M1 k 55) ≤ x1 → 
        (Q (-1 : Int) M1)) ∧ 
      (¬ ((M1 k 55) ≤ x1) → 
        ((0 ≤ x1 ∧ x1 < 4000) ∧ 
        (Q (M1 (k + 40) x1) M1))))))))) : R_part_0 e d k x1 M Q := by
  refine xGo.in ?_
  refine And.intro (rs_ob hs) ?_
  replace h := h _ rfl
  refine And.intro (h.1) (And.intro (fun c => ?_) (fun c => ?_))
  · replace h := h.2.1 c
    exact yI_ret h
  · replace h := h.2.2 c
    refine And.intro (rs_ob hs) ?_
    refine And.intro (⟨h.1.1, h.1.2⟩) (And.intro (fun c => ?_) (fun c => ?_))
    · replace h := h.2.1 c
      exact yI_ret h
    · replace h := h.2.2 c
      refine And.intro (rs_ob hs) ?_
      refine And.intro (xi_ld (rs_40 hs) (h.1)) ?_
      replace h := h.2
      exact yI_ret h
theorem t_part {e : yE} {d k : Nat} {x1 : Int} {M : xM} {Q : Int → xM → Prop} (h : R_part_0 e d k x1 M Q) : R_part e (d + 1) k x1 M Q := h
def R_plain_0 (e : yE) (d k : Nat) (x1 : Int) (M : xM) (Q : Int → xM → Prop) : Prop := xGo xft xNf xmt xtr d 156 0 [some (.inr (some k)), some (.inl x1)] [] (yS e M) (yI e Q)
theorem t_plain_0 {e : yE} {d k : Nat} {x1 : Int} {M : xM} {Q : Int → xM → Prop} (hs : RSh k e) (h :
    ∀ M1 : xM, M1 = xup M k 0 (0 : Int) → 
    (R_isType e d k x1 M1 (fun y3 M2 => 
    (rg y3) ∧ ((y3 = 0 → 
      (Q (-1 : Int) M2)) ∧ 
    (¬ (y3 = 0) → 
      ((0 ≤ x1 ∧ x1 < 8) ∧ 
      (Q (M2 (k + 4) x1) M2))))))) : R_plain_0 e d k x1 M Q := by
  refine xGo.in ?_
  refine And.intro (rs_ob hs) ?_
  replace h := h _ rfl
  refine And.intro ⟨Nat.le_of_ble_eq_true rfl, Nat.le_of_ble_eq_true rfl, rs_ob hs⟩ ?_
  refine yI_use h (fun y3 M2 h => ?_)
  refine And.intro (h.1) (And.intro (fun c => ?_) (fun c => ?_))
  · replace h := h.2.1 c
    exact yI_ret h
  · replace h := h.2.2 c
    refine And.intro (rs_ob hs) ?_
    refine And.intro (xi_ld (rs_4 hs) (h.1)) ?_
    replace h := h.2
    exact yI_ret h
theorem t_plain {e : yE} {d k : Nat} {x1 : Int} {M : xM} {Q : Int → xM → Prop} (h : R_plain_0 e d k x1 M Q) : R_plain e (d + 1) k x1 M Q := h
def R_sumOf_0 (e : yE) (d : Nat) (a0 : Nat) (n0 : Nat) (x1 : Int) (M : xM) (Q : Int → xM → Prop) : Prop := ∀ (o2 o3 : Option xV), xGo xft xNf xmt xtr d 157 0 [some (.inr (some a0)), some (.inl x1), o2, o3] [] (yS e M) (yI e Q)
def R_sumOf_4 (e : yE) (d : Nat) (a0 : Nat) (n0 : Nat) (x1 x2 x3 : Int) (M : xM) (Q : Int → xM → Prop) : Prop := xGo xft xNf xmt xtr d 157 4 [some (.inr (some a0)), some (.inl x1), some (.inl x2), some (.inl x3)] [] (yS e M) (yI e Q)
theorem t_sumOf_0 {e : yE} {d : Nat} {a0 : Nat} {n0 : Nat} {x1 : Int} {M : xM} {Q : Int → xM → Prop} (ha0 : yAr e a0 n0) (h :
    R_sumOf_4 e d a0 n0 x1 (0 : Int) (0 : Int) M Q) : R_sumOf_0 e d a0 n0 x1 M Q := by
  intro o2 o3
  refine xGo.in ?_
  exact h
theorem t_sumOf_4 {e : yE} {d : Nat} {a0 : Nat} {n0 : Nat} {x1 x2 x3 : Int} {M : xM} {Q : Int → xM → Prop} (ha0 : yAr e a0 n0) (h :
    (rg x3 ∧ rg x1) ∧ ((x1 ≤ x3 → 
      (Q x2 M)) ∧ 
    (¬ (x1 ≤ x3) → 
      ((0 ≤ x3 ∧ x3 < (n0 : Int)) ∧ 
      (R_sumOf_4 e d a0 n0 x1 (x2 + (M a0 x3)) (x3 + 1) M Q))))) : R_sumOf_4 e d a0 n0 x1 x2 x3 M Q := by
  refine xGo.in ?_
  refine And.intro (⟨h.1.1, h.1.2⟩) (And.intro (fun c => ?_) (fun c => ?_))
  · replace h := h.2.1 c
    exact yI_ret h
  · replace h := h.2.2 c
    refine And.intro (xi_ld (ha0) (h.1)) ?_
    replace h := h.2
    exact h
theorem t_sumOf {e : yE} {d : Nat} {a0 : Nat} {n0 : Nat} {x1 : Int} {M : xM} {Q : Int → xM → Prop} (h : R_sumOf_0 e d a0 n0 x1 M Q) : R_sumOf e (d + 1) a0 n0 x1 M Q := h _ _
def R_count_0 (e : yE) (d k : Nat) (x1 : Int) (M : xM) (Q : Int → xM → Prop) : Prop := xGo xft xNf xmt xtr d 158 0 [some (.inr (some k)), some (.inl x1)] [] (yS e M) (yI e Q)
theorem t_count_0 {e : yE} {d k : Nat} {x1 : Int} {M : xM} {Q : Int → xM → Prop} (hs : RSh k e) (h :
    ∀ M1 : xM, M1 = xup M k 0 (0 : Int) → 
    ((rg x1) ∧ ((¬ x1 = 0 → 
      ((rg x1) ∧ ((¬ x1 = (1 : Int) → 
        ((rg x1) ∧ ((¬ x1 = (2 : Int) → 
          ((rg x1) ∧ ((¬ x1 = (3 : Int) → 
            ((rg x1) ∧ ((¬ x1 = (4 : Int) → 
              ((rg x1) ∧ ((¬ x1 = (5 : Int) → 
                (Q (-1 : Int) M1)) ∧ 
              (¬ (¬ x1 = (5 : Int)) → 
                (R_sumOf e d (k + 18) 20 (M1 k 25) M1 (fun y3 M2 => 
                Q y3 M2)))))) ∧ 
            (¬ (¬ x1 = (4 : Int)) → 
              (Q (M1 k 25) M1))))) ∧ 
          (¬ (¬ x1 = (3 : Int)) → 
            (Q (M1 k 18) M1))))) ∧ 
        (¬ (¬ x1 = (2 : Int)) → 
          (Q (M1 k 10) M1))))) ∧ 
      (¬ (¬ x1 = (1 : Int)) → 
        (R_sumOf e d (k + 1) 8 (8 : Int) M1 (fun y5 M4 => 
        Q y5 M4)))))) ∧ 
    (¬ (¬ x1 = 0) → 
      (Q (M1 k 1) M1))))) : R_count_0 e d k x1 M Q := by
  refine xGo.in ?_
  refine And.intro (rs_ob hs) ?_
  replace h := h _ rfl
  refine And.intro (h.1) (And.intro (fun c => ?_) (fun c => ?_))
  · replace h := h.2.1 c
    refine And.intro (⟨h.1, rg_lit (by decide)⟩) (And.intro (fun c => ?_) (fun c => ?_))
    · replace h := h.2.1 c
      refine And.intro (⟨h.1, rg_lit (by decide)⟩) (And.intro (fun c => ?_) (fun c => ?_))
      · replace h := h.2.1 c
        refine And.intro (⟨h.1, rg_lit (by decide)⟩) (And.intro (fun c => ?_) (fun c => ?_))
        · replace h := h.2.1 c
          refine And.intro (⟨h.1, rg_lit (by decide)⟩) (And.intro (fun c => ?_) (fun c => ?_))
          · replace h := h.2.1 c
            refine And.intro (⟨h.1, rg_lit (by decide)⟩) (And.intro (fun c => ?_) (fun c => ?_))
            · replace h := h.2.1 c
              exact yI_ret h
            · replace h := h.2.2 c
              refine And.intro (rs_ob hs) ?_
              refine And.intro (rs_ob hs) ?_
              refine And.intro ⟨Nat.le_of_ble_eq_true rfl, Nat.le_of_ble_eq_true rfl, trivial⟩ ?_
              refine yI_use h (fun y3 M2 h => ?_)
              exact yI_ret h
          · replace h := h.2.2 c
            refine And.intro (rs_ob hs) ?_
            exact yI_ret h
        · replace h := h.2.2 c
          refine And.intro (rs_ob hs) ?_
          exact yI_ret h
      · replace h := h.2.2 c
        refine And.intro (rs_ob hs) ?_
        exact yI_ret h
    · replace h := h.2.2 c
      refine And.intro (rs_ob hs) ?_
      refine And.intro ⟨Nat.le_of_ble_eq_true rfl, Nat.le_of_ble_eq_true rfl, trivial⟩ ?_
      refine yI_use h (fun y5 M4 h => ?_)
      exact yI_ret h
  · replace h := h.2.2 c
    refine And.intro (rs_ob hs) ?_
    exact yI_ret h
theorem t_count {e : yE} {d k : Nat} {x1 : Int} {M : xM} {Q : Int → xM → Prop} (h : R_count_0 e d k x1 M Q) : R_count e (d + 1) k x1 M Q := h
def R_check_0 (e : yE) (d k : Nat) (M : xM) (Q : Int → xM → Prop) : Prop := xGo xft xNf xmt xtr d 159 0 [some (.inr (some k))] [] (yS e M) (yI e Q)
theorem t_check_0 {e : yE} {d k : Nat} {M : xM} {Q : Int → xM → Prop} (hs : RSh k e) (h :
    ∀ M1 : xM, M1 = xup M k 0 (0 : Int) → 
    (Q (1 : Int) M1)) : R_check_0 e d k  M Q := by
  refine xGo.in ?_
  refine And.intro (rs_ob hs) ?_
  replace h := h _ rfl
  exact yI_ret h
theorem t_check {e : yE} {d k : Nat} {M : xM} {Q : Int → xM → Prop} (h : R_check_0 e d k  M Q) : R_check e (d + 1) k  M Q := h
end
