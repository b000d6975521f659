section
-- ===== PART A: goes FIRST, ahead of the names: the tables' words, and 'selects' of the private methods out of them =====
/-- a private method of a class that the tables say can be made, by its rows of tables_1 -/
def lw_okq (q : MethodName × Nat) : Prop := (q.1.cls ≠ "java/lang/invoke/MethodHandle" ∧ q.1.cls ≠ "java/lang/invoke/VarHandle") ∧ Cond.instantiable q.1.cls q.2 ∈ tables_1 ∧ Cond.privateMethod q.1 ∈ tables_1 ∧ Cond.instanceMethod q.1 ∈ tables_1
theorem lw_p0 : lw_okq (⟨"StoryColumns", "refresh", "()V"⟩, 7) := ⟨⟨by decide +kernel, by decide +kernel⟩, List.mem_of_getElem? (i := 11) (by decide +kernel), List.mem_of_getElem? (i := 376) (by decide +kernel), List.mem_of_getElem? (i := 377) (by decide +kernel)⟩
theorem lw_p1 : lw_okq (⟨"StoryColumns$Stories", "putUnderHead", "(I)V"⟩, 11) := ⟨⟨by decide +kernel, by decide +kernel⟩, List.mem_of_getElem? (i := 135) (by decide +kernel), List.mem_of_getElem? (i := 389) (by decide +kernel), List.mem_of_getElem? (i := 390) (by decide +kernel)⟩
theorem lw_p2 : lw_okq (⟨"StoryColumns$Stories", "insert", "(I)V"⟩, 11) := ⟨⟨by decide +kernel, by decide +kernel⟩, List.mem_of_getElem? (i := 135) (by decide +kernel), List.mem_of_getElem? (i := 393) (by decide +kernel), List.mem_of_getElem? (i := 394) (by decide +kernel)⟩
theorem lw_p3 : lw_okq (⟨"StoryColumns$Stories", "joinNext", "()Z"⟩, 11) := ⟨⟨by decide +kernel, by decide +kernel⟩, List.mem_of_getElem? (i := 135) (by decide +kernel), List.mem_of_getElem? (i := 401) (by decide +kernel), List.mem_of_getElem? (i := 402) (by decide +kernel)⟩
theorem lw_p4 : lw_okq (⟨"StoryColumns$Stories", "isWithoutStory", "(I)Z"⟩, 11) := ⟨⟨by decide +kernel, by decide +kernel⟩, List.mem_of_getElem? (i := 135) (by decide +kernel), List.mem_of_getElem? (i := 405) (by decide +kernel), List.mem_of_getElem? (i := 406) (by decide +kernel)⟩
theorem lw_p5 : lw_okq (⟨"StoryColumns$Stories", "takerFor", "(I)I"⟩, 11) := ⟨⟨by decide +kernel, by decide +kernel⟩, List.mem_of_getElem? (i := 135) (by decide +kernel), List.mem_of_getElem? (i := 409) (by decide +kernel), List.mem_of_getElem? (i := 410) (by decide +kernel)⟩
theorem lw_p6 : lw_okq (⟨"StoryColumns$Stories", "takes", "(II)Z"⟩, 11) := ⟨⟨by decide +kernel, by decide +kernel⟩, List.mem_of_getElem? (i := 135) (by decide +kernel), List.mem_of_getElem? (i := 413) (by decide +kernel), List.mem_of_getElem? (i := 414) (by decide +kernel)⟩
theorem lw_p7 : lw_okq (⟨"StoryColumns$Stories", "append", "(I)V"⟩, 11) := ⟨⟨by decide +kernel, by decide +kernel⟩, List.mem_of_getElem? (i := 135) (by decide +kernel), List.mem_of_getElem? (i := 422) (by decide +kernel), List.mem_of_getElem? (i := 423) (by decide +kernel)⟩
theorem lw_p8 : lw_okq (⟨"StoryColumns$Stories", "giveNumbers", "()V"⟩, 11) := ⟨⟨by decide +kernel, by decide +kernel⟩, List.mem_of_getElem? (i := 135) (by decide +kernel), List.mem_of_getElem? (i := 426) (by decide +kernel), List.mem_of_getElem? (i := 427) (by decide +kernel)⟩
theorem lw_p9 : lw_okq (⟨"StoryColumns$Articles", "lastOnward", "(I)I"⟩, 11) := ⟨⟨by decide +kernel, by decide +kernel⟩, List.mem_of_getElem? (i := 183) (by decide +kernel), List.mem_of_getElem? (i := 434) (by decide +kernel), List.mem_of_getElem? (i := 435) (by decide +kernel)⟩
theorem lw_p10 : lw_okq (⟨"StoryColumns$Articles", "linkToAim", "(I)V"⟩, 11) := ⟨⟨by decide +kernel, by decide +kernel⟩, List.mem_of_getElem? (i := 183) (by decide +kernel), List.mem_of_getElem? (i := 446) (by decide +kernel), List.mem_of_getElem? (i := 447) (by decide +kernel)⟩
theorem lw_p11 : lw_okq (⟨"StoryColumns$Articles", "aimOf", "(I)I"⟩, 11) := ⟨⟨by decide +kernel, by decide +kernel⟩, List.mem_of_getElem? (i := 183) (by decide +kernel), List.mem_of_getElem? (i := 450) (by decide +kernel), List.mem_of_getElem? (i := 451) (by decide +kernel)⟩
theorem lw_p12 : lw_okq (⟨"StoryColumns$Articles", "addFrom", "(I)V"⟩, 11) := ⟨⟨by decide +kernel, by decide +kernel⟩, List.mem_of_getElem? (i := 183) (by decide +kernel), List.mem_of_getElem? (i := 459) (by decide +kernel), List.mem_of_getElem? (i := 460) (by decide +kernel)⟩
theorem lw_p13 : lw_okq (⟨"StoryColumns$Articles", "isReadIn", "(II)Z"⟩, 11) := ⟨⟨by decide +kernel, by decide +kernel⟩, List.mem_of_getElem? (i := 183) (by decide +kernel), List.mem_of_getElem? (i := 540) (by decide +kernel), List.mem_of_getElem? (i := 541) (by decide +kernel)⟩
theorem lw_p14 : lw_okq (⟨"StoryColumnsModel", "isMeeting", "(IIIII)Z"⟩, 34) := ⟨⟨by decide +kernel, by decide +kernel⟩, List.mem_of_getElem? (i := 602) (by decide +kernel), List.mem_of_getElem? (i := 719) (by decide +kernel), List.mem_of_getElem? (i := 720) (by decide +kernel)⟩
theorem lw_p15 : lw_okq (⟨"StoryColumnsModel", "isBlock", "(I)Z"⟩, 34) := ⟨⟨by decide +kernel, by decide +kernel⟩, List.mem_of_getElem? (i := 602) (by decide +kernel), List.mem_of_getElem? (i := 727) (by decide +kernel), List.mem_of_getElem? (i := 728) (by decide +kernel)⟩
def lw_privs_1 : List (MethodName × Nat) := [(⟨"StoryColumns", "refresh", "()V"⟩, 7), (⟨"StoryColumns$Stories", "putUnderHead", "(I)V"⟩, 11), (⟨"StoryColumns$Stories", "insert", "(I)V"⟩, 11), (⟨"StoryColumns$Stories", "joinNext", "()Z"⟩, 11), (⟨"StoryColumns$Stories", "isWithoutStory", "(I)Z"⟩, 11), (⟨"StoryColumns$Stories", "takerFor", "(I)I"⟩, 11), (⟨"StoryColumns$Stories", "takes", "(II)Z"⟩, 11), (⟨"StoryColumns$Stories", "append", "(I)V"⟩, 11), (⟨"StoryColumns$Stories", "giveNumbers", "()V"⟩, 11), (⟨"StoryColumns$Articles", "lastOnward", "(I)I"⟩, 11), (⟨"StoryColumns$Articles", "linkToAim", "(I)V"⟩, 11), (⟨"StoryColumns$Articles", "aimOf", "(I)I"⟩, 11), (⟨"StoryColumns$Articles", "addFrom", "(I)V"⟩, 11), (⟨"StoryColumns$Articles", "isReadIn", "(II)Z"⟩, 11), (⟨"StoryColumnsModel", "isMeeting", "(IIIII)Z"⟩, 34), (⟨"StoryColumnsModel", "isBlock", "(I)Z"⟩, 34)]
theorem lw_r1 : ∀ q ∈ lw_privs_1, lw_okq q := List.forall_mem_cons.mpr ⟨lw_p0, List.forall_mem_cons.mpr ⟨lw_p1, List.forall_mem_cons.mpr ⟨lw_p2, List.forall_mem_cons.mpr ⟨lw_p3, List.forall_mem_cons.mpr ⟨lw_p4, List.forall_mem_cons.mpr ⟨lw_p5, List.forall_mem_cons.mpr ⟨lw_p6, List.forall_mem_cons.mpr ⟨lw_p7, List.forall_mem_cons.mpr ⟨lw_p8, List.forall_mem_cons.mpr ⟨lw_p9, List.forall_mem_cons.mpr ⟨lw_p10, List.forall_mem_cons.mpr ⟨lw_p11, List.forall_mem_cons.mpr ⟨lw_p12, List.forall_mem_cons.mpr ⟨lw_p13, List.forall_mem_cons.mpr ⟨lw_p14, List.forall_mem_cons.mpr ⟨lw_p15, fun _ h => absurd h List.not_mem_nil⟩⟩⟩⟩⟩⟩⟩⟩⟩⟩⟩⟩⟩⟩⟩⟩
theorem lw_p16 : lw_okq (⟨"StoryColumnsModel", "isHead", "(I)Z"⟩, 34) := ⟨⟨by decide +kernel, by decide +kernel⟩, List.mem_of_getElem? (i := 602) (by decide +kernel), List.mem_of_getElem? (i := 767) (by decide +kernel), List.mem_of_getElem? (i := 768) (by decide +kernel)⟩
theorem lw_p17 : lw_okq (⟨"StoryColumnsModel", "lastRow", "(II)I"⟩, 34) := ⟨⟨by decide +kernel, by decide +kernel⟩, List.mem_of_getElem? (i := 602) (by decide +kernel), List.mem_of_getElem? (i := 771) (by decide +kernel), List.mem_of_getElem? (i := 772) (by decide +kernel)⟩
theorem lw_p18 : lw_okq (⟨"StoryColumnsModel", "reachesAcross", "(II)Z"⟩, 34) := ⟨⟨by decide +kernel, by decide +kernel⟩, List.mem_of_getElem? (i := 602) (by decide +kernel), List.mem_of_getElem? (i := 775) (by decide +kernel), List.mem_of_getElem? (i := 776) (by decide +kernel)⟩
theorem lw_p19 : lw_okq (⟨"StoryColumnsModel", "isUpright", "(IIII)Z"⟩, 34) := ⟨⟨by decide +kernel, by decide +kernel⟩, List.mem_of_getElem? (i := 602) (by decide +kernel), List.mem_of_getElem? (i := 779) (by decide +kernel), List.mem_of_getElem? (i := 780) (by decide +kernel)⟩
theorem lw_p20 : lw_okq (⟨"StoryColumnsModel", "headOver", "(I)I"⟩, 34) := ⟨⟨by decide +kernel, by decide +kernel⟩, List.mem_of_getElem? (i := 602) (by decide +kernel), List.mem_of_getElem? (i := 787) (by decide +kernel), List.mem_of_getElem? (i := 788) (by decide +kernel)⟩
theorem lw_p21 : lw_okq (⟨"StoryColumnsModel", "findStories", "()V"⟩, 34) := ⟨⟨by decide +kernel, by decide +kernel⟩, List.mem_of_getElem? (i := 602) (by decide +kernel), List.mem_of_getElem? (i := 795) (by decide +kernel), List.mem_of_getElem? (i := 796) (by decide +kernel)⟩
theorem lw_p22 : lw_okq (⟨"StoryColumnsModel", "comesUnder", "(II)V"⟩, 34) := ⟨⟨by decide +kernel, by decide +kernel⟩, List.mem_of_getElem? (i := 602) (by decide +kernel), List.mem_of_getElem? (i := 799) (by decide +kernel), List.mem_of_getElem? (i := 800) (by decide +kernel)⟩
theorem lw_p23 : lw_okq (⟨"StoryColumnsModel", "comesBehind", "(II)V"⟩, 34) := ⟨⟨by decide +kernel, by decide +kernel⟩, List.mem_of_getElem? (i := 602) (by decide +kernel), List.mem_of_getElem? (i := 803) (by decide +kernel), List.mem_of_getElem? (i := 804) (by decide +kernel)⟩
theorem lw_p24 : lw_okq (⟨"StoryColumnsModel", "isAhead", "(II)Z"⟩, 34) := ⟨⟨by decide +kernel, by decide +kernel⟩, List.mem_of_getElem? (i := 602) (by decide +kernel), List.mem_of_getElem? (i := 807) (by decide +kernel), List.mem_of_getElem? (i := 808) (by decide +kernel)⟩
theorem lw_p25 : lw_okq (⟨"StoryColumnsModel", "joins", "()Z"⟩, 34) := ⟨⟨by decide +kernel, by decide +kernel⟩, List.mem_of_getElem? (i := 602) (by decide +kernel), List.mem_of_getElem? (i := 811) (by decide +kernel), List.mem_of_getElem? (i := 812) (by decide +kernel)⟩
theorem lw_p26 : lw_okq (⟨"StoryColumnsModel", "takerNow", "(I)I"⟩, 34) := ⟨⟨by decide +kernel, by decide +kernel⟩, List.mem_of_getElem? (i := 602) (by decide +kernel), List.mem_of_getElem? (i := 815) (by decide +kernel), List.mem_of_getElem? (i := 816) (by decide +kernel)⟩
theorem lw_p27 : lw_okq (⟨"StoryColumnsModel", "takes", "(II)Z"⟩, 34) := ⟨⟨by decide +kernel, by decide +kernel⟩, List.mem_of_getElem? (i := 602) (by decide +kernel), List.mem_of_getElem? (i := 819) (by decide +kernel), List.mem_of_getElem? (i := 820) (by decide +kernel)⟩
theorem lw_p28 : lw_okq (⟨"StoryColumnsModel", "isStory", "(I)Z"⟩, 34) := ⟨⟨by decide +kernel, by decide +kernel⟩, List.mem_of_getElem? (i := 602) (by decide +kernel), List.mem_of_getElem? (i := 843) (by decide +kernel), List.mem_of_getElem? (i := 844) (by decide +kernel)⟩
theorem lw_p29 : lw_okq (⟨"StoryColumnsModel", "findArticles", "()V"⟩, 34) := ⟨⟨by decide +kernel, by decide +kernel⟩, List.mem_of_getElem? (i := 602) (by decide +kernel), List.mem_of_getElem? (i := 847) (by decide +kernel), List.mem_of_getElem? (i := 848) (by decide +kernel)⟩
theorem lw_p30 : lw_okq (⟨"StoryColumnsModel", "onwardOf", "(I)I"⟩, 34) := ⟨⟨by decide +kernel, by decide +kernel⟩, List.mem_of_getElem? (i := 602) (by decide +kernel), List.mem_of_getElem? (i := 851) (by decide +kernel), List.mem_of_getElem? (i := 852) (by decide +kernel)⟩
theorem lw_p31 : lw_okq (⟨"StoryColumnsModel", "aimBy", "(I)I"⟩, 34) := ⟨⟨by decide +kernel, by decide +kernel⟩, List.mem_of_getElem? (i := 602) (by decide +kernel), List.mem_of_getElem? (i := 855) (by decide +kernel), List.mem_of_getElem? (i := 856) (by decide +kernel)⟩
def lw_privs_2 : List (MethodName × Nat) := [(⟨"StoryColumnsModel", "isHead", "(I)Z"⟩, 34), (⟨"StoryColumnsModel", "lastRow", "(II)I"⟩, 34), (⟨"StoryColumnsModel", "reachesAcross", "(II)Z"⟩, 34), (⟨"StoryColumnsModel", "isUpright", "(IIII)Z"⟩, 34), (⟨"StoryColumnsModel", "headOver", "(I)I"⟩, 34), (⟨"StoryColumnsModel", "findStories", "()V"⟩, 34), (⟨"StoryColumnsModel", "comesUnder", "(II)V"⟩, 34), (⟨"StoryColumnsModel", "comesBehind", "(II)V"⟩, 34), (⟨"StoryColumnsModel", "isAhead", "(II)Z"⟩, 34), (⟨"StoryColumnsModel", "joins", "()Z"⟩, 34), (⟨"StoryColumnsModel", "takerNow", "(I)I"⟩, 34), (⟨"StoryColumnsModel", "takes", "(II)Z"⟩, 34), (⟨"StoryColumnsModel", "isStory", "(I)Z"⟩, 34), (⟨"StoryColumnsModel", "findArticles", "()V"⟩, 34), (⟨"StoryColumnsModel", "onwardOf", "(I)I"⟩, 34), (⟨"StoryColumnsModel", "aimBy", "(I)I"⟩, 34)]
theorem lw_r2 : ∀ q ∈ lw_privs_2, lw_okq q := List.forall_mem_cons.mpr ⟨lw_p16, List.forall_mem_cons.mpr ⟨lw_p17, List.forall_mem_cons.mpr ⟨lw_p18, List.forall_mem_cons.mpr ⟨lw_p19, List.forall_mem_cons.mpr ⟨lw_p20, List.forall_mem_cons.mpr ⟨lw_p21, List.forall_mem_cons.mpr ⟨lw_p22, List.forall_mem_cons.mpr ⟨lw_p23, List.forall_mem_cons.mpr ⟨lw_p24, List.forall_mem_cons.mpr ⟨lw_p25, List.forall_mem_cons.mpr ⟨lw_p26, List.forall_mem_cons.mpr ⟨lw_p27, List.forall_mem_cons.mpr ⟨lw_p28, List.forall_mem_cons.mpr ⟨lw_p29, List.forall_mem_cons.mpr ⟨lw_p30, List.forall_mem_cons.mpr ⟨lw_p31, fun _ h => absurd h List.not_mem_nil⟩⟩⟩⟩⟩⟩⟩⟩⟩⟩⟩⟩⟩⟩⟩⟩
theorem lw_p32 : lw_okq (⟨"StoryColumnsModel", "lays", "(IZ)V"⟩, 34) := ⟨⟨by decide +kernel, by decide +kernel⟩, List.mem_of_getElem? (i := 602) (by decide +kernel), List.mem_of_getElem? (i := 859) (by decide +kernel), List.mem_of_getElem? (i := 860) (by decide +kernel)⟩
theorem lw_p33 : lw_okq (⟨"StoryColumnsModel", "wordsIn", "(I)I"⟩, 34) := ⟨⟨by decide +kernel, by decide +kernel⟩, List.mem_of_getElem? (i := 602) (by decide +kernel), List.mem_of_getElem? (i := 863) (by decide +kernel), List.mem_of_getElem? (i := 864) (by decide +kernel)⟩
theorem lw_p34 : lw_okq (⟨"StoryColumnsModel", "manyIn", "(IZ)I"⟩, 34) := ⟨⟨by decide +kernel, by decide +kernel⟩, List.mem_of_getElem? (i := 602) (by decide +kernel), List.mem_of_getElem? (i := 867) (by decide +kernel), List.mem_of_getElem? (i := 868) (by decide +kernel)⟩
theorem lw_p35 : lw_okq (⟨"StoryColumnsModel", "isBroken", "(I)Z"⟩, 34) := ⟨⟨by decide +kernel, by decide +kernel⟩, List.mem_of_getElem? (i := 602) (by decide +kernel), List.mem_of_getElem? (i := 871) (by decide +kernel), List.mem_of_getElem? (i := 872) (by decide +kernel)⟩
theorem lw_p36 : lw_okq (⟨"StoryColumnsModel", "isArticle", "(I)Z"⟩, 34) := ⟨⟨by decide +kernel, by decide +kernel⟩, List.mem_of_getElem? (i := 602) (by decide +kernel), List.mem_of_getElem? (i := 883) (by decide +kernel), List.mem_of_getElem? (i := 884) (by decide +kernel)⟩
theorem lw_p37 : lw_okq (⟨"StoryColumnsModel", "sumOf", "(IZ)I"⟩, 34) := ⟨⟨by decide +kernel, by decide +kernel⟩, List.mem_of_getElem? (i := 602) (by decide +kernel), List.mem_of_getElem? (i := 887) (by decide +kernel), List.mem_of_getElem? (i := 888) (by decide +kernel)⟩
theorem lw_p38 : lw_okq (⟨"StoryColumnsModel", "pagesOf", "(I)I"⟩, 34) := ⟨⟨by decide +kernel, by decide +kernel⟩, List.mem_of_getElem? (i := 602) (by decide +kernel), List.mem_of_getElem? (i := 891) (by decide +kernel), List.mem_of_getElem? (i := 892) (by decide +kernel)⟩
theorem lw_p39 : lw_okq (⟨"StoryColumnsModel", "manyOfKind", "(I)I"⟩, 34) := ⟨⟨by decide +kernel, by decide +kernel⟩, List.mem_of_getElem? (i := 602) (by decide +kernel), List.mem_of_getElem? (i := 903) (by decide +kernel), List.mem_of_getElem? (i := 904) (by decide +kernel)⟩
theorem lw_p40 : lw_okq (⟨"StoryColumnsModel", "manyTexts", "(Z)I"⟩, 34) := ⟨⟨by decide +kernel, by decide +kernel⟩, List.mem_of_getElem? (i := 602) (by decide +kernel), List.mem_of_getElem? (i := 907) (by decide +kernel), List.mem_of_getElem? (i := 908) (by decide +kernel)⟩
theorem lw_p41 : lw_okq (⟨"StoryColumnsModel", "manyRings", "()I"⟩, 34) := ⟨⟨by decide +kernel, by decide +kernel⟩, List.mem_of_getElem? (i := 602) (by decide +kernel), List.mem_of_getElem? (i := 911) (by decide +kernel), List.mem_of_getElem? (i := 912) (by decide +kernel)⟩
theorem lw_p42 : lw_okq (⟨"StoryColumnsModel", "manyBroken", "()I"⟩, 34) := ⟨⟨by decide +kernel, by decide +kernel⟩, List.mem_of_getElem? (i := 602) (by decide +kernel), List.mem_of_getElem? (i := 915) (by decide +kernel), List.mem_of_getElem? (i := 916) (by decide +kernel)⟩
theorem lw_p43 : lw_okq (⟨"StoryColumnsModel", "manyIdle", "()I"⟩, 34) := ⟨⟨by decide +kernel, by decide +kernel⟩, List.mem_of_getElem? (i := 602) (by decide +kernel), List.mem_of_getElem? (i := 919) (by decide +kernel), List.mem_of_getElem? (i := 920) (by decide +kernel)⟩
theorem lw_p44 : lw_okq (⟨"StoryColumnsModel", "manyLost", "()I"⟩, 34) := ⟨⟨by decide +kernel, by decide +kernel⟩, List.mem_of_getElem? (i := 602) (by decide +kernel), List.mem_of_getElem? (i := 923) (by decide +kernel), List.mem_of_getElem? (i := 924) (by decide +kernel)⟩
def lw_privs_3 : List (MethodName × Nat) := [(⟨"StoryColumnsModel", "lays", "(IZ)V"⟩, 34), (⟨"StoryColumnsModel", "wordsIn", "(I)I"⟩, 34), (⟨"StoryColumnsModel", "manyIn", "(IZ)I"⟩, 34), (⟨"StoryColumnsModel", "isBroken", "(I)Z"⟩, 34), (⟨"StoryColumnsModel", "isArticle", "(I)Z"⟩, 34), (⟨"StoryColumnsModel", "sumOf", "(IZ)I"⟩, 34), (⟨"StoryColumnsModel", "pagesOf", "(I)I"⟩, 34), (⟨"StoryColumnsModel", "manyOfKind", "(I)I"⟩, 34), (⟨"StoryColumnsModel", "manyTexts", "(Z)I"⟩, 34), (⟨"StoryColumnsModel", "manyRings", "()I"⟩, 34), (⟨"StoryColumnsModel", "manyBroken", "()I"⟩, 34), (⟨"StoryColumnsModel", "manyIdle", "()I"⟩, 34), (⟨"StoryColumnsModel", "manyLost", "()I"⟩, 34)]
theorem lw_r3 : ∀ q ∈ lw_privs_3, lw_okq q := List.forall_mem_cons.mpr ⟨lw_p32, List.forall_mem_cons.mpr ⟨lw_p33, List.forall_mem_cons.mpr ⟨lw_p34, List.forall_mem_cons.mpr ⟨lw_p35, List.forall_mem_cons.mpr ⟨lw_p36, List.forall_mem_cons.mpr ⟨lw_p37, List.forall_mem_cons.mpr ⟨lw_p38, List.forall_mem_cons.mpr ⟨lw_p39, List.forall_mem_cons.mpr ⟨lw_p40, List.forall_mem_cons.mpr ⟨lw_p41, List.forall_mem_cons.mpr ⟨lw_p42, List.forall_mem_cons.mpr ⟨lw_p43, List.forall_mem_cons.mpr ⟨lw_p44, fun _ h => absurd h List.not_mem_nil⟩⟩⟩⟩⟩⟩⟩⟩⟩⟩⟩⟩⟩
def lw_privs : List (MethodName × Nat) := lw_privs_1 ++ (lw_privs_2 ++ (lw_privs_3))
def lw_tbl : List Cond := k2_sels lw_privs ++ tables_1
theorem lw_privs_ok : ∀ q ∈ lw_privs, lw_okq q := by
  show ∀ q ∈ lw_privs_1 ++ (lw_privs_2 ++ (lw_privs_3)), lw_okq q
  exact List.forall_mem_append.mpr ⟨lw_r1, List.forall_mem_append.mpr ⟨lw_r2, lw_r3⟩⟩
-- ===== end of PART A; then your names; then what follows =====
end
section
/-! ===== BEGIN words of one list among another's, by their places ===== -/
theorem goodIn_r {big : List Cond} (ws : List Cond) (ps : List Nat) (hp : ws = ps.filterMap (fun i => big[i]?)) (h : ws.all goodWord = true) : GoodIn big ws := by
  intro w hw
  have h1 := List.all_eq_true.mp h w hw
  rw [hp] at hw
  obtain ⟨i, -, hi⟩ := List.mem_filterMap.mp hw
  have hm : w ∈ big := by first | exact List.mem_of_getElem? hi | exact List.getElem?_mem hi
  exact ⟨hm, good_of_word h1⟩
theorem goodIn_app {big a b : List Cond} (ha : GoodIn big a) (hb : GoodIn big b) : GoodIn big (a ++ b) := fun w h => (List.mem_append.mp h).elim (ha w) (hb w)
theorem goodIn_ca {big a b : List Cond} {c : Cond} (ha : GoodIn big (c :: a)) (hb : GoodIn big b) : GoodIn big (c :: (a ++ b)) := fun w h => (List.mem_cons.mp h).elim (fun e => ha w (List.mem_cons.mpr (Or.inl e))) (fun h => (List.mem_append.mp h).elim (fun h => ha w (List.mem_cons.mpr (Or.inr h))) (hb w))
theorem goodIn_sub {big ws : List Cond} (hm : ∀ w ∈ ws, w ∈ big) (h : ws.all goodWord = true) : GoodIn big ws := fun w hw => ⟨hm w hw, good_of_word (List.all_eq_true.mp h w hw)⟩
/-! ===== END ===== -/

/-! ===== BEGIN printed: names, fields, word lists, decode rows ===== -/
def RX0 : String := "StoryColumns$Articles"
def TX0 : u_T := fun k => match k with
  | 0 => ("StoryColumns$Articles", "blocks", "LStoryColumns$Blocks;", true)
  | 1 => ("StoryColumns$Articles", "marks", "LStoryColumns$Marks;", true)
  | 2 => ("StoryColumns$Articles", "stories", "LStoryColumns$Stories;", true)
  | 3 => ("StoryColumns$Articles", "count", "I", false)
  | 4 => ("StoryColumns$Articles", "onward", "[I", true)
  | 5 => ("StoryColumns$Articles", "next", "[I", true)
  | 6 => ("StoryColumns$Articles", "previous", "[I", true)
  | 7 => ("StoryColumns$Articles", "articleOf", "[I", true)
  | 8 => ("StoryColumns$Articles", "first", "[I", true)
  | 9 => ("StoryColumns$Articles", "last", "[I", true)
  | _ => ("StoryColumns$Articles", "length", "[I", true)
def tyX0 : Nat → FieldType := fun k => match k with
  | 0 => .object "StoryColumns$Blocks"
  | 1 => .object "StoryColumns$Marks"
  | 2 => .object "StoryColumns$Stories"
  | 3 => .int
  | 4 => .array .int
  | 5 => .array .int
  | 6 => .array .int
  | 7 => .array .int
  | 8 => .array .int
  | 9 => .array .int
  | _ => .array .int
abbrev wsX00 : List Cond := u_ws RX0 TX0 11
theorem nmX0 : ∀ a, a < 11 → ∀ b, b < 11 → a ≠ b → (TX0 a).2.1 ≠ (TX0 b).2.1 := by decide +kernel
theorem tyX0_ok : ∀ k, k < 11 → parseFieldDescriptor (TX0 k).2.2.1 = some (tyX0 k) := by decide +kernel
abbrev cX0_init : ByteArray := prog_2_method_1_code
def yX0_init : MethodName := ⟨RX0, "<init>", "(LStoryColumns$Blocks;LStoryColumns$Marks;LStoryColumns$Stories;)V"⟩
abbrev cX0_build : ByteArray := prog_2_method_2_code
def yX0_build : MethodName := ⟨RX0, "build", "()V"⟩
abbrev cX0_lastOnward : ByteArray := prog_2_method_3_code
def yX0_lastOnward : MethodName := ⟨RX0, "lastOnward", "(I)I"⟩
abbrev cX0_linkToAim : ByteArray := prog_2_method_4_code
def yX0_linkToAim : MethodName := ⟨RX0, "linkToAim", "(I)V"⟩
abbrev cX0_aimOf : ByteArray := prog_2_method_5_code
def yX0_aimOf : MethodName := ⟨RX0, "aimOf", "(I)I"⟩
abbrev cX0_addFrom : ByteArray := prog_2_method_6_code
def yX0_addFrom : MethodName := ⟨RX0, "addFrom", "(I)V"⟩
abbrev cX0_has : ByteArray := prog_2_method_7_code
def yX0_has : MethodName := ⟨RX0, "has", "(I)Z"⟩
abbrev cX0_isBroken : ByteArray := prog_2_method_8_code
def yX0_isBroken : MethodName := ⟨RX0, "isBroken", "(I)Z"⟩
abbrev cX0_isRing : ByteArray := prog_2_method_9_code
def yX0_isRing : MethodName := ⟨RX0, "isRing", "(I)Z"⟩
abbrev cX0_isReadIn : ByteArray := prog_2_method_10_code
def yX0_isReadIn : MethodName := ⟨RX0, "isReadIn", "(II)Z"⟩
abbrev cX0_textsOf : ByteArray := prog_2_method_11_code
def yX0_textsOf : MethodName := ⟨RX0, "textsOf", "(I)I"⟩
abbrev cX0_wordsOf : ByteArray := prog_2_method_12_code
def yX0_wordsOf : MethodName := ⟨RX0, "wordsOf", "(I)I"⟩
abbrev cX0_pagesOf : ByteArray := prog_2_method_13_code
def yX0_pagesOf : MethodName := ⟨RX0, "pagesOf", "(I)I"⟩
abbrev cX0_blockAt : ByteArray := prog_2_method_14_code
def yX0_blockAt : MethodName := ⟨RX0, "blockAt", "(II)I"⟩
abbrev cX0_manyRings : ByteArray := prog_2_method_15_code
def yX0_manyRings : MethodName := ⟨RX0, "manyRings", "()I"⟩
abbrev cX0_manyBroken : ByteArray := prog_2_method_16_code
def yX0_manyBroken : MethodName := ⟨RX0, "manyBroken", "()I"⟩
abbrev cX0_manyIdleFrom : ByteArray := prog_2_method_17_code
def yX0_manyIdleFrom : MethodName := ⟨RX0, "manyIdleFrom", "()I"⟩
def RX1 : String := "StoryColumns$Blocks"
def TX1 : u_T := fun k => match k with
  | 0 => ("StoryColumns$Blocks", "count", "I", false)
  | 1 => ("StoryColumns$Blocks", "page", "[I", true)
  | 2 => ("StoryColumns$Blocks", "kind", "[I", true)
  | 3 => ("StoryColumns$Blocks", "left", "[I", true)
  | 4 => ("StoryColumns$Blocks", "right", "[I", true)
  | 5 => ("StoryColumns$Blocks", "top", "[I", true)
  | 6 => ("StoryColumns$Blocks", "bottom", "[I", true)
  | _ => ("StoryColumns$Blocks", "words", "[I", true)
def tyX1 : Nat → FieldType := fun k => match k with
  | 0 => .int
  | 1 => .array .int
  | 2 => .array .int
  | 3 => .array .int
  | 4 => .array .int
  | 5 => .array .int
  | 6 => .array .int
  | _ => .array .int
abbrev wsX10 : List Cond := u_ws RX1 TX1 8
theorem nmX1 : ∀ a, a < 8 → ∀ b, b < 8 → a ≠ b → (TX1 a).2.1 ≠ (TX1 b).2.1 := by decide +kernel
theorem tyX1_ok : ∀ k, k < 8 → parseFieldDescriptor (TX1 k).2.2.1 = some (tyX1 k) := by decide +kernel
abbrev cX1_init : ByteArray := prog_3_method_1_code
def yX1_init : MethodName := ⟨RX1, "<init>", "()V"⟩
abbrev cX1_has : ByteArray := prog_3_method_2_code
def yX1_has : MethodName := ⟨RX1, "has", "(I)Z"⟩
abbrev cX1_add : ByteArray := prog_3_method_3_code
def yX1_add : MethodName := ⟨RX1, "add", "(IIIIII)I"⟩
abbrev cX1_meets : ByteArray := prog_3_method_4_code
def yX1_meets : MethodName := ⟨RX1, "meets", "(IIIII)Z"⟩
abbrev cX1_firstIn : ByteArray := prog_3_method_5_code
def yX1_firstIn : MethodName := ⟨RX1, "firstIn", "(IIIII)I"⟩
abbrev cX1_turnAbout : ByteArray := prog_3_method_6_code
def yX1_turnAbout : MethodName := ⟨RX1, "turnAbout", "()I"⟩
abbrev cX1_manyOf : ByteArray := prog_3_method_7_code
def yX1_manyOf : MethodName := ⟨RX1, "manyOf", "(I)I"⟩
abbrev cX1_headBelow : ByteArray := prog_3_method_8_code
def yX1_headBelow : MethodName := ⟨RX1, "headBelow", "(III)I"⟩
abbrev cX1_isAhead : ByteArray := prog_3_method_9_code
def yX1_isAhead : MethodName := ⟨RX1, "isAhead", "(II)Z"⟩
def RX2 : String := "StoryColumns$Lines"
def TX2 : u_T := fun k => match k with
  | 0 => ("StoryColumns$Lines", "count", "I", false)
  | 1 => ("StoryColumns$Lines", "page", "[I", true)
  | 2 => ("StoryColumns$Lines", "how", "[I", true)
  | 3 => ("StoryColumns$Lines", "place", "[I", true)
  | 4 => ("StoryColumns$Lines", "from", "[I", true)
  | _ => ("StoryColumns$Lines", "until", "[I", true)
def tyX2 : Nat → FieldType := fun k => match k with
  | 0 => .int
  | 1 => .array .int
  | 2 => .array .int
  | 3 => .array .int
  | 4 => .array .int
  | _ => .array .int
abbrev wsX20 : List Cond := u_ws RX2 TX2 6
theorem nmX2 : ∀ a, a < 6 → ∀ b, b < 6 → a ≠ b → (TX2 a).2.1 ≠ (TX2 b).2.1 := by decide +kernel
theorem tyX2_ok : ∀ k, k < 6 → parseFieldDescriptor (TX2 k).2.2.1 = some (tyX2 k) := by decide +kernel
abbrev cX2_init : ByteArray := prog_4_method_1_code
def yX2_init : MethodName := ⟨RX2, "<init>", "()V"⟩
abbrev cX2_has : ByteArray := prog_4_method_2_code
def yX2_has : MethodName := ⟨RX2, "has", "(I)Z"⟩
abbrev cX2_add : ByteArray := prog_4_method_3_code
def yX2_add : MethodName := ⟨RX2, "add", "(IIIII)I"⟩
abbrev cX2_turnAbout : ByteArray := prog_4_method_4_code
def yX2_turnAbout : MethodName := ⟨RX2, "turnAbout", "()V"⟩
abbrev cX2_hasUpright : ByteArray := prog_4_method_5_code
def yX2_hasUpright : MethodName := ⟨RX2, "hasUpright", "(IIII)Z"⟩
abbrev cX2_flatBelow : ByteArray := prog_4_method_6_code
def yX2_flatBelow : MethodName := ⟨RX2, "flatBelow", "(III)I"⟩
def RX3 : String := "StoryColumns$Marks"
def TX3 : u_T := fun k => match k with
  | 0 => ("StoryColumns$Marks", "page", "[I", true)
  | _ => ("StoryColumns$Marks", "word", "[I", true)
def tyX3 : Nat → FieldType := fun k => match k with
  | 0 => .array .int
  | _ => .array .int
abbrev wsX30 : List Cond := u_ws RX3 TX3 2
theorem nmX3 : ∀ a, a < 2 → ∀ b, b < 2 → a ≠ b → (TX3 a).2.1 ≠ (TX3 b).2.1 := by decide +kernel
theorem tyX3_ok : ∀ k, k < 2 → parseFieldDescriptor (TX3 k).2.2.1 = some (tyX3 k) := by decide +kernel
abbrev cX3_init : ByteArray := prog_5_method_1_code
def yX3_init : MethodName := ⟨RX3, "<init>", "()V"⟩
abbrev cX3_has : ByteArray := prog_5_method_2_code
def yX3_has : MethodName := ⟨RX3, "has", "(II)Z"⟩
abbrev cX3_pageOf : ByteArray := prog_5_method_3_code
def yX3_pageOf : MethodName := ⟨RX3, "pageOf", "(II)I"⟩
abbrev cX3_wordOf : ByteArray := prog_5_method_4_code
def yX3_wordOf : MethodName := ⟨RX3, "wordOf", "(II)I"⟩
abbrev cX3_put : ByteArray := prog_5_method_5_code
def yX3_put : MethodName := ⟨RX3, "put", "(IIII)V"⟩
abbrev cX3_forget : ByteArray := prog_5_method_6_code
def yX3_forget : MethodName := ⟨RX3, "forget", "(II)V"⟩
abbrev cX3_forgetAllOf : ByteArray := prog_5_method_7_code
def yX3_forgetAllOf : MethodName := ⟨RX3, "forgetAllOf", "(I)V"⟩
def RX4 : String := "StoryColumns$Reaches"
def TX4 : u_T := fun k => match k with
  | 0 => ("StoryColumns$Reaches", "blocks", "LStoryColumns$Blocks;", true)
  | _ => ("StoryColumns$Reaches", "lines", "LStoryColumns$Lines;", true)
def tyX4 : Nat → FieldType := fun k => match k with
  | 0 => .object "StoryColumns$Blocks"
  | _ => .object "StoryColumns$Lines"
abbrev wsX40 : List Cond := u_ws RX4 TX4 2
theorem nmX4 : ∀ a, a < 2 → ∀ b, b < 2 → a ≠ b → (TX4 a).2.1 ≠ (TX4 b).2.1 := by decide +kernel
theorem tyX4_ok : ∀ k, k < 2 → parseFieldDescriptor (TX4 k).2.2.1 = some (tyX4 k) := by decide +kernel
abbrev cX4_init : ByteArray := prog_6_method_1_code
def yX4_init : MethodName := ⟨RX4, "<init>", "(LStoryColumns$Blocks;LStoryColumns$Lines;)V"⟩
abbrev cX4_lastColumn : ByteArray := prog_6_method_2_code
def yX4_lastColumn : MethodName := ⟨RX4, "lastColumn", "(I)I"⟩
abbrev cX4_lastRow : ByteArray := prog_6_method_3_code
def yX4_lastRow : MethodName := ⟨RX4, "lastRow", "(II)I"⟩
abbrev cX4_headOver : ByteArray := prog_6_method_4_code
def yX4_headOver : MethodName := ⟨RX4, "headOver", "(I)I"⟩
def RX5 : String := "StoryColumns$Stories"
def TX5 : u_T := fun k => match k with
  | 0 => ("StoryColumns$Stories", "blocks", "LStoryColumns$Blocks;", true)
  | 1 => ("StoryColumns$Stories", "lines", "LStoryColumns$Lines;", true)
  | 2 => ("StoryColumns$Stories", "reaches", "LStoryColumns$Reaches;", true)
  | 3 => ("StoryColumns$Stories", "count", "I", false)
  | 4 => ("StoryColumns$Stories", "over", "[I", true)
  | 5 => ("StoryColumns$Stories", "taker", "[I", true)
  | 6 => ("StoryColumns$Stories", "root", "[I", true)
  | 7 => ("StoryColumns$Stories", "storyOf", "[I", true)
  | 8 => ("StoryColumns$Stories", "rootOf", "[I", true)
  | 9 => ("StoryColumns$Stories", "sequence", "[I", true)
  | _ => ("StoryColumns$Stories", "texts", "I", false)
def tyX5 : Nat → FieldType := fun k => match k with
  | 0 => .object "StoryColumns$Blocks"
  | 1 => .object "StoryColumns$Lines"
  | 2 => .object "StoryColumns$Reaches"
  | 3 => .int
  | 4 => .array .int
  | 5 => .array .int
  | 6 => .array .int
  | 7 => .array .int
  | 8 => .array .int
  | 9 => .array .int
  | _ => .int
abbrev wsX50 : List Cond := u_ws RX5 TX5 11
theorem nmX5 : ∀ a, a < 11 → ∀ b, b < 11 → a ≠ b → (TX5 a).2.1 ≠ (TX5 b).2.1 := by decide +kernel
theorem tyX5_ok : ∀ k, k < 11 → parseFieldDescriptor (TX5 k).2.2.1 = some (tyX5 k) := by decide +kernel
abbrev cX5_init : ByteArray := prog_7_method_1_code
def yX5_init : MethodName := ⟨RX5, "<init>", "(LStoryColumns$Blocks;LStoryColumns$Lines;LStoryColumns$Reaches;)V"⟩
abbrev cX5_build : ByteArray := prog_7_method_2_code
def yX5_build : MethodName := ⟨RX5, "build", "()V"⟩
abbrev cX5_putUnderHead : ByteArray := prog_7_method_3_code
def yX5_putUnderHead : MethodName := ⟨RX5, "putUnderHead", "(I)V"⟩
abbrev cX5_insert : ByteArray := prog_7_method_4_code
def yX5_insert : MethodName := ⟨RX5, "insert", "(I)V"⟩
abbrev cX5_append : ByteArray := prog_7_method_5_code
def yX5_append : MethodName := ⟨RX5, "append", "(I)V"⟩
abbrev cX5_isWithoutStory : ByteArray := prog_7_method_6_code
def yX5_isWithoutStory : MethodName := ⟨RX5, "isWithoutStory", "(I)Z"⟩
abbrev cX5_joinNext : ByteArray := prog_7_method_7_code
def yX5_joinNext : MethodName := ⟨RX5, "joinNext", "()Z"⟩
abbrev cX5_takerFor : ByteArray := prog_7_method_8_code
def yX5_takerFor : MethodName := ⟨RX5, "takerFor", "(I)I"⟩
abbrev cX5_takes : ByteArray := prog_7_method_9_code
def yX5_takes : MethodName := ⟨RX5, "takes", "(II)Z"⟩
abbrev cX5_giveNumbers : ByteArray := prog_7_method_10_code
def yX5_giveNumbers : MethodName := ⟨RX5, "giveNumbers", "()V"⟩
abbrev cX5_has : ByteArray := prog_7_method_11_code
def yX5_has : MethodName := ⟨RX5, "has", "(I)Z"⟩
abbrev cX5_headOf : ByteArray := prog_7_method_12_code
def yX5_headOf : MethodName := ⟨RX5, "headOf", "(I)I"⟩
abbrev cX5_textsOf : ByteArray := prog_7_method_13_code
def yX5_textsOf : MethodName := ⟨RX5, "textsOf", "(I)I"⟩
abbrev cX5_wordsOf : ByteArray := prog_7_method_14_code
def yX5_wordsOf : MethodName := ⟨RX5, "wordsOf", "(I)I"⟩
abbrev cX5_picturesOf : ByteArray := prog_7_method_15_code
def yX5_picturesOf : MethodName := ⟨RX5, "picturesOf", "(I)I"⟩
abbrev cX5_joinedOf : ByteArray := prog_7_method_16_code
def yX5_joinedOf : MethodName := ⟨RX5, "joinedOf", "(I)I"⟩
abbrev cX5_textAt : ByteArray := prog_7_method_17_code
def yX5_textAt : MethodName := ⟨RX5, "textAt", "(II)I"⟩
abbrev cX5_manyJoined : ByteArray := prog_7_method_18_code
def yX5_manyJoined : MethodName := ⟨RX5, "manyJoined", "()I"⟩
abbrev cX5_manyLeftOver : ByteArray := prog_7_method_19_code
def yX5_manyLeftOver : MethodName := ⟨RX5, "manyLeftOver", "()I"⟩
abbrev cX5_manyLoosePictures : ByteArray := prog_7_method_20_code
def yX5_manyLoosePictures : MethodName := ⟨RX5, "manyLoosePictures", "()I"⟩
def RX6 : String := "StoryColumns"
def TX6 : u_T := fun k => match k with
  | 0 => ("StoryColumns", "blocks", "LStoryColumns$Blocks;", true)
  | 1 => ("StoryColumns", "marks", "LStoryColumns$Marks;", true)
  | 2 => ("StoryColumns", "lines", "LStoryColumns$Lines;", true)
  | 3 => ("StoryColumns", "reaches", "LStoryColumns$Reaches;", true)
  | 4 => ("StoryColumns", "stories", "LStoryColumns$Stories;", true)
  | 5 => ("StoryColumns", "articles", "LStoryColumns$Articles;", true)
  | _ => ("StoryColumns", "stale", "Z", false)
def tyX6 : Nat → FieldType := fun k => match k with
  | 0 => .object "StoryColumns$Blocks"
  | 1 => .object "StoryColumns$Marks"
  | 2 => .object "StoryColumns$Lines"
  | 3 => .object "StoryColumns$Reaches"
  | 4 => .object "StoryColumns$Stories"
  | 5 => .object "StoryColumns$Articles"
  | _ => .boolean
abbrev wsX60 : List Cond := u_ws RX6 TX6 7
theorem nmX6 : ∀ a, a < 7 → ∀ b, b < 7 → a ≠ b → (TX6 a).2.1 ≠ (TX6 b).2.1 := by decide +kernel
theorem tyX6_ok : ∀ k, k < 7 → parseFieldDescriptor (TX6 k).2.2.1 = some (tyX6 k) := by decide +kernel
abbrev cX6_init : ByteArray := prog_1_method_1_code
def yX6_init : MethodName := ⟨RX6, "<init>", "()V"⟩
abbrev cX6_block : ByteArray := prog_1_method_2_code
def yX6_block : MethodName := ⟨RX6, "block", "(IIIIII)I"⟩
abbrev cX6_words : ByteArray := prog_1_method_3_code
def yX6_words : MethodName := ⟨RX6, "words", "(II)I"⟩
abbrev cX6_line : ByteArray := prog_1_method_4_code
def yX6_line : MethodName := ⟨RX6, "line", "(IIIII)I"⟩
abbrev cX6_back : ByteArray := prog_1_method_5_code
def yX6_back : MethodName := ⟨RX6, "back", "()I"⟩
abbrev cX6_erase : ByteArray := prog_1_method_6_code
def yX6_erase : MethodName := ⟨RX6, "erase", "()I"⟩
abbrev cX6_clear : ByteArray := prog_1_method_7_code
def yX6_clear : MethodName := ⟨RX6, "clear", "()I"⟩
abbrev cX6_turn : ByteArray := prog_1_method_8_code
def yX6_turn : MethodName := ⟨RX6, "turn", "()I"⟩
abbrev cX6_ofBlock : ByteArray := prog_1_method_9_code
def yX6_ofBlock : MethodName := ⟨RX6, "ofBlock", "(II)I"⟩
abbrev cX6_ofLine : ByteArray := prog_1_method_10_code
def yX6_ofLine : MethodName := ⟨RX6, "ofLine", "(II)I"⟩
abbrev cX6_at : ByteArray := prog_1_method_11_code
def yX6_at : MethodName := ⟨RX6, "at", "(III)I"⟩
abbrev cX6_reach : ByteArray := prog_1_method_12_code
def yX6_reach : MethodName := ⟨RX6, "reach", "(II)I"⟩
abbrev cX6_under : ByteArray := prog_1_method_13_code
def yX6_under : MethodName := ⟨RX6, "under", "(I)I"⟩
abbrev cX6_story : ByteArray := prog_1_method_14_code
def yX6_story : MethodName := ⟨RX6, "story", "(I)I"⟩
abbrev cX6_takenBy : ByteArray := prog_1_method_15_code
def yX6_takenBy : MethodName := ⟨RX6, "takenBy", "(I)I"⟩
abbrev cX6_ofStory : ByteArray := prog_1_method_16_code
def yX6_ofStory : MethodName := ⟨RX6, "ofStory", "(II)I"⟩
abbrev cX6_text : ByteArray := prog_1_method_17_code
def yX6_text : MethodName := ⟨RX6, "text", "(II)I"⟩
abbrev cX6_mark : ByteArray := prog_1_method_18_code
def yX6_mark : MethodName := ⟨RX6, "mark", "(IIII)I"⟩
abbrev cX6_unmark : ByteArray := prog_1_method_19_code
def yX6_unmark : MethodName := ⟨RX6, "unmark", "(II)I"⟩
abbrev cX6_ofMark : ByteArray := prog_1_method_20_code
def yX6_ofMark : MethodName := ⟨RX6, "ofMark", "(III)I"⟩
abbrev cX6_ofArticle : ByteArray := prog_1_method_21_code
def yX6_ofArticle : MethodName := ⟨RX6, "ofArticle", "(II)I"⟩
abbrev cX6_read : ByteArray := prog_1_method_22_code
def yX6_read : MethodName := ⟨RX6, "read", "(II)I"⟩
abbrev cX6_many : ByteArray := prog_1_method_23_code
def yX6_many : MethodName := ⟨RX6, "many", "(I)I"⟩
abbrev cX6_isBelow : ByteArray := prog_1_method_24_code
def yX6_isBelow : MethodName := ⟨RX6, "isBelow", "(II)Z"⟩
abbrev cX6_isSpan : ByteArray := prog_1_method_25_code
def yX6_isSpan : MethodName := ⟨RX6, "isSpan", "(III)Z"⟩
abbrev cX6_refresh : ByteArray := prog_1_method_26_code
def yX6_refresh : MethodName := ⟨RX6, "refresh", "()V"⟩
def RX7 : String := "StoryColumnsModel"
def TX7 : u_T := fun k => match k with
  | 0 => ("StoryColumnsModel", "blocks", "I", false)
  | 1 => ("StoryColumnsModel", "pageOf", "[I", true)
  | 2 => ("StoryColumnsModel", "kindOf", "[I", true)
  | 3 => ("StoryColumnsModel", "left", "[I", true)
  | 4 => ("StoryColumnsModel", "right", "[I", true)
  | 5 => ("StoryColumnsModel", "top", "[I", true)
  | 6 => ("StoryColumnsModel", "bottom", "[I", true)
  | 7 => ("StoryColumnsModel", "wordsOf", "[I", true)
  | 8 => ("StoryColumnsModel", "markPage", "[I", true)
  | 9 => ("StoryColumnsModel", "markWord", "[I", true)
  | 10 => ("StoryColumnsModel", "lines", "I", false)
  | 11 => ("StoryColumnsModel", "linePage", "[I", true)
  | 12 => ("StoryColumnsModel", "lineHow", "[I", true)
  | 13 => ("StoryColumnsModel", "lineAt", "[I", true)
  | 14 => ("StoryColumnsModel", "lineFrom", "[I", true)
  | 15 => ("StoryColumnsModel", "lineTo", "[I", true)
  | 16 => ("StoryColumnsModel", "underOf", "[I", true)
  | 17 => ("StoryColumnsModel", "headOf", "[I", true)
  | 18 => ("StoryColumnsModel", "takerOf", "[I", true)
  | 19 => ("StoryColumnsModel", "textsOf", "[I", true)
  | 20 => ("StoryColumnsModel", "textAt", "[I", true)
  | 21 => ("StoryColumnsModel", "stories", "I", false)
  | 22 => ("StoryColumnsModel", "storyBlock", "[I", true)
  | 23 => ("StoryColumnsModel", "storyOf", "[I", true)
  | 24 => ("StoryColumnsModel", "goesOn", "[Z", true)
  | 25 => ("StoryColumnsModel", "aimOf", "[I", true)
  | 26 => ("StoryColumnsModel", "linkedTo", "[I", true)
  | 27 => ("StoryColumnsModel", "linkedFrom", "[I", true)
  | 28 => ("StoryColumnsModel", "articles", "I", false)
  | 29 => ("StoryColumnsModel", "articleAt", "[I", true)
  | 30 => ("StoryColumnsModel", "isRing", "[Z", true)
  | 31 => ("StoryColumnsModel", "inRow", "[I", true)
  | 32 => ("StoryColumnsModel", "articleOf", "[I", true)
  | _ => ("StoryColumnsModel", "laid", "I", false)
def tyX7 : Nat → FieldType := fun k => match k with
  | 0 => .int
  | 1 => .array .int
  | 2 => .array .int
  | 3 => .array .int
  | 4 => .array .int
  | 5 => .array .int
  | 6 => .array .int
  | 7 => .array .int
  | 8 => .array .int
  | 9 => .array .int
  | 10 => .int
  | 11 => .array .int
  | 12 => .array .int
  | 13 => .array .int
  | 14 => .array .int
  | 15 => .array .int
  | 16 => .array .int
  | 17 => .array .int
  | 18 => .array .int
  | 19 => .array .int
  | 20 => .array .int
  | 21 => .int
  | 22 => .array .int
  | 23 => .array .int
  | 24 => .array .boolean
  | 25 => .array .int
  | 26 => .array .int
  | 27 => .array .int
  | 28 => .int
  | 29 => .array .int
  | 30 => .array .boolean
  | 31 => .array .int
  | 32 => .array .int
  | _ => .int
abbrev wsX70 : List Cond := u_ws RX7 TX7 34
theorem nmX7 : ∀ a, a < 34 → ∀ b, b < 34 → a ≠ b → (TX7 a).2.1 ≠ (TX7 b).2.1 := by decide +kernel
theorem tyX7_ok : ∀ k, k < 34 → parseFieldDescriptor (TX7 k).2.2.1 = some (tyX7 k) := by decide +kernel
abbrev cX7_init : ByteArray := prog_9_method_1_code
def yX7_init : MethodName := ⟨RX7, "<init>", "()V"⟩
abbrev cX7_within : ByteArray := prog_9_method_2_code
def yX7_within : MethodName := ⟨RX7, "within", "(III)Z"⟩
abbrev cX7_isBlock : ByteArray := prog_9_method_3_code
def yX7_isBlock : MethodName := ⟨RX7, "isBlock", "(I)Z"⟩
abbrev cX7_isMeeting : ByteArray := prog_9_method_4_code
def yX7_isMeeting : MethodName := ⟨RX7, "isMeeting", "(IIIII)Z"⟩
abbrev cX7_block : ByteArray := prog_9_method_5_code
def yX7_block : MethodName := ⟨RX7, "block", "(IIIIII)I"⟩
abbrev cX7_words : ByteArray := prog_9_method_6_code
def yX7_words : MethodName := ⟨RX7, "words", "(II)I"⟩
abbrev cX7_line : ByteArray := prog_9_method_7_code
def yX7_line : MethodName := ⟨RX7, "line", "(IIIII)I"⟩
abbrev cX7_back : ByteArray := prog_9_method_8_code
def yX7_back : MethodName := ⟨RX7, "back", "()I"⟩
abbrev cX7_erase : ByteArray := prog_9_method_9_code
def yX7_erase : MethodName := ⟨RX7, "erase", "()I"⟩
abbrev cX7_clear : ByteArray := prog_9_method_10_code
def yX7_clear : MethodName := ⟨RX7, "clear", "()I"⟩
abbrev cX7_turn : ByteArray := prog_9_method_11_code
def yX7_turn : MethodName := ⟨RX7, "turn", "()I"⟩
abbrev cX7_ofBlock : ByteArray := prog_9_method_12_code
def yX7_ofBlock : MethodName := ⟨RX7, "ofBlock", "(II)I"⟩
abbrev cX7_ofLine : ByteArray := prog_9_method_13_code
def yX7_ofLine : MethodName := ⟨RX7, "ofLine", "(II)I"⟩
abbrev cX7_at : ByteArray := prog_9_method_14_code
def yX7_at : MethodName := ⟨RX7, "at", "(III)I"⟩
abbrev cX7_isHead : ByteArray := prog_9_method_15_code
def yX7_isHead : MethodName := ⟨RX7, "isHead", "(I)Z"⟩
abbrev cX7_isUpright : ByteArray := prog_9_method_16_code
def yX7_isUpright : MethodName := ⟨RX7, "isUpright", "(IIII)Z"⟩
abbrev cX7_reachesAcross : ByteArray := prog_9_method_17_code
def yX7_reachesAcross : MethodName := ⟨RX7, "reachesAcross", "(II)Z"⟩
abbrev cX7_lastRow : ByteArray := prog_9_method_18_code
def yX7_lastRow : MethodName := ⟨RX7, "lastRow", "(II)I"⟩
abbrev cX7_headOver : ByteArray := prog_9_method_19_code
def yX7_headOver : MethodName := ⟨RX7, "headOver", "(I)I"⟩
abbrev cX7_comesBehind : ByteArray := prog_9_method_20_code
def yX7_comesBehind : MethodName := ⟨RX7, "comesBehind", "(II)V"⟩
abbrev cX7_isAhead : ByteArray := prog_9_method_21_code
def yX7_isAhead : MethodName := ⟨RX7, "isAhead", "(II)Z"⟩
abbrev cX7_comesUnder : ByteArray := prog_9_method_22_code
def yX7_comesUnder : MethodName := ⟨RX7, "comesUnder", "(II)V"⟩
abbrev cX7_takes : ByteArray := prog_9_method_23_code
def yX7_takes : MethodName := ⟨RX7, "takes", "(II)Z"⟩
abbrev cX7_takerNow : ByteArray := prog_9_method_24_code
def yX7_takerNow : MethodName := ⟨RX7, "takerNow", "(I)I"⟩
abbrev cX7_joins : ByteArray := prog_9_method_25_code
def yX7_joins : MethodName := ⟨RX7, "joins", "()Z"⟩
abbrev cX7_findStories : ByteArray := prog_9_method_26_code
def yX7_findStories : MethodName := ⟨RX7, "findStories", "()V"⟩
abbrev cX7_reach : ByteArray := prog_9_method_27_code
def yX7_reach : MethodName := ⟨RX7, "reach", "(II)I"⟩
abbrev cX7_under : ByteArray := prog_9_method_28_code
def yX7_under : MethodName := ⟨RX7, "under", "(I)I"⟩
abbrev cX7_story : ByteArray := prog_9_method_29_code
def yX7_story : MethodName := ⟨RX7, "story", "(I)I"⟩
abbrev cX7_takenBy : ByteArray := prog_9_method_30_code
def yX7_takenBy : MethodName := ⟨RX7, "takenBy", "(I)I"⟩
abbrev cX7_mark : ByteArray := prog_9_method_31_code
def yX7_mark : MethodName := ⟨RX7, "mark", "(IIII)I"⟩
abbrev cX7_unmark : ByteArray := prog_9_method_32_code
def yX7_unmark : MethodName := ⟨RX7, "unmark", "(II)I"⟩
abbrev cX7_ofMark : ByteArray := prog_9_method_33_code
def yX7_ofMark : MethodName := ⟨RX7, "ofMark", "(III)I"⟩
abbrev cX7_onwardOf : ByteArray := prog_9_method_34_code
def yX7_onwardOf : MethodName := ⟨RX7, "onwardOf", "(I)I"⟩
abbrev cX7_aimBy : ByteArray := prog_9_method_35_code
def yX7_aimBy : MethodName := ⟨RX7, "aimBy", "(I)I"⟩
abbrev cX7_lays : ByteArray := prog_9_method_36_code
def yX7_lays : MethodName := ⟨RX7, "lays", "(IZ)V"⟩
abbrev cX7_findArticles : ByteArray := prog_9_method_37_code
def yX7_findArticles : MethodName := ⟨RX7, "findArticles", "()V"⟩
abbrev cX7_isBroken : ByteArray := prog_9_method_38_code
def yX7_isBroken : MethodName := ⟨RX7, "isBroken", "(I)Z"⟩
abbrev cX7_wordsIn : ByteArray := prog_9_method_39_code
def yX7_wordsIn : MethodName := ⟨RX7, "wordsIn", "(I)I"⟩
abbrev cX7_manyIn : ByteArray := prog_9_method_40_code
def yX7_manyIn : MethodName := ⟨RX7, "manyIn", "(IZ)I"⟩
abbrev cX7_isStory : ByteArray := prog_9_method_41_code
def yX7_isStory : MethodName := ⟨RX7, "isStory", "(I)Z"⟩
abbrev cX7_ofStory : ByteArray := prog_9_method_42_code
def yX7_ofStory : MethodName := ⟨RX7, "ofStory", "(II)I"⟩
abbrev cX7_text : ByteArray := prog_9_method_43_code
def yX7_text : MethodName := ⟨RX7, "text", "(II)I"⟩
abbrev cX7_isArticle : ByteArray := prog_9_method_44_code
def yX7_isArticle : MethodName := ⟨RX7, "isArticle", "(I)Z"⟩
abbrev cX7_sumOf : ByteArray := prog_9_method_45_code
def yX7_sumOf : MethodName := ⟨RX7, "sumOf", "(IZ)I"⟩
abbrev cX7_pagesOf : ByteArray := prog_9_method_46_code
def yX7_pagesOf : MethodName := ⟨RX7, "pagesOf", "(I)I"⟩
abbrev cX7_ofArticle : ByteArray := prog_9_method_47_code
def yX7_ofArticle : MethodName := ⟨RX7, "ofArticle", "(II)I"⟩
abbrev cX7_read : ByteArray := prog_9_method_48_code
def yX7_read : MethodName := ⟨RX7, "read", "(II)I"⟩
abbrev cX7_manyOfKind : ByteArray := prog_9_method_49_code
def yX7_manyOfKind : MethodName := ⟨RX7, "manyOfKind", "(I)I"⟩
abbrev cX7_manyTexts : ByteArray := prog_9_method_50_code
def yX7_manyTexts : MethodName := ⟨RX7, "manyTexts", "(Z)I"⟩
abbrev cX7_manyRings : ByteArray := prog_9_method_51_code
def yX7_manyRings : MethodName := ⟨RX7, "manyRings", "()I"⟩
abbrev cX7_manyBroken : ByteArray := prog_9_method_52_code
def yX7_manyBroken : MethodName := ⟨RX7, "manyBroken", "()I"⟩
abbrev cX7_manyIdle : ByteArray := prog_9_method_53_code
def yX7_manyIdle : MethodName := ⟨RX7, "manyIdle", "()I"⟩
abbrev cX7_manyLost : ByteArray := prog_9_method_54_code
def yX7_manyLost : MethodName := ⟨RX7, "manyLost", "()I"⟩
abbrev cX7_many : ByteArray := prog_9_method_55_code
def yX7_many : MethodName := ⟨RX7, "many", "(I)I"⟩
def RJ9 : String := "java/lang/Math"
def TJ9 : u_T := fun k => match k with
  | _ => ("", "", "", false)
def tyJ9 : Nat → FieldType := fun k => match k with
  | _ => .int
abbrev wsJ90 : List Cond := u_ws RJ9 TJ9 0
theorem nmJ9 : ∀ a, a < 0 → ∀ b, b < 0 → a ≠ b → (TJ9 a).2.1 ≠ (TJ9 b).2.1 := by decide +kernel
theorem tyJ9_ok : ∀ k, k < 0 → parseFieldDescriptor (TJ9 k).2.2.1 = some (tyJ9 k) := by decide +kernel
abbrev cJ9_max_7cf53 : ByteArray := prog_10_method_65_code
def yJ9_max_7cf53 : MethodName := ⟨RJ9, "max", "(II)I"⟩
abbrev cJ9_min_7cf53 : ByteArray := prog_10_method_69_code
def yJ9_min_7cf53 : MethodName := ⟨RJ9, "min", "(II)I"⟩
def RL : String := "StoryColumnsLaw"
abbrev cL_law : ByteArray := code
def yL_law : MethodName := ⟨RL, "law", "([I)Z"⟩
def wsL_law_r1 : List Cond := [Cond.classLink RL 7 RX6, Cond.instantiable RX6 7, Cond.initialized RX6, Cond.classLink RL 10 RX7, Cond.instantiable RX7 34, Cond.initialized RX7, Cond.methodLink RL 9 yX6_init, Cond.instanceMethod yX6_init, Cond.code yX6_init cX6_init 1 none, Cond.methodLink RX6 1 objectInit, Cond.instanceMethod objectInit, Cond.code objectInit ⟨#[0xb1]⟩ 1 none, Cond.classLink RX6 7 RX1, Cond.instantiable RX1 8, Cond.initialized RX1, Cond.fieldLink RX6 10 "StoryColumns" "blocks" "LStoryColumns$Blocks;", Cond.classLink RX6 16 RX3, Cond.instantiable RX3 2, Cond.initialized RX3, Cond.fieldLink RX6 19 "StoryColumns" "marks" "LStoryColumns$Marks;", Cond.classLink RX6 23 RX2, Cond.instantiable RX2 6, Cond.initialized RX2, Cond.fieldLink RX6 26 "StoryColumns" "lines" "LStoryColumns$Lines;"]
def wsL_law_r2 : List Cond := [Cond.classLink RX6 30 RX4, Cond.instantiable RX4 2, Cond.initialized RX4, Cond.fieldLink RX6 35 "StoryColumns" "reaches" "LStoryColumns$Reaches;", Cond.classLink RX6 39 RX5, Cond.instantiable RX5 11, Cond.initialized RX5, Cond.fieldLink RX6 44 "StoryColumns" "stories" "LStoryColumns$Stories;", Cond.classLink RX6 48 RX0, Cond.instantiable RX0 11, Cond.initialized RX0, Cond.fieldLink RX6 53 "StoryColumns" "articles" "LStoryColumns$Articles;", Cond.fieldLink RX6 57 "StoryColumns" "stale" "Z", Cond.instanceMethod yX1_init, Cond.code yX1_init cX1_init 1 none, Cond.methodLink RX1 3 objectInit, Cond.arrayClass .int, Cond.fieldLink RX1 9 "StoryColumns$Blocks" "page" "[I", Cond.fieldLink RX1 15 "StoryColumns$Blocks" "kind" "[I", Cond.fieldLink RX1 18 "StoryColumns$Blocks" "left" "[I", Cond.fieldLink RX1 21 "StoryColumns$Blocks" "right" "[I", Cond.fieldLink RX1 24 "StoryColumns$Blocks" "top" "[I", Cond.fieldLink RX1 27 "StoryColumns$Blocks" "bottom" "[I", Cond.fieldLink RX1 30 "StoryColumns$Blocks" "words" "[I"]
def wsL_law_r3 : List Cond := [Cond.instanceMethod yX3_init, Cond.code yX3_init cX3_init 1 none, Cond.methodLink RX3 3 objectInit, Cond.fieldLink RX3 9 "StoryColumns$Marks" "page" "[I", Cond.fieldLink RX3 15 "StoryColumns$Marks" "word" "[I", Cond.instanceMethod yX2_init, Cond.code yX2_init cX2_init 1 none, Cond.methodLink RX2 3 objectInit, Cond.fieldLink RX2 9 "StoryColumns$Lines" "page" "[I", Cond.fieldLink RX2 15 "StoryColumns$Lines" "how" "[I", Cond.fieldLink RX2 18 "StoryColumns$Lines" "place" "[I", Cond.fieldLink RX2 21 "StoryColumns$Lines" "from" "[I", Cond.fieldLink RX2 24 "StoryColumns$Lines" "until" "[I", Cond.methodLink RX6 32 yX4_init, Cond.instanceMethod yX4_init, Cond.code yX4_init cX4_init 3 none, Cond.methodLink RX4 3 objectInit, Cond.fieldLink RX4 9 "StoryColumns$Reaches" "blocks" "LStoryColumns$Blocks;", Cond.fieldLink RX4 15 "StoryColumns$Reaches" "lines" "LStoryColumns$Lines;", Cond.methodLink RX6 41 yX5_init, Cond.instanceMethod yX5_init, Cond.code yX5_init cX5_init 4 none, Cond.methodLink RX5 3 objectInit, Cond.fieldLink RX5 9 "StoryColumns$Stories" "over" "[I"]
def wsL_law_r4 : List Cond := [Cond.fieldLink RX5 15 "StoryColumns$Stories" "taker" "[I", Cond.fieldLink RX5 18 "StoryColumns$Stories" "root" "[I", Cond.fieldLink RX5 21 "StoryColumns$Stories" "storyOf" "[I", Cond.fieldLink RX5 24 "StoryColumns$Stories" "rootOf" "[I", Cond.fieldLink RX5 27 "StoryColumns$Stories" "sequence" "[I", Cond.fieldLink RX5 30 "StoryColumns$Stories" "blocks" "LStoryColumns$Blocks;", Cond.fieldLink RX5 34 "StoryColumns$Stories" "lines" "LStoryColumns$Lines;", Cond.fieldLink RX5 38 "StoryColumns$Stories" "reaches" "LStoryColumns$Reaches;", Cond.methodLink RX6 50 yX0_init, Cond.instanceMethod yX0_init, Cond.code yX0_init cX0_init 4 none, Cond.methodLink RX0 3 objectInit, Cond.fieldLink RX0 9 "StoryColumns$Articles" "onward" "[I", Cond.fieldLink RX0 15 "StoryColumns$Articles" "next" "[I", Cond.fieldLink RX0 18 "StoryColumns$Articles" "previous" "[I", Cond.fieldLink RX0 21 "StoryColumns$Articles" "articleOf" "[I", Cond.fieldLink RX0 24 "StoryColumns$Articles" "first" "[I", Cond.fieldLink RX0 27 "StoryColumns$Articles" "last" "[I", Cond.fieldLink RX0 30 "StoryColumns$Articles" "length" "[I", Cond.fieldLink RX0 33 "StoryColumns$Articles" "blocks" "LStoryColumns$Blocks;", Cond.fieldLink RX0 37 "StoryColumns$Articles" "marks" "LStoryColumns$Marks;", Cond.fieldLink RX0 41 "StoryColumns$Articles" "stories" "LStoryColumns$Stories;", Cond.methodLink RL 12 yX7_init, Cond.instanceMethod yX7_init]
def wsL_law_r5 : List Cond := [Cond.code yX7_init cX7_init 1 none, Cond.methodLink RX7 1 objectInit, Cond.fieldLink RX7 7 "StoryColumnsModel" "pageOf" "[I", Cond.fieldLink RX7 13 "StoryColumnsModel" "kindOf" "[I", Cond.fieldLink RX7 16 "StoryColumnsModel" "left" "[I", Cond.fieldLink RX7 19 "StoryColumnsModel" "right" "[I", Cond.fieldLink RX7 22 "StoryColumnsModel" "top" "[I", Cond.fieldLink RX7 25 "StoryColumnsModel" "bottom" "[I", Cond.fieldLink RX7 28 "StoryColumnsModel" "wordsOf" "[I", Cond.fieldLink RX7 31 "StoryColumnsModel" "markPage" "[I", Cond.fieldLink RX7 34 "StoryColumnsModel" "markWord" "[I", Cond.fieldLink RX7 37 "StoryColumnsModel" "linePage" "[I", Cond.fieldLink RX7 40 "StoryColumnsModel" "lineHow" "[I", Cond.fieldLink RX7 43 "StoryColumnsModel" "lineAt" "[I", Cond.fieldLink RX7 46 "StoryColumnsModel" "lineFrom" "[I", Cond.fieldLink RX7 49 "StoryColumnsModel" "lineTo" "[I", Cond.fieldLink RX7 52 "StoryColumnsModel" "underOf" "[I", Cond.fieldLink RX7 55 "StoryColumnsModel" "headOf" "[I", Cond.fieldLink RX7 58 "StoryColumnsModel" "takerOf" "[I", Cond.fieldLink RX7 61 "StoryColumnsModel" "textsOf" "[I", Cond.fieldLink RX7 64 "StoryColumnsModel" "textAt" "[I", Cond.fieldLink RX7 67 "StoryColumnsModel" "storyBlock" "[I", Cond.fieldLink RX7 70 "StoryColumnsModel" "storyOf" "[I", Cond.arrayClass .boolean]
def wsL_law_r6 : List Cond := [Cond.fieldLink RX7 73 "StoryColumnsModel" "goesOn" "[Z", Cond.fieldLink RX7 77 "StoryColumnsModel" "aimOf" "[I", Cond.fieldLink RX7 80 "StoryColumnsModel" "linkedTo" "[I", Cond.fieldLink RX7 83 "StoryColumnsModel" "linkedFrom" "[I", Cond.fieldLink RX7 86 "StoryColumnsModel" "articleAt" "[I", Cond.fieldLink RX7 89 "StoryColumnsModel" "isRing" "[Z", Cond.fieldLink RX7 92 "StoryColumnsModel" "inRow" "[I", Cond.fieldLink RX7 95 "StoryColumnsModel" "articleOf" "[I", Cond.methodLink RL 13 yX6_block, Cond.instanceMethod yX6_block, Cond.selects RX6 yX6_block yX6_block, Cond.code yX6_block cX6_block 7 (some .int), Cond.fieldLink RX6 73 "StoryColumns$Blocks" "count" "I", Cond.methodLink RX6 61 yX6_isBelow, Cond.static yX6_isBelow, Cond.code yX6_isBelow cX6_isBelow 2 (some .boolean), Cond.methodLink RX6 65 yX6_isSpan, Cond.static yX6_isSpan, Cond.code yX6_isSpan cX6_isSpan 3 (some .boolean), Cond.methodLink RX6 69 yX1_meets, Cond.instanceMethod yX1_meets, Cond.selects RX1 yX1_meets yX1_meets, Cond.code yX1_meets cX1_meets 6 (some .boolean), Cond.methodLink RX1 37 yX1_firstIn]
def wsL_law_r7 : List Cond := [Cond.instanceMethod yX1_firstIn, Cond.selects RX1 yX1_firstIn yX1_firstIn, Cond.code yX1_firstIn cX1_firstIn 9 (some .int), Cond.fieldLink RX1 33 "StoryColumns$Blocks" "count" "I", Cond.methodLink RX6 77 yX3_forgetAllOf, Cond.instanceMethod yX3_forgetAllOf, Cond.selects RX3 yX3_forgetAllOf yX3_forgetAllOf, Cond.code yX3_forgetAllOf cX3_forgetAllOf 2 none, Cond.methodLink RX3 26 yX3_forget, Cond.instanceMethod yX3_forget, Cond.selects RX3 yX3_forget yX3_forget, Cond.code yX3_forget cX3_forget 3 none, Cond.methodLink RX3 22 yX3_put, Cond.instanceMethod yX3_put, Cond.selects RX3 yX3_put yX3_put, Cond.code yX3_put cX3_put 5 none, Cond.methodLink RX6 81 yX1_add, Cond.instanceMethod yX1_add, Cond.selects RX1 yX1_add yX1_add, Cond.code yX1_add cX1_add 8 (some .int), Cond.methodLink RL 17 yX7_block, Cond.instanceMethod yX7_block, Cond.selects RX7 yX7_block yX7_block, Cond.code yX7_block cX7_block 9 (some .int)]
def wsL_law_r8 : List Cond := [Cond.fieldLink RX7 98 "StoryColumnsModel" "blocks" "I", Cond.methodLink RX7 102 yX7_within, Cond.static yX7_within, Cond.code yX7_within cX7_within 3 (some .boolean), Cond.methodLink RX7 106 yX7_isMeeting, Cond.instanceMethod yX7_isMeeting, Cond.selects RX7 yX7_isMeeting yX7_isMeeting, Cond.code yX7_isMeeting cX7_isMeeting 6 (some .boolean), Cond.methodLink RL 18 yX6_words, Cond.instanceMethod yX6_words, Cond.selects RX6 yX6_words yX6_words, Cond.code yX6_words cX6_words 4 (some .int), Cond.fieldLink RX6 89 "StoryColumns$Blocks" "kind" "[I", Cond.fieldLink RX6 93 "StoryColumns$Blocks" "words" "[I", Cond.methodLink RX6 85 yX1_has, Cond.instanceMethod yX1_has, Cond.selects RX1 yX1_has yX1_has, Cond.code yX1_has cX1_has 2 (some .boolean), Cond.methodLink RL 22 yX7_words, Cond.instanceMethod yX7_words, Cond.selects RX7 yX7_words yX7_words, Cond.code yX7_words cX7_words 4 (some .int), Cond.methodLink RX7 110 yX7_isBlock, Cond.instanceMethod yX7_isBlock]
def wsL_law_r9 : List Cond := [Cond.selects RX7 yX7_isBlock yX7_isBlock, Cond.code yX7_isBlock cX7_isBlock 2 (some .boolean), Cond.methodLink RL 23 yX6_line, Cond.instanceMethod yX6_line, Cond.selects RX6 yX6_line yX6_line, Cond.code yX6_line cX6_line 8 (some .int), Cond.fieldLink RX6 96 "StoryColumns$Lines" "count" "I", Cond.methodLink RX6 97 yX2_add, Cond.instanceMethod yX2_add, Cond.selects RX2 yX2_add yX2_add, Cond.code yX2_add cX2_add 7 (some .int), Cond.fieldLink RX2 27 "StoryColumns$Lines" "count" "I", Cond.methodLink RL 27 yX7_line, Cond.instanceMethod yX7_line, Cond.selects RX7 yX7_line yX7_line, Cond.code yX7_line cX7_line 8 (some .int), Cond.fieldLink RX7 114 "StoryColumnsModel" "lines" "I", Cond.methodLink RL 28 yX6_back, Cond.instanceMethod yX6_back, Cond.selects RX6 yX6_back yX6_back, Cond.code yX6_back cX6_back 1 (some .int), Cond.methodLink RL 32 yX7_back, Cond.instanceMethod yX7_back, Cond.selects RX7 yX7_back yX7_back]
def wsL_law_r10 : List Cond := [Cond.code yX7_back cX7_back 1 (some .int), Cond.methodLink RL 33 yX6_erase, Cond.instanceMethod yX6_erase, Cond.selects RX6 yX6_erase yX6_erase, Cond.code yX6_erase cX6_erase 1 (some .int), Cond.methodLink RL 36 yX7_erase, Cond.instanceMethod yX7_erase, Cond.selects RX7 yX7_erase yX7_erase, Cond.code yX7_erase cX7_erase 1 (some .int), Cond.methodLink RL 37 yX6_clear, Cond.instanceMethod yX6_clear, Cond.selects RX6 yX6_clear yX6_clear, Cond.code yX6_clear cX6_clear 2 (some .int), Cond.methodLink RL 40 yX7_clear, Cond.instanceMethod yX7_clear, Cond.selects RX7 yX7_clear yX7_clear, Cond.code yX7_clear cX7_clear 2 (some .int), Cond.methodLink RL 41 yX6_turn, Cond.instanceMethod yX6_turn, Cond.selects RX6 yX6_turn yX6_turn, Cond.code yX6_turn cX6_turn 1 (some .int), Cond.methodLink RX6 100 yX2_turnAbout, Cond.instanceMethod yX2_turnAbout, Cond.selects RX2 yX2_turnAbout yX2_turnAbout]
def wsL_law_r11 : List Cond := [Cond.code yX2_turnAbout cX2_turnAbout 3 none, Cond.methodLink RX6 103 yX1_turnAbout, Cond.instanceMethod yX1_turnAbout, Cond.selects RX1 yX1_turnAbout yX1_turnAbout, Cond.code yX1_turnAbout cX1_turnAbout 5 (some .int), Cond.methodLink RL 44 yX7_turn, Cond.instanceMethod yX7_turn, Cond.selects RX7 yX7_turn yX7_turn, Cond.code yX7_turn cX7_turn 4 (some .int), Cond.methodLink RL 45 yX6_ofBlock, Cond.instanceMethod yX6_ofBlock, Cond.selects RX6 yX6_ofBlock yX6_ofBlock, Cond.code yX6_ofBlock cX6_ofBlock 3 (some .int), Cond.fieldLink RX6 106 "StoryColumns$Blocks" "page" "[I", Cond.fieldLink RX6 109 "StoryColumns$Blocks" "left" "[I", Cond.fieldLink RX6 112 "StoryColumns$Blocks" "right" "[I", Cond.fieldLink RX6 115 "StoryColumns$Blocks" "top" "[I", Cond.fieldLink RX6 118 "StoryColumns$Blocks" "bottom" "[I", Cond.methodLink RL 48 yX7_ofBlock, Cond.instanceMethod yX7_ofBlock, Cond.selects RX7 yX7_ofBlock yX7_ofBlock, Cond.code yX7_ofBlock cX7_ofBlock 3 (some .int), Cond.methodLink RL 49 yX6_ofLine, Cond.instanceMethod yX6_ofLine]
def wsL_law_r12 : List Cond := [Cond.selects RX6 yX6_ofLine yX6_ofLine, Cond.code yX6_ofLine cX6_ofLine 3 (some .int), Cond.fieldLink RX6 122 "StoryColumns$Lines" "page" "[I", Cond.fieldLink RX6 123 "StoryColumns$Lines" "how" "[I", Cond.fieldLink RX6 126 "StoryColumns$Lines" "place" "[I", Cond.fieldLink RX6 129 "StoryColumns$Lines" "from" "[I", Cond.fieldLink RX6 132 "StoryColumns$Lines" "until" "[I", Cond.methodLink RX6 121 yX2_has, Cond.instanceMethod yX2_has, Cond.selects RX2 yX2_has yX2_has, Cond.code yX2_has cX2_has 2 (some .boolean), Cond.methodLink RL 52 yX7_ofLine, Cond.instanceMethod yX7_ofLine, Cond.selects RX7 yX7_ofLine yX7_ofLine, Cond.code yX7_ofLine cX7_ofLine 3 (some .int), Cond.methodLink RL 53 yX6_at, Cond.instanceMethod yX6_at, Cond.selects RX6 yX6_at yX6_at, Cond.code yX6_at cX6_at 4 (some .int), Cond.methodLink RX6 135 yX1_firstIn, Cond.methodLink RL 57 yX7_at, Cond.instanceMethod yX7_at, Cond.selects RX7 yX7_at yX7_at, Cond.code yX7_at cX7_at 5 (some .int)]
def wsL_law_r13 : List Cond := [Cond.methodLink RL 58 yX6_reach, Cond.instanceMethod yX6_reach, Cond.selects RX6 yX6_reach yX6_reach, Cond.code yX6_reach cX6_reach 3 (some .int), Cond.methodLink RX6 138 yX4_lastRow, Cond.instanceMethod yX4_lastRow, Cond.selects RX4 yX4_lastRow yX4_lastRow, Cond.code yX4_lastRow cX4_lastRow 6 (some .int), Cond.fieldLink RX4 25 "StoryColumns$Blocks" "left" "[I", Cond.fieldLink RX4 31 "StoryColumns$Blocks" "page" "[I", Cond.fieldLink RX4 19 "StoryColumns$Blocks" "bottom" "[I", Cond.methodLink RX4 51 Lib.Math.min.name, Cond.static Lib.Math.min.name, Cond.initialized "java/lang/Math", Cond.code Lib.Math.min.name Lib.Math.min.code 2 (some .int), Cond.methodLink RX4 40 yX4_lastColumn, Cond.instanceMethod yX4_lastColumn, Cond.selects RX4 yX4_lastColumn yX4_lastColumn, Cond.code yX4_lastColumn cX4_lastColumn 4 (some .int), Cond.fieldLink RX4 28 "StoryColumns$Blocks" "right" "[I", Cond.methodLink RX4 34 yX2_hasUpright, Cond.instanceMethod yX2_hasUpright, Cond.selects RX2 yX2_hasUpright yX2_hasUpright, Cond.code yX2_hasUpright cX2_hasUpright 7 (some .boolean)]
def wsL_law_r14 : List Cond := [Cond.methodLink RX4 44 yX1_headBelow, Cond.instanceMethod yX1_headBelow, Cond.selects RX1 yX1_headBelow yX1_headBelow, Cond.code yX1_headBelow cX1_headBelow 7 (some .int), Cond.methodLink RX1 41 Lib.Math.min.name, Cond.methodLink RX4 48 yX2_flatBelow, Cond.instanceMethod yX2_flatBelow, Cond.selects RX2 yX2_flatBelow yX2_flatBelow, Cond.code yX2_flatBelow cX2_flatBelow 7 (some .int), Cond.methodLink RX2 31 Lib.Math.min.name, Cond.methodLink RL 61 yX7_reach, Cond.instanceMethod yX7_reach, Cond.selects RX7 yX7_reach yX7_reach, Cond.code yX7_reach cX7_reach 3 (some .int), Cond.methodLink RX7 156 yX7_isHead, Cond.instanceMethod yX7_isHead, Cond.selects RX7 yX7_isHead yX7_isHead, Cond.code yX7_isHead cX7_isHead 2 (some .boolean), Cond.methodLink RX7 125 yX7_lastRow, Cond.instanceMethod yX7_lastRow, Cond.selects RX7 yX7_lastRow yX7_lastRow, Cond.code yX7_lastRow cX7_lastRow 7 (some .int), Cond.methodLink RX7 121 yX7_reachesAcross, Cond.instanceMethod yX7_reachesAcross]
def wsL_law_r15 : List Cond := [Cond.selects RX7 yX7_reachesAcross yX7_reachesAcross, Cond.code yX7_reachesAcross cX7_reachesAcross 4 (some .boolean), Cond.methodLink RX7 117 yX7_isUpright, Cond.instanceMethod yX7_isUpright, Cond.selects RX7 yX7_isUpright yX7_isUpright, Cond.code yX7_isUpright cX7_isUpright 6 (some .boolean), Cond.methodLink RL 62 yX6_under, Cond.instanceMethod yX6_under, Cond.selects RX6 yX6_under yX6_under, Cond.code yX6_under cX6_under 2 (some .int), Cond.fieldLink RX6 145 "StoryColumns$Stories" "over" "[I", Cond.methodLink RX6 142 yX6_refresh, Cond.instanceMethod yX6_refresh, Cond.selects RX6 yX6_refresh yX6_refresh, Cond.code yX6_refresh cX6_refresh 1 none, Cond.methodLink RX6 246 yX5_build, Cond.instanceMethod yX5_build, Cond.selects RX5 yX5_build yX5_build, Cond.code yX5_build cX5_build 3 none, Cond.fieldLink RX5 42 "StoryColumns$Stories" "texts" "I", Cond.fieldLink RX5 46 "StoryColumns$Blocks" "count" "I", Cond.fieldLink RX5 51 "StoryColumns$Blocks" "kind" "[I", Cond.methodLink RX5 54 yX4_headOver, Cond.instanceMethod yX4_headOver]
def wsL_law_r16 : List Cond := [Cond.selects RX4 yX4_headOver yX4_headOver, Cond.code yX4_headOver cX4_headOver 4 (some .int), Cond.fieldLink RX4 57 "StoryColumns$Blocks" "count" "I", Cond.fieldLink RX4 61 "StoryColumns$Blocks" "top" "[I", Cond.fieldLink RX4 64 "StoryColumns$Blocks" "kind" "[I", Cond.methodLink RX4 67 yX4_lastRow, Cond.methodLink RX5 60 yX5_putUnderHead, Cond.instanceMethod yX5_putUnderHead, Cond.selects RX5 yX5_putUnderHead yX5_putUnderHead, Cond.code yX5_putUnderHead cX5_putUnderHead 2 none, Cond.methodLink RX5 78 yX5_insert, Cond.instanceMethod yX5_insert, Cond.selects RX5 yX5_insert yX5_insert, Cond.code yX5_insert cX5_insert 3 none, Cond.methodLink RX5 81 yX1_isAhead, Cond.instanceMethod yX1_isAhead, Cond.selects RX1 yX1_isAhead yX1_isAhead, Cond.code yX1_isAhead cX1_isAhead 3 (some .boolean), Cond.methodLink RX5 64 yX5_joinNext, Cond.instanceMethod yX5_joinNext, Cond.selects RX5 yX5_joinNext yX5_joinNext, Cond.code yX5_joinNext cX5_joinNext 3 (some .boolean), Cond.methodLink RX5 68 yX5_isWithoutStory, Cond.instanceMethod yX5_isWithoutStory]
def wsL_law_r17 : List Cond := [Cond.selects RX5 yX5_isWithoutStory yX5_isWithoutStory, Cond.code yX5_isWithoutStory cX5_isWithoutStory 2 (some .boolean), Cond.methodLink RX5 85 yX5_takerFor, Cond.instanceMethod yX5_takerFor, Cond.selects RX5 yX5_takerFor yX5_takerFor, Cond.code yX5_takerFor cX5_takerFor 4 (some .int), Cond.fieldLink RX5 91 "StoryColumns$Blocks" "top" "[I", Cond.methodLink RX5 88 yX5_takes, Cond.instanceMethod yX5_takes, Cond.selects RX5 yX5_takes yX5_takes, Cond.code yX5_takes cX5_takes 7 (some .boolean), Cond.fieldLink RX5 94 "StoryColumns$Blocks" "page" "[I", Cond.fieldLink RX5 97 "StoryColumns$Blocks" "right" "[I", Cond.fieldLink RX5 100 "StoryColumns$Blocks" "left" "[I", Cond.methodLink RX5 103 Lib.Math.max.name, Cond.static Lib.Math.max.name, Cond.code Lib.Math.max.name Lib.Math.max.code 2 (some .int), Cond.fieldLink RX5 109 "StoryColumns$Blocks" "bottom" "[I", Cond.methodLink RX5 112 Lib.Math.min.name, Cond.methodLink RX5 115 yX2_hasUpright, Cond.methodLink RX5 72 yX5_append, Cond.instanceMethod yX5_append, Cond.selects RX5 yX5_append yX5_append, Cond.code yX5_append cX5_append 2 none]
def wsL_law_r18 : List Cond := [Cond.methodLink RX5 75 yX5_giveNumbers, Cond.instanceMethod yX5_giveNumbers, Cond.selects RX5 yX5_giveNumbers yX5_giveNumbers, Cond.code yX5_giveNumbers cX5_giveNumbers 2 none, Cond.fieldLink RX5 121 "StoryColumns$Stories" "count" "I", Cond.methodLink RX6 249 yX0_build, Cond.instanceMethod yX0_build, Cond.selects RX0 yX0_build yX0_build, Cond.code yX0_build cX0_build 2 none, Cond.fieldLink RX0 45 "StoryColumns$Articles" "count" "I", Cond.fieldLink RX0 49 "StoryColumns$Stories" "count" "I", Cond.methodLink RX0 52 yX0_lastOnward, Cond.instanceMethod yX0_lastOnward, Cond.selects RX0 yX0_lastOnward yX0_lastOnward, Cond.code yX0_lastOnward cX0_lastOnward 5 (some .int), Cond.fieldLink RX0 63 "StoryColumns$Stories" "texts" "I", Cond.fieldLink RX0 66 "StoryColumns$Stories" "sequence" "[I", Cond.fieldLink RX0 69 "StoryColumns$Stories" "storyOf" "[I", Cond.methodLink RX0 72 yX3_has, Cond.instanceMethod yX3_has, Cond.selects RX3 yX3_has yX3_has, Cond.code yX3_has cX3_has 3 (some .boolean), Cond.methodLink RX3 18 yX3_pageOf, Cond.instanceMethod yX3_pageOf]
def wsL_law_r19 : List Cond := [Cond.selects RX3 yX3_pageOf yX3_pageOf, Cond.code yX3_pageOf cX3_pageOf 3 (some .int), Cond.methodLink RX0 56 yX0_linkToAim, Cond.instanceMethod yX0_linkToAim, Cond.selects RX0 yX0_linkToAim yX0_linkToAim, Cond.code yX0_linkToAim cX0_linkToAim 3 none, Cond.methodLink RX0 78 yX0_aimOf, Cond.instanceMethod yX0_aimOf, Cond.selects RX0 yX0_aimOf yX0_aimOf, Cond.code yX0_aimOf cX0_aimOf 6 (some .int), Cond.fieldLink RX0 88 "StoryColumns$Blocks" "count" "I", Cond.fieldLink RX0 91 "StoryColumns$Blocks" "page" "[I", Cond.methodLink RX0 81 yX3_pageOf, Cond.methodLink RX0 85 yX3_wordOf, Cond.instanceMethod yX3_wordOf, Cond.selects RX3 yX3_wordOf yX3_wordOf, Cond.code yX3_wordOf cX3_wordOf 3 (some .int), Cond.methodLink RX0 60 yX0_addFrom, Cond.instanceMethod yX0_addFrom, Cond.selects RX0 yX0_addFrom yX0_addFrom, Cond.code yX0_addFrom cX0_addFrom 5 none, Cond.methodLink RL 66 yX7_under, Cond.instanceMethod yX7_under, Cond.selects RX7 yX7_under yX7_under]
def wsL_law_r20 : List Cond := [Cond.code yX7_under cX7_under 2 (some .int), Cond.methodLink RX7 143 yX7_headOver, Cond.instanceMethod yX7_headOver, Cond.selects RX7 yX7_headOver yX7_headOver, Cond.code yX7_headOver cX7_headOver 4 (some .int), Cond.methodLink RL 67 yX6_story, Cond.instanceMethod yX6_story, Cond.selects RX6 yX6_story yX6_story, Cond.code yX6_story cX6_story 2 (some .int), Cond.fieldLink RX6 148 "StoryColumns$Stories" "storyOf" "[I", Cond.methodLink RL 70 yX7_story, Cond.instanceMethod yX7_story, Cond.selects RX7 yX7_story yX7_story, Cond.code yX7_story cX7_story 2 (some .int), Cond.methodLink RX7 159 yX7_findStories, Cond.instanceMethod yX7_findStories, Cond.selects RX7 yX7_findStories yX7_findStories, Cond.code yX7_findStories cX7_findStories 4 none, Cond.fieldLink RX7 153 "StoryColumnsModel" "stories" "I", Cond.methodLink RX7 146 yX7_comesUnder, Cond.instanceMethod yX7_comesUnder, Cond.selects RX7 yX7_comesUnder yX7_comesUnder, Cond.code yX7_comesUnder cX7_comesUnder 4 none, Cond.methodLink RX7 129 yX7_comesBehind]
def wsL_law_r21 : List Cond := [Cond.instanceMethod yX7_comesBehind, Cond.selects RX7 yX7_comesBehind yX7_comesBehind, Cond.code yX7_comesBehind cX7_comesBehind 3 none, Cond.methodLink RX7 133 yX7_isAhead, Cond.instanceMethod yX7_isAhead, Cond.selects RX7 yX7_isAhead yX7_isAhead, Cond.code yX7_isAhead cX7_isAhead 3 (some .boolean), Cond.methodLink RX7 149 yX7_joins, Cond.instanceMethod yX7_joins, Cond.selects RX7 yX7_joins yX7_joins, Cond.code yX7_joins cX7_joins 3 (some .boolean), Cond.methodLink RX7 139 yX7_takerNow, Cond.instanceMethod yX7_takerNow, Cond.selects RX7 yX7_takerNow yX7_takerNow, Cond.code yX7_takerNow cX7_takerNow 4 (some .int), Cond.methodLink RX7 136 yX7_takes, Cond.instanceMethod yX7_takes, Cond.selects RX7 yX7_takes yX7_takes, Cond.code yX7_takes cX7_takes 5 (some .boolean), Cond.methodLink RL 71 yX6_takenBy, Cond.instanceMethod yX6_takenBy, Cond.selects RX6 yX6_takenBy yX6_takenBy, Cond.code yX6_takenBy cX6_takenBy 2 (some .int), Cond.fieldLink RX6 151 "StoryColumns$Stories" "taker" "[I"]
def wsL_law_r22 : List Cond := [Cond.methodLink RL 74 yX7_takenBy, Cond.instanceMethod yX7_takenBy, Cond.selects RX7 yX7_takenBy yX7_takenBy, Cond.code yX7_takenBy cX7_takenBy 2 (some .int), Cond.methodLink RL 75 yX6_ofStory, Cond.instanceMethod yX6_ofStory, Cond.selects RX6 yX6_ofStory yX6_ofStory, Cond.code yX6_ofStory cX6_ofStory 3 (some .int), Cond.fieldLink RX6 171 "StoryColumns$Articles" "next" "[I", Cond.fieldLink RX6 174 "StoryColumns$Articles" "previous" "[I", Cond.fieldLink RX6 177 "StoryColumns$Articles" "articleOf" "[I", Cond.methodLink RX6 154 yX5_has, Cond.instanceMethod yX5_has, Cond.selects RX5 yX5_has yX5_has, Cond.code yX5_has cX5_has 2 (some .boolean), Cond.methodLink RX6 155 yX5_headOf, Cond.instanceMethod yX5_headOf, Cond.selects RX5 yX5_headOf yX5_headOf, Cond.code yX5_headOf cX5_headOf 2 (some .int), Cond.methodLink RX6 159 yX5_textsOf, Cond.instanceMethod yX5_textsOf, Cond.selects RX5 yX5_textsOf yX5_textsOf, Cond.code yX5_textsOf cX5_textsOf 4 (some .int), Cond.methodLink RX6 162 yX5_wordsOf]
def wsL_law_r23 : List Cond := [Cond.instanceMethod yX5_wordsOf, Cond.selects RX5 yX5_wordsOf yX5_wordsOf, Cond.code yX5_wordsOf cX5_wordsOf 4 (some .int), Cond.fieldLink RX5 122 "StoryColumns$Blocks" "words" "[I", Cond.methodLink RX6 165 yX5_picturesOf, Cond.instanceMethod yX5_picturesOf, Cond.selects RX5 yX5_picturesOf yX5_picturesOf, Cond.code yX5_picturesOf cX5_picturesOf 4 (some .int), Cond.methodLink RX6 168 yX5_joinedOf, Cond.instanceMethod yX5_joinedOf, Cond.selects RX5 yX5_joinedOf yX5_joinedOf, Cond.code yX5_joinedOf cX5_joinedOf 4 (some .int), Cond.methodLink RX6 180 yX0_isBroken, Cond.instanceMethod yX0_isBroken, Cond.selects RX0 yX0_isBroken yX0_isBroken, Cond.code yX0_isBroken cX0_isBroken 2 (some .boolean), Cond.methodLink RL 78 yX7_ofStory, Cond.instanceMethod yX7_ofStory, Cond.selects RX7 yX7_ofStory yX7_ofStory, Cond.code yX7_ofStory cX7_ofStory 4 (some .int), Cond.methodLink RX7 181 yX7_isStory, Cond.instanceMethod yX7_isStory, Cond.selects RX7 yX7_isStory yX7_isStory, Cond.code yX7_isStory cX7_isStory 2 (some .boolean)]
def wsL_law_r24 : List Cond := [Cond.methodLink RX7 178 yX7_findArticles, Cond.instanceMethod yX7_findArticles, Cond.selects RX7 yX7_findArticles yX7_findArticles, Cond.code yX7_findArticles cX7_findArticles 3 none, Cond.fieldLink RX7 162 "StoryColumnsModel" "articles" "I", Cond.fieldLink RX7 165 "StoryColumnsModel" "laid" "I", Cond.methodLink RX7 168 yX7_onwardOf, Cond.instanceMethod yX7_onwardOf, Cond.selects RX7 yX7_onwardOf yX7_onwardOf, Cond.code yX7_onwardOf cX7_onwardOf 6 (some .int), Cond.methodLink RX7 171 yX7_aimBy, Cond.instanceMethod yX7_aimBy, Cond.selects RX7 yX7_aimBy yX7_aimBy, Cond.code yX7_aimBy cX7_aimBy 4 (some .int), Cond.methodLink RX7 174 yX7_lays, Cond.instanceMethod yX7_lays, Cond.selects RX7 yX7_lays yX7_lays, Cond.code yX7_lays cX7_lays 4 none, Cond.methodLink RX7 184 yX7_wordsIn, Cond.instanceMethod yX7_wordsIn, Cond.selects RX7 yX7_wordsIn yX7_wordsIn, Cond.code yX7_wordsIn cX7_wordsIn 5 (some .int), Cond.methodLink RX7 187 yX7_manyIn, Cond.instanceMethod yX7_manyIn]
def wsL_law_r25 : List Cond := [Cond.selects RX7 yX7_manyIn yX7_manyIn, Cond.code yX7_manyIn cX7_manyIn 6 (some .int), Cond.methodLink RX7 191 yX7_isBroken, Cond.instanceMethod yX7_isBroken, Cond.selects RX7 yX7_isBroken yX7_isBroken, Cond.code yX7_isBroken cX7_isBroken 2 (some .boolean), Cond.methodLink RL 79 yX6_text, Cond.instanceMethod yX6_text, Cond.selects RX6 yX6_text yX6_text, Cond.code yX6_text cX6_text 3 (some .int), Cond.methodLink RX6 183 yX5_textAt, Cond.instanceMethod yX5_textAt, Cond.selects RX5 yX5_textAt yX5_textAt, Cond.code yX5_textAt cX5_textAt 5 (some .int), Cond.methodLink RL 82 yX7_text, Cond.instanceMethod yX7_text, Cond.selects RX7 yX7_text yX7_text, Cond.code yX7_text cX7_text 4 (some .int), Cond.methodLink RL 83 yX6_mark, Cond.instanceMethod yX6_mark, Cond.selects RX6 yX6_mark yX6_mark, Cond.code yX6_mark cX6_mark 6 (some .int), Cond.methodLink RX6 186 yX3_has, Cond.methodLink RX6 188 yX3_put]
def wsL_law_r26 : List Cond := [Cond.methodLink RL 87 yX7_mark, Cond.instanceMethod yX7_mark, Cond.selects RX7 yX7_mark yX7_mark, Cond.code yX7_mark cX7_mark 6 (some .int), Cond.methodLink RL 88 yX6_unmark, Cond.instanceMethod yX6_unmark, Cond.selects RX6 yX6_unmark yX6_unmark, Cond.code yX6_unmark cX6_unmark 4 (some .int), Cond.methodLink RX6 192 yX3_forget, Cond.methodLink RL 91 yX7_unmark, Cond.instanceMethod yX7_unmark, Cond.selects RX7 yX7_unmark yX7_unmark, Cond.code yX7_unmark cX7_unmark 4 (some .int), Cond.methodLink RL 92 yX6_ofMark, Cond.instanceMethod yX6_ofMark, Cond.selects RX6 yX6_ofMark yX6_ofMark, Cond.code yX6_ofMark cX6_ofMark 4 (some .int), Cond.methodLink RX6 196 yX3_pageOf, Cond.methodLink RX6 199 yX3_wordOf, Cond.methodLink RL 95 yX7_ofMark, Cond.instanceMethod yX7_ofMark, Cond.selects RX7 yX7_ofMark yX7_ofMark, Cond.code yX7_ofMark cX7_ofMark 5 (some .int), Cond.methodLink RL 96 yX6_ofArticle]
def wsL_law_r27 : List Cond := [Cond.instanceMethod yX6_ofArticle, Cond.selects RX6 yX6_ofArticle yX6_ofArticle, Cond.code yX6_ofArticle cX6_ofArticle 3 (some .int), Cond.fieldLink RX6 203 "StoryColumns$Articles" "first" "[I", Cond.fieldLink RX6 206 "StoryColumns$Articles" "length" "[I", Cond.fieldLink RX6 217 "StoryColumns$Articles" "last" "[I", Cond.methodLink RX6 202 yX0_has, Cond.instanceMethod yX0_has, Cond.selects RX0 yX0_has yX0_has, Cond.code yX0_has cX0_has 2 (some .boolean), Cond.methodLink RX6 209 yX0_textsOf, Cond.instanceMethod yX0_textsOf, Cond.selects RX0 yX0_textsOf yX0_textsOf, Cond.code yX0_textsOf cX0_textsOf 4 (some .int), Cond.fieldLink RX0 94 "StoryColumns$Blocks" "kind" "[I", Cond.methodLink RX0 97 yX0_isReadIn, Cond.instanceMethod yX0_isReadIn, Cond.selects RX0 yX0_isReadIn yX0_isReadIn, Cond.code yX0_isReadIn cX0_isReadIn 4 (some .boolean), Cond.methodLink RX6 210 yX0_wordsOf, Cond.instanceMethod yX0_wordsOf, Cond.selects RX0 yX0_wordsOf yX0_wordsOf, Cond.code yX0_wordsOf cX0_wordsOf 4 (some .int), Cond.fieldLink RX0 100 "StoryColumns$Blocks" "words" "[I"]
def wsL_law_r28 : List Cond := [Cond.methodLink RX6 211 yX0_pagesOf, Cond.instanceMethod yX0_pagesOf, Cond.selects RX0 yX0_pagesOf yX0_pagesOf, Cond.code yX0_pagesOf cX0_pagesOf 4 (some .int), Cond.methodLink RX6 214 yX0_isRing, Cond.instanceMethod yX0_isRing, Cond.selects RX0 yX0_isRing yX0_isRing, Cond.code yX0_isRing cX0_isRing 2 (some .boolean), Cond.methodLink RL 99 yX7_ofArticle, Cond.instanceMethod yX7_ofArticle, Cond.selects RX7 yX7_ofArticle yX7_ofArticle, Cond.code yX7_ofArticle cX7_ofArticle 3 (some .int), Cond.methodLink RX7 194 yX7_isArticle, Cond.instanceMethod yX7_isArticle, Cond.selects RX7 yX7_isArticle yX7_isArticle, Cond.code yX7_isArticle cX7_isArticle 2 (some .boolean), Cond.methodLink RX7 197 yX7_sumOf, Cond.instanceMethod yX7_sumOf, Cond.selects RX7 yX7_sumOf yX7_sumOf, Cond.code yX7_sumOf cX7_sumOf 5 (some .int), Cond.methodLink RX7 200 yX7_pagesOf, Cond.instanceMethod yX7_pagesOf, Cond.selects RX7 yX7_pagesOf yX7_pagesOf, Cond.code yX7_pagesOf cX7_pagesOf 5 (some .int)]
def wsL_law_r29 : List Cond := [Cond.methodLink RL 100 yX6_read, Cond.instanceMethod yX6_read, Cond.selects RX6 yX6_read yX6_read, Cond.code yX6_read cX6_read 3 (some .int), Cond.methodLink RX6 220 yX0_blockAt, Cond.instanceMethod yX0_blockAt, Cond.selects RX0 yX0_blockAt yX0_blockAt, Cond.code yX0_blockAt cX0_blockAt 8 (some .int), Cond.methodLink RX0 103 yX5_headOf, Cond.methodLink RX0 106 yX5_textAt, Cond.methodLink RX0 109 yX5_textsOf, Cond.methodLink RL 103 yX7_read, Cond.instanceMethod yX7_read, Cond.selects RX7 yX7_read yX7_read, Cond.code yX7_read cX7_read 7 (some .int), Cond.methodLink RL 104 yX6_many, Cond.instanceMethod yX6_many, Cond.selects RX6 yX6_many yX6_many, Cond.code yX6_many cX6_many 2 (some .int), Cond.fieldLink RX6 226 "StoryColumns$Stories" "count" "I", Cond.fieldLink RX6 233 "StoryColumns$Articles" "count" "I", Cond.methodLink RX6 223 yX1_manyOf, Cond.instanceMethod yX1_manyOf, Cond.selects RX1 yX1_manyOf yX1_manyOf]
def wsL_law_r30 : List Cond := [Cond.code yX1_manyOf cX1_manyOf 4 (some .int), Cond.methodLink RX6 227 yX5_manyJoined, Cond.instanceMethod yX5_manyJoined, Cond.selects RX5 yX5_manyJoined yX5_manyJoined, Cond.code yX5_manyJoined cX5_manyJoined 3 (some .int), Cond.methodLink RX6 230 yX5_manyLeftOver, Cond.instanceMethod yX5_manyLeftOver, Cond.selects RX5 yX5_manyLeftOver yX5_manyLeftOver, Cond.code yX5_manyLeftOver cX5_manyLeftOver 1 (some .int), Cond.methodLink RX5 125 yX1_manyOf, Cond.methodLink RX6 234 yX0_manyRings, Cond.instanceMethod yX0_manyRings, Cond.selects RX0 yX0_manyRings yX0_manyRings, Cond.code yX0_manyRings cX0_manyRings 3 (some .int), Cond.methodLink RX0 112 yX0_isRing, Cond.methodLink RX6 237 yX0_manyBroken, Cond.instanceMethod yX0_manyBroken, Cond.selects RX0 yX0_manyBroken yX0_manyBroken, Cond.code yX0_manyBroken cX0_manyBroken 3 (some .int), Cond.methodLink RX0 116 yX0_isBroken, Cond.methodLink RX6 240 yX0_manyIdleFrom, Cond.instanceMethod yX0_manyIdleFrom, Cond.selects RX0 yX0_manyIdleFrom yX0_manyIdleFrom, Cond.code yX0_manyIdleFrom cX0_manyIdleFrom 4 (some .int)]
def wsL_law_r31 : List Cond := [Cond.methodLink RX6 243 yX5_manyLoosePictures, Cond.instanceMethod yX5_manyLoosePictures, Cond.selects RX5 yX5_manyLoosePictures yX5_manyLoosePictures, Cond.code yX5_manyLoosePictures cX5_manyLoosePictures 3 (some .int), Cond.methodLink RL 107 yX7_many, Cond.instanceMethod yX7_many, Cond.selects RX7 yX7_many yX7_many, Cond.code yX7_many cX7_many 2 (some .int), Cond.methodLink RX7 203 yX7_manyOfKind, Cond.instanceMethod yX7_manyOfKind, Cond.selects RX7 yX7_manyOfKind yX7_manyOfKind, Cond.code yX7_manyOfKind cX7_manyOfKind 4 (some .int), Cond.methodLink RX7 206 yX7_manyTexts, Cond.instanceMethod yX7_manyTexts, Cond.selects RX7 yX7_manyTexts yX7_manyTexts, Cond.code yX7_manyTexts cX7_manyTexts 5 (some .int), Cond.methodLink RX7 210 yX7_manyRings, Cond.instanceMethod yX7_manyRings, Cond.selects RX7 yX7_manyRings yX7_manyRings, Cond.code yX7_manyRings cX7_manyRings 3 (some .int), Cond.methodLink RX7 214 yX7_manyBroken, Cond.instanceMethod yX7_manyBroken, Cond.selects RX7 yX7_manyBroken yX7_manyBroken, Cond.code yX7_manyBroken cX7_manyBroken 3 (some .int)]
def wsL_law_r32 : List Cond := [Cond.methodLink RX7 217 yX7_manyIdle, Cond.instanceMethod yX7_manyIdle, Cond.selects RX7 yX7_manyIdle yX7_manyIdle, Cond.code yX7_manyIdle cX7_manyIdle 4 (some .int), Cond.methodLink RX7 220 yX7_manyLost, Cond.instanceMethod yX7_manyLost, Cond.selects RX7 yX7_manyLost yX7_manyLost, Cond.code yX7_manyLost cX7_manyLost 3 (some .int)]
def wsL_law : List Cond := (wsL_law_r1 ++ (wsL_law_r2 ++ (wsL_law_r3 ++ (wsL_law_r4 ++ (wsL_law_r5 ++ (wsL_law_r6 ++ (wsL_law_r7 ++ (wsL_law_r8 ++ (wsL_law_r9 ++ (wsL_law_r10 ++ (wsL_law_r11 ++ (wsL_law_r12 ++ (wsL_law_r13 ++ (wsL_law_r14 ++ (wsL_law_r15 ++ (wsL_law_r16 ++ (wsL_law_r17 ++ (wsL_law_r18 ++ (wsL_law_r19 ++ (wsL_law_r20 ++ (wsL_law_r21 ++ (wsL_law_r22 ++ (wsL_law_r23 ++ (wsL_law_r24 ++ (wsL_law_r25 ++ (wsL_law_r26 ++ (wsL_law_r27 ++ (wsL_law_r28 ++ (wsL_law_r29 ++ (wsL_law_r30 ++ (wsL_law_r31 ++ wsL_law_r32))))))))))))))))))))))))))))))) ++ wsX60 ++ wsX70 ++ wsX10 ++ wsX30 ++ wsX20 ++ wsX40 ++ wsX50 ++ wsX00 ++ ([] : List Cond)
set_option maxRecDepth 20000 in
theorem in_r (ws : List Cond) (ps : List Nat) (hp : ws = ps.filterMap (fun i => lw_tbl[i]?)) : ∀ w ∈ ws, w ∈ lw_tbl := by
  intro w hw
  rw [hp] at hw
  obtain ⟨i, -, hi⟩ := List.mem_filterMap.mp hw
  exact List.mem_of_getElem? hi
theorem in_a {a b : List Cond} (ha : ∀ w ∈ a, w ∈ lw_tbl) (hb : ∀ w ∈ b, w ∈ lw_tbl) : ∀ w ∈ a ++ b, w ∈ lw_tbl := fun w h => (List.mem_append.mp h).elim (ha w) (hb w)
theorem wsL_in_r1 : ∀ w ∈ wsL_law_r1, w ∈ lw_tbl := in_r _ [55, 56, 46, 646, 647, 53, 57, 58, 59, 60, 61, 62, 63, 64, 47, 274, 122, 123, 48, 275, 135, 136, 49, 276] (by decide +kernel)
theorem wsL_in_r2 : ∀ w ∈ wsL_law_r2, w ∈ lw_tbl := in_r _ [166, 167, 50, 277, 179, 180, 51, 278, 227, 228, 52, 279, 280, 66, 67, 68, 121, 74, 79, 84, 88, 92, 96, 100] (by decide +kernel)
theorem wsL_in_r3 : ∀ w ∈ wsL_law_r3, w ∈ lw_tbl := in_r _ [125, 126, 127, 128, 129, 138, 139, 140, 143, 145, 147, 149, 151, 168, 169, 170, 171, 172, 173, 181, 182, 183, 184, 191] (by decide +kernel)
theorem wsL_in_r4 : ∀ w ∈ wsL_law_r4, w ∈ lw_tbl := in_r _ [193, 195, 196, 199, 200, 185, 186, 187, 229, 230, 231, 232, 238, 239, 241, 243, 245, 247, 249, 233, 234, 235, 648, 649] (by decide +kernel)
theorem wsL_in_r5 : ∀ w ∈ wsL_law_r5, w ∈ lw_tbl := in_r _ [650, 651, 653, 654, 655, 656, 657, 658, 659, 660, 661, 663, 664, 665, 666, 667, 668, 669, 670, 671, 672, 674, 675, 755] (by decide +kernel)
theorem wsL_in_r6 : ∀ w ∈ wsL_law_r6, w ∈ lw_tbl := in_r _ [676, 677, 678, 679, 681, 682, 683, 684, 296, 297, 298, 299, 71, 300, 301, 302, 303, 304, 305, 306, 307, 308, 309, 310] (by decide +kernel)
theorem wsL_in_r7 : ∀ w ∈ wsL_law_r7, w ∈ lw_tbl := in_r _ [311, 312, 313, 69, 314, 315, 316, 317, 318, 319, 320, 321, 322, 323, 324, 325, 326, 327, 328, 329, 756, 757, 758, 759] (by decide +kernel)
theorem wsL_in_r8 : ∀ w ∈ wsL_law_r8, w ∈ lw_tbl := in_r _ [652, 760, 761, 762, 763, 765, 14, 766, 330, 331, 332, 333, 81, 101, 334, 335, 336, 337, 767, 768, 769, 770, 771, 773] (by decide +kernel)
theorem wsL_in_r9 : ∀ w ∈ wsL_law_r9, w ∈ lw_tbl := in_r _ [15, 774, 338, 339, 340, 341, 142, 342, 343, 344, 345, 141, 775, 776, 777, 778, 662, 346, 347, 348, 349, 779, 780, 781] (by decide +kernel)
theorem wsL_in_r10 : ∀ w ∈ wsL_law_r10, w ∈ lw_tbl := in_r _ [782, 350, 351, 352, 353, 783, 784, 785, 786, 354, 355, 356, 357, 787, 788, 789, 790, 358, 359, 360, 361, 362, 363, 364] (by decide +kernel)
theorem wsL_in_r11 : ∀ w ∈ wsL_law_r11, w ∈ lw_tbl := in_r _ [365, 366, 367, 368, 369, 791, 792, 793, 794, 370, 371, 372, 373, 78, 87, 91, 95, 98, 795, 796, 797, 798, 374, 375] (by decide +kernel)
theorem wsL_in_r12 : ∀ w ∈ wsL_law_r12, w ∈ lw_tbl := in_r _ [376, 377, 144, 146, 148, 150, 152, 378, 379, 380, 381, 799, 800, 801, 802, 382, 383, 384, 385, 386, 803, 804, 805, 806] (by decide +kernel)
theorem wsL_in_r13 : ∀ w ∈ wsL_law_r13, w ∈ lw_tbl := in_r _ [387, 388, 389, 390, 391, 392, 393, 394, 85, 75, 97, 415, 408, 54, 409, 395, 396, 397, 398, 89, 399, 400, 401, 402] (by decide +kernel)
theorem wsL_in_r14 : ∀ w ∈ wsL_law_r14, w ∈ lw_tbl := in_r _ [403, 404, 405, 406, 407, 410, 411, 412, 413, 414, 807, 808, 809, 810, 811, 813, 16, 814, 815, 817, 17, 818, 819, 821] (by decide +kernel)
theorem wsL_in_r15 : ∀ w ∈ wsL_law_r15, w ∈ lw_tbl := in_r _ [18, 822, 823, 825, 19, 826, 416, 417, 418, 419, 192, 420, 422, 0, 423, 424, 425, 426, 427, 202, 70, 80, 428, 429] (by decide +kernel)
theorem wsL_in_r16 : ∀ w ∈ wsL_law_r16, w ∈ lw_tbl := in_r _ [430, 431, 72, 93, 82, 432, 433, 435, 1, 436, 437, 439, 2, 440, 441, 442, 443, 444, 445, 447, 3, 448, 449, 451] (by decide +kernel)
theorem wsL_in_r17 : ∀ w ∈ wsL_law_r17, w ∈ lw_tbl := in_r _ [4, 452, 453, 455, 5, 456, 94, 457, 459, 6, 460, 77, 90, 86, 461, 462, 463, 99, 464, 465, 466, 468, 7, 469] (by decide +kernel)
theorem wsL_in_r18 : ∀ w ∈ wsL_law_r18, w ∈ lw_tbl := in_r _ [470, 472, 8, 473, 189, 474, 475, 476, 477, 236, 188, 478, 480, 9, 481, 203, 201, 197, 482, 483, 484, 485, 486, 487] (by decide +kernel)
theorem wsL_in_r19 : ∀ w ∈ wsL_law_r19, w ∈ lw_tbl := in_r _ [488, 489, 490, 492, 10, 493, 494, 496, 11, 497, 73, 76, 498, 499, 500, 501, 502, 503, 505, 12, 506, 827, 828, 829] (by decide +kernel)
theorem wsL_in_r20 : ∀ w ∈ wsL_law_r20, w ∈ lw_tbl := in_r _ [830, 831, 833, 20, 834, 507, 508, 509, 510, 198, 835, 836, 837, 838, 839, 841, 21, 842, 673, 843, 845, 22, 846, 847] (by decide +kernel)
theorem wsL_in_r21 : ∀ w ∈ wsL_law_r21, w ∈ lw_tbl := in_r _ [849, 23, 850, 851, 853, 24, 854, 855, 857, 25, 858, 859, 861, 26, 862, 863, 865, 27, 866, 511, 512, 513, 514, 194] (by decide +kernel)
theorem wsL_in_r22 : ∀ w ∈ wsL_law_r22, w ∈ lw_tbl := in_r _ [867, 868, 869, 870, 515, 516, 517, 518, 240, 242, 244, 519, 520, 521, 522, 523, 524, 525, 526, 527, 528, 529, 530, 531] (by decide +kernel)
theorem wsL_in_r23 : ∀ w ∈ wsL_law_r23, w ∈ lw_tbl := in_r _ [532, 533, 534, 103, 535, 536, 537, 538, 539, 540, 541, 542, 543, 544, 545, 546, 883, 884, 885, 886, 887, 889, 28, 890] (by decide +kernel)
theorem wsL_in_r24 : ∀ w ∈ wsL_law_r24, w ∈ lw_tbl := in_r _ [891, 893, 29, 894, 680, 685, 895, 897, 30, 898, 899, 901, 31, 902, 903, 905, 32, 906, 907, 909, 33, 910, 911, 913] (by decide +kernel)
theorem wsL_in_r25 : ∀ w ∈ wsL_law_r25, w ∈ lw_tbl := in_r _ [34, 914, 915, 917, 35, 918, 547, 548, 549, 550, 551, 552, 553, 554, 919, 920, 921, 922, 555, 556, 557, 558, 559, 560] (by decide +kernel)
theorem wsL_in_r26 : ∀ w ∈ wsL_law_r26, w ∈ lw_tbl := in_r _ [871, 872, 873, 874, 561, 562, 563, 564, 565, 875, 876, 877, 878, 566, 567, 568, 569, 570, 571, 879, 880, 881, 882, 572] (by decide +kernel)
theorem wsL_in_r27 : ∀ w ∈ wsL_law_r27, w ∈ lw_tbl := in_r _ [573, 574, 575, 246, 250, 248, 576, 577, 578, 579, 580, 581, 582, 583, 83, 584, 586, 13, 587, 588, 589, 590, 591, 102] (by decide +kernel)
theorem wsL_in_r28 : ∀ w ∈ wsL_law_r28, w ∈ lw_tbl := in_r _ [592, 593, 594, 595, 596, 597, 598, 599, 923, 924, 925, 926, 927, 929, 36, 930, 931, 933, 37, 934, 935, 937, 38, 938] (by decide +kernel)
theorem wsL_in_r29 : ∀ w ∈ wsL_law_r29, w ∈ lw_tbl := in_r _ [600, 601, 602, 603, 604, 605, 606, 607, 608, 609, 610, 939, 940, 941, 942, 611, 612, 613, 614, 190, 237, 615, 616, 617] (by decide +kernel)
theorem wsL_in_r30 : ∀ w ∈ wsL_law_r30, w ∈ lw_tbl := in_r _ [618, 619, 620, 621, 622, 623, 624, 625, 626, 627, 628, 629, 630, 631, 632, 633, 634, 635, 636, 637, 638, 639, 640, 641] (by decide +kernel)
theorem wsL_in_r31 : ∀ w ∈ wsL_law_r31, w ∈ lw_tbl := in_r _ [642, 643, 644, 645, 943, 944, 945, 946, 947, 949, 39, 950, 951, 953, 40, 954, 955, 957, 41, 958, 959, 961, 42, 962] (by decide +kernel)
theorem wsL_in_r32 : ∀ w ∈ wsL_law_r32, w ∈ lw_tbl := in_r _ [963, 965, 43, 966, 967, 969, 44, 970] (by decide +kernel)
theorem wsL_in_x6 : ∀ w ∈ wsX60, w ∈ lw_tbl := in_r _ [281, 283, 285, 287, 289, 291, 293] (by decide +kernel)
theorem wsL_in_x7 : ∀ w ∈ wsX70, w ∈ lw_tbl := in_r _ [686, 688, 690, 692, 694, 696, 698, 700, 702, 704, 706, 708, 710, 712, 714, 716, 718, 720, 722, 724, 726, 728, 730, 732, 734, 736, 738, 740, 742, 744, 746, 748, 750, 752] (by decide +kernel)
theorem wsL_in_x1 : ∀ w ∈ wsX10, w ∈ lw_tbl := in_r _ [104, 106, 108, 110, 112, 114, 116, 118] (by decide +kernel)
theorem wsL_in_x3 : ∀ w ∈ wsX30, w ∈ lw_tbl := in_r _ [130, 132] (by decide +kernel)
theorem wsL_in_x2 : ∀ w ∈ wsX20, w ∈ lw_tbl := in_r _ [153, 155, 157, 159, 161, 163] (by decide +kernel)
theorem wsL_in_x4 : ∀ w ∈ wsX40, w ∈ lw_tbl := in_r _ [174, 176] (by decide +kernel)
theorem wsL_in_x5 : ∀ w ∈ wsX50, w ∈ lw_tbl := in_r _ [204, 206, 208, 210, 212, 214, 216, 218, 220, 222, 224] (by decide +kernel)
theorem wsL_in_x0 : ∀ w ∈ wsX00, w ∈ lw_tbl := in_r _ [251, 253, 255, 257, 259, 261, 263, 265, 267, 269, 271] (by decide +kernel)
theorem wsL_law_in : ∀ w ∈ wsL_law, w ∈ lw_tbl := (in_a (in_a (in_a (in_a (in_a (in_a (in_a (in_a (in_a (in_a wsL_in_r1 (in_a wsL_in_r2 (in_a wsL_in_r3 (in_a wsL_in_r4 (in_a wsL_in_r5 (in_a wsL_in_r6 (in_a wsL_in_r7 (in_a wsL_in_r8 (in_a wsL_in_r9 (in_a wsL_in_r10 (in_a wsL_in_r11 (in_a wsL_in_r12 (in_a wsL_in_r13 (in_a wsL_in_r14 (in_a wsL_in_r15 (in_a wsL_in_r16 (in_a wsL_in_r17 (in_a wsL_in_r18 (in_a wsL_in_r19 (in_a wsL_in_r20 (in_a wsL_in_r21 (in_a wsL_in_r22 (in_a wsL_in_r23 (in_a wsL_in_r24 (in_a wsL_in_r25 (in_a wsL_in_r26 (in_a wsL_in_r27 (in_a wsL_in_r28 (in_a wsL_in_r29 (in_a wsL_in_r30 (in_a wsL_in_r31 wsL_in_r32))))))))))))))))))))))))))))))) wsL_in_x6) wsL_in_x7) wsL_in_x1) wsL_in_x3) wsL_in_x2) wsL_in_x4) wsL_in_x5) wsL_in_x0) (fun _ h => absurd h List.not_mem_nil))
theorem wsL_good : wsL_law.all goodWord = true := by decide +kernel
theorem inlX0 : ∀ w ∈ wsX00, w ∈ wsL_law := fun _ h => List.mem_append_left _ (List.mem_append_right _ h)
theorem inX0 : ∀ w ∈ wsX00, w ∈ lw_tbl := fun w h => wsL_law_in w (inlX0 w h)
theorem inlX1 : ∀ w ∈ wsX10, w ∈ wsL_law := fun _ h => List.mem_append_left _ (List.mem_append_left _ (List.mem_append_left _ (List.mem_append_left _ (List.mem_append_left _ (List.mem_append_left _ (List.mem_append_right _ h))))))
theorem inX1 : ∀ w ∈ wsX10, w ∈ lw_tbl := fun w h => wsL_law_in w (inlX1 w h)
theorem inlX2 : ∀ w ∈ wsX20, w ∈ wsL_law := fun _ h => List.mem_append_left _ (List.mem_append_left _ (List.mem_append_left _ (List.mem_append_left _ (List.mem_append_right _ h))))
theorem inX2 : ∀ w ∈ wsX20, w ∈ lw_tbl := fun w h => wsL_law_in w (inlX2 w h)
theorem inlX3 : ∀ w ∈ wsX30, w ∈ wsL_law := fun _ h => List.mem_append_left _ (List.mem_append_left _ (List.mem_append_left _ (List.mem_append_left _ (List.mem_append_left _ (List.mem_append_right _ h)))))
theorem inX3 : ∀ w ∈ wsX30, w ∈ lw_tbl := fun w h => wsL_law_in w (inlX3 w h)
theorem inlX4 : ∀ w ∈ wsX40, w ∈ wsL_law := fun _ h => List.mem_append_left _ (List.mem_append_left _ (List.mem_append_left _ (List.mem_append_right _ h)))
theorem inX4 : ∀ w ∈ wsX40, w ∈ lw_tbl := fun w h => wsL_law_in w (inlX4 w h)
theorem inlX5 : ∀ w ∈ wsX50, w ∈ wsL_law := fun _ h => List.mem_append_left _ (List.mem_append_left _ (List.mem_append_right _ h))
theorem inX5 : ∀ w ∈ wsX50, w ∈ lw_tbl := fun w h => wsL_law_in w (inlX5 w h)
theorem inlX6 : ∀ w ∈ wsX60, w ∈ wsL_law := fun _ h => List.mem_append_left _ (List.mem_append_left _ (List.mem_append_left _ (List.mem_append_left _ (List.mem_append_left _ (List.mem_append_left _ (List.mem_append_left _ (List.mem_append_left _ (List.mem_append_right _ h))))))))
theorem inX6 : ∀ w ∈ wsX60, w ∈ lw_tbl := fun w h => wsL_law_in w (inlX6 w h)
theorem inlX7 : ∀ w ∈ wsX70, w ∈ wsL_law := fun _ h => List.mem_append_left _ (List.mem_append_left _ (List.mem_append_left _ (List.mem_append_left _ (List.mem_append_left _ (List.mem_append_left _ (List.mem_append_left _ (List.mem_append_right _ h)))))))
theorem inX7 : ∀ w ∈ wsX70, w ∈ lw_tbl := fun w h => wsL_law_in w (inlX7 w h)
theorem inJ9 : ∀ w ∈ wsJ90, w ∈ lw_tbl := by decide +kernel
end
section
abbrev vwCl : List vw_C := [(RX0, TX0, 11), (RX1, TX1, 8), (RX2, TX2, 6), (RX3, TX3, 2), (RX4, TX4, 2), (RX5, TX5, 11), (RX6, TX6, 7), (RX7, TX7, 34)]
theorem dX0_init_0 : decode cX0_init 0 = .ok (.aload_n 0, 1) := by decide +kernel
theorem dX0_init_1 : decode cX0_init 1 = .ok (.invokespecial 3, 3) := by decide +kernel
theorem dX0_init_4 : decode cX0_init 4 = .ok (.aload_n 0, 1) := by decide +kernel
theorem dX0_init_5 : decode cX0_init 5 = .ok (.bipush 24, 2) := by decide +kernel
theorem dX0_init_7 : decode cX0_init 7 = .ok (.newarray .int, 2) := by decide +kernel
theorem dX0_init_9 : decode cX0_init 9 = .ok (.putfield 9, 3) := by decide +kernel
theorem dX0_init_12 : decode cX0_init 12 = .ok (.aload_n 0, 1) := by decide +kernel
theorem dX0_init_13 : decode cX0_init 13 = .ok (.bipush 24, 2) := by decide +kernel
theorem dX0_init_15 : decode cX0_init 15 = .ok (.newarray .int, 2) := by decide +kernel
theorem dX0_init_17 : decode cX0_init 17 = .ok (.putfield 15, 3) := by decide +kernel
theorem dX0_init_20 : decode cX0_init 20 = .ok (.aload_n 0, 1) := by decide +kernel
theorem dX0_init_21 : decode cX0_init 21 = .ok (.bipush 24, 2) := by decide +kernel
theorem dX0_init_23 : decode cX0_init 23 = .ok (.newarray .int, 2) := by decide +kernel
theorem dX0_init_25 : decode cX0_init 25 = .ok (.putfield 18, 3) := by decide +kernel
theorem dX0_init_28 : decode cX0_init 28 = .ok (.aload_n 0, 1) := by decide +kernel
theorem dX0_init_29 : decode cX0_init 29 = .ok (.bipush 24, 2) := by decide +kernel
theorem dX0_init_31 : decode cX0_init 31 = .ok (.newarray .int, 2) := by decide +kernel
theorem dX0_init_33 : decode cX0_init 33 = .ok (.putfield 21, 3) := by decide +kernel
theorem dX0_init_36 : decode cX0_init 36 = .ok (.aload_n 0, 1) := by decide +kernel
theorem dX0_init_37 : decode cX0_init 37 = .ok (.bipush 24, 2) := by decide +kernel
theorem dX0_init_39 : decode cX0_init 39 = .ok (.newarray .int, 2) := by decide +kernel
theorem dX0_init_41 : decode cX0_init 41 = .ok (.putfield 24, 3) := by decide +kernel
theorem dX0_init_44 : decode cX0_init 44 = .ok (.aload_n 0, 1) := by decide +kernel
theorem dX0_init_45 : decode cX0_init 45 = .ok (.bipush 24, 2) := by decide +kernel
theorem dX0_init_47 : decode cX0_init 47 = .ok (.newarray .int, 2) := by decide +kernel
theorem dX0_init_49 : decode cX0_init 49 = .ok (.putfield 27, 3) := by decide +kernel
theorem dX0_init_52 : decode cX0_init 52 = .ok (.aload_n 0, 1) := by decide +kernel
theorem dX0_init_53 : decode cX0_init 53 = .ok (.bipush 24, 2) := by decide +kernel
theorem dX0_init_55 : decode cX0_init 55 = .ok (.newarray .int, 2) := by decide +kernel
theorem dX0_init_57 : decode cX0_init 57 = .ok (.putfield 30, 3) := by decide +kernel
theorem dX0_init_60 : decode cX0_init 60 = .ok (.aload_n 0, 1) := by decide +kernel
theorem dX0_init_61 : decode cX0_init 61 = .ok (.aload_n 1, 1) := by decide +kernel
theorem dX0_init_62 : decode cX0_init 62 = .ok (.putfield 33, 3) := by decide +kernel
theorem dX0_init_65 : decode cX0_init 65 = .ok (.aload_n 0, 1) := by decide +kernel
theorem dX0_init_66 : decode cX0_init 66 = .ok (.aload_n 2, 1) := by decide +kernel
theorem dX0_init_67 : decode cX0_init 67 = .ok (.putfield 37, 3) := by decide +kernel
theorem dX0_init_70 : decode cX0_init 70 = .ok (.aload_n 0, 1) := by decide +kernel
theorem dX0_init_71 : decode cX0_init 71 = .ok (.aload_n 3, 1) := by decide +kernel
theorem dX0_init_72 : decode cX0_init 72 = .ok (.putfield 41, 3) := by decide +kernel
theorem dX0_init_75 : decode cX0_init 75 = .ok (.return_, 1) := by decide +kernel
theorem dX0_build_0 : decode cX0_build 0 = .ok (.aload_n 0, 1) := by decide +kernel
theorem dX0_build_1 : decode cX0_build 1 = .ok (.iconst 0, 1) := by decide +kernel
theorem dX0_build_2 : decode cX0_build 2 = .ok (.putfield 45, 3) := by decide +kernel
theorem dX0_build_5 : decode cX0_build 5 = .ok (.iconst 0, 1) := by decide +kernel
theorem dX0_build_6 : decode cX0_build 6 = .ok (.istore_n 1, 1) := by decide +kernel
theorem dX0_build_7 : decode cX0_build 7 = .ok (.iload_n 1, 1) := by decide +kernel
theorem dX0_build_8 : decode cX0_build 8 = .ok (.aload_n 0, 1) := by decide +kernel
theorem dX0_build_9 : decode cX0_build 9 = .ok (.getfield 41, 3) := by decide +kernel
theorem dX0_build_12 : decode cX0_build 12 = .ok (.getfield 49, 3) := by decide +kernel
theorem dX0_build_15 : decode cX0_build 15 = .ok (.if_icmp .ge 44, 3) := by decide +kernel
theorem dX0_build_18 : decode cX0_build 18 = .ok (.aload_n 0, 1) := by decide +kernel
theorem dX0_build_19 : decode cX0_build 19 = .ok (.getfield 9, 3) := by decide +kernel
theorem dX0_build_22 : decode cX0_build 22 = .ok (.iload_n 1, 1) := by decide +kernel
theorem dX0_build_23 : decode cX0_build 23 = .ok (.aload_n 0, 1) := by decide +kernel
theorem dX0_build_24 : decode cX0_build 24 = .ok (.iload_n 1, 1) := by decide +kernel
theorem dX0_build_25 : decode cX0_build 25 = .ok (.invokevirtual 52, 3) := by decide +kernel
theorem dX0_build_28 : decode cX0_build 28 = .ok (.iastore, 1) := by decide +kernel
theorem dX0_build_29 : decode cX0_build 29 = .ok (.aload_n 0, 1) := by decide +kernel
theorem dX0_build_30 : decode cX0_build 30 = .ok (.getfield 15, 3) := by decide +kernel
theorem dX0_build_33 : decode cX0_build 33 = .ok (.iload_n 1, 1) := by decide +kernel
theorem dX0_build_34 : decode cX0_build 34 = .ok (.bipush (-9), 2) := by decide +kernel
theorem dX0_build_36 : decode cX0_build 36 = .ok (.iastore, 1) := by decide +kernel
theorem dX0_build_37 : decode cX0_build 37 = .ok (.aload_n 0, 1) := by decide +kernel
theorem dX0_build_38 : decode cX0_build 38 = .ok (.getfield 18, 3) := by decide +kernel
theorem dX0_build_41 : decode cX0_build 41 = .ok (.iload_n 1, 1) := by decide +kernel
theorem dX0_build_42 : decode cX0_build 42 = .ok (.bipush (-9), 2) := by decide +kernel
theorem dX0_build_44 : decode cX0_build 44 = .ok (.iastore, 1) := by decide +kernel
theorem dX0_build_45 : decode cX0_build 45 = .ok (.aload_n 0, 1) := by decide +kernel
theorem dX0_build_46 : decode cX0_build 46 = .ok (.getfield 21, 3) := by decide +kernel
theorem dX0_build_49 : decode cX0_build 49 = .ok (.iload_n 1, 1) := by decide +kernel
theorem dX0_build_50 : decode cX0_build 50 = .ok (.bipush (-9), 2) := by decide +kernel
theorem dX0_build_52 : decode cX0_build 52 = .ok (.iastore, 1) := by decide +kernel
theorem dX0_build_53 : decode cX0_build 53 = .ok (.iinc 1 1, 3) := by decide +kernel
theorem dX0_build_56 : decode cX0_build 56 = .ok (.goto (-49), 3) := by decide +kernel
theorem dX0_build_59 : decode cX0_build 59 = .ok (.iconst 0, 1) := by decide +kernel
theorem dX0_build_60 : decode cX0_build 60 = .ok (.istore_n 1, 1) := by decide +kernel
theorem dX0_build_61 : decode cX0_build 61 = .ok (.iload_n 1, 1) := by decide +kernel
theorem dX0_build_62 : decode cX0_build 62 = .ok (.aload_n 0, 1) := by decide +kernel
theorem dX0_build_63 : decode cX0_build 63 = .ok (.getfield 41, 3) := by decide +kernel
theorem dX0_build_66 : decode cX0_build 66 = .ok (.getfield 49, 3) := by decide +kernel
theorem dX0_build_69 : decode cX0_build 69 = .ok (.if_icmp .ge 14, 3) := by decide +kernel
theorem dX0_build_72 : decode cX0_build 72 = .ok (.aload_n 0, 1) := by decide +kernel
theorem dX0_build_73 : decode cX0_build 73 = .ok (.iload_n 1, 1) := by decide +kernel
theorem dX0_build_74 : decode cX0_build 74 = .ok (.invokevirtual 56, 3) := by decide +kernel
theorem dX0_build_77 : decode cX0_build 77 = .ok (.iinc 1 1, 3) := by decide +kernel
theorem dX0_build_80 : decode cX0_build 80 = .ok (.goto (-19), 3) := by decide +kernel
theorem dX0_build_83 : decode cX0_build 83 = .ok (.iconst 0, 1) := by decide +kernel
theorem dX0_build_84 : decode cX0_build 84 = .ok (.istore_n 1, 1) := by decide +kernel
theorem dX0_build_85 : decode cX0_build 85 = .ok (.iload_n 1, 1) := by decide +kernel
theorem dX0_build_86 : decode cX0_build 86 = .ok (.aload_n 0, 1) := by decide +kernel
theorem dX0_build_87 : decode cX0_build 87 = .ok (.getfield 41, 3) := by decide +kernel
theorem dX0_build_90 : decode cX0_build 90 = .ok (.getfield 49, 3) := by decide +kernel
theorem dX0_build_93 : decode cX0_build 93 = .ok (.if_icmp .ge 25, 3) := by decide +kernel
theorem dX0_build_96 : decode cX0_build 96 = .ok (.aload_n 0, 1) := by decide +kernel
theorem dX0_build_97 : decode cX0_build 97 = .ok (.getfield 18, 3) := by decide +kernel
theorem dX0_build_100 : decode cX0_build 100 = .ok (.iload_n 1, 1) := by decide +kernel
theorem dX0_build_101 : decode cX0_build 101 = .ok (.iaload, 1) := by decide +kernel
theorem dX0_build_102 : decode cX0_build 102 = .ok (.bipush (-9), 2) := by decide +kernel
theorem dX0_build_104 : decode cX0_build 104 = .ok (.if_icmp .ne 8, 3) := by decide +kernel
theorem dX0_build_107 : decode cX0_build 107 = .ok (.aload_n 0, 1) := by decide +kernel
theorem dX0_build_108 : decode cX0_build 108 = .ok (.iload_n 1, 1) := by decide +kernel
theorem dX0_build_109 : decode cX0_build 109 = .ok (.invokevirtual 60, 3) := by decide +kernel
theorem dX0_build_112 : decode cX0_build 112 = .ok (.iinc 1 1, 3) := by decide +kernel
theorem dX0_build_115 : decode cX0_build 115 = .ok (.goto (-30), 3) := by decide +kernel
theorem dX0_build_118 : decode cX0_build 118 = .ok (.iconst 0, 1) := by decide +kernel
theorem dX0_build_119 : decode cX0_build 119 = .ok (.istore_n 1, 1) := by decide +kernel
theorem dX0_build_120 : decode cX0_build 120 = .ok (.iload_n 1, 1) := by decide +kernel
theorem dX0_build_121 : decode cX0_build 121 = .ok (.aload_n 0, 1) := by decide +kernel
theorem dX0_build_122 : decode cX0_build 122 = .ok (.getfield 41, 3) := by decide +kernel
theorem dX0_build_125 : decode cX0_build 125 = .ok (.getfield 49, 3) := by decide +kernel
theorem dX0_build_128 : decode cX0_build 128 = .ok (.if_icmp .ge 25, 3) := by decide +kernel
theorem dX0_build_131 : decode cX0_build 131 = .ok (.aload_n 0, 1) := by decide +kernel
theorem dX0_build_132 : decode cX0_build 132 = .ok (.getfield 21, 3) := by decide +kernel
theorem dX0_build_135 : decode cX0_build 135 = .ok (.iload_n 1, 1) := by decide +kernel
theorem dX0_build_136 : decode cX0_build 136 = .ok (.iaload, 1) := by decide +kernel
theorem dX0_build_137 : decode cX0_build 137 = .ok (.bipush (-9), 2) := by decide +kernel
theorem dX0_build_139 : decode cX0_build 139 = .ok (.if_icmp .ne 8, 3) := by decide +kernel
theorem dX0_build_142 : decode cX0_build 142 = .ok (.aload_n 0, 1) := by decide +kernel
theorem dX0_build_143 : decode cX0_build 143 = .ok (.iload_n 1, 1) := by decide +kernel
theorem dX0_build_144 : decode cX0_build 144 = .ok (.invokevirtual 60, 3) := by decide +kernel
theorem dX0_build_147 : decode cX0_build 147 = .ok (.iinc 1 1, 3) := by decide +kernel
theorem dX0_build_150 : decode cX0_build 150 = .ok (.goto (-30), 3) := by decide +kernel
theorem dX0_build_153 : decode cX0_build 153 = .ok (.return_, 1) := by decide +kernel
theorem dX0_lastOnward_0 : decode cX0_lastOnward 0 = .ok (.bipush (-9), 2) := by decide +kernel
theorem dX0_lastOnward_2 : decode cX0_lastOnward 2 = .ok (.istore_n 2, 1) := by decide +kernel
theorem dX0_lastOnward_3 : decode cX0_lastOnward 3 = .ok (.iconst 0, 1) := by decide +kernel
theorem dX0_lastOnward_4 : decode cX0_lastOnward 4 = .ok (.istore_n 3, 1) := by decide +kernel
theorem dX0_lastOnward_5 : decode cX0_lastOnward 5 = .ok (.iload_n 3, 1) := by decide +kernel
theorem dX0_lastOnward_6 : decode cX0_lastOnward 6 = .ok (.aload_n 0, 1) := by decide +kernel
theorem dX0_lastOnward_7 : decode cX0_lastOnward 7 = .ok (.getfield 41, 3) := by decide +kernel
theorem dX0_lastOnward_10 : decode cX0_lastOnward 10 = .ok (.getfield 63, 3) := by decide +kernel
theorem dX0_lastOnward_13 : decode cX0_lastOnward 13 = .ok (.if_icmp .ge 50, 3) := by decide +kernel
theorem dX0_lastOnward_16 : decode cX0_lastOnward 16 = .ok (.aload_n 0, 1) := by decide +kernel
theorem dX0_lastOnward_17 : decode cX0_lastOnward 17 = .ok (.getfield 41, 3) := by decide +kernel
theorem dX0_lastOnward_20 : decode cX0_lastOnward 20 = .ok (.getfield 66, 3) := by decide +kernel
theorem dX0_lastOnward_23 : decode cX0_lastOnward 23 = .ok (.iload_n 3, 1) := by decide +kernel
theorem dX0_lastOnward_24 : decode cX0_lastOnward 24 = .ok (.iaload, 1) := by decide +kernel
theorem dX0_lastOnward_25 : decode cX0_lastOnward 25 = .ok (.istore 4, 2) := by decide +kernel
theorem dX0_lastOnward_27 : decode cX0_lastOnward 27 = .ok (.aload_n 0, 1) := by decide +kernel
theorem dX0_lastOnward_28 : decode cX0_lastOnward 28 = .ok (.getfield 41, 3) := by decide +kernel
theorem dX0_lastOnward_31 : decode cX0_lastOnward 31 = .ok (.getfield 69, 3) := by decide +kernel
theorem dX0_lastOnward_34 : decode cX0_lastOnward 34 = .ok (.iload 4, 2) := by decide +kernel
theorem dX0_lastOnward_36 : decode cX0_lastOnward 36 = .ok (.iaload, 1) := by decide +kernel
theorem dX0_lastOnward_37 : decode cX0_lastOnward 37 = .ok (.iload_n 1, 1) := by decide +kernel
theorem dX0_lastOnward_38 : decode cX0_lastOnward 38 = .ok (.if_icmp .ne 19, 3) := by decide +kernel
theorem dX0_lastOnward_41 : decode cX0_lastOnward 41 = .ok (.aload_n 0, 1) := by decide +kernel
theorem dX0_lastOnward_42 : decode cX0_lastOnward 42 = .ok (.getfield 37, 3) := by decide +kernel
theorem dX0_lastOnward_45 : decode cX0_lastOnward 45 = .ok (.iload 4, 2) := by decide +kernel
theorem dX0_lastOnward_47 : decode cX0_lastOnward 47 = .ok (.iconst 0, 1) := by decide +kernel
theorem dX0_lastOnward_48 : decode cX0_lastOnward 48 = .ok (.invokevirtual 72, 3) := by decide +kernel
theorem dX0_lastOnward_51 : decode cX0_lastOnward 51 = .ok (.ifCond .eq 6, 3) := by decide +kernel
theorem dX0_lastOnward_54 : decode cX0_lastOnward 54 = .ok (.iload 4, 2) := by decide +kernel
theorem dX0_lastOnward_56 : decode cX0_lastOnward 56 = .ok (.istore_n 2, 1) := by decide +kernel
theorem dX0_lastOnward_57 : decode cX0_lastOnward 57 = .ok (.iinc 3 1, 3) := by decide +kernel
theorem dX0_lastOnward_60 : decode cX0_lastOnward 60 = .ok (.goto (-55), 3) := by decide +kernel
theorem dX0_lastOnward_63 : decode cX0_lastOnward 63 = .ok (.iload_n 2, 1) := by decide +kernel
theorem dX0_lastOnward_64 : decode cX0_lastOnward 64 = .ok (.ireturn, 1) := by decide +kernel
theorem dX0_linkToAim_0 : decode cX0_linkToAim 0 = .ok (.aload_n 0, 1) := by decide +kernel
theorem dX0_linkToAim_1 : decode cX0_linkToAim 1 = .ok (.getfield 9, 3) := by decide +kernel
theorem dX0_linkToAim_4 : decode cX0_linkToAim 4 = .ok (.iload_n 1, 1) := by decide +kernel
theorem dX0_linkToAim_5 : decode cX0_linkToAim 5 = .ok (.iaload, 1) := by decide +kernel
theorem dX0_linkToAim_6 : decode cX0_linkToAim 6 = .ok (.bipush (-9), 2) := by decide +kernel
theorem dX0_linkToAim_8 : decode cX0_linkToAim 8 = .ok (.if_icmp .ne 8, 3) := by decide +kernel
theorem dX0_linkToAim_11 : decode cX0_linkToAim 11 = .ok (.bipush (-9), 2) := by decide +kernel
theorem dX0_linkToAim_13 : decode cX0_linkToAim 13 = .ok (.goto 13, 3) := by decide +kernel
theorem dX0_linkToAim_16 : decode cX0_linkToAim 16 = .ok (.aload_n 0, 1) := by decide +kernel
theorem dX0_linkToAim_17 : decode cX0_linkToAim 17 = .ok (.aload_n 0, 1) := by decide +kernel
theorem dX0_linkToAim_18 : decode cX0_linkToAim 18 = .ok (.getfield 9, 3) := by decide +kernel
theorem dX0_linkToAim_21 : decode cX0_linkToAim 21 = .ok (.iload_n 1, 1) := by decide +kernel
theorem dX0_linkToAim_22 : decode cX0_linkToAim 22 = .ok (.iaload, 1) := by decide +kernel
theorem dX0_linkToAim_23 : decode cX0_linkToAim 23 = .ok (.invokevirtual 78, 3) := by decide +kernel
theorem dX0_linkToAim_26 : decode cX0_linkToAim 26 = .ok (.istore_n 2, 1) := by decide +kernel
theorem dX0_linkToAim_27 : decode cX0_linkToAim 27 = .ok (.iload_n 2, 1) := by decide +kernel
theorem dX0_linkToAim_28 : decode cX0_linkToAim 28 = .ok (.bipush (-9), 2) := by decide +kernel
theorem dX0_linkToAim_30 : decode cX0_linkToAim 30 = .ok (.if_icmp .eq 33, 3) := by decide +kernel
theorem dX0_linkToAim_33 : decode cX0_linkToAim 33 = .ok (.iload_n 2, 1) := by decide +kernel
theorem dX0_linkToAim_34 : decode cX0_linkToAim 34 = .ok (.iload_n 1, 1) := by decide +kernel
theorem dX0_linkToAim_35 : decode cX0_linkToAim 35 = .ok (.if_icmp .eq 28, 3) := by decide +kernel
theorem dX0_linkToAim_38 : decode cX0_linkToAim 38 = .ok (.aload_n 0, 1) := by decide +kernel
theorem dX0_linkToAim_39 : decode cX0_linkToAim 39 = .ok (.getfield 18, 3) := by decide +kernel
theorem dX0_linkToAim_42 : decode cX0_linkToAim 42 = .ok (.iload_n 2, 1) := by decide +kernel
theorem dX0_linkToAim_43 : decode cX0_linkToAim 43 = .ok (.iaload, 1) := by decide +kernel
theorem dX0_linkToAim_44 : decode cX0_linkToAim 44 = .ok (.bipush (-9), 2) := by decide +kernel
theorem dX0_linkToAim_46 : decode cX0_linkToAim 46 = .ok (.if_icmp .ne 17, 3) := by decide +kernel
theorem dX0_linkToAim_49 : decode cX0_linkToAim 49 = .ok (.aload_n 0, 1) := by decide +kernel
theorem dX0_linkToAim_50 : decode cX0_linkToAim 50 = .ok (.getfield 15, 3) := by decide +kernel
theorem dX0_linkToAim_53 : decode cX0_linkToAim 53 = .ok (.iload_n 1, 1) := by decide +kernel
theorem dX0_linkToAim_54 : decode cX0_linkToAim 54 = .ok (.iload_n 2, 1) := by decide +kernel
theorem dX0_linkToAim_55 : decode cX0_linkToAim 55 = .ok (.iastore, 1) := by decide +kernel
theorem dX0_linkToAim_56 : decode cX0_linkToAim 56 = .ok (.aload_n 0, 1) := by decide +kernel
theorem dX0_linkToAim_57 : decode cX0_linkToAim 57 = .ok (.getfield 18, 3) := by decide +kernel
theorem dX0_linkToAim_60 : decode cX0_linkToAim 60 = .ok (.iload_n 2, 1) := by decide +kernel
theorem dX0_linkToAim_61 : decode cX0_linkToAim 61 = .ok (.iload_n 1, 1) := by decide +kernel
theorem dX0_linkToAim_62 : decode cX0_linkToAim 62 = .ok (.iastore, 1) := by decide +kernel
theorem dX0_linkToAim_63 : decode cX0_linkToAim 63 = .ok (.return_, 1) := by decide +kernel
theorem dX0_aimOf_0 : decode cX0_aimOf 0 = .ok (.aload_n 0, 1) := by decide +kernel
theorem dX0_aimOf_1 : decode cX0_aimOf 1 = .ok (.getfield 37, 3) := by decide +kernel
theorem dX0_aimOf_4 : decode cX0_aimOf 4 = .ok (.iload_n 1, 1) := by decide +kernel
theorem dX0_aimOf_5 : decode cX0_aimOf 5 = .ok (.iconst 0, 1) := by decide +kernel
theorem dX0_aimOf_6 : decode cX0_aimOf 6 = .ok (.invokevirtual 81, 3) := by decide +kernel
theorem dX0_aimOf_9 : decode cX0_aimOf 9 = .ok (.istore_n 2, 1) := by decide +kernel
theorem dX0_aimOf_10 : decode cX0_aimOf 10 = .ok (.aload_n 0, 1) := by decide +kernel
theorem dX0_aimOf_11 : decode cX0_aimOf 11 = .ok (.getfield 37, 3) := by decide +kernel
theorem dX0_aimOf_14 : decode cX0_aimOf 14 = .ok (.iload_n 1, 1) := by decide +kernel
theorem dX0_aimOf_15 : decode cX0_aimOf 15 = .ok (.iconst 0, 1) := by decide +kernel
theorem dX0_aimOf_16 : decode cX0_aimOf 16 = .ok (.invokevirtual 85, 3) := by decide +kernel
theorem dX0_aimOf_19 : decode cX0_aimOf 19 = .ok (.istore_n 3, 1) := by decide +kernel
theorem dX0_aimOf_20 : decode cX0_aimOf 20 = .ok (.iconst 0, 1) := by decide +kernel
theorem dX0_aimOf_21 : decode cX0_aimOf 21 = .ok (.istore 4, 2) := by decide +kernel
theorem dX0_aimOf_23 : decode cX0_aimOf 23 = .ok (.iload 4, 2) := by decide +kernel
theorem dX0_aimOf_25 : decode cX0_aimOf 25 = .ok (.aload_n 0, 1) := by decide +kernel
theorem dX0_aimOf_26 : decode cX0_aimOf 26 = .ok (.getfield 33, 3) := by decide +kernel
theorem dX0_aimOf_29 : decode cX0_aimOf 29 = .ok (.getfield 88, 3) := by decide +kernel
theorem dX0_aimOf_32 : decode cX0_aimOf 32 = .ok (.if_icmp .ge 82, 3) := by decide +kernel
theorem dX0_aimOf_35 : decode cX0_aimOf 35 = .ok (.aload_n 0, 1) := by decide +kernel
theorem dX0_aimOf_36 : decode cX0_aimOf 36 = .ok (.getfield 37, 3) := by decide +kernel
theorem dX0_aimOf_39 : decode cX0_aimOf 39 = .ok (.iload 4, 2) := by decide +kernel
theorem dX0_aimOf_41 : decode cX0_aimOf 41 = .ok (.iconst 1, 1) := by decide +kernel
theorem dX0_aimOf_42 : decode cX0_aimOf 42 = .ok (.invokevirtual 81, 3) := by decide +kernel
theorem dX0_aimOf_45 : decode cX0_aimOf 45 = .ok (.aload_n 0, 1) := by decide +kernel
theorem dX0_aimOf_46 : decode cX0_aimOf 46 = .ok (.getfield 33, 3) := by decide +kernel
theorem dX0_aimOf_49 : decode cX0_aimOf 49 = .ok (.getfield 91, 3) := by decide +kernel
theorem dX0_aimOf_52 : decode cX0_aimOf 52 = .ok (.iload_n 1, 1) := by decide +kernel
theorem dX0_aimOf_53 : decode cX0_aimOf 53 = .ok (.iaload, 1) := by decide +kernel
theorem dX0_aimOf_54 : decode cX0_aimOf 54 = .ok (.if_icmp .ne 21, 3) := by decide +kernel
theorem dX0_aimOf_57 : decode cX0_aimOf 57 = .ok (.aload_n 0, 1) := by decide +kernel
theorem dX0_aimOf_58 : decode cX0_aimOf 58 = .ok (.getfield 37, 3) := by decide +kernel
theorem dX0_aimOf_61 : decode cX0_aimOf 61 = .ok (.iload 4, 2) := by decide +kernel
theorem dX0_aimOf_63 : decode cX0_aimOf 63 = .ok (.iconst 1, 1) := by decide +kernel
theorem dX0_aimOf_64 : decode cX0_aimOf 64 = .ok (.invokevirtual 85, 3) := by decide +kernel
theorem dX0_aimOf_67 : decode cX0_aimOf 67 = .ok (.iload_n 3, 1) := by decide +kernel
theorem dX0_aimOf_68 : decode cX0_aimOf 68 = .ok (.if_icmp .ne 7, 3) := by decide +kernel
theorem dX0_aimOf_71 : decode cX0_aimOf 71 = .ok (.iconst 1, 1) := by decide +kernel
theorem dX0_aimOf_72 : decode cX0_aimOf 72 = .ok (.goto 4, 3) := by decide +kernel
theorem dX0_aimOf_75 : decode cX0_aimOf 75 = .ok (.iconst 0, 1) := by decide +kernel
theorem dX0_aimOf_76 : decode cX0_aimOf 76 = .ok (.istore 5, 2) := by decide +kernel
theorem dX0_aimOf_78 : decode cX0_aimOf 78 = .ok (.aload_n 0, 1) := by decide +kernel
theorem dX0_aimOf_79 : decode cX0_aimOf 79 = .ok (.getfield 33, 3) := by decide +kernel
theorem dX0_aimOf_82 : decode cX0_aimOf 82 = .ok (.getfield 91, 3) := by decide +kernel
theorem dX0_aimOf_85 : decode cX0_aimOf 85 = .ok (.iload 4, 2) := by decide +kernel
theorem dX0_aimOf_87 : decode cX0_aimOf 87 = .ok (.iaload, 1) := by decide +kernel
theorem dX0_aimOf_88 : decode cX0_aimOf 88 = .ok (.iload_n 2, 1) := by decide +kernel
theorem dX0_aimOf_89 : decode cX0_aimOf 89 = .ok (.if_icmp .ne 19, 3) := by decide +kernel
theorem dX0_aimOf_92 : decode cX0_aimOf 92 = .ok (.iload 5, 2) := by decide +kernel
theorem dX0_aimOf_94 : decode cX0_aimOf 94 = .ok (.ifCond .eq 14, 3) := by decide +kernel
theorem dX0_aimOf_97 : decode cX0_aimOf 97 = .ok (.aload_n 0, 1) := by decide +kernel
theorem dX0_aimOf_98 : decode cX0_aimOf 98 = .ok (.getfield 41, 3) := by decide +kernel
theorem dX0_aimOf_101 : decode cX0_aimOf 101 = .ok (.getfield 69, 3) := by decide +kernel
theorem dX0_aimOf_104 : decode cX0_aimOf 104 = .ok (.iload 4, 2) := by decide +kernel
theorem dX0_aimOf_106 : decode cX0_aimOf 106 = .ok (.iaload, 1) := by decide +kernel
theorem dX0_aimOf_107 : decode cX0_aimOf 107 = .ok (.ireturn, 1) := by decide +kernel
theorem dX0_aimOf_108 : decode cX0_aimOf 108 = .ok (.iinc 4 1, 3) := by decide +kernel
theorem dX0_aimOf_111 : decode cX0_aimOf 111 = .ok (.goto (-88), 3) := by decide +kernel
theorem dX0_aimOf_114 : decode cX0_aimOf 114 = .ok (.bipush (-9), 2) := by decide +kernel
theorem dX0_aimOf_116 : decode cX0_aimOf 116 = .ok (.ireturn, 1) := by decide +kernel
theorem dX0_addFrom_0 : decode cX0_addFrom 0 = .ok (.aload_n 0, 1) := by decide +kernel
theorem dX0_addFrom_1 : decode cX0_addFrom 1 = .ok (.getfield 45, 3) := by decide +kernel
theorem dX0_addFrom_4 : decode cX0_addFrom 4 = .ok (.istore_n 2, 1) := by decide +kernel
theorem dX0_addFrom_5 : decode cX0_addFrom 5 = .ok (.aload_n 0, 1) := by decide +kernel
theorem dX0_addFrom_6 : decode cX0_addFrom 6 = .ok (.getfield 24, 3) := by decide +kernel
theorem dX0_addFrom_9 : decode cX0_addFrom 9 = .ok (.iload_n 2, 1) := by decide +kernel
theorem dX0_addFrom_10 : decode cX0_addFrom 10 = .ok (.iload_n 1, 1) := by decide +kernel
theorem dX0_addFrom_11 : decode cX0_addFrom 11 = .ok (.iastore, 1) := by decide +kernel
theorem dX0_addFrom_12 : decode cX0_addFrom 12 = .ok (.aload_n 0, 1) := by decide +kernel
theorem dX0_addFrom_13 : decode cX0_addFrom 13 = .ok (.getfield 30, 3) := by decide +kernel
theorem dX0_addFrom_16 : decode cX0_addFrom 16 = .ok (.iload_n 2, 1) := by decide +kernel
theorem dX0_addFrom_17 : decode cX0_addFrom 17 = .ok (.iconst 0, 1) := by decide +kernel
theorem dX0_addFrom_18 : decode cX0_addFrom 18 = .ok (.iastore, 1) := by decide +kernel
theorem dX0_addFrom_19 : decode cX0_addFrom 19 = .ok (.iload_n 1, 1) := by decide +kernel
theorem dX0_addFrom_20 : decode cX0_addFrom 20 = .ok (.istore_n 3, 1) := by decide +kernel
theorem dX0_addFrom_21 : decode cX0_addFrom 21 = .ok (.iconst 0, 1) := by decide +kernel
theorem dX0_addFrom_22 : decode cX0_addFrom 22 = .ok (.istore 4, 2) := by decide +kernel
theorem dX0_addFrom_24 : decode cX0_addFrom 24 = .ok (.iload 4, 2) := by decide +kernel
theorem dX0_addFrom_26 : decode cX0_addFrom 26 = .ok (.aload_n 0, 1) := by decide +kernel
theorem dX0_addFrom_27 : decode cX0_addFrom 27 = .ok (.getfield 41, 3) := by decide +kernel
theorem dX0_addFrom_30 : decode cX0_addFrom 30 = .ok (.getfield 49, 3) := by decide +kernel
theorem dX0_addFrom_33 : decode cX0_addFrom 33 = .ok (.if_icmp .ge 60, 3) := by decide +kernel
theorem dX0_addFrom_36 : decode cX0_addFrom 36 = .ok (.iload_n 3, 1) := by decide +kernel
theorem dX0_addFrom_37 : decode cX0_addFrom 37 = .ok (.bipush (-9), 2) := by decide +kernel
theorem dX0_addFrom_39 : decode cX0_addFrom 39 = .ok (.if_icmp .eq 54, 3) := by decide +kernel
theorem dX0_addFrom_42 : decode cX0_addFrom 42 = .ok (.aload_n 0, 1) := by decide +kernel
theorem dX0_addFrom_43 : decode cX0_addFrom 43 = .ok (.getfield 21, 3) := by decide +kernel
theorem dX0_addFrom_46 : decode cX0_addFrom 46 = .ok (.iload_n 3, 1) := by decide +kernel
theorem dX0_addFrom_47 : decode cX0_addFrom 47 = .ok (.iaload, 1) := by decide +kernel
theorem dX0_addFrom_48 : decode cX0_addFrom 48 = .ok (.bipush (-9), 2) := by decide +kernel
theorem dX0_addFrom_50 : decode cX0_addFrom 50 = .ok (.if_icmp .eq 6, 3) := by decide +kernel
theorem dX0_addFrom_53 : decode cX0_addFrom 53 = .ok (.goto 40, 3) := by decide +kernel
theorem dX0_addFrom_56 : decode cX0_addFrom 56 = .ok (.aload_n 0, 1) := by decide +kernel
theorem dX0_addFrom_57 : decode cX0_addFrom 57 = .ok (.getfield 21, 3) := by decide +kernel
theorem dX0_addFrom_60 : decode cX0_addFrom 60 = .ok (.iload_n 3, 1) := by decide +kernel
theorem dX0_addFrom_61 : decode cX0_addFrom 61 = .ok (.iload_n 2, 1) := by decide +kernel
theorem dX0_addFrom_62 : decode cX0_addFrom 62 = .ok (.iastore, 1) := by decide +kernel
theorem dX0_addFrom_63 : decode cX0_addFrom 63 = .ok (.aload_n 0, 1) := by decide +kernel
theorem dX0_addFrom_64 : decode cX0_addFrom 64 = .ok (.getfield 27, 3) := by decide +kernel
theorem dX0_addFrom_67 : decode cX0_addFrom 67 = .ok (.iload_n 2, 1) := by decide +kernel
theorem dX0_addFrom_68 : decode cX0_addFrom 68 = .ok (.iload_n 3, 1) := by decide +kernel
theorem dX0_addFrom_69 : decode cX0_addFrom 69 = .ok (.iastore, 1) := by decide +kernel
theorem dX0_addFrom_70 : decode cX0_addFrom 70 = .ok (.aload_n 0, 1) := by decide +kernel
theorem dX0_addFrom_71 : decode cX0_addFrom 71 = .ok (.getfield 30, 3) := by decide +kernel
theorem dX0_addFrom_74 : decode cX0_addFrom 74 = .ok (.iload_n 2, 1) := by decide +kernel
theorem dX0_addFrom_75 : decode cX0_addFrom 75 = .ok (.dup2, 1) := by decide +kernel
theorem dX0_addFrom_76 : decode cX0_addFrom 76 = .ok (.iaload, 1) := by decide +kernel
theorem dX0_addFrom_77 : decode cX0_addFrom 77 = .ok (.iconst 1, 1) := by decide +kernel
theorem dX0_addFrom_78 : decode cX0_addFrom 78 = .ok (.iadd, 1) := by decide +kernel
theorem dX0_addFrom_79 : decode cX0_addFrom 79 = .ok (.iastore, 1) := by decide +kernel
theorem dX0_addFrom_80 : decode cX0_addFrom 80 = .ok (.aload_n 0, 1) := by decide +kernel
theorem dX0_addFrom_81 : decode cX0_addFrom 81 = .ok (.getfield 15, 3) := by decide +kernel
theorem dX0_addFrom_84 : decode cX0_addFrom 84 = .ok (.iload_n 3, 1) := by decide +kernel
theorem dX0_addFrom_85 : decode cX0_addFrom 85 = .ok (.iaload, 1) := by decide +kernel
theorem dX0_addFrom_86 : decode cX0_addFrom 86 = .ok (.istore_n 3, 1) := by decide +kernel
theorem dX0_addFrom_87 : decode cX0_addFrom 87 = .ok (.iinc 4 1, 3) := by decide +kernel
theorem dX0_addFrom_90 : decode cX0_addFrom 90 = .ok (.goto (-66), 3) := by decide +kernel
theorem dX0_addFrom_93 : decode cX0_addFrom 93 = .ok (.aload_n 0, 1) := by decide +kernel
theorem dX0_addFrom_94 : decode cX0_addFrom 94 = .ok (.dup, 1) := by decide +kernel
theorem dX0_addFrom_95 : decode cX0_addFrom 95 = .ok (.getfield 45, 3) := by decide +kernel
theorem dX0_addFrom_98 : decode cX0_addFrom 98 = .ok (.iconst 1, 1) := by decide +kernel
theorem dX0_addFrom_99 : decode cX0_addFrom 99 = .ok (.iadd, 1) := by decide +kernel
theorem dX0_addFrom_100 : decode cX0_addFrom 100 = .ok (.putfield 45, 3) := by decide +kernel
theorem dX0_addFrom_103 : decode cX0_addFrom 103 = .ok (.return_, 1) := by decide +kernel
theorem dX0_has_0 : decode cX0_has 0 = .ok (.iload_n 1, 1) := by decide +kernel
theorem dX0_has_1 : decode cX0_has 1 = .ok (.ifCond .lt 15, 3) := by decide +kernel
theorem dX0_has_4 : decode cX0_has 4 = .ok (.iload_n 1, 1) := by decide +kernel
theorem dX0_has_5 : decode cX0_has 5 = .ok (.aload_n 0, 1) := by decide +kernel
theorem dX0_has_6 : decode cX0_has 6 = .ok (.getfield 45, 3) := by decide +kernel
theorem dX0_has_9 : decode cX0_has 9 = .ok (.if_icmp .ge 7, 3) := by decide +kernel
theorem dX0_has_12 : decode cX0_has 12 = .ok (.iconst 1, 1) := by decide +kernel
theorem dX0_has_13 : decode cX0_has 13 = .ok (.goto 4, 3) := by decide +kernel
theorem dX0_has_16 : decode cX0_has 16 = .ok (.iconst 0, 1) := by decide +kernel
theorem dX0_has_17 : decode cX0_has 17 = .ok (.ireturn, 1) := by decide +kernel
theorem dX0_isBroken_0 : decode cX0_isBroken 0 = .ok (.aload_n 0, 1) := by decide +kernel
theorem dX0_isBroken_1 : decode cX0_isBroken 1 = .ok (.getfield 9, 3) := by decide +kernel
theorem dX0_isBroken_4 : decode cX0_isBroken 4 = .ok (.iload_n 1, 1) := by decide +kernel
theorem dX0_isBroken_5 : decode cX0_isBroken 5 = .ok (.iaload, 1) := by decide +kernel
theorem dX0_isBroken_6 : decode cX0_isBroken 6 = .ok (.bipush (-9), 2) := by decide +kernel
theorem dX0_isBroken_8 : decode cX0_isBroken 8 = .ok (.if_icmp .eq 18, 3) := by decide +kernel
theorem dX0_isBroken_11 : decode cX0_isBroken 11 = .ok (.aload_n 0, 1) := by decide +kernel
theorem dX0_isBroken_12 : decode cX0_isBroken 12 = .ok (.getfield 15, 3) := by decide +kernel
theorem dX0_isBroken_15 : decode cX0_isBroken 15 = .ok (.iload_n 1, 1) := by decide +kernel
theorem dX0_isBroken_16 : decode cX0_isBroken 16 = .ok (.iaload, 1) := by decide +kernel
theorem dX0_isBroken_17 : decode cX0_isBroken 17 = .ok (.bipush (-9), 2) := by decide +kernel
theorem dX0_isBroken_19 : decode cX0_isBroken 19 = .ok (.if_icmp .ne 7, 3) := by decide +kernel
theorem dX0_isBroken_22 : decode cX0_isBroken 22 = .ok (.iconst 1, 1) := by decide +kernel
theorem dX0_isBroken_23 : decode cX0_isBroken 23 = .ok (.goto 4, 3) := by decide +kernel
theorem dX0_isBroken_26 : decode cX0_isBroken 26 = .ok (.iconst 0, 1) := by decide +kernel
theorem dX0_isBroken_27 : decode cX0_isBroken 27 = .ok (.ireturn, 1) := by decide +kernel
theorem dX0_isRing_0 : decode cX0_isRing 0 = .ok (.aload_n 0, 1) := by decide +kernel
theorem dX0_isRing_1 : decode cX0_isRing 1 = .ok (.getfield 18, 3) := by decide +kernel
theorem dX0_isRing_4 : decode cX0_isRing 4 = .ok (.aload_n 0, 1) := by decide +kernel
theorem dX0_isRing_5 : decode cX0_isRing 5 = .ok (.getfield 24, 3) := by decide +kernel
theorem dX0_isRing_8 : decode cX0_isRing 8 = .ok (.iload_n 1, 1) := by decide +kernel
theorem dX0_isRing_9 : decode cX0_isRing 9 = .ok (.iaload, 1) := by decide +kernel
theorem dX0_isRing_10 : decode cX0_isRing 10 = .ok (.iaload, 1) := by decide +kernel
theorem dX0_isRing_11 : decode cX0_isRing 11 = .ok (.bipush (-9), 2) := by decide +kernel
theorem dX0_isRing_13 : decode cX0_isRing 13 = .ok (.if_icmp .eq 7, 3) := by decide +kernel
theorem dX0_isRing_16 : decode cX0_isRing 16 = .ok (.iconst 1, 1) := by decide +kernel
theorem dX0_isRing_17 : decode cX0_isRing 17 = .ok (.goto 4, 3) := by decide +kernel
theorem dX0_isRing_20 : decode cX0_isRing 20 = .ok (.iconst 0, 1) := by decide +kernel
theorem dX0_isRing_21 : decode cX0_isRing 21 = .ok (.ireturn, 1) := by decide +kernel
theorem dX0_isReadIn_0 : decode cX0_isReadIn 0 = .ok (.aload_n 0, 1) := by decide +kernel
theorem dX0_isReadIn_1 : decode cX0_isReadIn 1 = .ok (.getfield 41, 3) := by decide +kernel
theorem dX0_isReadIn_4 : decode cX0_isReadIn 4 = .ok (.getfield 69, 3) := by decide +kernel
theorem dX0_isReadIn_7 : decode cX0_isReadIn 7 = .ok (.iload_n 2, 1) := by decide +kernel
theorem dX0_isReadIn_8 : decode cX0_isReadIn 8 = .ok (.iaload, 1) := by decide +kernel
theorem dX0_isReadIn_9 : decode cX0_isReadIn 9 = .ok (.istore_n 3, 1) := by decide +kernel
theorem dX0_isReadIn_10 : decode cX0_isReadIn 10 = .ok (.aload_n 0, 1) := by decide +kernel
theorem dX0_isReadIn_11 : decode cX0_isReadIn 11 = .ok (.getfield 33, 3) := by decide +kernel
theorem dX0_isReadIn_14 : decode cX0_isReadIn 14 = .ok (.getfield 94, 3) := by decide +kernel
theorem dX0_isReadIn_17 : decode cX0_isReadIn 17 = .ok (.iload_n 2, 1) := by decide +kernel
theorem dX0_isReadIn_18 : decode cX0_isReadIn 18 = .ok (.iaload, 1) := by decide +kernel
theorem dX0_isReadIn_19 : decode cX0_isReadIn 19 = .ok (.iconst 2, 1) := by decide +kernel
theorem dX0_isReadIn_20 : decode cX0_isReadIn 20 = .ok (.if_icmp .eq 23, 3) := by decide +kernel
theorem dX0_isReadIn_23 : decode cX0_isReadIn 23 = .ok (.iload_n 3, 1) := by decide +kernel
theorem dX0_isReadIn_24 : decode cX0_isReadIn 24 = .ok (.bipush (-9), 2) := by decide +kernel
theorem dX0_isReadIn_26 : decode cX0_isReadIn 26 = .ok (.if_icmp .eq 17, 3) := by decide +kernel
theorem dX0_isReadIn_29 : decode cX0_isReadIn 29 = .ok (.aload_n 0, 1) := by decide +kernel
theorem dX0_isReadIn_30 : decode cX0_isReadIn 30 = .ok (.getfield 21, 3) := by decide +kernel
theorem dX0_isReadIn_33 : decode cX0_isReadIn 33 = .ok (.iload_n 3, 1) := by decide +kernel
theorem dX0_isReadIn_34 : decode cX0_isReadIn 34 = .ok (.iaload, 1) := by decide +kernel
theorem dX0_isReadIn_35 : decode cX0_isReadIn 35 = .ok (.iload_n 1, 1) := by decide +kernel
theorem dX0_isReadIn_36 : decode cX0_isReadIn 36 = .ok (.if_icmp .ne 7, 3) := by decide +kernel
theorem dX0_isReadIn_39 : decode cX0_isReadIn 39 = .ok (.iconst 1, 1) := by decide +kernel
theorem dX0_isReadIn_40 : decode cX0_isReadIn 40 = .ok (.goto 4, 3) := by decide +kernel
theorem dX0_isReadIn_43 : decode cX0_isReadIn 43 = .ok (.iconst 0, 1) := by decide +kernel
theorem dX0_isReadIn_44 : decode cX0_isReadIn 44 = .ok (.ireturn, 1) := by decide +kernel
theorem dX0_textsOf_0 : decode cX0_textsOf 0 = .ok (.iconst 0, 1) := by decide +kernel
theorem dX0_textsOf_1 : decode cX0_textsOf 1 = .ok (.istore_n 2, 1) := by decide +kernel
theorem dX0_textsOf_2 : decode cX0_textsOf 2 = .ok (.iconst 0, 1) := by decide +kernel
theorem dX0_textsOf_3 : decode cX0_textsOf 3 = .ok (.istore_n 3, 1) := by decide +kernel
theorem dX0_textsOf_4 : decode cX0_textsOf 4 = .ok (.iload_n 3, 1) := by decide +kernel
theorem dX0_textsOf_5 : decode cX0_textsOf 5 = .ok (.aload_n 0, 1) := by decide +kernel
theorem dX0_textsOf_6 : decode cX0_textsOf 6 = .ok (.getfield 33, 3) := by decide +kernel
theorem dX0_textsOf_9 : decode cX0_textsOf 9 = .ok (.getfield 88, 3) := by decide +kernel
theorem dX0_textsOf_12 : decode cX0_textsOf 12 = .ok (.if_icmp .ge 34, 3) := by decide +kernel
theorem dX0_textsOf_15 : decode cX0_textsOf 15 = .ok (.aload_n 0, 1) := by decide +kernel
theorem dX0_textsOf_16 : decode cX0_textsOf 16 = .ok (.getfield 33, 3) := by decide +kernel
theorem dX0_textsOf_19 : decode cX0_textsOf 19 = .ok (.getfield 94, 3) := by decide +kernel
theorem dX0_textsOf_22 : decode cX0_textsOf 22 = .ok (.iload_n 3, 1) := by decide +kernel
theorem dX0_textsOf_23 : decode cX0_textsOf 23 = .ok (.iaload, 1) := by decide +kernel
theorem dX0_textsOf_24 : decode cX0_textsOf 24 = .ok (.iconst 1, 1) := by decide +kernel
theorem dX0_textsOf_25 : decode cX0_textsOf 25 = .ok (.if_icmp .ne 15, 3) := by decide +kernel
theorem dX0_textsOf_28 : decode cX0_textsOf 28 = .ok (.aload_n 0, 1) := by decide +kernel
theorem dX0_textsOf_29 : decode cX0_textsOf 29 = .ok (.iload_n 1, 1) := by decide +kernel
theorem dX0_textsOf_30 : decode cX0_textsOf 30 = .ok (.iload_n 3, 1) := by decide +kernel
theorem dX0_textsOf_31 : decode cX0_textsOf 31 = .ok (.invokevirtual 97, 3) := by decide +kernel
theorem dX0_textsOf_34 : decode cX0_textsOf 34 = .ok (.ifCond .eq 6, 3) := by decide +kernel
theorem dX0_textsOf_37 : decode cX0_textsOf 37 = .ok (.iinc 2 1, 3) := by decide +kernel
theorem dX0_textsOf_40 : decode cX0_textsOf 40 = .ok (.iinc 3 1, 3) := by decide +kernel
theorem dX0_textsOf_43 : decode cX0_textsOf 43 = .ok (.goto (-39), 3) := by decide +kernel
theorem dX0_textsOf_46 : decode cX0_textsOf 46 = .ok (.iload_n 2, 1) := by decide +kernel
theorem dX0_textsOf_47 : decode cX0_textsOf 47 = .ok (.ireturn, 1) := by decide +kernel
theorem dX0_wordsOf_0 : decode cX0_wordsOf 0 = .ok (.iconst 0, 1) := by decide +kernel
theorem dX0_wordsOf_1 : decode cX0_wordsOf 1 = .ok (.istore_n 2, 1) := by decide +kernel
theorem dX0_wordsOf_2 : decode cX0_wordsOf 2 = .ok (.iconst 0, 1) := by decide +kernel
theorem dX0_wordsOf_3 : decode cX0_wordsOf 3 = .ok (.istore_n 3, 1) := by decide +kernel
theorem dX0_wordsOf_4 : decode cX0_wordsOf 4 = .ok (.iload_n 3, 1) := by decide +kernel
theorem dX0_wordsOf_5 : decode cX0_wordsOf 5 = .ok (.aload_n 0, 1) := by decide +kernel
theorem dX0_wordsOf_6 : decode cX0_wordsOf 6 = .ok (.getfield 33, 3) := by decide +kernel
theorem dX0_wordsOf_9 : decode cX0_wordsOf 9 = .ok (.getfield 88, 3) := by decide +kernel
theorem dX0_wordsOf_12 : decode cX0_wordsOf 12 = .ok (.if_icmp .ge 43, 3) := by decide +kernel
theorem dX0_wordsOf_15 : decode cX0_wordsOf 15 = .ok (.aload_n 0, 1) := by decide +kernel
theorem dX0_wordsOf_16 : decode cX0_wordsOf 16 = .ok (.getfield 33, 3) := by decide +kernel
theorem dX0_wordsOf_19 : decode cX0_wordsOf 19 = .ok (.getfield 94, 3) := by decide +kernel
theorem dX0_wordsOf_22 : decode cX0_wordsOf 22 = .ok (.iload_n 3, 1) := by decide +kernel
theorem dX0_wordsOf_23 : decode cX0_wordsOf 23 = .ok (.iaload, 1) := by decide +kernel
theorem dX0_wordsOf_24 : decode cX0_wordsOf 24 = .ok (.iconst 1, 1) := by decide +kernel
theorem dX0_wordsOf_25 : decode cX0_wordsOf 25 = .ok (.if_icmp .ne 24, 3) := by decide +kernel
theorem dX0_wordsOf_28 : decode cX0_wordsOf 28 = .ok (.aload_n 0, 1) := by decide +kernel
theorem dX0_wordsOf_29 : decode cX0_wordsOf 29 = .ok (.iload_n 1, 1) := by decide +kernel
theorem dX0_wordsOf_30 : decode cX0_wordsOf 30 = .ok (.iload_n 3, 1) := by decide +kernel
theorem dX0_wordsOf_31 : decode cX0_wordsOf 31 = .ok (.invokevirtual 97, 3) := by decide +kernel
theorem dX0_wordsOf_34 : decode cX0_wordsOf 34 = .ok (.ifCond .eq 15, 3) := by decide +kernel
theorem dX0_wordsOf_37 : decode cX0_wordsOf 37 = .ok (.iload_n 2, 1) := by decide +kernel
theorem dX0_wordsOf_38 : decode cX0_wordsOf 38 = .ok (.aload_n 0, 1) := by decide +kernel
theorem dX0_wordsOf_39 : decode cX0_wordsOf 39 = .ok (.getfield 33, 3) := by decide +kernel
theorem dX0_wordsOf_42 : decode cX0_wordsOf 42 = .ok (.getfield 100, 3) := by decide +kernel
theorem dX0_wordsOf_45 : decode cX0_wordsOf 45 = .ok (.iload_n 3, 1) := by decide +kernel
theorem dX0_wordsOf_46 : decode cX0_wordsOf 46 = .ok (.iaload, 1) := by decide +kernel
theorem dX0_wordsOf_47 : decode cX0_wordsOf 47 = .ok (.iadd, 1) := by decide +kernel
theorem dX0_wordsOf_48 : decode cX0_wordsOf 48 = .ok (.istore_n 2, 1) := by decide +kernel
theorem dX0_wordsOf_49 : decode cX0_wordsOf 49 = .ok (.iinc 3 1, 3) := by decide +kernel
theorem dX0_wordsOf_52 : decode cX0_wordsOf 52 = .ok (.goto (-48), 3) := by decide +kernel
theorem dX0_wordsOf_55 : decode cX0_wordsOf 55 = .ok (.iload_n 2, 1) := by decide +kernel
theorem dX0_wordsOf_56 : decode cX0_wordsOf 56 = .ok (.ireturn, 1) := by decide +kernel
theorem dX0_pagesOf_0 : decode cX0_pagesOf 0 = .ok (.iconst 0, 1) := by decide +kernel
theorem dX0_pagesOf_1 : decode cX0_pagesOf 1 = .ok (.istore_n 2, 1) := by decide +kernel
theorem dX0_pagesOf_2 : decode cX0_pagesOf 2 = .ok (.iconst 0, 1) := by decide +kernel
theorem dX0_pagesOf_3 : decode cX0_pagesOf 3 = .ok (.istore_n 3, 1) := by decide +kernel
theorem dX0_pagesOf_4 : decode cX0_pagesOf 4 = .ok (.iload_n 3, 1) := by decide +kernel
theorem dX0_pagesOf_5 : decode cX0_pagesOf 5 = .ok (.aload_n 0, 1) := by decide +kernel
theorem dX0_pagesOf_6 : decode cX0_pagesOf 6 = .ok (.getfield 33, 3) := by decide +kernel
theorem dX0_pagesOf_9 : decode cX0_pagesOf 9 = .ok (.getfield 88, 3) := by decide +kernel
theorem dX0_pagesOf_12 : decode cX0_pagesOf 12 = .ok (.if_icmp .ge 32, 3) := by decide +kernel
theorem dX0_pagesOf_15 : decode cX0_pagesOf 15 = .ok (.aload_n 0, 1) := by decide +kernel
theorem dX0_pagesOf_16 : decode cX0_pagesOf 16 = .ok (.iload_n 1, 1) := by decide +kernel
theorem dX0_pagesOf_17 : decode cX0_pagesOf 17 = .ok (.iload_n 3, 1) := by decide +kernel
theorem dX0_pagesOf_18 : decode cX0_pagesOf 18 = .ok (.invokevirtual 97, 3) := by decide +kernel
theorem dX0_pagesOf_21 : decode cX0_pagesOf 21 = .ok (.ifCond .eq 17, 3) := by decide +kernel
theorem dX0_pagesOf_24 : decode cX0_pagesOf 24 = .ok (.iload_n 2, 1) := by decide +kernel
theorem dX0_pagesOf_25 : decode cX0_pagesOf 25 = .ok (.iconst 1, 1) := by decide +kernel
theorem dX0_pagesOf_26 : decode cX0_pagesOf 26 = .ok (.aload_n 0, 1) := by decide +kernel
theorem dX0_pagesOf_27 : decode cX0_pagesOf 27 = .ok (.getfield 33, 3) := by decide +kernel
theorem dX0_pagesOf_30 : decode cX0_pagesOf 30 = .ok (.getfield 91, 3) := by decide +kernel
theorem dX0_pagesOf_33 : decode cX0_pagesOf 33 = .ok (.iload_n 3, 1) := by decide +kernel
theorem dX0_pagesOf_34 : decode cX0_pagesOf 34 = .ok (.iaload, 1) := by decide +kernel
theorem dX0_pagesOf_35 : decode cX0_pagesOf 35 = .ok (.ishl, 1) := by decide +kernel
theorem dX0_pagesOf_36 : decode cX0_pagesOf 36 = .ok (.ior, 1) := by decide +kernel
theorem dX0_pagesOf_37 : decode cX0_pagesOf 37 = .ok (.istore_n 2, 1) := by decide +kernel
theorem dX0_pagesOf_38 : decode cX0_pagesOf 38 = .ok (.iinc 3 1, 3) := by decide +kernel
theorem dX0_pagesOf_41 : decode cX0_pagesOf 41 = .ok (.goto (-37), 3) := by decide +kernel
theorem dX0_pagesOf_44 : decode cX0_pagesOf 44 = .ok (.iload_n 2, 1) := by decide +kernel
theorem dX0_pagesOf_45 : decode cX0_pagesOf 45 = .ok (.ireturn, 1) := by decide +kernel
theorem dX0_blockAt_0 : decode cX0_blockAt 0 = .ok (.iload_n 2, 1) := by decide +kernel
theorem dX0_blockAt_1 : decode cX0_blockAt 1 = .ok (.istore_n 3, 1) := by decide +kernel
theorem dX0_blockAt_2 : decode cX0_blockAt 2 = .ok (.aload_n 0, 1) := by decide +kernel
theorem dX0_blockAt_3 : decode cX0_blockAt 3 = .ok (.getfield 24, 3) := by decide +kernel
theorem dX0_blockAt_6 : decode cX0_blockAt 6 = .ok (.iload_n 1, 1) := by decide +kernel
theorem dX0_blockAt_7 : decode cX0_blockAt 7 = .ok (.iaload, 1) := by decide +kernel
theorem dX0_blockAt_8 : decode cX0_blockAt 8 = .ok (.istore 4, 2) := by decide +kernel
theorem dX0_blockAt_10 : decode cX0_blockAt 10 = .ok (.iconst 0, 1) := by decide +kernel
theorem dX0_blockAt_11 : decode cX0_blockAt 11 = .ok (.istore 5, 2) := by decide +kernel
theorem dX0_blockAt_13 : decode cX0_blockAt 13 = .ok (.iload 5, 2) := by decide +kernel
theorem dX0_blockAt_15 : decode cX0_blockAt 15 = .ok (.aload_n 0, 1) := by decide +kernel
theorem dX0_blockAt_16 : decode cX0_blockAt 16 = .ok (.getfield 30, 3) := by decide +kernel
theorem dX0_blockAt_19 : decode cX0_blockAt 19 = .ok (.iload_n 1, 1) := by decide +kernel
theorem dX0_blockAt_20 : decode cX0_blockAt 20 = .ok (.iaload, 1) := by decide +kernel
theorem dX0_blockAt_21 : decode cX0_blockAt 21 = .ok (.if_icmp .ge 87, 3) := by decide +kernel
theorem dX0_blockAt_24 : decode cX0_blockAt 24 = .ok (.iload 4, 2) := by decide +kernel
theorem dX0_blockAt_26 : decode cX0_blockAt 26 = .ok (.bipush (-9), 2) := by decide +kernel
theorem dX0_blockAt_28 : decode cX0_blockAt 28 = .ok (.if_icmp .eq 80, 3) := by decide +kernel
theorem dX0_blockAt_31 : decode cX0_blockAt 31 = .ok (.aload_n 0, 1) := by decide +kernel
theorem dX0_blockAt_32 : decode cX0_blockAt 32 = .ok (.getfield 41, 3) := by decide +kernel
theorem dX0_blockAt_35 : decode cX0_blockAt 35 = .ok (.iload 4, 2) := by decide +kernel
theorem dX0_blockAt_37 : decode cX0_blockAt 37 = .ok (.invokevirtual 103, 3) := by decide +kernel
theorem dX0_blockAt_40 : decode cX0_blockAt 40 = .ok (.istore 6, 2) := by decide +kernel
theorem dX0_blockAt_42 : decode cX0_blockAt 42 = .ok (.iload 6, 2) := by decide +kernel
theorem dX0_blockAt_44 : decode cX0_blockAt 44 = .ok (.bipush (-9), 2) := by decide +kernel
theorem dX0_blockAt_46 : decode cX0_blockAt 46 = .ok (.if_icmp .eq 13, 3) := by decide +kernel
theorem dX0_blockAt_49 : decode cX0_blockAt 49 = .ok (.iload_n 3, 1) := by decide +kernel
theorem dX0_blockAt_50 : decode cX0_blockAt 50 = .ok (.ifCond .ne 6, 3) := by decide +kernel
theorem dX0_blockAt_53 : decode cX0_blockAt 53 = .ok (.iload 6, 2) := by decide +kernel
theorem dX0_blockAt_55 : decode cX0_blockAt 55 = .ok (.ireturn, 1) := by decide +kernel
theorem dX0_blockAt_56 : decode cX0_blockAt 56 = .ok (.iinc 3 (-1), 3) := by decide +kernel
theorem dX0_blockAt_59 : decode cX0_blockAt 59 = .ok (.aload_n 0, 1) := by decide +kernel
theorem dX0_blockAt_60 : decode cX0_blockAt 60 = .ok (.getfield 41, 3) := by decide +kernel
theorem dX0_blockAt_63 : decode cX0_blockAt 63 = .ok (.iload 4, 2) := by decide +kernel
theorem dX0_blockAt_65 : decode cX0_blockAt 65 = .ok (.iload_n 3, 1) := by decide +kernel
theorem dX0_blockAt_66 : decode cX0_blockAt 66 = .ok (.invokevirtual 106, 3) := by decide +kernel
theorem dX0_blockAt_69 : decode cX0_blockAt 69 = .ok (.istore 7, 2) := by decide +kernel
theorem dX0_blockAt_71 : decode cX0_blockAt 71 = .ok (.iload 7, 2) := by decide +kernel
theorem dX0_blockAt_73 : decode cX0_blockAt 73 = .ok (.bipush (-9), 2) := by decide +kernel
theorem dX0_blockAt_75 : decode cX0_blockAt 75 = .ok (.if_icmp .eq 6, 3) := by decide +kernel
theorem dX0_blockAt_78 : decode cX0_blockAt 78 = .ok (.iload 7, 2) := by decide +kernel
theorem dX0_blockAt_80 : decode cX0_blockAt 80 = .ok (.ireturn, 1) := by decide +kernel
theorem dX0_blockAt_81 : decode cX0_blockAt 81 = .ok (.iload_n 3, 1) := by decide +kernel
theorem dX0_blockAt_82 : decode cX0_blockAt 82 = .ok (.aload_n 0, 1) := by decide +kernel
theorem dX0_blockAt_83 : decode cX0_blockAt 83 = .ok (.getfield 41, 3) := by decide +kernel
theorem dX0_blockAt_86 : decode cX0_blockAt 86 = .ok (.iload 4, 2) := by decide +kernel
theorem dX0_blockAt_88 : decode cX0_blockAt 88 = .ok (.invokevirtual 109, 3) := by decide +kernel
theorem dX0_blockAt_91 : decode cX0_blockAt 91 = .ok (.isub, 1) := by decide +kernel
theorem dX0_blockAt_92 : decode cX0_blockAt 92 = .ok (.istore_n 3, 1) := by decide +kernel
theorem dX0_blockAt_93 : decode cX0_blockAt 93 = .ok (.aload_n 0, 1) := by decide +kernel
theorem dX0_blockAt_94 : decode cX0_blockAt 94 = .ok (.getfield 15, 3) := by decide +kernel
theorem dX0_blockAt_97 : decode cX0_blockAt 97 = .ok (.iload 4, 2) := by decide +kernel
theorem dX0_blockAt_99 : decode cX0_blockAt 99 = .ok (.iaload, 1) := by decide +kernel
theorem dX0_blockAt_100 : decode cX0_blockAt 100 = .ok (.istore 4, 2) := by decide +kernel
theorem dX0_blockAt_102 : decode cX0_blockAt 102 = .ok (.iinc 5 1, 3) := by decide +kernel
theorem dX0_blockAt_105 : decode cX0_blockAt 105 = .ok (.goto (-92), 3) := by decide +kernel
theorem dX0_blockAt_108 : decode cX0_blockAt 108 = .ok (.bipush (-9), 2) := by decide +kernel
theorem dX0_blockAt_110 : decode cX0_blockAt 110 = .ok (.ireturn, 1) := by decide +kernel
theorem dX0_manyRings_0 : decode cX0_manyRings 0 = .ok (.iconst 0, 1) := by decide +kernel
theorem dX0_manyRings_1 : decode cX0_manyRings 1 = .ok (.istore_n 1, 1) := by decide +kernel
theorem dX0_manyRings_2 : decode cX0_manyRings 2 = .ok (.iconst 0, 1) := by decide +kernel
theorem dX0_manyRings_3 : decode cX0_manyRings 3 = .ok (.istore_n 2, 1) := by decide +kernel
theorem dX0_manyRings_4 : decode cX0_manyRings 4 = .ok (.iload_n 2, 1) := by decide +kernel
theorem dX0_manyRings_5 : decode cX0_manyRings 5 = .ok (.aload_n 0, 1) := by decide +kernel
theorem dX0_manyRings_6 : decode cX0_manyRings 6 = .ok (.getfield 45, 3) := by decide +kernel
theorem dX0_manyRings_9 : decode cX0_manyRings 9 = .ok (.if_icmp .ge 20, 3) := by decide +kernel
theorem dX0_manyRings_12 : decode cX0_manyRings 12 = .ok (.aload_n 0, 1) := by decide +kernel
theorem dX0_manyRings_13 : decode cX0_manyRings 13 = .ok (.iload_n 2, 1) := by decide +kernel
theorem dX0_manyRings_14 : decode cX0_manyRings 14 = .ok (.invokevirtual 112, 3) := by decide +kernel
theorem dX0_manyRings_17 : decode cX0_manyRings 17 = .ok (.ifCond .eq 6, 3) := by decide +kernel
theorem dX0_manyRings_20 : decode cX0_manyRings 20 = .ok (.iinc 1 1, 3) := by decide +kernel
theorem dX0_manyRings_23 : decode cX0_manyRings 23 = .ok (.iinc 2 1, 3) := by decide +kernel
theorem dX0_manyRings_26 : decode cX0_manyRings 26 = .ok (.goto (-22), 3) := by decide +kernel
theorem dX0_manyRings_29 : decode cX0_manyRings 29 = .ok (.iload_n 1, 1) := by decide +kernel
theorem dX0_manyRings_30 : decode cX0_manyRings 30 = .ok (.ireturn, 1) := by decide +kernel
theorem dX0_manyBroken_0 : decode cX0_manyBroken 0 = .ok (.iconst 0, 1) := by decide +kernel
theorem dX0_manyBroken_1 : decode cX0_manyBroken 1 = .ok (.istore_n 1, 1) := by decide +kernel
theorem dX0_manyBroken_2 : decode cX0_manyBroken 2 = .ok (.iconst 0, 1) := by decide +kernel
theorem dX0_manyBroken_3 : decode cX0_manyBroken 3 = .ok (.istore_n 2, 1) := by decide +kernel
theorem dX0_manyBroken_4 : decode cX0_manyBroken 4 = .ok (.iload_n 2, 1) := by decide +kernel
theorem dX0_manyBroken_5 : decode cX0_manyBroken 5 = .ok (.aload_n 0, 1) := by decide +kernel
theorem dX0_manyBroken_6 : decode cX0_manyBroken 6 = .ok (.getfield 41, 3) := by decide +kernel
theorem dX0_manyBroken_9 : decode cX0_manyBroken 9 = .ok (.getfield 49, 3) := by decide +kernel
theorem dX0_manyBroken_12 : decode cX0_manyBroken 12 = .ok (.if_icmp .ge 20, 3) := by decide +kernel
theorem dX0_manyBroken_15 : decode cX0_manyBroken 15 = .ok (.aload_n 0, 1) := by decide +kernel
theorem dX0_manyBroken_16 : decode cX0_manyBroken 16 = .ok (.iload_n 2, 1) := by decide +kernel
theorem dX0_manyBroken_17 : decode cX0_manyBroken 17 = .ok (.invokevirtual 116, 3) := by decide +kernel
theorem dX0_manyBroken_20 : decode cX0_manyBroken 20 = .ok (.ifCond .eq 6, 3) := by decide +kernel
theorem dX0_manyBroken_23 : decode cX0_manyBroken 23 = .ok (.iinc 1 1, 3) := by decide +kernel
theorem dX0_manyBroken_26 : decode cX0_manyBroken 26 = .ok (.iinc 2 1, 3) := by decide +kernel
theorem dX0_manyBroken_29 : decode cX0_manyBroken 29 = .ok (.goto (-25), 3) := by decide +kernel
theorem dX0_manyBroken_32 : decode cX0_manyBroken 32 = .ok (.iload_n 1, 1) := by decide +kernel
theorem dX0_manyBroken_33 : decode cX0_manyBroken 33 = .ok (.ireturn, 1) := by decide +kernel
theorem dX0_manyIdleFrom_0 : decode cX0_manyIdleFrom 0 = .ok (.iconst 0, 1) := by decide +kernel
theorem dX0_manyIdleFrom_1 : decode cX0_manyIdleFrom 1 = .ok (.istore_n 1, 1) := by decide +kernel
theorem dX0_manyIdleFrom_2 : decode cX0_manyIdleFrom 2 = .ok (.iconst 0, 1) := by decide +kernel
theorem dX0_manyIdleFrom_3 : decode cX0_manyIdleFrom 3 = .ok (.istore_n 2, 1) := by decide +kernel
theorem dX0_manyIdleFrom_4 : decode cX0_manyIdleFrom 4 = .ok (.iload_n 2, 1) := by decide +kernel
theorem dX0_manyIdleFrom_5 : decode cX0_manyIdleFrom 5 = .ok (.aload_n 0, 1) := by decide +kernel
theorem dX0_manyIdleFrom_6 : decode cX0_manyIdleFrom 6 = .ok (.getfield 33, 3) := by decide +kernel
theorem dX0_manyIdleFrom_9 : decode cX0_manyIdleFrom 9 = .ok (.getfield 88, 3) := by decide +kernel
theorem dX0_manyIdleFrom_12 : decode cX0_manyIdleFrom 12 = .ok (.if_icmp .ge 51, 3) := by decide +kernel
theorem dX0_manyIdleFrom_15 : decode cX0_manyIdleFrom 15 = .ok (.aload_n 0, 1) := by decide +kernel
theorem dX0_manyIdleFrom_16 : decode cX0_manyIdleFrom 16 = .ok (.getfield 41, 3) := by decide +kernel
theorem dX0_manyIdleFrom_19 : decode cX0_manyIdleFrom 19 = .ok (.getfield 69, 3) := by decide +kernel
theorem dX0_manyIdleFrom_22 : decode cX0_manyIdleFrom 22 = .ok (.iload_n 2, 1) := by decide +kernel
theorem dX0_manyIdleFrom_23 : decode cX0_manyIdleFrom 23 = .ok (.iaload, 1) := by decide +kernel
theorem dX0_manyIdleFrom_24 : decode cX0_manyIdleFrom 24 = .ok (.istore_n 3, 1) := by decide +kernel
theorem dX0_manyIdleFrom_25 : decode cX0_manyIdleFrom 25 = .ok (.aload_n 0, 1) := by decide +kernel
theorem dX0_manyIdleFrom_26 : decode cX0_manyIdleFrom 26 = .ok (.getfield 37, 3) := by decide +kernel
theorem dX0_manyIdleFrom_29 : decode cX0_manyIdleFrom 29 = .ok (.iload_n 2, 1) := by decide +kernel
theorem dX0_manyIdleFrom_30 : decode cX0_manyIdleFrom 30 = .ok (.iconst 1, 1) := by decide +kernel
theorem dX0_manyIdleFrom_31 : decode cX0_manyIdleFrom 31 = .ok (.invokevirtual 72, 3) := by decide +kernel
theorem dX0_manyIdleFrom_34 : decode cX0_manyIdleFrom 34 = .ok (.ifCond .eq 23, 3) := by decide +kernel
theorem dX0_manyIdleFrom_37 : decode cX0_manyIdleFrom 37 = .ok (.iload_n 3, 1) := by decide +kernel
theorem dX0_manyIdleFrom_38 : decode cX0_manyIdleFrom 38 = .ok (.bipush (-9), 2) := by decide +kernel
theorem dX0_manyIdleFrom_40 : decode cX0_manyIdleFrom 40 = .ok (.if_icmp .eq 17, 3) := by decide +kernel
theorem dX0_manyIdleFrom_43 : decode cX0_manyIdleFrom 43 = .ok (.aload_n 0, 1) := by decide +kernel
theorem dX0_manyIdleFrom_44 : decode cX0_manyIdleFrom 44 = .ok (.getfield 18, 3) := by decide +kernel
theorem dX0_manyIdleFrom_47 : decode cX0_manyIdleFrom 47 = .ok (.iload_n 3, 1) := by decide +kernel
theorem dX0_manyIdleFrom_48 : decode cX0_manyIdleFrom 48 = .ok (.iaload, 1) := by decide +kernel
theorem dX0_manyIdleFrom_49 : decode cX0_manyIdleFrom 49 = .ok (.bipush (-9), 2) := by decide +kernel
theorem dX0_manyIdleFrom_51 : decode cX0_manyIdleFrom 51 = .ok (.if_icmp .ne 6, 3) := by decide +kernel
theorem dX0_manyIdleFrom_54 : decode cX0_manyIdleFrom 54 = .ok (.iinc 1 1, 3) := by decide +kernel
theorem dX0_manyIdleFrom_57 : decode cX0_manyIdleFrom 57 = .ok (.iinc 2 1, 3) := by decide +kernel
theorem dX0_manyIdleFrom_60 : decode cX0_manyIdleFrom 60 = .ok (.goto (-56), 3) := by decide +kernel
theorem dX0_manyIdleFrom_63 : decode cX0_manyIdleFrom 63 = .ok (.iload_n 1, 1) := by decide +kernel
theorem dX0_manyIdleFrom_64 : decode cX0_manyIdleFrom 64 = .ok (.ireturn, 1) := by decide +kernel
theorem dX1_init_0 : decode cX1_init 0 = .ok (.aload_n 0, 1) := by decide +kernel
theorem dX1_init_1 : decode cX1_init 1 = .ok (.invokespecial 3, 3) := by decide +kernel
theorem dX1_init_4 : decode cX1_init 4 = .ok (.aload_n 0, 1) := by decide +kernel
theorem dX1_init_5 : decode cX1_init 5 = .ok (.bipush 24, 2) := by decide +kernel
theorem dX1_init_7 : decode cX1_init 7 = .ok (.newarray .int, 2) := by decide +kernel
theorem dX1_init_9 : decode cX1_init 9 = .ok (.putfield 9, 3) := by decide +kernel
theorem dX1_init_12 : decode cX1_init 12 = .ok (.aload_n 0, 1) := by decide +kernel
theorem dX1_init_13 : decode cX1_init 13 = .ok (.bipush 24, 2) := by decide +kernel
theorem dX1_init_15 : decode cX1_init 15 = .ok (.newarray .int, 2) := by decide +kernel
theorem dX1_init_17 : decode cX1_init 17 = .ok (.putfield 15, 3) := by decide +kernel
theorem dX1_init_20 : decode cX1_init 20 = .ok (.aload_n 0, 1) := by decide +kernel
theorem dX1_init_21 : decode cX1_init 21 = .ok (.bipush 24, 2) := by decide +kernel
theorem dX1_init_23 : decode cX1_init 23 = .ok (.newarray .int, 2) := by decide +kernel
theorem dX1_init_25 : decode cX1_init 25 = .ok (.putfield 18, 3) := by decide +kernel
theorem dX1_init_28 : decode cX1_init 28 = .ok (.aload_n 0, 1) := by decide +kernel
theorem dX1_init_29 : decode cX1_init 29 = .ok (.bipush 24, 2) := by decide +kernel
theorem dX1_init_31 : decode cX1_init 31 = .ok (.newarray .int, 2) := by decide +kernel
theorem dX1_init_33 : decode cX1_init 33 = .ok (.putfield 21, 3) := by decide +kernel
theorem dX1_init_36 : decode cX1_init 36 = .ok (.aload_n 0, 1) := by decide +kernel
theorem dX1_init_37 : decode cX1_init 37 = .ok (.bipush 24, 2) := by decide +kernel
theorem dX1_init_39 : decode cX1_init 39 = .ok (.newarray .int, 2) := by decide +kernel
theorem dX1_init_41 : decode cX1_init 41 = .ok (.putfield 24, 3) := by decide +kernel
theorem dX1_init_44 : decode cX1_init 44 = .ok (.aload_n 0, 1) := by decide +kernel
theorem dX1_init_45 : decode cX1_init 45 = .ok (.bipush 24, 2) := by decide +kernel
theorem dX1_init_47 : decode cX1_init 47 = .ok (.newarray .int, 2) := by decide +kernel
theorem dX1_init_49 : decode cX1_init 49 = .ok (.putfield 27, 3) := by decide +kernel
theorem dX1_init_52 : decode cX1_init 52 = .ok (.aload_n 0, 1) := by decide +kernel
theorem dX1_init_53 : decode cX1_init 53 = .ok (.bipush 24, 2) := by decide +kernel
theorem dX1_init_55 : decode cX1_init 55 = .ok (.newarray .int, 2) := by decide +kernel
theorem dX1_init_57 : decode cX1_init 57 = .ok (.putfield 30, 3) := by decide +kernel
theorem dX1_init_60 : decode cX1_init 60 = .ok (.return_, 1) := by decide +kernel
theorem dX1_has_0 : decode cX1_has 0 = .ok (.iload_n 1, 1) := by decide +kernel
theorem dX1_has_1 : decode cX1_has 1 = .ok (.ifCond .lt 15, 3) := by decide +kernel
theorem dX1_has_4 : decode cX1_has 4 = .ok (.iload_n 1, 1) := by decide +kernel
theorem dX1_has_5 : decode cX1_has 5 = .ok (.aload_n 0, 1) := by decide +kernel
theorem dX1_has_6 : decode cX1_has 6 = .ok (.getfield 33, 3) := by decide +kernel
theorem dX1_has_9 : decode cX1_has 9 = .ok (.if_icmp .ge 7, 3) := by decide +kernel
theorem dX1_has_12 : decode cX1_has 12 = .ok (.iconst 1, 1) := by decide +kernel
theorem dX1_has_13 : decode cX1_has 13 = .ok (.goto 4, 3) := by decide +kernel
theorem dX1_has_16 : decode cX1_has 16 = .ok (.iconst 0, 1) := by decide +kernel
theorem dX1_has_17 : decode cX1_has 17 = .ok (.ireturn, 1) := by decide +kernel
theorem dX1_add_0 : decode cX1_add 0 = .ok (.aload_n 0, 1) := by decide +kernel
theorem dX1_add_1 : decode cX1_add 1 = .ok (.getfield 33, 3) := by decide +kernel
theorem dX1_add_4 : decode cX1_add 4 = .ok (.istore 7, 2) := by decide +kernel
theorem dX1_add_6 : decode cX1_add 6 = .ok (.aload_n 0, 1) := by decide +kernel
theorem dX1_add_7 : decode cX1_add 7 = .ok (.getfield 9, 3) := by decide +kernel
theorem dX1_add_10 : decode cX1_add 10 = .ok (.iload 7, 2) := by decide +kernel
theorem dX1_add_12 : decode cX1_add 12 = .ok (.iload_n 1, 1) := by decide +kernel
theorem dX1_add_13 : decode cX1_add 13 = .ok (.iastore, 1) := by decide +kernel
theorem dX1_add_14 : decode cX1_add 14 = .ok (.aload_n 0, 1) := by decide +kernel
theorem dX1_add_15 : decode cX1_add 15 = .ok (.getfield 15, 3) := by decide +kernel
theorem dX1_add_18 : decode cX1_add 18 = .ok (.iload 7, 2) := by decide +kernel
theorem dX1_add_20 : decode cX1_add 20 = .ok (.iload_n 2, 1) := by decide +kernel
theorem dX1_add_21 : decode cX1_add 21 = .ok (.iastore, 1) := by decide +kernel
theorem dX1_add_22 : decode cX1_add 22 = .ok (.aload_n 0, 1) := by decide +kernel
theorem dX1_add_23 : decode cX1_add 23 = .ok (.getfield 18, 3) := by decide +kernel
theorem dX1_add_26 : decode cX1_add 26 = .ok (.iload 7, 2) := by decide +kernel
theorem dX1_add_28 : decode cX1_add 28 = .ok (.iload_n 3, 1) := by decide +kernel
theorem dX1_add_29 : decode cX1_add 29 = .ok (.iastore, 1) := by decide +kernel
theorem dX1_add_30 : decode cX1_add 30 = .ok (.aload_n 0, 1) := by decide +kernel
theorem dX1_add_31 : decode cX1_add 31 = .ok (.getfield 21, 3) := by decide +kernel
theorem dX1_add_34 : decode cX1_add 34 = .ok (.iload 7, 2) := by decide +kernel
theorem dX1_add_36 : decode cX1_add 36 = .ok (.iload 4, 2) := by decide +kernel
theorem dX1_add_38 : decode cX1_add 38 = .ok (.iastore, 1) := by decide +kernel
theorem dX1_add_39 : decode cX1_add 39 = .ok (.aload_n 0, 1) := by decide +kernel
theorem dX1_add_40 : decode cX1_add 40 = .ok (.getfield 24, 3) := by decide +kernel
theorem dX1_add_43 : decode cX1_add 43 = .ok (.iload 7, 2) := by decide +kernel
theorem dX1_add_45 : decode cX1_add 45 = .ok (.iload 5, 2) := by decide +kernel
theorem dX1_add_47 : decode cX1_add 47 = .ok (.iastore, 1) := by decide +kernel
theorem dX1_add_48 : decode cX1_add 48 = .ok (.aload_n 0, 1) := by decide +kernel
theorem dX1_add_49 : decode cX1_add 49 = .ok (.getfield 27, 3) := by decide +kernel
theorem dX1_add_52 : decode cX1_add 52 = .ok (.iload 7, 2) := by decide +kernel
theorem dX1_add_54 : decode cX1_add 54 = .ok (.iload 6, 2) := by decide +kernel
theorem dX1_add_56 : decode cX1_add 56 = .ok (.iastore, 1) := by decide +kernel
theorem dX1_add_57 : decode cX1_add 57 = .ok (.aload_n 0, 1) := by decide +kernel
theorem dX1_add_58 : decode cX1_add 58 = .ok (.getfield 30, 3) := by decide +kernel
theorem dX1_add_61 : decode cX1_add 61 = .ok (.iload 7, 2) := by decide +kernel
theorem dX1_add_63 : decode cX1_add 63 = .ok (.iconst 1, 1) := by decide +kernel
theorem dX1_add_64 : decode cX1_add 64 = .ok (.iastore, 1) := by decide +kernel
theorem dX1_add_65 : decode cX1_add 65 = .ok (.aload_n 0, 1) := by decide +kernel
theorem dX1_add_66 : decode cX1_add 66 = .ok (.dup, 1) := by decide +kernel
theorem dX1_add_67 : decode cX1_add 67 = .ok (.getfield 33, 3) := by decide +kernel
theorem dX1_add_70 : decode cX1_add 70 = .ok (.iconst 1, 1) := by decide +kernel
theorem dX1_add_71 : decode cX1_add 71 = .ok (.iadd, 1) := by decide +kernel
theorem dX1_add_72 : decode cX1_add 72 = .ok (.putfield 33, 3) := by decide +kernel
theorem dX1_add_75 : decode cX1_add 75 = .ok (.iload 7, 2) := by decide +kernel
theorem dX1_add_77 : decode cX1_add 77 = .ok (.ireturn, 1) := by decide +kernel
theorem dX1_meets_0 : decode cX1_meets 0 = .ok (.aload_n 0, 1) := by decide +kernel
theorem dX1_meets_1 : decode cX1_meets 1 = .ok (.iload_n 1, 1) := by decide +kernel
theorem dX1_meets_2 : decode cX1_meets 2 = .ok (.iload_n 2, 1) := by decide +kernel
theorem dX1_meets_3 : decode cX1_meets 3 = .ok (.iload_n 3, 1) := by decide +kernel
theorem dX1_meets_4 : decode cX1_meets 4 = .ok (.iload 4, 2) := by decide +kernel
theorem dX1_meets_6 : decode cX1_meets 6 = .ok (.iload 5, 2) := by decide +kernel
theorem dX1_meets_8 : decode cX1_meets 8 = .ok (.invokevirtual 37, 3) := by decide +kernel
theorem dX1_meets_11 : decode cX1_meets 11 = .ok (.bipush (-9), 2) := by decide +kernel
theorem dX1_meets_13 : decode cX1_meets 13 = .ok (.if_icmp .eq 7, 3) := by decide +kernel
theorem dX1_meets_16 : decode cX1_meets 16 = .ok (.iconst 1, 1) := by decide +kernel
theorem dX1_meets_17 : decode cX1_meets 17 = .ok (.goto 4, 3) := by decide +kernel
theorem dX1_meets_20 : decode cX1_meets 20 = .ok (.iconst 0, 1) := by decide +kernel
theorem dX1_meets_21 : decode cX1_meets 21 = .ok (.ireturn, 1) := by decide +kernel
theorem dX1_firstIn_0 : decode cX1_firstIn 0 = .ok (.iconst 0, 1) := by decide +kernel
theorem dX1_firstIn_1 : decode cX1_firstIn 1 = .ok (.istore 6, 2) := by decide +kernel
theorem dX1_firstIn_3 : decode cX1_firstIn 3 = .ok (.iload 6, 2) := by decide +kernel
theorem dX1_firstIn_5 : decode cX1_firstIn 5 = .ok (.aload_n 0, 1) := by decide +kernel
theorem dX1_firstIn_6 : decode cX1_firstIn 6 = .ok (.getfield 33, 3) := by decide +kernel
theorem dX1_firstIn_9 : decode cX1_firstIn 9 = .ok (.if_icmp .ge 93, 3) := by decide +kernel
theorem dX1_firstIn_12 : decode cX1_firstIn 12 = .ok (.aload_n 0, 1) := by decide +kernel
theorem dX1_firstIn_13 : decode cX1_firstIn 13 = .ok (.getfield 18, 3) := by decide +kernel
theorem dX1_firstIn_16 : decode cX1_firstIn 16 = .ok (.iload 6, 2) := by decide +kernel
theorem dX1_firstIn_18 : decode cX1_firstIn 18 = .ok (.iaload, 1) := by decide +kernel
theorem dX1_firstIn_19 : decode cX1_firstIn 19 = .ok (.iload_n 3, 1) := by decide +kernel
theorem dX1_firstIn_20 : decode cX1_firstIn 20 = .ok (.if_icmp .gt 18, 3) := by decide +kernel
theorem dX1_firstIn_23 : decode cX1_firstIn 23 = .ok (.aload_n 0, 1) := by decide +kernel
theorem dX1_firstIn_24 : decode cX1_firstIn 24 = .ok (.getfield 21, 3) := by decide +kernel
theorem dX1_firstIn_27 : decode cX1_firstIn 27 = .ok (.iload 6, 2) := by decide +kernel
theorem dX1_firstIn_29 : decode cX1_firstIn 29 = .ok (.iaload, 1) := by decide +kernel
theorem dX1_firstIn_30 : decode cX1_firstIn 30 = .ok (.iload_n 2, 1) := by decide +kernel
theorem dX1_firstIn_31 : decode cX1_firstIn 31 = .ok (.if_icmp .lt 7, 3) := by decide +kernel
theorem dX1_firstIn_34 : decode cX1_firstIn 34 = .ok (.iconst 1, 1) := by decide +kernel
theorem dX1_firstIn_35 : decode cX1_firstIn 35 = .ok (.goto 4, 3) := by decide +kernel
theorem dX1_firstIn_38 : decode cX1_firstIn 38 = .ok (.iconst 0, 1) := by decide +kernel
theorem dX1_firstIn_39 : decode cX1_firstIn 39 = .ok (.istore 7, 2) := by decide +kernel
theorem dX1_firstIn_41 : decode cX1_firstIn 41 = .ok (.aload_n 0, 1) := by decide +kernel
theorem dX1_firstIn_42 : decode cX1_firstIn 42 = .ok (.getfield 24, 3) := by decide +kernel
theorem dX1_firstIn_45 : decode cX1_firstIn 45 = .ok (.iload 6, 2) := by decide +kernel
theorem dX1_firstIn_47 : decode cX1_firstIn 47 = .ok (.iaload, 1) := by decide +kernel
theorem dX1_firstIn_48 : decode cX1_firstIn 48 = .ok (.iload 5, 2) := by decide +kernel
theorem dX1_firstIn_50 : decode cX1_firstIn 50 = .ok (.if_icmp .gt 19, 3) := by decide +kernel
theorem dX1_firstIn_53 : decode cX1_firstIn 53 = .ok (.aload_n 0, 1) := by decide +kernel
theorem dX1_firstIn_54 : decode cX1_firstIn 54 = .ok (.getfield 27, 3) := by decide +kernel
theorem dX1_firstIn_57 : decode cX1_firstIn 57 = .ok (.iload 6, 2) := by decide +kernel
theorem dX1_firstIn_59 : decode cX1_firstIn 59 = .ok (.iaload, 1) := by decide +kernel
theorem dX1_firstIn_60 : decode cX1_firstIn 60 = .ok (.iload 4, 2) := by decide +kernel
theorem dX1_firstIn_62 : decode cX1_firstIn 62 = .ok (.if_icmp .lt 7, 3) := by decide +kernel
theorem dX1_firstIn_65 : decode cX1_firstIn 65 = .ok (.iconst 1, 1) := by decide +kernel
theorem dX1_firstIn_66 : decode cX1_firstIn 66 = .ok (.goto 4, 3) := by decide +kernel
theorem dX1_firstIn_69 : decode cX1_firstIn 69 = .ok (.iconst 0, 1) := by decide +kernel
theorem dX1_firstIn_70 : decode cX1_firstIn 70 = .ok (.istore 8, 2) := by decide +kernel
theorem dX1_firstIn_72 : decode cX1_firstIn 72 = .ok (.aload_n 0, 1) := by decide +kernel
theorem dX1_firstIn_73 : decode cX1_firstIn 73 = .ok (.getfield 9, 3) := by decide +kernel
theorem dX1_firstIn_76 : decode cX1_firstIn 76 = .ok (.iload 6, 2) := by decide +kernel
theorem dX1_firstIn_78 : decode cX1_firstIn 78 = .ok (.iaload, 1) := by decide +kernel
theorem dX1_firstIn_79 : decode cX1_firstIn 79 = .ok (.iload_n 1, 1) := by decide +kernel
theorem dX1_firstIn_80 : decode cX1_firstIn 80 = .ok (.if_icmp .ne 16, 3) := by decide +kernel
theorem dX1_firstIn_83 : decode cX1_firstIn 83 = .ok (.iload 7, 2) := by decide +kernel
theorem dX1_firstIn_85 : decode cX1_firstIn 85 = .ok (.ifCond .eq 11, 3) := by decide +kernel
theorem dX1_firstIn_88 : decode cX1_firstIn 88 = .ok (.iload 8, 2) := by decide +kernel
theorem dX1_firstIn_90 : decode cX1_firstIn 90 = .ok (.ifCond .eq 6, 3) := by decide +kernel
theorem dX1_firstIn_93 : decode cX1_firstIn 93 = .ok (.iload 6, 2) := by decide +kernel
theorem dX1_firstIn_95 : decode cX1_firstIn 95 = .ok (.ireturn, 1) := by decide +kernel
theorem dX1_firstIn_96 : decode cX1_firstIn 96 = .ok (.iinc 6 1, 3) := by decide +kernel
theorem dX1_firstIn_99 : decode cX1_firstIn 99 = .ok (.goto (-96), 3) := by decide +kernel
theorem dX1_firstIn_102 : decode cX1_firstIn 102 = .ok (.bipush (-9), 2) := by decide +kernel
theorem dX1_firstIn_104 : decode cX1_firstIn 104 = .ok (.ireturn, 1) := by decide +kernel
theorem dX1_turnAbout_0 : decode cX1_turnAbout 0 = .ok (.iconst 0, 1) := by decide +kernel
theorem dX1_turnAbout_1 : decode cX1_turnAbout 1 = .ok (.istore_n 1, 1) := by decide +kernel
theorem dX1_turnAbout_2 : decode cX1_turnAbout 2 = .ok (.iconst 0, 1) := by decide +kernel
theorem dX1_turnAbout_3 : decode cX1_turnAbout 3 = .ok (.istore_n 2, 1) := by decide +kernel
theorem dX1_turnAbout_4 : decode cX1_turnAbout 4 = .ok (.iload_n 2, 1) := by decide +kernel
theorem dX1_turnAbout_5 : decode cX1_turnAbout 5 = .ok (.aload_n 0, 1) := by decide +kernel
theorem dX1_turnAbout_6 : decode cX1_turnAbout 6 = .ok (.getfield 33, 3) := by decide +kernel
theorem dX1_turnAbout_9 : decode cX1_turnAbout 9 = .ok (.if_icmp .ge 58, 3) := by decide +kernel
theorem dX1_turnAbout_12 : decode cX1_turnAbout 12 = .ok (.bipush 7, 2) := by decide +kernel
theorem dX1_turnAbout_14 : decode cX1_turnAbout 14 = .ok (.aload_n 0, 1) := by decide +kernel
theorem dX1_turnAbout_15 : decode cX1_turnAbout 15 = .ok (.getfield 21, 3) := by decide +kernel
theorem dX1_turnAbout_18 : decode cX1_turnAbout 18 = .ok (.iload_n 2, 1) := by decide +kernel
theorem dX1_turnAbout_19 : decode cX1_turnAbout 19 = .ok (.iaload, 1) := by decide +kernel
theorem dX1_turnAbout_20 : decode cX1_turnAbout 20 = .ok (.isub, 1) := by decide +kernel
theorem dX1_turnAbout_21 : decode cX1_turnAbout 21 = .ok (.istore_n 3, 1) := by decide +kernel
theorem dX1_turnAbout_22 : decode cX1_turnAbout 22 = .ok (.bipush 7, 2) := by decide +kernel
theorem dX1_turnAbout_24 : decode cX1_turnAbout 24 = .ok (.aload_n 0, 1) := by decide +kernel
theorem dX1_turnAbout_25 : decode cX1_turnAbout 25 = .ok (.getfield 18, 3) := by decide +kernel
theorem dX1_turnAbout_28 : decode cX1_turnAbout 28 = .ok (.iload_n 2, 1) := by decide +kernel
theorem dX1_turnAbout_29 : decode cX1_turnAbout 29 = .ok (.iaload, 1) := by decide +kernel
theorem dX1_turnAbout_30 : decode cX1_turnAbout 30 = .ok (.isub, 1) := by decide +kernel
theorem dX1_turnAbout_31 : decode cX1_turnAbout 31 = .ok (.istore 4, 2) := by decide +kernel
theorem dX1_turnAbout_33 : decode cX1_turnAbout 33 = .ok (.iload_n 3, 1) := by decide +kernel
theorem dX1_turnAbout_34 : decode cX1_turnAbout 34 = .ok (.aload_n 0, 1) := by decide +kernel
theorem dX1_turnAbout_35 : decode cX1_turnAbout 35 = .ok (.getfield 18, 3) := by decide +kernel
theorem dX1_turnAbout_38 : decode cX1_turnAbout 38 = .ok (.iload_n 2, 1) := by decide +kernel
theorem dX1_turnAbout_39 : decode cX1_turnAbout 39 = .ok (.iaload, 1) := by decide +kernel
theorem dX1_turnAbout_40 : decode cX1_turnAbout 40 = .ok (.if_icmp .eq 6, 3) := by decide +kernel
theorem dX1_turnAbout_43 : decode cX1_turnAbout 43 = .ok (.iinc 1 1, 3) := by decide +kernel
theorem dX1_turnAbout_46 : decode cX1_turnAbout 46 = .ok (.aload_n 0, 1) := by decide +kernel
theorem dX1_turnAbout_47 : decode cX1_turnAbout 47 = .ok (.getfield 18, 3) := by decide +kernel
theorem dX1_turnAbout_50 : decode cX1_turnAbout 50 = .ok (.iload_n 2, 1) := by decide +kernel
theorem dX1_turnAbout_51 : decode cX1_turnAbout 51 = .ok (.iload_n 3, 1) := by decide +kernel
theorem dX1_turnAbout_52 : decode cX1_turnAbout 52 = .ok (.iastore, 1) := by decide +kernel
theorem dX1_turnAbout_53 : decode cX1_turnAbout 53 = .ok (.aload_n 0, 1) := by decide +kernel
theorem dX1_turnAbout_54 : decode cX1_turnAbout 54 = .ok (.getfield 21, 3) := by decide +kernel
theorem dX1_turnAbout_57 : decode cX1_turnAbout 57 = .ok (.iload_n 2, 1) := by decide +kernel
theorem dX1_turnAbout_58 : decode cX1_turnAbout 58 = .ok (.iload 4, 2) := by decide +kernel
theorem dX1_turnAbout_60 : decode cX1_turnAbout 60 = .ok (.iastore, 1) := by decide +kernel
theorem dX1_turnAbout_61 : decode cX1_turnAbout 61 = .ok (.iinc 2 1, 3) := by decide +kernel
theorem dX1_turnAbout_64 : decode cX1_turnAbout 64 = .ok (.goto (-60), 3) := by decide +kernel
theorem dX1_turnAbout_67 : decode cX1_turnAbout 67 = .ok (.iload_n 1, 1) := by decide +kernel
theorem dX1_turnAbout_68 : decode cX1_turnAbout 68 = .ok (.ireturn, 1) := by decide +kernel
theorem dX1_manyOf_0 : decode cX1_manyOf 0 = .ok (.iconst 0, 1) := by decide +kernel
theorem dX1_manyOf_1 : decode cX1_manyOf 1 = .ok (.istore_n 2, 1) := by decide +kernel
theorem dX1_manyOf_2 : decode cX1_manyOf 2 = .ok (.iconst 0, 1) := by decide +kernel
theorem dX1_manyOf_3 : decode cX1_manyOf 3 = .ok (.istore_n 3, 1) := by decide +kernel
theorem dX1_manyOf_4 : decode cX1_manyOf 4 = .ok (.iload_n 3, 1) := by decide +kernel
theorem dX1_manyOf_5 : decode cX1_manyOf 5 = .ok (.aload_n 0, 1) := by decide +kernel
theorem dX1_manyOf_6 : decode cX1_manyOf 6 = .ok (.getfield 33, 3) := by decide +kernel
theorem dX1_manyOf_9 : decode cX1_manyOf 9 = .ok (.if_icmp .ge 22, 3) := by decide +kernel
theorem dX1_manyOf_12 : decode cX1_manyOf 12 = .ok (.aload_n 0, 1) := by decide +kernel
theorem dX1_manyOf_13 : decode cX1_manyOf 13 = .ok (.getfield 15, 3) := by decide +kernel
theorem dX1_manyOf_16 : decode cX1_manyOf 16 = .ok (.iload_n 3, 1) := by decide +kernel
theorem dX1_manyOf_17 : decode cX1_manyOf 17 = .ok (.iaload, 1) := by decide +kernel
theorem dX1_manyOf_18 : decode cX1_manyOf 18 = .ok (.iload_n 1, 1) := by decide +kernel
theorem dX1_manyOf_19 : decode cX1_manyOf 19 = .ok (.if_icmp .ne 6, 3) := by decide +kernel
theorem dX1_manyOf_22 : decode cX1_manyOf 22 = .ok (.iinc 2 1, 3) := by decide +kernel
theorem dX1_manyOf_25 : decode cX1_manyOf 25 = .ok (.iinc 3 1, 3) := by decide +kernel
theorem dX1_manyOf_28 : decode cX1_manyOf 28 = .ok (.goto (-24), 3) := by decide +kernel
theorem dX1_manyOf_31 : decode cX1_manyOf 31 = .ok (.iload_n 2, 1) := by decide +kernel
theorem dX1_manyOf_32 : decode cX1_manyOf 32 = .ok (.ireturn, 1) := by decide +kernel
theorem dX1_headBelow_0 : decode cX1_headBelow 0 = .ok (.bipush 30, 2) := by decide +kernel
theorem dX1_headBelow_2 : decode cX1_headBelow 2 = .ok (.istore 4, 2) := by decide +kernel
theorem dX1_headBelow_4 : decode cX1_headBelow 4 = .ok (.iconst 0, 1) := by decide +kernel
theorem dX1_headBelow_5 : decode cX1_headBelow 5 = .ok (.istore 5, 2) := by decide +kernel
theorem dX1_headBelow_7 : decode cX1_headBelow 7 = .ok (.iload 5, 2) := by decide +kernel
theorem dX1_headBelow_9 : decode cX1_headBelow 9 = .ok (.aload_n 0, 1) := by decide +kernel
theorem dX1_headBelow_10 : decode cX1_headBelow 10 = .ok (.getfield 33, 3) := by decide +kernel
theorem dX1_headBelow_13 : decode cX1_headBelow 13 = .ok (.if_icmp .ge 89, 3) := by decide +kernel
theorem dX1_headBelow_16 : decode cX1_headBelow 16 = .ok (.aload_n 0, 1) := by decide +kernel
theorem dX1_headBelow_17 : decode cX1_headBelow 17 = .ok (.getfield 18, 3) := by decide +kernel
theorem dX1_headBelow_20 : decode cX1_headBelow 20 = .ok (.iload 5, 2) := by decide +kernel
theorem dX1_headBelow_22 : decode cX1_headBelow 22 = .ok (.iaload, 1) := by decide +kernel
theorem dX1_headBelow_23 : decode cX1_headBelow 23 = .ok (.iload_n 2, 1) := by decide +kernel
theorem dX1_headBelow_24 : decode cX1_headBelow 24 = .ok (.if_icmp .gt 18, 3) := by decide +kernel
theorem dX1_headBelow_27 : decode cX1_headBelow 27 = .ok (.aload_n 0, 1) := by decide +kernel
theorem dX1_headBelow_28 : decode cX1_headBelow 28 = .ok (.getfield 21, 3) := by decide +kernel
theorem dX1_headBelow_31 : decode cX1_headBelow 31 = .ok (.iload 5, 2) := by decide +kernel
theorem dX1_headBelow_33 : decode cX1_headBelow 33 = .ok (.iaload, 1) := by decide +kernel
theorem dX1_headBelow_34 : decode cX1_headBelow 34 = .ok (.iload_n 2, 1) := by decide +kernel
theorem dX1_headBelow_35 : decode cX1_headBelow 35 = .ok (.if_icmp .lt 7, 3) := by decide +kernel
theorem dX1_headBelow_38 : decode cX1_headBelow 38 = .ok (.iconst 1, 1) := by decide +kernel
theorem dX1_headBelow_39 : decode cX1_headBelow 39 = .ok (.goto 4, 3) := by decide +kernel
theorem dX1_headBelow_42 : decode cX1_headBelow 42 = .ok (.iconst 0, 1) := by decide +kernel
theorem dX1_headBelow_43 : decode cX1_headBelow 43 = .ok (.istore 6, 2) := by decide +kernel
theorem dX1_headBelow_45 : decode cX1_headBelow 45 = .ok (.aload_n 0, 1) := by decide +kernel
theorem dX1_headBelow_46 : decode cX1_headBelow 46 = .ok (.getfield 15, 3) := by decide +kernel
theorem dX1_headBelow_49 : decode cX1_headBelow 49 = .ok (.iload 5, 2) := by decide +kernel
theorem dX1_headBelow_51 : decode cX1_headBelow 51 = .ok (.iaload, 1) := by decide +kernel
theorem dX1_headBelow_52 : decode cX1_headBelow 52 = .ok (.ifCond .ne 44, 3) := by decide +kernel
theorem dX1_headBelow_55 : decode cX1_headBelow 55 = .ok (.aload_n 0, 1) := by decide +kernel
theorem dX1_headBelow_56 : decode cX1_headBelow 56 = .ok (.getfield 9, 3) := by decide +kernel
theorem dX1_headBelow_59 : decode cX1_headBelow 59 = .ok (.iload 5, 2) := by decide +kernel
theorem dX1_headBelow_61 : decode cX1_headBelow 61 = .ok (.iaload, 1) := by decide +kernel
theorem dX1_headBelow_62 : decode cX1_headBelow 62 = .ok (.iload_n 1, 1) := by decide +kernel
theorem dX1_headBelow_63 : decode cX1_headBelow 63 = .ok (.if_icmp .ne 33, 3) := by decide +kernel
theorem dX1_headBelow_66 : decode cX1_headBelow 66 = .ok (.iload 6, 2) := by decide +kernel
theorem dX1_headBelow_68 : decode cX1_headBelow 68 = .ok (.ifCond .eq 28, 3) := by decide +kernel
theorem dX1_headBelow_71 : decode cX1_headBelow 71 = .ok (.aload_n 0, 1) := by decide +kernel
theorem dX1_headBelow_72 : decode cX1_headBelow 72 = .ok (.getfield 24, 3) := by decide +kernel
theorem dX1_headBelow_75 : decode cX1_headBelow 75 = .ok (.iload 5, 2) := by decide +kernel
theorem dX1_headBelow_77 : decode cX1_headBelow 77 = .ok (.iaload, 1) := by decide +kernel
theorem dX1_headBelow_78 : decode cX1_headBelow 78 = .ok (.iload_n 3, 1) := by decide +kernel
theorem dX1_headBelow_79 : decode cX1_headBelow 79 = .ok (.if_icmp .le 17, 3) := by decide +kernel
theorem dX1_headBelow_82 : decode cX1_headBelow 82 = .ok (.iload 4, 2) := by decide +kernel
theorem dX1_headBelow_84 : decode cX1_headBelow 84 = .ok (.aload_n 0, 1) := by decide +kernel
theorem dX1_headBelow_85 : decode cX1_headBelow 85 = .ok (.getfield 24, 3) := by decide +kernel
theorem dX1_headBelow_88 : decode cX1_headBelow 88 = .ok (.iload 5, 2) := by decide +kernel
theorem dX1_headBelow_90 : decode cX1_headBelow 90 = .ok (.iaload, 1) := by decide +kernel
theorem dX1_headBelow_91 : decode cX1_headBelow 91 = .ok (.invokestatic 41, 3) := by decide +kernel
theorem dX1_headBelow_94 : decode cX1_headBelow 94 = .ok (.istore 4, 2) := by decide +kernel
theorem dX1_headBelow_96 : decode cX1_headBelow 96 = .ok (.iinc 5 1, 3) := by decide +kernel
theorem dX1_headBelow_99 : decode cX1_headBelow 99 = .ok (.goto (-92), 3) := by decide +kernel
theorem dX1_headBelow_102 : decode cX1_headBelow 102 = .ok (.iload 4, 2) := by decide +kernel
theorem dX1_headBelow_104 : decode cX1_headBelow 104 = .ok (.ireturn, 1) := by decide +kernel
theorem dX1_isAhead_0 : decode cX1_isAhead 0 = .ok (.aload_n 0, 1) := by decide +kernel
theorem dX1_isAhead_1 : decode cX1_isAhead 1 = .ok (.getfield 18, 3) := by decide +kernel
theorem dX1_isAhead_4 : decode cX1_isAhead 4 = .ok (.iload_n 1, 1) := by decide +kernel
theorem dX1_isAhead_5 : decode cX1_isAhead 5 = .ok (.iaload, 1) := by decide +kernel
theorem dX1_isAhead_6 : decode cX1_isAhead 6 = .ok (.aload_n 0, 1) := by decide +kernel
theorem dX1_isAhead_7 : decode cX1_isAhead 7 = .ok (.getfield 18, 3) := by decide +kernel
theorem dX1_isAhead_10 : decode cX1_isAhead 10 = .ok (.iload_n 2, 1) := by decide +kernel
theorem dX1_isAhead_11 : decode cX1_isAhead 11 = .ok (.iaload, 1) := by decide +kernel
theorem dX1_isAhead_12 : decode cX1_isAhead 12 = .ok (.if_icmp .lt 33, 3) := by decide +kernel
theorem dX1_isAhead_15 : decode cX1_isAhead 15 = .ok (.aload_n 0, 1) := by decide +kernel
theorem dX1_isAhead_16 : decode cX1_isAhead 16 = .ok (.getfield 18, 3) := by decide +kernel
theorem dX1_isAhead_19 : decode cX1_isAhead 19 = .ok (.iload_n 1, 1) := by decide +kernel
theorem dX1_isAhead_20 : decode cX1_isAhead 20 = .ok (.iaload, 1) := by decide +kernel
theorem dX1_isAhead_21 : decode cX1_isAhead 21 = .ok (.aload_n 0, 1) := by decide +kernel
theorem dX1_isAhead_22 : decode cX1_isAhead 22 = .ok (.getfield 18, 3) := by decide +kernel
theorem dX1_isAhead_25 : decode cX1_isAhead 25 = .ok (.iload_n 2, 1) := by decide +kernel
theorem dX1_isAhead_26 : decode cX1_isAhead 26 = .ok (.iaload, 1) := by decide +kernel
theorem dX1_isAhead_27 : decode cX1_isAhead 27 = .ok (.if_icmp .ne 22, 3) := by decide +kernel
theorem dX1_isAhead_30 : decode cX1_isAhead 30 = .ok (.aload_n 0, 1) := by decide +kernel
theorem dX1_isAhead_31 : decode cX1_isAhead 31 = .ok (.getfield 24, 3) := by decide +kernel
theorem dX1_isAhead_34 : decode cX1_isAhead 34 = .ok (.iload_n 1, 1) := by decide +kernel
theorem dX1_isAhead_35 : decode cX1_isAhead 35 = .ok (.iaload, 1) := by decide +kernel
theorem dX1_isAhead_36 : decode cX1_isAhead 36 = .ok (.aload_n 0, 1) := by decide +kernel
theorem dX1_isAhead_37 : decode cX1_isAhead 37 = .ok (.getfield 24, 3) := by decide +kernel
theorem dX1_isAhead_40 : decode cX1_isAhead 40 = .ok (.iload_n 2, 1) := by decide +kernel
theorem dX1_isAhead_41 : decode cX1_isAhead 41 = .ok (.iaload, 1) := by decide +kernel
theorem dX1_isAhead_42 : decode cX1_isAhead 42 = .ok (.if_icmp .ge 7, 3) := by decide +kernel
theorem dX1_isAhead_45 : decode cX1_isAhead 45 = .ok (.iconst 1, 1) := by decide +kernel
theorem dX1_isAhead_46 : decode cX1_isAhead 46 = .ok (.goto 4, 3) := by decide +kernel
theorem dX1_isAhead_49 : decode cX1_isAhead 49 = .ok (.iconst 0, 1) := by decide +kernel
theorem dX1_isAhead_50 : decode cX1_isAhead 50 = .ok (.ireturn, 1) := by decide +kernel
theorem dX2_init_0 : decode cX2_init 0 = .ok (.aload_n 0, 1) := by decide +kernel
theorem dX2_init_1 : decode cX2_init 1 = .ok (.invokespecial 3, 3) := by decide +kernel
theorem dX2_init_4 : decode cX2_init 4 = .ok (.aload_n 0, 1) := by decide +kernel
theorem dX2_init_5 : decode cX2_init 5 = .ok (.bipush 12, 2) := by decide +kernel
theorem dX2_init_7 : decode cX2_init 7 = .ok (.newarray .int, 2) := by decide +kernel
theorem dX2_init_9 : decode cX2_init 9 = .ok (.putfield 9, 3) := by decide +kernel
theorem dX2_init_12 : decode cX2_init 12 = .ok (.aload_n 0, 1) := by decide +kernel
theorem dX2_init_13 : decode cX2_init 13 = .ok (.bipush 12, 2) := by decide +kernel
theorem dX2_init_15 : decode cX2_init 15 = .ok (.newarray .int, 2) := by decide +kernel
theorem dX2_init_17 : decode cX2_init 17 = .ok (.putfield 15, 3) := by decide +kernel
theorem dX2_init_20 : decode cX2_init 20 = .ok (.aload_n 0, 1) := by decide +kernel
theorem dX2_init_21 : decode cX2_init 21 = .ok (.bipush 12, 2) := by decide +kernel
theorem dX2_init_23 : decode cX2_init 23 = .ok (.newarray .int, 2) := by decide +kernel
theorem dX2_init_25 : decode cX2_init 25 = .ok (.putfield 18, 3) := by decide +kernel
theorem dX2_init_28 : decode cX2_init 28 = .ok (.aload_n 0, 1) := by decide +kernel
theorem dX2_init_29 : decode cX2_init 29 = .ok (.bipush 12, 2) := by decide +kernel
theorem dX2_init_31 : decode cX2_init 31 = .ok (.newarray .int, 2) := by decide +kernel
theorem dX2_init_33 : decode cX2_init 33 = .ok (.putfield 21, 3) := by decide +kernel
theorem dX2_init_36 : decode cX2_init 36 = .ok (.aload_n 0, 1) := by decide +kernel
theorem dX2_init_37 : decode cX2_init 37 = .ok (.bipush 12, 2) := by decide +kernel
theorem dX2_init_39 : decode cX2_init 39 = .ok (.newarray .int, 2) := by decide +kernel
theorem dX2_init_41 : decode cX2_init 41 = .ok (.putfield 24, 3) := by decide +kernel
theorem dX2_init_44 : decode cX2_init 44 = .ok (.return_, 1) := by decide +kernel
theorem dX2_has_0 : decode cX2_has 0 = .ok (.iload_n 1, 1) := by decide +kernel
theorem dX2_has_1 : decode cX2_has 1 = .ok (.ifCond .lt 15, 3) := by decide +kernel
theorem dX2_has_4 : decode cX2_has 4 = .ok (.iload_n 1, 1) := by decide +kernel
theorem dX2_has_5 : decode cX2_has 5 = .ok (.aload_n 0, 1) := by decide +kernel
theorem dX2_has_6 : decode cX2_has 6 = .ok (.getfield 27, 3) := by decide +kernel
theorem dX2_has_9 : decode cX2_has 9 = .ok (.if_icmp .ge 7, 3) := by decide +kernel
theorem dX2_has_12 : decode cX2_has 12 = .ok (.iconst 1, 1) := by decide +kernel
theorem dX2_has_13 : decode cX2_has 13 = .ok (.goto 4, 3) := by decide +kernel
theorem dX2_has_16 : decode cX2_has 16 = .ok (.iconst 0, 1) := by decide +kernel
theorem dX2_has_17 : decode cX2_has 17 = .ok (.ireturn, 1) := by decide +kernel
theorem dX2_add_0 : decode cX2_add 0 = .ok (.aload_n 0, 1) := by decide +kernel
theorem dX2_add_1 : decode cX2_add 1 = .ok (.getfield 27, 3) := by decide +kernel
theorem dX2_add_4 : decode cX2_add 4 = .ok (.istore 6, 2) := by decide +kernel
theorem dX2_add_6 : decode cX2_add 6 = .ok (.aload_n 0, 1) := by decide +kernel
theorem dX2_add_7 : decode cX2_add 7 = .ok (.getfield 9, 3) := by decide +kernel
theorem dX2_add_10 : decode cX2_add 10 = .ok (.iload 6, 2) := by decide +kernel
theorem dX2_add_12 : decode cX2_add 12 = .ok (.iload_n 1, 1) := by decide +kernel
theorem dX2_add_13 : decode cX2_add 13 = .ok (.iastore, 1) := by decide +kernel
theorem dX2_add_14 : decode cX2_add 14 = .ok (.aload_n 0, 1) := by decide +kernel
theorem dX2_add_15 : decode cX2_add 15 = .ok (.getfield 15, 3) := by decide +kernel
theorem dX2_add_18 : decode cX2_add 18 = .ok (.iload 6, 2) := by decide +kernel
theorem dX2_add_20 : decode cX2_add 20 = .ok (.iload_n 2, 1) := by decide +kernel
theorem dX2_add_21 : decode cX2_add 21 = .ok (.iastore, 1) := by decide +kernel
theorem dX2_add_22 : decode cX2_add 22 = .ok (.aload_n 0, 1) := by decide +kernel
theorem dX2_add_23 : decode cX2_add 23 = .ok (.getfield 18, 3) := by decide +kernel
theorem dX2_add_26 : decode cX2_add 26 = .ok (.iload 6, 2) := by decide +kernel
theorem dX2_add_28 : decode cX2_add 28 = .ok (.iload_n 3, 1) := by decide +kernel
theorem dX2_add_29 : decode cX2_add 29 = .ok (.iastore, 1) := by decide +kernel
theorem dX2_add_30 : decode cX2_add 30 = .ok (.aload_n 0, 1) := by decide +kernel
theorem dX2_add_31 : decode cX2_add 31 = .ok (.getfield 21, 3) := by decide +kernel
theorem dX2_add_34 : decode cX2_add 34 = .ok (.iload 6, 2) := by decide +kernel
theorem dX2_add_36 : decode cX2_add 36 = .ok (.iload 4, 2) := by decide +kernel
theorem dX2_add_38 : decode cX2_add 38 = .ok (.iastore, 1) := by decide +kernel
theorem dX2_add_39 : decode cX2_add 39 = .ok (.aload_n 0, 1) := by decide +kernel
theorem dX2_add_40 : decode cX2_add 40 = .ok (.getfield 24, 3) := by decide +kernel
theorem dX2_add_43 : decode cX2_add 43 = .ok (.iload 6, 2) := by decide +kernel
theorem dX2_add_45 : decode cX2_add 45 = .ok (.iload 5, 2) := by decide +kernel
theorem dX2_add_47 : decode cX2_add 47 = .ok (.iastore, 1) := by decide +kernel
theorem dX2_add_48 : decode cX2_add 48 = .ok (.aload_n 0, 1) := by decide +kernel
theorem dX2_add_49 : decode cX2_add 49 = .ok (.dup, 1) := by decide +kernel
theorem dX2_add_50 : decode cX2_add 50 = .ok (.getfield 27, 3) := by decide +kernel
theorem dX2_add_53 : decode cX2_add 53 = .ok (.iconst 1, 1) := by decide +kernel
theorem dX2_add_54 : decode cX2_add 54 = .ok (.iadd, 1) := by decide +kernel
theorem dX2_add_55 : decode cX2_add 55 = .ok (.putfield 27, 3) := by decide +kernel
theorem dX2_add_58 : decode cX2_add 58 = .ok (.iload 6, 2) := by decide +kernel
theorem dX2_add_60 : decode cX2_add 60 = .ok (.ireturn, 1) := by decide +kernel
theorem dX2_turnAbout_0 : decode cX2_turnAbout 0 = .ok (.iconst 0, 1) := by decide +kernel
theorem dX2_turnAbout_1 : decode cX2_turnAbout 1 = .ok (.istore_n 1, 1) := by decide +kernel
theorem dX2_turnAbout_2 : decode cX2_turnAbout 2 = .ok (.iload_n 1, 1) := by decide +kernel
theorem dX2_turnAbout_3 : decode cX2_turnAbout 3 = .ok (.aload_n 0, 1) := by decide +kernel
theorem dX2_turnAbout_4 : decode cX2_turnAbout 4 = .ok (.getfield 27, 3) := by decide +kernel
theorem dX2_turnAbout_7 : decode cX2_turnAbout 7 = .ok (.if_icmp .ge 68, 3) := by decide +kernel
theorem dX2_turnAbout_10 : decode cX2_turnAbout 10 = .ok (.aload_n 0, 1) := by decide +kernel
theorem dX2_turnAbout_11 : decode cX2_turnAbout 11 = .ok (.getfield 15, 3) := by decide +kernel
theorem dX2_turnAbout_14 : decode cX2_turnAbout 14 = .ok (.iload_n 1, 1) := by decide +kernel
theorem dX2_turnAbout_15 : decode cX2_turnAbout 15 = .ok (.iaload, 1) := by decide +kernel
theorem dX2_turnAbout_16 : decode cX2_turnAbout 16 = .ok (.ifCond .ne 21, 3) := by decide +kernel
theorem dX2_turnAbout_19 : decode cX2_turnAbout 19 = .ok (.aload_n 0, 1) := by decide +kernel
theorem dX2_turnAbout_20 : decode cX2_turnAbout 20 = .ok (.getfield 18, 3) := by decide +kernel
theorem dX2_turnAbout_23 : decode cX2_turnAbout 23 = .ok (.iload_n 1, 1) := by decide +kernel
theorem dX2_turnAbout_24 : decode cX2_turnAbout 24 = .ok (.bipush 8, 2) := by decide +kernel
theorem dX2_turnAbout_26 : decode cX2_turnAbout 26 = .ok (.aload_n 0, 1) := by decide +kernel
theorem dX2_turnAbout_27 : decode cX2_turnAbout 27 = .ok (.getfield 18, 3) := by decide +kernel
theorem dX2_turnAbout_30 : decode cX2_turnAbout 30 = .ok (.iload_n 1, 1) := by decide +kernel
theorem dX2_turnAbout_31 : decode cX2_turnAbout 31 = .ok (.iaload, 1) := by decide +kernel
theorem dX2_turnAbout_32 : decode cX2_turnAbout 32 = .ok (.isub, 1) := by decide +kernel
theorem dX2_turnAbout_33 : decode cX2_turnAbout 33 = .ok (.iastore, 1) := by decide +kernel
theorem dX2_turnAbout_34 : decode cX2_turnAbout 34 = .ok (.goto 35, 3) := by decide +kernel
theorem dX2_turnAbout_37 : decode cX2_turnAbout 37 = .ok (.bipush 7, 2) := by decide +kernel
theorem dX2_turnAbout_39 : decode cX2_turnAbout 39 = .ok (.aload_n 0, 1) := by decide +kernel
theorem dX2_turnAbout_40 : decode cX2_turnAbout 40 = .ok (.getfield 24, 3) := by decide +kernel
theorem dX2_turnAbout_43 : decode cX2_turnAbout 43 = .ok (.iload_n 1, 1) := by decide +kernel
theorem dX2_turnAbout_44 : decode cX2_turnAbout 44 = .ok (.iaload, 1) := by decide +kernel
theorem dX2_turnAbout_45 : decode cX2_turnAbout 45 = .ok (.isub, 1) := by decide +kernel
theorem dX2_turnAbout_46 : decode cX2_turnAbout 46 = .ok (.istore_n 2, 1) := by decide +kernel
theorem dX2_turnAbout_47 : decode cX2_turnAbout 47 = .ok (.aload_n 0, 1) := by decide +kernel
theorem dX2_turnAbout_48 : decode cX2_turnAbout 48 = .ok (.getfield 24, 3) := by decide +kernel
theorem dX2_turnAbout_51 : decode cX2_turnAbout 51 = .ok (.iload_n 1, 1) := by decide +kernel
theorem dX2_turnAbout_52 : decode cX2_turnAbout 52 = .ok (.bipush 7, 2) := by decide +kernel
theorem dX2_turnAbout_54 : decode cX2_turnAbout 54 = .ok (.aload_n 0, 1) := by decide +kernel
theorem dX2_turnAbout_55 : decode cX2_turnAbout 55 = .ok (.getfield 21, 3) := by decide +kernel
theorem dX2_turnAbout_58 : decode cX2_turnAbout 58 = .ok (.iload_n 1, 1) := by decide +kernel
theorem dX2_turnAbout_59 : decode cX2_turnAbout 59 = .ok (.iaload, 1) := by decide +kernel
theorem dX2_turnAbout_60 : decode cX2_turnAbout 60 = .ok (.isub, 1) := by decide +kernel
theorem dX2_turnAbout_61 : decode cX2_turnAbout 61 = .ok (.iastore, 1) := by decide +kernel
theorem dX2_turnAbout_62 : decode cX2_turnAbout 62 = .ok (.aload_n 0, 1) := by decide +kernel
theorem dX2_turnAbout_63 : decode cX2_turnAbout 63 = .ok (.getfield 21, 3) := by decide +kernel
theorem dX2_turnAbout_66 : decode cX2_turnAbout 66 = .ok (.iload_n 1, 1) := by decide +kernel
theorem dX2_turnAbout_67 : decode cX2_turnAbout 67 = .ok (.iload_n 2, 1) := by decide +kernel
theorem dX2_turnAbout_68 : decode cX2_turnAbout 68 = .ok (.iastore, 1) := by decide +kernel
theorem dX2_turnAbout_69 : decode cX2_turnAbout 69 = .ok (.iinc 1 1, 3) := by decide +kernel
theorem dX2_turnAbout_72 : decode cX2_turnAbout 72 = .ok (.goto (-70), 3) := by decide +kernel
theorem dX2_turnAbout_75 : decode cX2_turnAbout 75 = .ok (.return_, 1) := by decide +kernel
theorem dX2_hasUpright_0 : decode cX2_hasUpright 0 = .ok (.iconst 0, 1) := by decide +kernel
theorem dX2_hasUpright_1 : decode cX2_hasUpright 1 = .ok (.istore 5, 2) := by decide +kernel
theorem dX2_hasUpright_3 : decode cX2_hasUpright 3 = .ok (.iload 5, 2) := by decide +kernel
theorem dX2_hasUpright_5 : decode cX2_hasUpright 5 = .ok (.aload_n 0, 1) := by decide +kernel
theorem dX2_hasUpright_6 : decode cX2_hasUpright 6 = .ok (.getfield 27, 3) := by decide +kernel
theorem dX2_hasUpright_9 : decode cX2_hasUpright 9 = .ok (.if_icmp .ge 78, 3) := by decide +kernel
theorem dX2_hasUpright_12 : decode cX2_hasUpright 12 = .ok (.aload_n 0, 1) := by decide +kernel
theorem dX2_hasUpright_13 : decode cX2_hasUpright 13 = .ok (.getfield 15, 3) := by decide +kernel
theorem dX2_hasUpright_16 : decode cX2_hasUpright 16 = .ok (.iload 5, 2) := by decide +kernel
theorem dX2_hasUpright_18 : decode cX2_hasUpright 18 = .ok (.iaload, 1) := by decide +kernel
theorem dX2_hasUpright_19 : decode cX2_hasUpright 19 = .ok (.ifCond .ne 29, 3) := by decide +kernel
theorem dX2_hasUpright_22 : decode cX2_hasUpright 22 = .ok (.aload_n 0, 1) := by decide +kernel
theorem dX2_hasUpright_23 : decode cX2_hasUpright 23 = .ok (.getfield 9, 3) := by decide +kernel
theorem dX2_hasUpright_26 : decode cX2_hasUpright 26 = .ok (.iload 5, 2) := by decide +kernel
theorem dX2_hasUpright_28 : decode cX2_hasUpright 28 = .ok (.iaload, 1) := by decide +kernel
theorem dX2_hasUpright_29 : decode cX2_hasUpright 29 = .ok (.iload_n 1, 1) := by decide +kernel
theorem dX2_hasUpright_30 : decode cX2_hasUpright 30 = .ok (.if_icmp .ne 18, 3) := by decide +kernel
theorem dX2_hasUpright_33 : decode cX2_hasUpright 33 = .ok (.aload_n 0, 1) := by decide +kernel
theorem dX2_hasUpright_34 : decode cX2_hasUpright 34 = .ok (.getfield 18, 3) := by decide +kernel
theorem dX2_hasUpright_37 : decode cX2_hasUpright 37 = .ok (.iload 5, 2) := by decide +kernel
theorem dX2_hasUpright_39 : decode cX2_hasUpright 39 = .ok (.iaload, 1) := by decide +kernel
theorem dX2_hasUpright_40 : decode cX2_hasUpright 40 = .ok (.iload_n 2, 1) := by decide +kernel
theorem dX2_hasUpright_41 : decode cX2_hasUpright 41 = .ok (.if_icmp .ne 7, 3) := by decide +kernel
theorem dX2_hasUpright_44 : decode cX2_hasUpright 44 = .ok (.iconst 1, 1) := by decide +kernel
theorem dX2_hasUpright_45 : decode cX2_hasUpright 45 = .ok (.goto 4, 3) := by decide +kernel
theorem dX2_hasUpright_48 : decode cX2_hasUpright 48 = .ok (.iconst 0, 1) := by decide +kernel
theorem dX2_hasUpright_49 : decode cX2_hasUpright 49 = .ok (.istore 6, 2) := by decide +kernel
theorem dX2_hasUpright_51 : decode cX2_hasUpright 51 = .ok (.iload 6, 2) := by decide +kernel
theorem dX2_hasUpright_53 : decode cX2_hasUpright 53 = .ok (.ifCond .eq 28, 3) := by decide +kernel
theorem dX2_hasUpright_56 : decode cX2_hasUpright 56 = .ok (.aload_n 0, 1) := by decide +kernel
theorem dX2_hasUpright_57 : decode cX2_hasUpright 57 = .ok (.getfield 21, 3) := by decide +kernel
theorem dX2_hasUpright_60 : decode cX2_hasUpright 60 = .ok (.iload 5, 2) := by decide +kernel
theorem dX2_hasUpright_62 : decode cX2_hasUpright 62 = .ok (.iaload, 1) := by decide +kernel
theorem dX2_hasUpright_63 : decode cX2_hasUpright 63 = .ok (.iload 4, 2) := by decide +kernel
theorem dX2_hasUpright_65 : decode cX2_hasUpright 65 = .ok (.if_icmp .gt 16, 3) := by decide +kernel
theorem dX2_hasUpright_68 : decode cX2_hasUpright 68 = .ok (.aload_n 0, 1) := by decide +kernel
theorem dX2_hasUpright_69 : decode cX2_hasUpright 69 = .ok (.getfield 24, 3) := by decide +kernel
theorem dX2_hasUpright_72 : decode cX2_hasUpright 72 = .ok (.iload 5, 2) := by decide +kernel
theorem dX2_hasUpright_74 : decode cX2_hasUpright 74 = .ok (.iaload, 1) := by decide +kernel
theorem dX2_hasUpright_75 : decode cX2_hasUpright 75 = .ok (.iload_n 3, 1) := by decide +kernel
theorem dX2_hasUpright_76 : decode cX2_hasUpright 76 = .ok (.if_icmp .lt 5, 3) := by decide +kernel
theorem dX2_hasUpright_79 : decode cX2_hasUpright 79 = .ok (.iconst 1, 1) := by decide +kernel
theorem dX2_hasUpright_80 : decode cX2_hasUpright 80 = .ok (.ireturn, 1) := by decide +kernel
theorem dX2_hasUpright_81 : decode cX2_hasUpright 81 = .ok (.iinc 5 1, 3) := by decide +kernel
theorem dX2_hasUpright_84 : decode cX2_hasUpright 84 = .ok (.goto (-81), 3) := by decide +kernel
theorem dX2_hasUpright_87 : decode cX2_hasUpright 87 = .ok (.iconst 0, 1) := by decide +kernel
theorem dX2_hasUpright_88 : decode cX2_hasUpright 88 = .ok (.ireturn, 1) := by decide +kernel
theorem dX2_flatBelow_0 : decode cX2_flatBelow 0 = .ok (.bipush 30, 2) := by decide +kernel
theorem dX2_flatBelow_2 : decode cX2_flatBelow 2 = .ok (.istore 4, 2) := by decide +kernel
theorem dX2_flatBelow_4 : decode cX2_flatBelow 4 = .ok (.iconst 0, 1) := by decide +kernel
theorem dX2_flatBelow_5 : decode cX2_flatBelow 5 = .ok (.istore 5, 2) := by decide +kernel
theorem dX2_flatBelow_7 : decode cX2_flatBelow 7 = .ok (.iload 5, 2) := by decide +kernel
theorem dX2_flatBelow_9 : decode cX2_flatBelow 9 = .ok (.aload_n 0, 1) := by decide +kernel
theorem dX2_flatBelow_10 : decode cX2_flatBelow 10 = .ok (.getfield 27, 3) := by decide +kernel
theorem dX2_flatBelow_13 : decode cX2_flatBelow 13 = .ok (.if_icmp .ge 90, 3) := by decide +kernel
theorem dX2_flatBelow_16 : decode cX2_flatBelow 16 = .ok (.aload_n 0, 1) := by decide +kernel
theorem dX2_flatBelow_17 : decode cX2_flatBelow 17 = .ok (.getfield 15, 3) := by decide +kernel
theorem dX2_flatBelow_20 : decode cX2_flatBelow 20 = .ok (.iload 5, 2) := by decide +kernel
theorem dX2_flatBelow_22 : decode cX2_flatBelow 22 = .ok (.iaload, 1) := by decide +kernel
theorem dX2_flatBelow_23 : decode cX2_flatBelow 23 = .ok (.iconst 1, 1) := by decide +kernel
theorem dX2_flatBelow_24 : decode cX2_flatBelow 24 = .ok (.if_icmp .ne 29, 3) := by decide +kernel
theorem dX2_flatBelow_27 : decode cX2_flatBelow 27 = .ok (.aload_n 0, 1) := by decide +kernel
theorem dX2_flatBelow_28 : decode cX2_flatBelow 28 = .ok (.getfield 21, 3) := by decide +kernel
theorem dX2_flatBelow_31 : decode cX2_flatBelow 31 = .ok (.iload 5, 2) := by decide +kernel
theorem dX2_flatBelow_33 : decode cX2_flatBelow 33 = .ok (.iaload, 1) := by decide +kernel
theorem dX2_flatBelow_34 : decode cX2_flatBelow 34 = .ok (.iload_n 2, 1) := by decide +kernel
theorem dX2_flatBelow_35 : decode cX2_flatBelow 35 = .ok (.if_icmp .gt 18, 3) := by decide +kernel
theorem dX2_flatBelow_38 : decode cX2_flatBelow 38 = .ok (.aload_n 0, 1) := by decide +kernel
theorem dX2_flatBelow_39 : decode cX2_flatBelow 39 = .ok (.getfield 24, 3) := by decide +kernel
theorem dX2_flatBelow_42 : decode cX2_flatBelow 42 = .ok (.iload 5, 2) := by decide +kernel
theorem dX2_flatBelow_44 : decode cX2_flatBelow 44 = .ok (.iaload, 1) := by decide +kernel
theorem dX2_flatBelow_45 : decode cX2_flatBelow 45 = .ok (.iload_n 2, 1) := by decide +kernel
theorem dX2_flatBelow_46 : decode cX2_flatBelow 46 = .ok (.if_icmp .lt 7, 3) := by decide +kernel
theorem dX2_flatBelow_49 : decode cX2_flatBelow 49 = .ok (.iconst 1, 1) := by decide +kernel
theorem dX2_flatBelow_50 : decode cX2_flatBelow 50 = .ok (.goto 4, 3) := by decide +kernel
theorem dX2_flatBelow_53 : decode cX2_flatBelow 53 = .ok (.iconst 0, 1) := by decide +kernel
theorem dX2_flatBelow_54 : decode cX2_flatBelow 54 = .ok (.istore 6, 2) := by decide +kernel
theorem dX2_flatBelow_56 : decode cX2_flatBelow 56 = .ok (.iload 6, 2) := by decide +kernel
theorem dX2_flatBelow_58 : decode cX2_flatBelow 58 = .ok (.ifCond .eq 39, 3) := by decide +kernel
theorem dX2_flatBelow_61 : decode cX2_flatBelow 61 = .ok (.aload_n 0, 1) := by decide +kernel
theorem dX2_flatBelow_62 : decode cX2_flatBelow 62 = .ok (.getfield 9, 3) := by decide +kernel
theorem dX2_flatBelow_65 : decode cX2_flatBelow 65 = .ok (.iload 5, 2) := by decide +kernel
theorem dX2_flatBelow_67 : decode cX2_flatBelow 67 = .ok (.iaload, 1) := by decide +kernel
theorem dX2_flatBelow_68 : decode cX2_flatBelow 68 = .ok (.iload_n 1, 1) := by decide +kernel
theorem dX2_flatBelow_69 : decode cX2_flatBelow 69 = .ok (.if_icmp .ne 28, 3) := by decide +kernel
theorem dX2_flatBelow_72 : decode cX2_flatBelow 72 = .ok (.aload_n 0, 1) := by decide +kernel
theorem dX2_flatBelow_73 : decode cX2_flatBelow 73 = .ok (.getfield 18, 3) := by decide +kernel
theorem dX2_flatBelow_76 : decode cX2_flatBelow 76 = .ok (.iload 5, 2) := by decide +kernel
theorem dX2_flatBelow_78 : decode cX2_flatBelow 78 = .ok (.iaload, 1) := by decide +kernel
theorem dX2_flatBelow_79 : decode cX2_flatBelow 79 = .ok (.iload_n 3, 1) := by decide +kernel
theorem dX2_flatBelow_80 : decode cX2_flatBelow 80 = .ok (.if_icmp .le 17, 3) := by decide +kernel
theorem dX2_flatBelow_83 : decode cX2_flatBelow 83 = .ok (.iload 4, 2) := by decide +kernel
theorem dX2_flatBelow_85 : decode cX2_flatBelow 85 = .ok (.aload_n 0, 1) := by decide +kernel
theorem dX2_flatBelow_86 : decode cX2_flatBelow 86 = .ok (.getfield 18, 3) := by decide +kernel
theorem dX2_flatBelow_89 : decode cX2_flatBelow 89 = .ok (.iload 5, 2) := by decide +kernel
theorem dX2_flatBelow_91 : decode cX2_flatBelow 91 = .ok (.iaload, 1) := by decide +kernel
theorem dX2_flatBelow_92 : decode cX2_flatBelow 92 = .ok (.invokestatic 31, 3) := by decide +kernel
theorem dX2_flatBelow_95 : decode cX2_flatBelow 95 = .ok (.istore 4, 2) := by decide +kernel
theorem dX2_flatBelow_97 : decode cX2_flatBelow 97 = .ok (.iinc 5 1, 3) := by decide +kernel
theorem dX2_flatBelow_100 : decode cX2_flatBelow 100 = .ok (.goto (-93), 3) := by decide +kernel
theorem dX2_flatBelow_103 : decode cX2_flatBelow 103 = .ok (.iload 4, 2) := by decide +kernel
theorem dX2_flatBelow_105 : decode cX2_flatBelow 105 = .ok (.ireturn, 1) := by decide +kernel
theorem dX3_init_0 : decode cX3_init 0 = .ok (.aload_n 0, 1) := by decide +kernel
theorem dX3_init_1 : decode cX3_init 1 = .ok (.invokespecial 3, 3) := by decide +kernel
theorem dX3_init_4 : decode cX3_init 4 = .ok (.aload_n 0, 1) := by decide +kernel
theorem dX3_init_5 : decode cX3_init 5 = .ok (.bipush 48, 2) := by decide +kernel
theorem dX3_init_7 : decode cX3_init 7 = .ok (.newarray .int, 2) := by decide +kernel
theorem dX3_init_9 : decode cX3_init 9 = .ok (.putfield 9, 3) := by decide +kernel
theorem dX3_init_12 : decode cX3_init 12 = .ok (.aload_n 0, 1) := by decide +kernel
theorem dX3_init_13 : decode cX3_init 13 = .ok (.bipush 48, 2) := by decide +kernel
theorem dX3_init_15 : decode cX3_init 15 = .ok (.newarray .int, 2) := by decide +kernel
theorem dX3_init_17 : decode cX3_init 17 = .ok (.putfield 15, 3) := by decide +kernel
theorem dX3_init_20 : decode cX3_init 20 = .ok (.return_, 1) := by decide +kernel
theorem dX3_has_0 : decode cX3_has 0 = .ok (.aload_n 0, 1) := by decide +kernel
theorem dX3_has_1 : decode cX3_has 1 = .ok (.iload_n 1, 1) := by decide +kernel
theorem dX3_has_2 : decode cX3_has 2 = .ok (.iload_n 2, 1) := by decide +kernel
theorem dX3_has_3 : decode cX3_has 3 = .ok (.invokevirtual 18, 3) := by decide +kernel
theorem dX3_has_6 : decode cX3_has 6 = .ok (.bipush (-9), 2) := by decide +kernel
theorem dX3_has_8 : decode cX3_has 8 = .ok (.if_icmp .eq 7, 3) := by decide +kernel
theorem dX3_has_11 : decode cX3_has 11 = .ok (.iconst 1, 1) := by decide +kernel
theorem dX3_has_12 : decode cX3_has 12 = .ok (.goto 4, 3) := by decide +kernel
theorem dX3_has_15 : decode cX3_has 15 = .ok (.iconst 0, 1) := by decide +kernel
theorem dX3_has_16 : decode cX3_has 16 = .ok (.ireturn, 1) := by decide +kernel
theorem dX3_pageOf_0 : decode cX3_pageOf 0 = .ok (.aload_n 0, 1) := by decide +kernel
theorem dX3_pageOf_1 : decode cX3_pageOf 1 = .ok (.getfield 9, 3) := by decide +kernel
theorem dX3_pageOf_4 : decode cX3_pageOf 4 = .ok (.iconst 2, 1) := by decide +kernel
theorem dX3_pageOf_5 : decode cX3_pageOf 5 = .ok (.iload_n 1, 1) := by decide +kernel
theorem dX3_pageOf_6 : decode cX3_pageOf 6 = .ok (.imul, 1) := by decide +kernel
theorem dX3_pageOf_7 : decode cX3_pageOf 7 = .ok (.iload_n 2, 1) := by decide +kernel
theorem dX3_pageOf_8 : decode cX3_pageOf 8 = .ok (.iadd, 1) := by decide +kernel
theorem dX3_pageOf_9 : decode cX3_pageOf 9 = .ok (.iaload, 1) := by decide +kernel
theorem dX3_pageOf_10 : decode cX3_pageOf 10 = .ok (.ireturn, 1) := by decide +kernel
theorem dX3_wordOf_0 : decode cX3_wordOf 0 = .ok (.aload_n 0, 1) := by decide +kernel
theorem dX3_wordOf_1 : decode cX3_wordOf 1 = .ok (.getfield 15, 3) := by decide +kernel
theorem dX3_wordOf_4 : decode cX3_wordOf 4 = .ok (.iconst 2, 1) := by decide +kernel
theorem dX3_wordOf_5 : decode cX3_wordOf 5 = .ok (.iload_n 1, 1) := by decide +kernel
theorem dX3_wordOf_6 : decode cX3_wordOf 6 = .ok (.imul, 1) := by decide +kernel
theorem dX3_wordOf_7 : decode cX3_wordOf 7 = .ok (.iload_n 2, 1) := by decide +kernel
theorem dX3_wordOf_8 : decode cX3_wordOf 8 = .ok (.iadd, 1) := by decide +kernel
theorem dX3_wordOf_9 : decode cX3_wordOf 9 = .ok (.iaload, 1) := by decide +kernel
theorem dX3_wordOf_10 : decode cX3_wordOf 10 = .ok (.ireturn, 1) := by decide +kernel
theorem dX3_put_0 : decode cX3_put 0 = .ok (.aload_n 0, 1) := by decide +kernel
theorem dX3_put_1 : decode cX3_put 1 = .ok (.getfield 9, 3) := by decide +kernel
theorem dX3_put_4 : decode cX3_put 4 = .ok (.iconst 2, 1) := by decide +kernel
theorem dX3_put_5 : decode cX3_put 5 = .ok (.iload_n 1, 1) := by decide +kernel
theorem dX3_put_6 : decode cX3_put 6 = .ok (.imul, 1) := by decide +kernel
theorem dX3_put_7 : decode cX3_put 7 = .ok (.iload_n 2, 1) := by decide +kernel
theorem dX3_put_8 : decode cX3_put 8 = .ok (.iadd, 1) := by decide +kernel
theorem dX3_put_9 : decode cX3_put 9 = .ok (.iload_n 3, 1) := by decide +kernel
theorem dX3_put_10 : decode cX3_put 10 = .ok (.iastore, 1) := by decide +kernel
theorem dX3_put_11 : decode cX3_put 11 = .ok (.aload_n 0, 1) := by decide +kernel
theorem dX3_put_12 : decode cX3_put 12 = .ok (.getfield 15, 3) := by decide +kernel
theorem dX3_put_15 : decode cX3_put 15 = .ok (.iconst 2, 1) := by decide +kernel
theorem dX3_put_16 : decode cX3_put 16 = .ok (.iload_n 1, 1) := by decide +kernel
theorem dX3_put_17 : decode cX3_put 17 = .ok (.imul, 1) := by decide +kernel
theorem dX3_put_18 : decode cX3_put 18 = .ok (.iload_n 2, 1) := by decide +kernel
theorem dX3_put_19 : decode cX3_put 19 = .ok (.iadd, 1) := by decide +kernel
theorem dX3_put_20 : decode cX3_put 20 = .ok (.iload 4, 2) := by decide +kernel
theorem dX3_put_22 : decode cX3_put 22 = .ok (.iastore, 1) := by decide +kernel
theorem dX3_put_23 : decode cX3_put 23 = .ok (.return_, 1) := by decide +kernel
theorem dX3_forget_0 : decode cX3_forget 0 = .ok (.aload_n 0, 1) := by decide +kernel
theorem dX3_forget_1 : decode cX3_forget 1 = .ok (.iload_n 1, 1) := by decide +kernel
theorem dX3_forget_2 : decode cX3_forget 2 = .ok (.iload_n 2, 1) := by decide +kernel
theorem dX3_forget_3 : decode cX3_forget 3 = .ok (.bipush (-9), 2) := by decide +kernel
theorem dX3_forget_5 : decode cX3_forget 5 = .ok (.bipush (-9), 2) := by decide +kernel
theorem dX3_forget_7 : decode cX3_forget 7 = .ok (.invokevirtual 22, 3) := by decide +kernel
theorem dX3_forget_10 : decode cX3_forget 10 = .ok (.return_, 1) := by decide +kernel
theorem dX3_forgetAllOf_0 : decode cX3_forgetAllOf 0 = .ok (.aload_n 0, 1) := by decide +kernel
theorem dX3_forgetAllOf_1 : decode cX3_forgetAllOf 1 = .ok (.iload_n 1, 1) := by decide +kernel
theorem dX3_forgetAllOf_2 : decode cX3_forgetAllOf 2 = .ok (.iconst 0, 1) := by decide +kernel
theorem dX3_forgetAllOf_3 : decode cX3_forgetAllOf 3 = .ok (.invokevirtual 26, 3) := by decide +kernel
theorem dX3_forgetAllOf_6 : decode cX3_forgetAllOf 6 = .ok (.aload_n 0, 1) := by decide +kernel
theorem dX3_forgetAllOf_7 : decode cX3_forgetAllOf 7 = .ok (.iload_n 1, 1) := by decide +kernel
theorem dX3_forgetAllOf_8 : decode cX3_forgetAllOf 8 = .ok (.iconst 1, 1) := by decide +kernel
theorem dX3_forgetAllOf_9 : decode cX3_forgetAllOf 9 = .ok (.invokevirtual 26, 3) := by decide +kernel
theorem dX3_forgetAllOf_12 : decode cX3_forgetAllOf 12 = .ok (.return_, 1) := by decide +kernel
theorem dX4_init_0 : decode cX4_init 0 = .ok (.aload_n 0, 1) := by decide +kernel
theorem dX4_init_1 : decode cX4_init 1 = .ok (.invokespecial 3, 3) := by decide +kernel
theorem dX4_init_4 : decode cX4_init 4 = .ok (.aload_n 0, 1) := by decide +kernel
theorem dX4_init_5 : decode cX4_init 5 = .ok (.aload_n 1, 1) := by decide +kernel
theorem dX4_init_6 : decode cX4_init 6 = .ok (.putfield 9, 3) := by decide +kernel
theorem dX4_init_9 : decode cX4_init 9 = .ok (.aload_n 0, 1) := by decide +kernel
theorem dX4_init_10 : decode cX4_init 10 = .ok (.aload_n 2, 1) := by decide +kernel
theorem dX4_init_11 : decode cX4_init 11 = .ok (.putfield 15, 3) := by decide +kernel
theorem dX4_init_14 : decode cX4_init 14 = .ok (.return_, 1) := by decide +kernel
theorem dX4_lastColumn_0 : decode cX4_lastColumn 0 = .ok (.aload_n 0, 1) := by decide +kernel
theorem dX4_lastColumn_1 : decode cX4_lastColumn 1 = .ok (.getfield 9, 3) := by decide +kernel
theorem dX4_lastColumn_4 : decode cX4_lastColumn 4 = .ok (.getfield 19, 3) := by decide +kernel
theorem dX4_lastColumn_7 : decode cX4_lastColumn 7 = .ok (.iload_n 1, 1) := by decide +kernel
theorem dX4_lastColumn_8 : decode cX4_lastColumn 8 = .ok (.iaload, 1) := by decide +kernel
theorem dX4_lastColumn_9 : decode cX4_lastColumn 9 = .ok (.iconst 1, 1) := by decide +kernel
theorem dX4_lastColumn_10 : decode cX4_lastColumn 10 = .ok (.iadd, 1) := by decide +kernel
theorem dX4_lastColumn_11 : decode cX4_lastColumn 11 = .ok (.istore_n 2, 1) := by decide +kernel
theorem dX4_lastColumn_12 : decode cX4_lastColumn 12 = .ok (.aload_n 0, 1) := by decide +kernel
theorem dX4_lastColumn_13 : decode cX4_lastColumn 13 = .ok (.getfield 9, 3) := by decide +kernel
theorem dX4_lastColumn_16 : decode cX4_lastColumn 16 = .ok (.getfield 25, 3) := by decide +kernel
theorem dX4_lastColumn_19 : decode cX4_lastColumn 19 = .ok (.iload_n 1, 1) := by decide +kernel
theorem dX4_lastColumn_20 : decode cX4_lastColumn 20 = .ok (.iaload, 1) := by decide +kernel
theorem dX4_lastColumn_21 : decode cX4_lastColumn 21 = .ok (.iconst 1, 1) := by decide +kernel
theorem dX4_lastColumn_22 : decode cX4_lastColumn 22 = .ok (.iadd, 1) := by decide +kernel
theorem dX4_lastColumn_23 : decode cX4_lastColumn 23 = .ok (.istore_n 3, 1) := by decide +kernel
theorem dX4_lastColumn_24 : decode cX4_lastColumn 24 = .ok (.iload_n 3, 1) := by decide +kernel
theorem dX4_lastColumn_25 : decode cX4_lastColumn 25 = .ok (.aload_n 0, 1) := by decide +kernel
theorem dX4_lastColumn_26 : decode cX4_lastColumn 26 = .ok (.getfield 9, 3) := by decide +kernel
theorem dX4_lastColumn_29 : decode cX4_lastColumn 29 = .ok (.getfield 28, 3) := by decide +kernel
theorem dX4_lastColumn_32 : decode cX4_lastColumn 32 = .ok (.iload_n 1, 1) := by decide +kernel
theorem dX4_lastColumn_33 : decode cX4_lastColumn 33 = .ok (.iaload, 1) := by decide +kernel
theorem dX4_lastColumn_34 : decode cX4_lastColumn 34 = .ok (.if_icmp .gt 35, 3) := by decide +kernel
theorem dX4_lastColumn_37 : decode cX4_lastColumn 37 = .ok (.aload_n 0, 1) := by decide +kernel
theorem dX4_lastColumn_38 : decode cX4_lastColumn 38 = .ok (.getfield 15, 3) := by decide +kernel
theorem dX4_lastColumn_41 : decode cX4_lastColumn 41 = .ok (.aload_n 0, 1) := by decide +kernel
theorem dX4_lastColumn_42 : decode cX4_lastColumn 42 = .ok (.getfield 9, 3) := by decide +kernel
theorem dX4_lastColumn_45 : decode cX4_lastColumn 45 = .ok (.getfield 31, 3) := by decide +kernel
theorem dX4_lastColumn_48 : decode cX4_lastColumn 48 = .ok (.iload_n 1, 1) := by decide +kernel
theorem dX4_lastColumn_49 : decode cX4_lastColumn 49 = .ok (.iaload, 1) := by decide +kernel
theorem dX4_lastColumn_50 : decode cX4_lastColumn 50 = .ok (.iload_n 3, 1) := by decide +kernel
theorem dX4_lastColumn_51 : decode cX4_lastColumn 51 = .ok (.iload_n 2, 1) := by decide +kernel
theorem dX4_lastColumn_52 : decode cX4_lastColumn 52 = .ok (.iload_n 2, 1) := by decide +kernel
theorem dX4_lastColumn_53 : decode cX4_lastColumn 53 = .ok (.invokevirtual 34, 3) := by decide +kernel
theorem dX4_lastColumn_56 : decode cX4_lastColumn 56 = .ok (.ifCond .eq 7, 3) := by decide +kernel
theorem dX4_lastColumn_59 : decode cX4_lastColumn 59 = .ok (.iload_n 3, 1) := by decide +kernel
theorem dX4_lastColumn_60 : decode cX4_lastColumn 60 = .ok (.iconst 1, 1) := by decide +kernel
theorem dX4_lastColumn_61 : decode cX4_lastColumn 61 = .ok (.isub, 1) := by decide +kernel
theorem dX4_lastColumn_62 : decode cX4_lastColumn 62 = .ok (.ireturn, 1) := by decide +kernel
theorem dX4_lastColumn_63 : decode cX4_lastColumn 63 = .ok (.iinc 3 1, 3) := by decide +kernel
theorem dX4_lastColumn_66 : decode cX4_lastColumn 66 = .ok (.goto (-42), 3) := by decide +kernel
theorem dX4_lastColumn_69 : decode cX4_lastColumn 69 = .ok (.aload_n 0, 1) := by decide +kernel
theorem dX4_lastColumn_70 : decode cX4_lastColumn 70 = .ok (.getfield 9, 3) := by decide +kernel
theorem dX4_lastColumn_73 : decode cX4_lastColumn 73 = .ok (.getfield 28, 3) := by decide +kernel
theorem dX4_lastColumn_76 : decode cX4_lastColumn 76 = .ok (.iload_n 1, 1) := by decide +kernel
theorem dX4_lastColumn_77 : decode cX4_lastColumn 77 = .ok (.iaload, 1) := by decide +kernel
theorem dX4_lastColumn_78 : decode cX4_lastColumn 78 = .ok (.ireturn, 1) := by decide +kernel
theorem dX4_lastRow_0 : decode cX4_lastRow 0 = .ok (.iload_n 2, 1) := by decide +kernel
theorem dX4_lastRow_1 : decode cX4_lastRow 1 = .ok (.aload_n 0, 1) := by decide +kernel
theorem dX4_lastRow_2 : decode cX4_lastRow 2 = .ok (.getfield 9, 3) := by decide +kernel
theorem dX4_lastRow_5 : decode cX4_lastRow 5 = .ok (.getfield 25, 3) := by decide +kernel
theorem dX4_lastRow_8 : decode cX4_lastRow 8 = .ok (.iload_n 1, 1) := by decide +kernel
theorem dX4_lastRow_9 : decode cX4_lastRow 9 = .ok (.iaload, 1) := by decide +kernel
theorem dX4_lastRow_10 : decode cX4_lastRow 10 = .ok (.if_icmp .lt 12, 3) := by decide +kernel
theorem dX4_lastRow_13 : decode cX4_lastRow 13 = .ok (.iload_n 2, 1) := by decide +kernel
theorem dX4_lastRow_14 : decode cX4_lastRow 14 = .ok (.aload_n 0, 1) := by decide +kernel
theorem dX4_lastRow_15 : decode cX4_lastRow 15 = .ok (.iload_n 1, 1) := by decide +kernel
theorem dX4_lastRow_16 : decode cX4_lastRow 16 = .ok (.invokevirtual 40, 3) := by decide +kernel
theorem dX4_lastRow_19 : decode cX4_lastRow 19 = .ok (.if_icmp .le 6, 3) := by decide +kernel
theorem dX4_lastRow_22 : decode cX4_lastRow 22 = .ok (.bipush (-9), 2) := by decide +kernel
theorem dX4_lastRow_24 : decode cX4_lastRow 24 = .ok (.ireturn, 1) := by decide +kernel
theorem dX4_lastRow_25 : decode cX4_lastRow 25 = .ok (.aload_n 0, 1) := by decide +kernel
theorem dX4_lastRow_26 : decode cX4_lastRow 26 = .ok (.getfield 9, 3) := by decide +kernel
theorem dX4_lastRow_29 : decode cX4_lastRow 29 = .ok (.getfield 31, 3) := by decide +kernel
theorem dX4_lastRow_32 : decode cX4_lastRow 32 = .ok (.iload_n 1, 1) := by decide +kernel
theorem dX4_lastRow_33 : decode cX4_lastRow 33 = .ok (.iaload, 1) := by decide +kernel
theorem dX4_lastRow_34 : decode cX4_lastRow 34 = .ok (.istore_n 3, 1) := by decide +kernel
theorem dX4_lastRow_35 : decode cX4_lastRow 35 = .ok (.aload_n 0, 1) := by decide +kernel
theorem dX4_lastRow_36 : decode cX4_lastRow 36 = .ok (.getfield 9, 3) := by decide +kernel
theorem dX4_lastRow_39 : decode cX4_lastRow 39 = .ok (.getfield 19, 3) := by decide +kernel
theorem dX4_lastRow_42 : decode cX4_lastRow 42 = .ok (.iload_n 1, 1) := by decide +kernel
theorem dX4_lastRow_43 : decode cX4_lastRow 43 = .ok (.iaload, 1) := by decide +kernel
theorem dX4_lastRow_44 : decode cX4_lastRow 44 = .ok (.istore 4, 2) := by decide +kernel
theorem dX4_lastRow_46 : decode cX4_lastRow 46 = .ok (.aload_n 0, 1) := by decide +kernel
theorem dX4_lastRow_47 : decode cX4_lastRow 47 = .ok (.getfield 9, 3) := by decide +kernel
theorem dX4_lastRow_50 : decode cX4_lastRow 50 = .ok (.iload_n 3, 1) := by decide +kernel
theorem dX4_lastRow_51 : decode cX4_lastRow 51 = .ok (.iload_n 2, 1) := by decide +kernel
theorem dX4_lastRow_52 : decode cX4_lastRow 52 = .ok (.iload 4, 2) := by decide +kernel
theorem dX4_lastRow_54 : decode cX4_lastRow 54 = .ok (.invokevirtual 44, 3) := by decide +kernel
theorem dX4_lastRow_57 : decode cX4_lastRow 57 = .ok (.aload_n 0, 1) := by decide +kernel
theorem dX4_lastRow_58 : decode cX4_lastRow 58 = .ok (.getfield 15, 3) := by decide +kernel
theorem dX4_lastRow_61 : decode cX4_lastRow 61 = .ok (.iload_n 3, 1) := by decide +kernel
theorem dX4_lastRow_62 : decode cX4_lastRow 62 = .ok (.iload_n 2, 1) := by decide +kernel
theorem dX4_lastRow_63 : decode cX4_lastRow 63 = .ok (.iload 4, 2) := by decide +kernel
theorem dX4_lastRow_65 : decode cX4_lastRow 65 = .ok (.invokevirtual 48, 3) := by decide +kernel
theorem dX4_lastRow_68 : decode cX4_lastRow 68 = .ok (.invokestatic 51, 3) := by decide +kernel
theorem dX4_lastRow_71 : decode cX4_lastRow 71 = .ok (.istore 5, 2) := by decide +kernel
theorem dX4_lastRow_73 : decode cX4_lastRow 73 = .ok (.iload 5, 2) := by decide +kernel
theorem dX4_lastRow_75 : decode cX4_lastRow 75 = .ok (.iconst 1, 1) := by decide +kernel
theorem dX4_lastRow_76 : decode cX4_lastRow 76 = .ok (.isub, 1) := by decide +kernel
theorem dX4_lastRow_77 : decode cX4_lastRow 77 = .ok (.iload 4, 2) := by decide +kernel
theorem dX4_lastRow_79 : decode cX4_lastRow 79 = .ok (.if_icmp .le 10, 3) := by decide +kernel
theorem dX4_lastRow_82 : decode cX4_lastRow 82 = .ok (.iload 5, 2) := by decide +kernel
theorem dX4_lastRow_84 : decode cX4_lastRow 84 = .ok (.iconst 1, 1) := by decide +kernel
theorem dX4_lastRow_85 : decode cX4_lastRow 85 = .ok (.isub, 1) := by decide +kernel
theorem dX4_lastRow_86 : decode cX4_lastRow 86 = .ok (.goto 5, 3) := by decide +kernel
theorem dX4_lastRow_89 : decode cX4_lastRow 89 = .ok (.bipush (-9), 2) := by decide +kernel
theorem dX4_lastRow_91 : decode cX4_lastRow 91 = .ok (.ireturn, 1) := by decide +kernel
theorem dX4_headOver_0 : decode cX4_headOver 0 = .ok (.iconst 0, 1) := by decide +kernel
end
section
theorem dX4_headOver_1 : decode cX4_headOver 1 = .ok (.istore_n 2, 1) := by decide +kernel
theorem dX4_headOver_2 : decode cX4_headOver 2 = .ok (.iload_n 2, 1) := by decide +kernel
theorem dX4_headOver_3 : decode cX4_headOver 3 = .ok (.aload_n 0, 1) := by decide +kernel
theorem dX4_headOver_4 : decode cX4_headOver 4 = .ok (.getfield 9, 3) := by decide +kernel
theorem dX4_headOver_7 : decode cX4_headOver 7 = .ok (.getfield 57, 3) := by decide +kernel
theorem dX4_headOver_10 : decode cX4_headOver 10 = .ok (.if_icmp .ge 101, 3) := by decide +kernel
theorem dX4_headOver_13 : decode cX4_headOver 13 = .ok (.aload_n 0, 1) := by decide +kernel
theorem dX4_headOver_14 : decode cX4_headOver 14 = .ok (.getfield 9, 3) := by decide +kernel
theorem dX4_headOver_17 : decode cX4_headOver 17 = .ok (.getfield 31, 3) := by decide +kernel
theorem dX4_headOver_20 : decode cX4_headOver 20 = .ok (.iload_n 2, 1) := by decide +kernel
theorem dX4_headOver_21 : decode cX4_headOver 21 = .ok (.iaload, 1) := by decide +kernel
theorem dX4_headOver_22 : decode cX4_headOver 22 = .ok (.aload_n 0, 1) := by decide +kernel
theorem dX4_headOver_23 : decode cX4_headOver 23 = .ok (.getfield 9, 3) := by decide +kernel
theorem dX4_headOver_26 : decode cX4_headOver 26 = .ok (.getfield 31, 3) := by decide +kernel
theorem dX4_headOver_29 : decode cX4_headOver 29 = .ok (.iload_n 1, 1) := by decide +kernel
theorem dX4_headOver_30 : decode cX4_headOver 30 = .ok (.iaload, 1) := by decide +kernel
theorem dX4_headOver_31 : decode cX4_headOver 31 = .ok (.if_icmp .ne 28, 3) := by decide +kernel
theorem dX4_headOver_34 : decode cX4_headOver 34 = .ok (.aload_n 0, 1) := by decide +kernel
theorem dX4_headOver_35 : decode cX4_headOver 35 = .ok (.getfield 9, 3) := by decide +kernel
theorem dX4_headOver_38 : decode cX4_headOver 38 = .ok (.getfield 19, 3) := by decide +kernel
theorem dX4_headOver_41 : decode cX4_headOver 41 = .ok (.iload_n 2, 1) := by decide +kernel
theorem dX4_headOver_42 : decode cX4_headOver 42 = .ok (.iaload, 1) := by decide +kernel
theorem dX4_headOver_43 : decode cX4_headOver 43 = .ok (.aload_n 0, 1) := by decide +kernel
theorem dX4_headOver_44 : decode cX4_headOver 44 = .ok (.getfield 9, 3) := by decide +kernel
theorem dX4_headOver_47 : decode cX4_headOver 47 = .ok (.getfield 61, 3) := by decide +kernel
theorem dX4_headOver_50 : decode cX4_headOver 50 = .ok (.iload_n 1, 1) := by decide +kernel
theorem dX4_headOver_51 : decode cX4_headOver 51 = .ok (.iaload, 1) := by decide +kernel
theorem dX4_headOver_52 : decode cX4_headOver 52 = .ok (.if_icmp .ge 7, 3) := by decide +kernel
theorem dX4_headOver_55 : decode cX4_headOver 55 = .ok (.iconst 1, 1) := by decide +kernel
theorem dX4_headOver_56 : decode cX4_headOver 56 = .ok (.goto 4, 3) := by decide +kernel
theorem dX4_headOver_59 : decode cX4_headOver 59 = .ok (.iconst 0, 1) := by decide +kernel
theorem dX4_headOver_60 : decode cX4_headOver 60 = .ok (.istore_n 3, 1) := by decide +kernel
theorem dX4_headOver_61 : decode cX4_headOver 61 = .ok (.aload_n 0, 1) := by decide +kernel
theorem dX4_headOver_62 : decode cX4_headOver 62 = .ok (.getfield 9, 3) := by decide +kernel
theorem dX4_headOver_65 : decode cX4_headOver 65 = .ok (.getfield 64, 3) := by decide +kernel
theorem dX4_headOver_68 : decode cX4_headOver 68 = .ok (.iload_n 2, 1) := by decide +kernel
theorem dX4_headOver_69 : decode cX4_headOver 69 = .ok (.iaload, 1) := by decide +kernel
theorem dX4_headOver_70 : decode cX4_headOver 70 = .ok (.ifCond .ne 35, 3) := by decide +kernel
theorem dX4_headOver_73 : decode cX4_headOver 73 = .ok (.iload_n 3, 1) := by decide +kernel
theorem dX4_headOver_74 : decode cX4_headOver 74 = .ok (.ifCond .eq 31, 3) := by decide +kernel
theorem dX4_headOver_77 : decode cX4_headOver 77 = .ok (.aload_n 0, 1) := by decide +kernel
theorem dX4_headOver_78 : decode cX4_headOver 78 = .ok (.iload_n 2, 1) := by decide +kernel
theorem dX4_headOver_79 : decode cX4_headOver 79 = .ok (.aload_n 0, 1) := by decide +kernel
theorem dX4_headOver_80 : decode cX4_headOver 80 = .ok (.getfield 9, 3) := by decide +kernel
theorem dX4_headOver_83 : decode cX4_headOver 83 = .ok (.getfield 25, 3) := by decide +kernel
theorem dX4_headOver_86 : decode cX4_headOver 86 = .ok (.iload_n 1, 1) := by decide +kernel
theorem dX4_headOver_87 : decode cX4_headOver 87 = .ok (.iaload, 1) := by decide +kernel
theorem dX4_headOver_88 : decode cX4_headOver 88 = .ok (.invokevirtual 67, 3) := by decide +kernel
theorem dX4_headOver_91 : decode cX4_headOver 91 = .ok (.aload_n 0, 1) := by decide +kernel
theorem dX4_headOver_92 : decode cX4_headOver 92 = .ok (.getfield 9, 3) := by decide +kernel
theorem dX4_headOver_95 : decode cX4_headOver 95 = .ok (.getfield 61, 3) := by decide +kernel
theorem dX4_headOver_98 : decode cX4_headOver 98 = .ok (.iload_n 1, 1) := by decide +kernel
theorem dX4_headOver_99 : decode cX4_headOver 99 = .ok (.iaload, 1) := by decide +kernel
theorem dX4_headOver_100 : decode cX4_headOver 100 = .ok (.if_icmp .lt 5, 3) := by decide +kernel
theorem dX4_headOver_103 : decode cX4_headOver 103 = .ok (.iload_n 2, 1) := by decide +kernel
theorem dX4_headOver_104 : decode cX4_headOver 104 = .ok (.ireturn, 1) := by decide +kernel
theorem dX4_headOver_105 : decode cX4_headOver 105 = .ok (.iinc 2 1, 3) := by decide +kernel
theorem dX4_headOver_108 : decode cX4_headOver 108 = .ok (.goto (-106), 3) := by decide +kernel
theorem dX4_headOver_111 : decode cX4_headOver 111 = .ok (.bipush (-9), 2) := by decide +kernel
theorem dX4_headOver_113 : decode cX4_headOver 113 = .ok (.ireturn, 1) := by decide +kernel
theorem dX5_init_0 : decode cX5_init 0 = .ok (.aload_n 0, 1) := by decide +kernel
theorem dX5_init_1 : decode cX5_init 1 = .ok (.invokespecial 3, 3) := by decide +kernel
theorem dX5_init_4 : decode cX5_init 4 = .ok (.aload_n 0, 1) := by decide +kernel
theorem dX5_init_5 : decode cX5_init 5 = .ok (.bipush 24, 2) := by decide +kernel
theorem dX5_init_7 : decode cX5_init 7 = .ok (.newarray .int, 2) := by decide +kernel
theorem dX5_init_9 : decode cX5_init 9 = .ok (.putfield 9, 3) := by decide +kernel
theorem dX5_init_12 : decode cX5_init 12 = .ok (.aload_n 0, 1) := by decide +kernel
theorem dX5_init_13 : decode cX5_init 13 = .ok (.bipush 24, 2) := by decide +kernel
theorem dX5_init_15 : decode cX5_init 15 = .ok (.newarray .int, 2) := by decide +kernel
theorem dX5_init_17 : decode cX5_init 17 = .ok (.putfield 15, 3) := by decide +kernel
theorem dX5_init_20 : decode cX5_init 20 = .ok (.aload_n 0, 1) := by decide +kernel
theorem dX5_init_21 : decode cX5_init 21 = .ok (.bipush 24, 2) := by decide +kernel
theorem dX5_init_23 : decode cX5_init 23 = .ok (.newarray .int, 2) := by decide +kernel
theorem dX5_init_25 : decode cX5_init 25 = .ok (.putfield 18, 3) := by decide +kernel
theorem dX5_init_28 : decode cX5_init 28 = .ok (.aload_n 0, 1) := by decide +kernel
theorem dX5_init_29 : decode cX5_init 29 = .ok (.bipush 24, 2) := by decide +kernel
theorem dX5_init_31 : decode cX5_init 31 = .ok (.newarray .int, 2) := by decide +kernel
theorem dX5_init_33 : decode cX5_init 33 = .ok (.putfield 21, 3) := by decide +kernel
theorem dX5_init_36 : decode cX5_init 36 = .ok (.aload_n 0, 1) := by decide +kernel
theorem dX5_init_37 : decode cX5_init 37 = .ok (.bipush 24, 2) := by decide +kernel
theorem dX5_init_39 : decode cX5_init 39 = .ok (.newarray .int, 2) := by decide +kernel
theorem dX5_init_41 : decode cX5_init 41 = .ok (.putfield 24, 3) := by decide +kernel
theorem dX5_init_44 : decode cX5_init 44 = .ok (.aload_n 0, 1) := by decide +kernel
theorem dX5_init_45 : decode cX5_init 45 = .ok (.bipush 24, 2) := by decide +kernel
theorem dX5_init_47 : decode cX5_init 47 = .ok (.newarray .int, 2) := by decide +kernel
theorem dX5_init_49 : decode cX5_init 49 = .ok (.putfield 27, 3) := by decide +kernel
theorem dX5_init_52 : decode cX5_init 52 = .ok (.aload_n 0, 1) := by decide +kernel
theorem dX5_init_53 : decode cX5_init 53 = .ok (.aload_n 1, 1) := by decide +kernel
theorem dX5_init_54 : decode cX5_init 54 = .ok (.putfield 30, 3) := by decide +kernel
theorem dX5_init_57 : decode cX5_init 57 = .ok (.aload_n 0, 1) := by decide +kernel
theorem dX5_init_58 : decode cX5_init 58 = .ok (.aload_n 2, 1) := by decide +kernel
theorem dX5_init_59 : decode cX5_init 59 = .ok (.putfield 34, 3) := by decide +kernel
theorem dX5_init_62 : decode cX5_init 62 = .ok (.aload_n 0, 1) := by decide +kernel
theorem dX5_init_63 : decode cX5_init 63 = .ok (.aload_n 3, 1) := by decide +kernel
theorem dX5_init_64 : decode cX5_init 64 = .ok (.putfield 38, 3) := by decide +kernel
theorem dX5_init_67 : decode cX5_init 67 = .ok (.return_, 1) := by decide +kernel
theorem dX5_build_0 : decode cX5_build 0 = .ok (.aload_n 0, 1) := by decide +kernel
theorem dX5_build_1 : decode cX5_build 1 = .ok (.iconst 0, 1) := by decide +kernel
theorem dX5_build_2 : decode cX5_build 2 = .ok (.putfield 42, 3) := by decide +kernel
theorem dX5_build_5 : decode cX5_build 5 = .ok (.iconst 0, 1) := by decide +kernel
theorem dX5_build_6 : decode cX5_build 6 = .ok (.istore_n 1, 1) := by decide +kernel
theorem dX5_build_7 : decode cX5_build 7 = .ok (.iload_n 1, 1) := by decide +kernel
theorem dX5_build_8 : decode cX5_build 8 = .ok (.aload_n 0, 1) := by decide +kernel
theorem dX5_build_9 : decode cX5_build 9 = .ok (.getfield 30, 3) := by decide +kernel
theorem dX5_build_12 : decode cX5_build 12 = .ok (.getfield 46, 3) := by decide +kernel
theorem dX5_build_15 : decode cX5_build 15 = .ok (.if_icmp .ge 45, 3) := by decide +kernel
theorem dX5_build_18 : decode cX5_build 18 = .ok (.aload_n 0, 1) := by decide +kernel
theorem dX5_build_19 : decode cX5_build 19 = .ok (.getfield 9, 3) := by decide +kernel
theorem dX5_build_22 : decode cX5_build 22 = .ok (.iload_n 1, 1) := by decide +kernel
theorem dX5_build_23 : decode cX5_build 23 = .ok (.aload_n 0, 1) := by decide +kernel
theorem dX5_build_24 : decode cX5_build 24 = .ok (.getfield 30, 3) := by decide +kernel
theorem dX5_build_27 : decode cX5_build 27 = .ok (.getfield 51, 3) := by decide +kernel
theorem dX5_build_30 : decode cX5_build 30 = .ok (.iload_n 1, 1) := by decide +kernel
theorem dX5_build_31 : decode cX5_build 31 = .ok (.iaload, 1) := by decide +kernel
theorem dX5_build_32 : decode cX5_build 32 = .ok (.ifCond .ne 8, 3) := by decide +kernel
theorem dX5_build_35 : decode cX5_build 35 = .ok (.bipush (-9), 2) := by decide +kernel
theorem dX5_build_37 : decode cX5_build 37 = .ok (.goto 11, 3) := by decide +kernel
theorem dX5_build_40 : decode cX5_build 40 = .ok (.aload_n 0, 1) := by decide +kernel
theorem dX5_build_41 : decode cX5_build 41 = .ok (.getfield 38, 3) := by decide +kernel
theorem dX5_build_44 : decode cX5_build 44 = .ok (.iload_n 1, 1) := by decide +kernel
theorem dX5_build_45 : decode cX5_build 45 = .ok (.invokevirtual 54, 3) := by decide +kernel
theorem dX5_build_48 : decode cX5_build 48 = .ok (.iastore, 1) := by decide +kernel
theorem dX5_build_49 : decode cX5_build 49 = .ok (.aload_n 0, 1) := by decide +kernel
theorem dX5_build_50 : decode cX5_build 50 = .ok (.iload_n 1, 1) := by decide +kernel
theorem dX5_build_51 : decode cX5_build 51 = .ok (.invokevirtual 60, 3) := by decide +kernel
theorem dX5_build_54 : decode cX5_build 54 = .ok (.iinc 1 1, 3) := by decide +kernel
theorem dX5_build_57 : decode cX5_build 57 = .ok (.goto (-50), 3) := by decide +kernel
theorem dX5_build_60 : decode cX5_build 60 = .ok (.iconst 0, 1) := by decide +kernel
theorem dX5_build_61 : decode cX5_build 61 = .ok (.istore_n 1, 1) := by decide +kernel
theorem dX5_build_62 : decode cX5_build 62 = .ok (.iload_n 1, 1) := by decide +kernel
theorem dX5_build_63 : decode cX5_build 63 = .ok (.aload_n 0, 1) := by decide +kernel
theorem dX5_build_64 : decode cX5_build 64 = .ok (.getfield 30, 3) := by decide +kernel
theorem dX5_build_67 : decode cX5_build 67 = .ok (.getfield 46, 3) := by decide +kernel
theorem dX5_build_70 : decode cX5_build 70 = .ok (.if_icmp .ge 16, 3) := by decide +kernel
theorem dX5_build_73 : decode cX5_build 73 = .ok (.aload_n 0, 1) := by decide +kernel
theorem dX5_build_74 : decode cX5_build 74 = .ok (.invokevirtual 64, 3) := by decide +kernel
theorem dX5_build_77 : decode cX5_build 77 = .ok (.ifCond .eq 9, 3) := by decide +kernel
theorem dX5_build_80 : decode cX5_build 80 = .ok (.iinc 1 1, 3) := by decide +kernel
theorem dX5_build_83 : decode cX5_build 83 = .ok (.goto (-21), 3) := by decide +kernel
theorem dX5_build_86 : decode cX5_build 86 = .ok (.iconst 0, 1) := by decide +kernel
theorem dX5_build_87 : decode cX5_build 87 = .ok (.istore_n 2, 1) := by decide +kernel
theorem dX5_build_88 : decode cX5_build 88 = .ok (.iload_n 2, 1) := by decide +kernel
theorem dX5_build_89 : decode cX5_build 89 = .ok (.aload_n 0, 1) := by decide +kernel
theorem dX5_build_90 : decode cX5_build 90 = .ok (.getfield 30, 3) := by decide +kernel
theorem dX5_build_93 : decode cX5_build 93 = .ok (.getfield 46, 3) := by decide +kernel
theorem dX5_build_96 : decode cX5_build 96 = .ok (.if_icmp .ge 29, 3) := by decide +kernel
theorem dX5_build_99 : decode cX5_build 99 = .ok (.aload_n 0, 1) := by decide +kernel
theorem dX5_build_100 : decode cX5_build 100 = .ok (.iload_n 2, 1) := by decide +kernel
theorem dX5_build_101 : decode cX5_build 101 = .ok (.invokevirtual 68, 3) := by decide +kernel
theorem dX5_build_104 : decode cX5_build 104 = .ok (.ifCond .eq 15, 3) := by decide +kernel
theorem dX5_build_107 : decode cX5_build 107 = .ok (.aload_n 0, 1) := by decide +kernel
theorem dX5_build_108 : decode cX5_build 108 = .ok (.getfield 18, 3) := by decide +kernel
theorem dX5_build_111 : decode cX5_build 111 = .ok (.iload_n 2, 1) := by decide +kernel
theorem dX5_build_112 : decode cX5_build 112 = .ok (.iload_n 2, 1) := by decide +kernel
theorem dX5_build_113 : decode cX5_build 113 = .ok (.iastore, 1) := by decide +kernel
theorem dX5_build_114 : decode cX5_build 114 = .ok (.aload_n 0, 1) := by decide +kernel
theorem dX5_build_115 : decode cX5_build 115 = .ok (.iload_n 2, 1) := by decide +kernel
theorem dX5_build_116 : decode cX5_build 116 = .ok (.invokevirtual 72, 3) := by decide +kernel
theorem dX5_build_119 : decode cX5_build 119 = .ok (.iinc 2 1, 3) := by decide +kernel
theorem dX5_build_122 : decode cX5_build 122 = .ok (.goto (-34), 3) := by decide +kernel
theorem dX5_build_125 : decode cX5_build 125 = .ok (.aload_n 0, 1) := by decide +kernel
theorem dX5_build_126 : decode cX5_build 126 = .ok (.invokevirtual 75, 3) := by decide +kernel
theorem dX5_build_129 : decode cX5_build 129 = .ok (.return_, 1) := by decide +kernel
theorem dX5_putUnderHead_0 : decode cX5_putUnderHead 0 = .ok (.aload_n 0, 1) := by decide +kernel
theorem dX5_putUnderHead_1 : decode cX5_putUnderHead 1 = .ok (.getfield 15, 3) := by decide +kernel
theorem dX5_putUnderHead_4 : decode cX5_putUnderHead 4 = .ok (.iload_n 1, 1) := by decide +kernel
theorem dX5_putUnderHead_5 : decode cX5_putUnderHead 5 = .ok (.bipush (-9), 2) := by decide +kernel
theorem dX5_putUnderHead_7 : decode cX5_putUnderHead 7 = .ok (.iastore, 1) := by decide +kernel
theorem dX5_putUnderHead_8 : decode cX5_putUnderHead 8 = .ok (.aload_n 0, 1) := by decide +kernel
theorem dX5_putUnderHead_9 : decode cX5_putUnderHead 9 = .ok (.getfield 18, 3) := by decide +kernel
theorem dX5_putUnderHead_12 : decode cX5_putUnderHead 12 = .ok (.iload_n 1, 1) := by decide +kernel
theorem dX5_putUnderHead_13 : decode cX5_putUnderHead 13 = .ok (.aload_n 0, 1) := by decide +kernel
theorem dX5_putUnderHead_14 : decode cX5_putUnderHead 14 = .ok (.getfield 30, 3) := by decide +kernel
theorem dX5_putUnderHead_17 : decode cX5_putUnderHead 17 = .ok (.getfield 51, 3) := by decide +kernel
theorem dX5_putUnderHead_20 : decode cX5_putUnderHead 20 = .ok (.iload_n 1, 1) := by decide +kernel
theorem dX5_putUnderHead_21 : decode cX5_putUnderHead 21 = .ok (.iaload, 1) := by decide +kernel
theorem dX5_putUnderHead_22 : decode cX5_putUnderHead 22 = .ok (.ifCond .ne 7, 3) := by decide +kernel
theorem dX5_putUnderHead_25 : decode cX5_putUnderHead 25 = .ok (.iload_n 1, 1) := by decide +kernel
theorem dX5_putUnderHead_26 : decode cX5_putUnderHead 26 = .ok (.goto 9, 3) := by decide +kernel
theorem dX5_putUnderHead_29 : decode cX5_putUnderHead 29 = .ok (.aload_n 0, 1) := by decide +kernel
theorem dX5_putUnderHead_30 : decode cX5_putUnderHead 30 = .ok (.getfield 9, 3) := by decide +kernel
theorem dX5_putUnderHead_33 : decode cX5_putUnderHead 33 = .ok (.iload_n 1, 1) := by decide +kernel
theorem dX5_putUnderHead_34 : decode cX5_putUnderHead 34 = .ok (.iaload, 1) := by decide +kernel
theorem dX5_putUnderHead_35 : decode cX5_putUnderHead 35 = .ok (.iastore, 1) := by decide +kernel
theorem dX5_putUnderHead_36 : decode cX5_putUnderHead 36 = .ok (.aload_n 0, 1) := by decide +kernel
theorem dX5_putUnderHead_37 : decode cX5_putUnderHead 37 = .ok (.getfield 30, 3) := by decide +kernel
theorem dX5_putUnderHead_40 : decode cX5_putUnderHead 40 = .ok (.getfield 51, 3) := by decide +kernel
theorem dX5_putUnderHead_43 : decode cX5_putUnderHead 43 = .ok (.iload_n 1, 1) := by decide +kernel
theorem dX5_putUnderHead_44 : decode cX5_putUnderHead 44 = .ok (.iaload, 1) := by decide +kernel
theorem dX5_putUnderHead_45 : decode cX5_putUnderHead 45 = .ok (.iconst 1, 1) := by decide +kernel
theorem dX5_putUnderHead_46 : decode cX5_putUnderHead 46 = .ok (.if_icmp .ne 19, 3) := by decide +kernel
theorem dX5_putUnderHead_49 : decode cX5_putUnderHead 49 = .ok (.aload_n 0, 1) := by decide +kernel
theorem dX5_putUnderHead_50 : decode cX5_putUnderHead 50 = .ok (.getfield 9, 3) := by decide +kernel
theorem dX5_putUnderHead_53 : decode cX5_putUnderHead 53 = .ok (.iload_n 1, 1) := by decide +kernel
theorem dX5_putUnderHead_54 : decode cX5_putUnderHead 54 = .ok (.iaload, 1) := by decide +kernel
theorem dX5_putUnderHead_55 : decode cX5_putUnderHead 55 = .ok (.bipush (-9), 2) := by decide +kernel
theorem dX5_putUnderHead_57 : decode cX5_putUnderHead 57 = .ok (.if_icmp .eq 8, 3) := by decide +kernel
theorem dX5_putUnderHead_60 : decode cX5_putUnderHead 60 = .ok (.aload_n 0, 1) := by decide +kernel
theorem dX5_putUnderHead_61 : decode cX5_putUnderHead 61 = .ok (.iload_n 1, 1) := by decide +kernel
theorem dX5_putUnderHead_62 : decode cX5_putUnderHead 62 = .ok (.invokevirtual 78, 3) := by decide +kernel
theorem dX5_putUnderHead_65 : decode cX5_putUnderHead 65 = .ok (.return_, 1) := by decide +kernel
theorem dX5_insert_0 : decode cX5_insert 0 = .ok (.aload_n 0, 1) := by decide +kernel
theorem dX5_insert_1 : decode cX5_insert 1 = .ok (.getfield 42, 3) := by decide +kernel
theorem dX5_insert_4 : decode cX5_insert 4 = .ok (.istore_n 2, 1) := by decide +kernel
theorem dX5_insert_5 : decode cX5_insert 5 = .ok (.iload_n 2, 1) := by decide +kernel
theorem dX5_insert_6 : decode cX5_insert 6 = .ok (.ifCond .le 42, 3) := by decide +kernel
theorem dX5_insert_9 : decode cX5_insert 9 = .ok (.aload_n 0, 1) := by decide +kernel
theorem dX5_insert_10 : decode cX5_insert 10 = .ok (.getfield 30, 3) := by decide +kernel
theorem dX5_insert_13 : decode cX5_insert 13 = .ok (.iload_n 1, 1) := by decide +kernel
theorem dX5_insert_14 : decode cX5_insert 14 = .ok (.aload_n 0, 1) := by decide +kernel
theorem dX5_insert_15 : decode cX5_insert 15 = .ok (.getfield 27, 3) := by decide +kernel
theorem dX5_insert_18 : decode cX5_insert 18 = .ok (.iload_n 2, 1) := by decide +kernel
theorem dX5_insert_19 : decode cX5_insert 19 = .ok (.iconst 1, 1) := by decide +kernel
theorem dX5_insert_20 : decode cX5_insert 20 = .ok (.isub, 1) := by decide +kernel
theorem dX5_insert_21 : decode cX5_insert 21 = .ok (.iaload, 1) := by decide +kernel
theorem dX5_insert_22 : decode cX5_insert 22 = .ok (.invokevirtual 81, 3) := by decide +kernel
theorem dX5_insert_25 : decode cX5_insert 25 = .ok (.ifCond .eq 23, 3) := by decide +kernel
theorem dX5_insert_28 : decode cX5_insert 28 = .ok (.aload_n 0, 1) := by decide +kernel
theorem dX5_insert_29 : decode cX5_insert 29 = .ok (.getfield 27, 3) := by decide +kernel
theorem dX5_insert_32 : decode cX5_insert 32 = .ok (.iload_n 2, 1) := by decide +kernel
theorem dX5_insert_33 : decode cX5_insert 33 = .ok (.aload_n 0, 1) := by decide +kernel
theorem dX5_insert_34 : decode cX5_insert 34 = .ok (.getfield 27, 3) := by decide +kernel
theorem dX5_insert_37 : decode cX5_insert 37 = .ok (.iload_n 2, 1) := by decide +kernel
theorem dX5_insert_38 : decode cX5_insert 38 = .ok (.iconst 1, 1) := by decide +kernel
theorem dX5_insert_39 : decode cX5_insert 39 = .ok (.isub, 1) := by decide +kernel
theorem dX5_insert_40 : decode cX5_insert 40 = .ok (.iaload, 1) := by decide +kernel
theorem dX5_insert_41 : decode cX5_insert 41 = .ok (.iastore, 1) := by decide +kernel
theorem dX5_insert_42 : decode cX5_insert 42 = .ok (.iinc 2 (-1), 3) := by decide +kernel
theorem dX5_insert_45 : decode cX5_insert 45 = .ok (.goto (-40), 3) := by decide +kernel
theorem dX5_insert_48 : decode cX5_insert 48 = .ok (.aload_n 0, 1) := by decide +kernel
theorem dX5_insert_49 : decode cX5_insert 49 = .ok (.getfield 27, 3) := by decide +kernel
theorem dX5_insert_52 : decode cX5_insert 52 = .ok (.iload_n 2, 1) := by decide +kernel
theorem dX5_insert_53 : decode cX5_insert 53 = .ok (.iload_n 1, 1) := by decide +kernel
theorem dX5_insert_54 : decode cX5_insert 54 = .ok (.iastore, 1) := by decide +kernel
theorem dX5_insert_55 : decode cX5_insert 55 = .ok (.aload_n 0, 1) := by decide +kernel
theorem dX5_insert_56 : decode cX5_insert 56 = .ok (.dup, 1) := by decide +kernel
theorem dX5_insert_57 : decode cX5_insert 57 = .ok (.getfield 42, 3) := by decide +kernel
theorem dX5_insert_60 : decode cX5_insert 60 = .ok (.iconst 1, 1) := by decide +kernel
theorem dX5_insert_61 : decode cX5_insert 61 = .ok (.iadd, 1) := by decide +kernel
theorem dX5_insert_62 : decode cX5_insert 62 = .ok (.putfield 42, 3) := by decide +kernel
theorem dX5_insert_65 : decode cX5_insert 65 = .ok (.return_, 1) := by decide +kernel
theorem dX5_append_0 : decode cX5_append 0 = .ok (.aload_n 0, 1) := by decide +kernel
theorem dX5_append_1 : decode cX5_append 1 = .ok (.getfield 27, 3) := by decide +kernel
theorem dX5_append_4 : decode cX5_append 4 = .ok (.aload_n 0, 1) := by decide +kernel
theorem dX5_append_5 : decode cX5_append 5 = .ok (.getfield 42, 3) := by decide +kernel
theorem dX5_append_8 : decode cX5_append 8 = .ok (.iload_n 1, 1) := by decide +kernel
theorem dX5_append_9 : decode cX5_append 9 = .ok (.iastore, 1) := by decide +kernel
theorem dX5_append_10 : decode cX5_append 10 = .ok (.aload_n 0, 1) := by decide +kernel
theorem dX5_append_11 : decode cX5_append 11 = .ok (.dup, 1) := by decide +kernel
theorem dX5_append_12 : decode cX5_append 12 = .ok (.getfield 42, 3) := by decide +kernel
theorem dX5_append_15 : decode cX5_append 15 = .ok (.iconst 1, 1) := by decide +kernel
theorem dX5_append_16 : decode cX5_append 16 = .ok (.iadd, 1) := by decide +kernel
theorem dX5_append_17 : decode cX5_append 17 = .ok (.putfield 42, 3) := by decide +kernel
theorem dX5_append_20 : decode cX5_append 20 = .ok (.return_, 1) := by decide +kernel
theorem dX5_isWithoutStory_0 : decode cX5_isWithoutStory 0 = .ok (.aload_n 0, 1) := by decide +kernel
theorem dX5_isWithoutStory_1 : decode cX5_isWithoutStory 1 = .ok (.getfield 30, 3) := by decide +kernel
theorem dX5_isWithoutStory_4 : decode cX5_isWithoutStory 4 = .ok (.getfield 51, 3) := by decide +kernel
theorem dX5_isWithoutStory_7 : decode cX5_isWithoutStory 7 = .ok (.iload_n 1, 1) := by decide +kernel
theorem dX5_isWithoutStory_8 : decode cX5_isWithoutStory 8 = .ok (.iaload, 1) := by decide +kernel
theorem dX5_isWithoutStory_9 : decode cX5_isWithoutStory 9 = .ok (.iconst 1, 1) := by decide +kernel
theorem dX5_isWithoutStory_10 : decode cX5_isWithoutStory 10 = .ok (.if_icmp .ne 18, 3) := by decide +kernel
theorem dX5_isWithoutStory_13 : decode cX5_isWithoutStory 13 = .ok (.aload_n 0, 1) := by decide +kernel
theorem dX5_isWithoutStory_14 : decode cX5_isWithoutStory 14 = .ok (.getfield 18, 3) := by decide +kernel
theorem dX5_isWithoutStory_17 : decode cX5_isWithoutStory 17 = .ok (.iload_n 1, 1) := by decide +kernel
theorem dX5_isWithoutStory_18 : decode cX5_isWithoutStory 18 = .ok (.iaload, 1) := by decide +kernel
theorem dX5_isWithoutStory_19 : decode cX5_isWithoutStory 19 = .ok (.bipush (-9), 2) := by decide +kernel
theorem dX5_isWithoutStory_21 : decode cX5_isWithoutStory 21 = .ok (.if_icmp .ne 7, 3) := by decide +kernel
theorem dX5_isWithoutStory_24 : decode cX5_isWithoutStory 24 = .ok (.iconst 1, 1) := by decide +kernel
theorem dX5_isWithoutStory_25 : decode cX5_isWithoutStory 25 = .ok (.goto 4, 3) := by decide +kernel
theorem dX5_isWithoutStory_28 : decode cX5_isWithoutStory 28 = .ok (.iconst 0, 1) := by decide +kernel
theorem dX5_isWithoutStory_29 : decode cX5_isWithoutStory 29 = .ok (.ireturn, 1) := by decide +kernel
theorem dX5_joinNext_0 : decode cX5_joinNext 0 = .ok (.iconst 0, 1) := by decide +kernel
theorem dX5_joinNext_1 : decode cX5_joinNext 1 = .ok (.istore_n 1, 1) := by decide +kernel
theorem dX5_joinNext_2 : decode cX5_joinNext 2 = .ok (.iload_n 1, 1) := by decide +kernel
theorem dX5_joinNext_3 : decode cX5_joinNext 3 = .ok (.aload_n 0, 1) := by decide +kernel
theorem dX5_joinNext_4 : decode cX5_joinNext 4 = .ok (.getfield 30, 3) := by decide +kernel
theorem dX5_joinNext_7 : decode cX5_joinNext 7 = .ok (.getfield 46, 3) := by decide +kernel
theorem dX5_joinNext_10 : decode cX5_joinNext 10 = .ok (.if_icmp .ge 60, 3) := by decide +kernel
theorem dX5_joinNext_13 : decode cX5_joinNext 13 = .ok (.aload_n 0, 1) := by decide +kernel
theorem dX5_joinNext_14 : decode cX5_joinNext 14 = .ok (.iload_n 1, 1) := by decide +kernel
theorem dX5_joinNext_15 : decode cX5_joinNext 15 = .ok (.invokevirtual 68, 3) := by decide +kernel
theorem dX5_joinNext_18 : decode cX5_joinNext 18 = .ok (.ifCond .eq 11, 3) := by decide +kernel
theorem dX5_joinNext_21 : decode cX5_joinNext 21 = .ok (.aload_n 0, 1) := by decide +kernel
theorem dX5_joinNext_22 : decode cX5_joinNext 22 = .ok (.iload_n 1, 1) := by decide +kernel
theorem dX5_joinNext_23 : decode cX5_joinNext 23 = .ok (.invokevirtual 85, 3) := by decide +kernel
theorem dX5_joinNext_26 : decode cX5_joinNext 26 = .ok (.goto 5, 3) := by decide +kernel
theorem dX5_joinNext_29 : decode cX5_joinNext 29 = .ok (.bipush (-9), 2) := by decide +kernel
theorem dX5_joinNext_31 : decode cX5_joinNext 31 = .ok (.istore_n 2, 1) := by decide +kernel
theorem dX5_joinNext_32 : decode cX5_joinNext 32 = .ok (.iload_n 2, 1) := by decide +kernel
theorem dX5_joinNext_33 : decode cX5_joinNext 33 = .ok (.bipush (-9), 2) := by decide +kernel
theorem dX5_joinNext_35 : decode cX5_joinNext 35 = .ok (.if_icmp .eq 29, 3) := by decide +kernel
theorem dX5_joinNext_38 : decode cX5_joinNext 38 = .ok (.aload_n 0, 1) := by decide +kernel
theorem dX5_joinNext_39 : decode cX5_joinNext 39 = .ok (.getfield 15, 3) := by decide +kernel
theorem dX5_joinNext_42 : decode cX5_joinNext 42 = .ok (.iload_n 1, 1) := by decide +kernel
theorem dX5_joinNext_43 : decode cX5_joinNext 43 = .ok (.iload_n 2, 1) := by decide +kernel
theorem dX5_joinNext_44 : decode cX5_joinNext 44 = .ok (.iastore, 1) := by decide +kernel
theorem dX5_joinNext_45 : decode cX5_joinNext 45 = .ok (.aload_n 0, 1) := by decide +kernel
theorem dX5_joinNext_46 : decode cX5_joinNext 46 = .ok (.getfield 18, 3) := by decide +kernel
theorem dX5_joinNext_49 : decode cX5_joinNext 49 = .ok (.iload_n 1, 1) := by decide +kernel
theorem dX5_joinNext_50 : decode cX5_joinNext 50 = .ok (.aload_n 0, 1) := by decide +kernel
theorem dX5_joinNext_51 : decode cX5_joinNext 51 = .ok (.getfield 18, 3) := by decide +kernel
theorem dX5_joinNext_54 : decode cX5_joinNext 54 = .ok (.iload_n 2, 1) := by decide +kernel
theorem dX5_joinNext_55 : decode cX5_joinNext 55 = .ok (.iaload, 1) := by decide +kernel
theorem dX5_joinNext_56 : decode cX5_joinNext 56 = .ok (.iastore, 1) := by decide +kernel
theorem dX5_joinNext_57 : decode cX5_joinNext 57 = .ok (.aload_n 0, 1) := by decide +kernel
theorem dX5_joinNext_58 : decode cX5_joinNext 58 = .ok (.iload_n 1, 1) := by decide +kernel
theorem dX5_joinNext_59 : decode cX5_joinNext 59 = .ok (.invokevirtual 72, 3) := by decide +kernel
theorem dX5_joinNext_62 : decode cX5_joinNext 62 = .ok (.iconst 1, 1) := by decide +kernel
theorem dX5_joinNext_63 : decode cX5_joinNext 63 = .ok (.ireturn, 1) := by decide +kernel
theorem dX5_joinNext_64 : decode cX5_joinNext 64 = .ok (.iinc 1 1, 3) := by decide +kernel
theorem dX5_joinNext_67 : decode cX5_joinNext 67 = .ok (.goto (-65), 3) := by decide +kernel
theorem dX5_joinNext_70 : decode cX5_joinNext 70 = .ok (.iconst 0, 1) := by decide +kernel
theorem dX5_joinNext_71 : decode cX5_joinNext 71 = .ok (.ireturn, 1) := by decide +kernel
theorem dX5_takerFor_0 : decode cX5_takerFor 0 = .ok (.bipush (-9), 2) := by decide +kernel
theorem dX5_takerFor_2 : decode cX5_takerFor 2 = .ok (.istore_n 2, 1) := by decide +kernel
theorem dX5_takerFor_3 : decode cX5_takerFor 3 = .ok (.iconst 0, 1) := by decide +kernel
theorem dX5_takerFor_4 : decode cX5_takerFor 4 = .ok (.istore_n 3, 1) := by decide +kernel
theorem dX5_takerFor_5 : decode cX5_takerFor 5 = .ok (.iload_n 3, 1) := by decide +kernel
theorem dX5_takerFor_6 : decode cX5_takerFor 6 = .ok (.aload_n 0, 1) := by decide +kernel
theorem dX5_takerFor_7 : decode cX5_takerFor 7 = .ok (.getfield 30, 3) := by decide +kernel
theorem dX5_takerFor_10 : decode cX5_takerFor 10 = .ok (.getfield 46, 3) := by decide +kernel
theorem dX5_takerFor_13 : decode cX5_takerFor 13 = .ok (.if_icmp .ge 47, 3) := by decide +kernel
theorem dX5_takerFor_16 : decode cX5_takerFor 16 = .ok (.aload_n 0, 1) := by decide +kernel
theorem dX5_takerFor_17 : decode cX5_takerFor 17 = .ok (.iload_n 3, 1) := by decide +kernel
theorem dX5_takerFor_18 : decode cX5_takerFor 18 = .ok (.iload_n 1, 1) := by decide +kernel
theorem dX5_takerFor_19 : decode cX5_takerFor 19 = .ok (.invokevirtual 88, 3) := by decide +kernel
theorem dX5_takerFor_22 : decode cX5_takerFor 22 = .ok (.ifCond .eq 32, 3) := by decide +kernel
theorem dX5_takerFor_25 : decode cX5_takerFor 25 = .ok (.iload_n 2, 1) := by decide +kernel
theorem dX5_takerFor_26 : decode cX5_takerFor 26 = .ok (.bipush (-9), 2) := by decide +kernel
theorem dX5_takerFor_28 : decode cX5_takerFor 28 = .ok (.if_icmp .eq 24, 3) := by decide +kernel
theorem dX5_takerFor_31 : decode cX5_takerFor 31 = .ok (.aload_n 0, 1) := by decide +kernel
theorem dX5_takerFor_32 : decode cX5_takerFor 32 = .ok (.getfield 30, 3) := by decide +kernel
theorem dX5_takerFor_35 : decode cX5_takerFor 35 = .ok (.getfield 91, 3) := by decide +kernel
theorem dX5_takerFor_38 : decode cX5_takerFor 38 = .ok (.iload_n 3, 1) := by decide +kernel
theorem dX5_takerFor_39 : decode cX5_takerFor 39 = .ok (.iaload, 1) := by decide +kernel
theorem dX5_takerFor_40 : decode cX5_takerFor 40 = .ok (.aload_n 0, 1) := by decide +kernel
theorem dX5_takerFor_41 : decode cX5_takerFor 41 = .ok (.getfield 30, 3) := by decide +kernel
theorem dX5_takerFor_44 : decode cX5_takerFor 44 = .ok (.getfield 91, 3) := by decide +kernel
theorem dX5_takerFor_47 : decode cX5_takerFor 47 = .ok (.iload_n 2, 1) := by decide +kernel
theorem dX5_takerFor_48 : decode cX5_takerFor 48 = .ok (.iaload, 1) := by decide +kernel
theorem dX5_takerFor_49 : decode cX5_takerFor 49 = .ok (.if_icmp .ge 5, 3) := by decide +kernel
theorem dX5_takerFor_52 : decode cX5_takerFor 52 = .ok (.iload_n 3, 1) := by decide +kernel
theorem dX5_takerFor_53 : decode cX5_takerFor 53 = .ok (.istore_n 2, 1) := by decide +kernel
theorem dX5_takerFor_54 : decode cX5_takerFor 54 = .ok (.iinc 3 1, 3) := by decide +kernel
theorem dX5_takerFor_57 : decode cX5_takerFor 57 = .ok (.goto (-52), 3) := by decide +kernel
theorem dX5_takerFor_60 : decode cX5_takerFor 60 = .ok (.iload_n 2, 1) := by decide +kernel
theorem dX5_takerFor_61 : decode cX5_takerFor 61 = .ok (.ireturn, 1) := by decide +kernel
theorem dX5_takes_0 : decode cX5_takes 0 = .ok (.aload_n 0, 1) := by decide +kernel
theorem dX5_takes_1 : decode cX5_takes 1 = .ok (.getfield 30, 3) := by decide +kernel
theorem dX5_takes_4 : decode cX5_takes 4 = .ok (.getfield 51, 3) := by decide +kernel
theorem dX5_takes_7 : decode cX5_takes 7 = .ok (.iload_n 1, 1) := by decide +kernel
theorem dX5_takes_8 : decode cX5_takes 8 = .ok (.iaload, 1) := by decide +kernel
theorem dX5_takes_9 : decode cX5_takes 9 = .ok (.iconst 1, 1) := by decide +kernel
theorem dX5_takes_10 : decode cX5_takes 10 = .ok (.if_icmp .ne 18, 3) := by decide +kernel
theorem dX5_takes_13 : decode cX5_takes 13 = .ok (.aload_n 0, 1) := by decide +kernel
theorem dX5_takes_14 : decode cX5_takes 14 = .ok (.getfield 18, 3) := by decide +kernel
theorem dX5_takes_17 : decode cX5_takes 17 = .ok (.iload_n 1, 1) := by decide +kernel
theorem dX5_takes_18 : decode cX5_takes 18 = .ok (.iaload, 1) := by decide +kernel
theorem dX5_takes_19 : decode cX5_takes 19 = .ok (.bipush (-9), 2) := by decide +kernel
theorem dX5_takes_21 : decode cX5_takes 21 = .ok (.if_icmp .eq 7, 3) := by decide +kernel
theorem dX5_takes_24 : decode cX5_takes 24 = .ok (.iconst 1, 1) := by decide +kernel
theorem dX5_takes_25 : decode cX5_takes 25 = .ok (.goto 4, 3) := by decide +kernel
theorem dX5_takes_28 : decode cX5_takes 28 = .ok (.iconst 0, 1) := by decide +kernel
theorem dX5_takes_29 : decode cX5_takes 29 = .ok (.istore_n 3, 1) := by decide +kernel
theorem dX5_takes_30 : decode cX5_takes 30 = .ok (.aload_n 0, 1) := by decide +kernel
theorem dX5_takes_31 : decode cX5_takes 31 = .ok (.getfield 30, 3) := by decide +kernel
theorem dX5_takes_34 : decode cX5_takes 34 = .ok (.getfield 94, 3) := by decide +kernel
theorem dX5_takes_37 : decode cX5_takes 37 = .ok (.iload_n 1, 1) := by decide +kernel
theorem dX5_takes_38 : decode cX5_takes 38 = .ok (.iaload, 1) := by decide +kernel
theorem dX5_takes_39 : decode cX5_takes 39 = .ok (.aload_n 0, 1) := by decide +kernel
theorem dX5_takes_40 : decode cX5_takes 40 = .ok (.getfield 30, 3) := by decide +kernel
theorem dX5_takes_43 : decode cX5_takes 43 = .ok (.getfield 94, 3) := by decide +kernel
theorem dX5_takes_46 : decode cX5_takes 46 = .ok (.iload_n 2, 1) := by decide +kernel
theorem dX5_takes_47 : decode cX5_takes 47 = .ok (.iaload, 1) := by decide +kernel
theorem dX5_takes_48 : decode cX5_takes 48 = .ok (.if_icmp .ne 30, 3) := by decide +kernel
theorem dX5_takes_51 : decode cX5_takes 51 = .ok (.aload_n 0, 1) := by decide +kernel
theorem dX5_takes_52 : decode cX5_takes 52 = .ok (.getfield 30, 3) := by decide +kernel
theorem dX5_takes_55 : decode cX5_takes 55 = .ok (.getfield 97, 3) := by decide +kernel
theorem dX5_takes_58 : decode cX5_takes 58 = .ok (.iload_n 1, 1) := by decide +kernel
theorem dX5_takes_59 : decode cX5_takes 59 = .ok (.iaload, 1) := by decide +kernel
theorem dX5_takes_60 : decode cX5_takes 60 = .ok (.iconst 1, 1) := by decide +kernel
theorem dX5_takes_61 : decode cX5_takes 61 = .ok (.iadd, 1) := by decide +kernel
theorem dX5_takes_62 : decode cX5_takes 62 = .ok (.aload_n 0, 1) := by decide +kernel
theorem dX5_takes_63 : decode cX5_takes 63 = .ok (.getfield 30, 3) := by decide +kernel
theorem dX5_takes_66 : decode cX5_takes 66 = .ok (.getfield 100, 3) := by decide +kernel
theorem dX5_takes_69 : decode cX5_takes 69 = .ok (.iload_n 2, 1) := by decide +kernel
theorem dX5_takes_70 : decode cX5_takes 70 = .ok (.iaload, 1) := by decide +kernel
theorem dX5_takes_71 : decode cX5_takes 71 = .ok (.if_icmp .ne 7, 3) := by decide +kernel
theorem dX5_takes_74 : decode cX5_takes 74 = .ok (.iconst 1, 1) := by decide +kernel
theorem dX5_takes_75 : decode cX5_takes 75 = .ok (.goto 4, 3) := by decide +kernel
theorem dX5_takes_78 : decode cX5_takes 78 = .ok (.iconst 0, 1) := by decide +kernel
theorem dX5_takes_79 : decode cX5_takes 79 = .ok (.istore 4, 2) := by decide +kernel
theorem dX5_takes_81 : decode cX5_takes 81 = .ok (.iload_n 3, 1) := by decide +kernel
theorem dX5_takes_82 : decode cX5_takes 82 = .ok (.ifCond .eq 8, 3) := by decide +kernel
theorem dX5_takes_85 : decode cX5_takes 85 = .ok (.iload 4, 2) := by decide +kernel
theorem dX5_takes_87 : decode cX5_takes 87 = .ok (.ifCond .ne 5, 3) := by decide +kernel
theorem dX5_takes_90 : decode cX5_takes 90 = .ok (.iconst 0, 1) := by decide +kernel
theorem dX5_takes_91 : decode cX5_takes 91 = .ok (.ireturn, 1) := by decide +kernel
theorem dX5_takes_92 : decode cX5_takes 92 = .ok (.aload_n 0, 1) := by decide +kernel
theorem dX5_takes_93 : decode cX5_takes 93 = .ok (.getfield 30, 3) := by decide +kernel
theorem dX5_takes_96 : decode cX5_takes 96 = .ok (.getfield 91, 3) := by decide +kernel
theorem dX5_takes_99 : decode cX5_takes 99 = .ok (.iload_n 1, 1) := by decide +kernel
theorem dX5_takes_100 : decode cX5_takes 100 = .ok (.iaload, 1) := by decide +kernel
theorem dX5_takes_101 : decode cX5_takes 101 = .ok (.aload_n 0, 1) := by decide +kernel
theorem dX5_takes_102 : decode cX5_takes 102 = .ok (.getfield 30, 3) := by decide +kernel
theorem dX5_takes_105 : decode cX5_takes 105 = .ok (.getfield 91, 3) := by decide +kernel
theorem dX5_takes_108 : decode cX5_takes 108 = .ok (.iload_n 2, 1) := by decide +kernel
theorem dX5_takes_109 : decode cX5_takes 109 = .ok (.iaload, 1) := by decide +kernel
theorem dX5_takes_110 : decode cX5_takes 110 = .ok (.invokestatic 103, 3) := by decide +kernel
theorem dX5_takes_113 : decode cX5_takes 113 = .ok (.istore 5, 2) := by decide +kernel
theorem dX5_takes_115 : decode cX5_takes 115 = .ok (.aload_n 0, 1) := by decide +kernel
theorem dX5_takes_116 : decode cX5_takes 116 = .ok (.getfield 30, 3) := by decide +kernel
theorem dX5_takes_119 : decode cX5_takes 119 = .ok (.getfield 109, 3) := by decide +kernel
theorem dX5_takes_122 : decode cX5_takes 122 = .ok (.iload_n 1, 1) := by decide +kernel
theorem dX5_takes_123 : decode cX5_takes 123 = .ok (.iaload, 1) := by decide +kernel
theorem dX5_takes_124 : decode cX5_takes 124 = .ok (.aload_n 0, 1) := by decide +kernel
theorem dX5_takes_125 : decode cX5_takes 125 = .ok (.getfield 30, 3) := by decide +kernel
theorem dX5_takes_128 : decode cX5_takes 128 = .ok (.getfield 109, 3) := by decide +kernel
theorem dX5_takes_131 : decode cX5_takes 131 = .ok (.iload_n 2, 1) := by decide +kernel
theorem dX5_takes_132 : decode cX5_takes 132 = .ok (.iaload, 1) := by decide +kernel
theorem dX5_takes_133 : decode cX5_takes 133 = .ok (.invokestatic 112, 3) := by decide +kernel
theorem dX5_takes_136 : decode cX5_takes 136 = .ok (.istore 6, 2) := by decide +kernel
theorem dX5_takes_138 : decode cX5_takes 138 = .ok (.iload 5, 2) := by decide +kernel
theorem dX5_takes_140 : decode cX5_takes 140 = .ok (.iload 6, 2) := by decide +kernel
theorem dX5_takes_142 : decode cX5_takes 142 = .ok (.if_icmp .gt 39, 3) := by decide +kernel
theorem dX5_takes_145 : decode cX5_takes 145 = .ok (.aload_n 0, 1) := by decide +kernel
theorem dX5_takes_146 : decode cX5_takes 146 = .ok (.getfield 34, 3) := by decide +kernel
theorem dX5_takes_149 : decode cX5_takes 149 = .ok (.aload_n 0, 1) := by decide +kernel
theorem dX5_takes_150 : decode cX5_takes 150 = .ok (.getfield 30, 3) := by decide +kernel
theorem dX5_takes_153 : decode cX5_takes 153 = .ok (.getfield 94, 3) := by decide +kernel
theorem dX5_takes_156 : decode cX5_takes 156 = .ok (.iload_n 2, 1) := by decide +kernel
theorem dX5_takes_157 : decode cX5_takes 157 = .ok (.iaload, 1) := by decide +kernel
theorem dX5_takes_158 : decode cX5_takes 158 = .ok (.aload_n 0, 1) := by decide +kernel
theorem dX5_takes_159 : decode cX5_takes 159 = .ok (.getfield 30, 3) := by decide +kernel
theorem dX5_takes_162 : decode cX5_takes 162 = .ok (.getfield 100, 3) := by decide +kernel
theorem dX5_takes_165 : decode cX5_takes 165 = .ok (.iload_n 2, 1) := by decide +kernel
theorem dX5_takes_166 : decode cX5_takes 166 = .ok (.iaload, 1) := by decide +kernel
theorem dX5_takes_167 : decode cX5_takes 167 = .ok (.iload 5, 2) := by decide +kernel
theorem dX5_takes_169 : decode cX5_takes 169 = .ok (.iload 6, 2) := by decide +kernel
theorem dX5_takes_171 : decode cX5_takes 171 = .ok (.invokevirtual 115, 3) := by decide +kernel
theorem dX5_takes_174 : decode cX5_takes 174 = .ok (.ifCond .ne 7, 3) := by decide +kernel
theorem dX5_takes_177 : decode cX5_takes 177 = .ok (.iconst 1, 1) := by decide +kernel
theorem dX5_takes_178 : decode cX5_takes 178 = .ok (.goto 4, 3) := by decide +kernel
theorem dX5_takes_181 : decode cX5_takes 181 = .ok (.iconst 0, 1) := by decide +kernel
theorem dX5_takes_182 : decode cX5_takes 182 = .ok (.ireturn, 1) := by decide +kernel
theorem dX5_giveNumbers_0 : decode cX5_giveNumbers 0 = .ok (.aload_n 0, 1) := by decide +kernel
theorem dX5_giveNumbers_1 : decode cX5_giveNumbers 1 = .ok (.iconst 0, 1) := by decide +kernel
theorem dX5_giveNumbers_2 : decode cX5_giveNumbers 2 = .ok (.putfield 121, 3) := by decide +kernel
theorem dX5_giveNumbers_5 : decode cX5_giveNumbers 5 = .ok (.iconst 0, 1) := by decide +kernel
theorem dX5_giveNumbers_6 : decode cX5_giveNumbers 6 = .ok (.istore_n 1, 1) := by decide +kernel
theorem dX5_giveNumbers_7 : decode cX5_giveNumbers 7 = .ok (.iload_n 1, 1) := by decide +kernel
theorem dX5_giveNumbers_8 : decode cX5_giveNumbers 8 = .ok (.aload_n 0, 1) := by decide +kernel
theorem dX5_giveNumbers_9 : decode cX5_giveNumbers 9 = .ok (.getfield 30, 3) := by decide +kernel
theorem dX5_giveNumbers_12 : decode cX5_giveNumbers 12 = .ok (.getfield 46, 3) := by decide +kernel
theorem dX5_giveNumbers_15 : decode cX5_giveNumbers 15 = .ok (.if_icmp .ge 49, 3) := by decide +kernel
theorem dX5_giveNumbers_18 : decode cX5_giveNumbers 18 = .ok (.aload_n 0, 1) := by decide +kernel
theorem dX5_giveNumbers_19 : decode cX5_giveNumbers 19 = .ok (.getfield 18, 3) := by decide +kernel
theorem dX5_giveNumbers_22 : decode cX5_giveNumbers 22 = .ok (.iload_n 1, 1) := by decide +kernel
theorem dX5_giveNumbers_23 : decode cX5_giveNumbers 23 = .ok (.iaload, 1) := by decide +kernel
theorem dX5_giveNumbers_24 : decode cX5_giveNumbers 24 = .ok (.iload_n 1, 1) := by decide +kernel
theorem dX5_giveNumbers_25 : decode cX5_giveNumbers 25 = .ok (.if_icmp .ne 33, 3) := by decide +kernel
theorem dX5_giveNumbers_28 : decode cX5_giveNumbers 28 = .ok (.aload_n 0, 1) := by decide +kernel
theorem dX5_giveNumbers_29 : decode cX5_giveNumbers 29 = .ok (.getfield 24, 3) := by decide +kernel
theorem dX5_giveNumbers_32 : decode cX5_giveNumbers 32 = .ok (.aload_n 0, 1) := by decide +kernel
theorem dX5_giveNumbers_33 : decode cX5_giveNumbers 33 = .ok (.getfield 121, 3) := by decide +kernel
theorem dX5_giveNumbers_36 : decode cX5_giveNumbers 36 = .ok (.iload_n 1, 1) := by decide +kernel
theorem dX5_giveNumbers_37 : decode cX5_giveNumbers 37 = .ok (.iastore, 1) := by decide +kernel
theorem dX5_giveNumbers_38 : decode cX5_giveNumbers 38 = .ok (.aload_n 0, 1) := by decide +kernel
theorem dX5_giveNumbers_39 : decode cX5_giveNumbers 39 = .ok (.getfield 21, 3) := by decide +kernel
theorem dX5_giveNumbers_42 : decode cX5_giveNumbers 42 = .ok (.iload_n 1, 1) := by decide +kernel
theorem dX5_giveNumbers_43 : decode cX5_giveNumbers 43 = .ok (.aload_n 0, 1) := by decide +kernel
theorem dX5_giveNumbers_44 : decode cX5_giveNumbers 44 = .ok (.getfield 121, 3) := by decide +kernel
theorem dX5_giveNumbers_47 : decode cX5_giveNumbers 47 = .ok (.iastore, 1) := by decide +kernel
theorem dX5_giveNumbers_48 : decode cX5_giveNumbers 48 = .ok (.aload_n 0, 1) := by decide +kernel
theorem dX5_giveNumbers_49 : decode cX5_giveNumbers 49 = .ok (.dup, 1) := by decide +kernel
theorem dX5_giveNumbers_50 : decode cX5_giveNumbers 50 = .ok (.getfield 121, 3) := by decide +kernel
theorem dX5_giveNumbers_53 : decode cX5_giveNumbers 53 = .ok (.iconst 1, 1) := by decide +kernel
theorem dX5_giveNumbers_54 : decode cX5_giveNumbers 54 = .ok (.iadd, 1) := by decide +kernel
theorem dX5_giveNumbers_55 : decode cX5_giveNumbers 55 = .ok (.putfield 121, 3) := by decide +kernel
theorem dX5_giveNumbers_58 : decode cX5_giveNumbers 58 = .ok (.iinc 1 1, 3) := by decide +kernel
theorem dX5_giveNumbers_61 : decode cX5_giveNumbers 61 = .ok (.goto (-54), 3) := by decide +kernel
theorem dX5_giveNumbers_64 : decode cX5_giveNumbers 64 = .ok (.iconst 0, 1) := by decide +kernel
theorem dX5_giveNumbers_65 : decode cX5_giveNumbers 65 = .ok (.istore_n 1, 1) := by decide +kernel
theorem dX5_giveNumbers_66 : decode cX5_giveNumbers 66 = .ok (.iload_n 1, 1) := by decide +kernel
theorem dX5_giveNumbers_67 : decode cX5_giveNumbers 67 = .ok (.aload_n 0, 1) := by decide +kernel
theorem dX5_giveNumbers_68 : decode cX5_giveNumbers 68 = .ok (.getfield 30, 3) := by decide +kernel
theorem dX5_giveNumbers_71 : decode cX5_giveNumbers 71 = .ok (.getfield 46, 3) := by decide +kernel
theorem dX5_giveNumbers_74 : decode cX5_giveNumbers 74 = .ok (.if_icmp .ge 42, 3) := by decide +kernel
theorem dX5_giveNumbers_77 : decode cX5_giveNumbers 77 = .ok (.aload_n 0, 1) := by decide +kernel
theorem dX5_giveNumbers_78 : decode cX5_giveNumbers 78 = .ok (.getfield 21, 3) := by decide +kernel
theorem dX5_giveNumbers_81 : decode cX5_giveNumbers 81 = .ok (.iload_n 1, 1) := by decide +kernel
theorem dX5_giveNumbers_82 : decode cX5_giveNumbers 82 = .ok (.aload_n 0, 1) := by decide +kernel
theorem dX5_giveNumbers_83 : decode cX5_giveNumbers 83 = .ok (.getfield 18, 3) := by decide +kernel
theorem dX5_giveNumbers_86 : decode cX5_giveNumbers 86 = .ok (.iload_n 1, 1) := by decide +kernel
theorem dX5_giveNumbers_87 : decode cX5_giveNumbers 87 = .ok (.iaload, 1) := by decide +kernel
theorem dX5_giveNumbers_88 : decode cX5_giveNumbers 88 = .ok (.bipush (-9), 2) := by decide +kernel
theorem dX5_giveNumbers_90 : decode cX5_giveNumbers 90 = .ok (.if_icmp .ne 8, 3) := by decide +kernel
theorem dX5_giveNumbers_93 : decode cX5_giveNumbers 93 = .ok (.bipush (-9), 2) := by decide +kernel
theorem dX5_giveNumbers_95 : decode cX5_giveNumbers 95 = .ok (.goto 14, 3) := by decide +kernel
theorem dX5_giveNumbers_98 : decode cX5_giveNumbers 98 = .ok (.aload_n 0, 1) := by decide +kernel
theorem dX5_giveNumbers_99 : decode cX5_giveNumbers 99 = .ok (.getfield 21, 3) := by decide +kernel
theorem dX5_giveNumbers_102 : decode cX5_giveNumbers 102 = .ok (.aload_n 0, 1) := by decide +kernel
theorem dX5_giveNumbers_103 : decode cX5_giveNumbers 103 = .ok (.getfield 18, 3) := by decide +kernel
theorem dX5_giveNumbers_106 : decode cX5_giveNumbers 106 = .ok (.iload_n 1, 1) := by decide +kernel
theorem dX5_giveNumbers_107 : decode cX5_giveNumbers 107 = .ok (.iaload, 1) := by decide +kernel
theorem dX5_giveNumbers_108 : decode cX5_giveNumbers 108 = .ok (.iaload, 1) := by decide +kernel
theorem dX5_giveNumbers_109 : decode cX5_giveNumbers 109 = .ok (.iastore, 1) := by decide +kernel
theorem dX5_giveNumbers_110 : decode cX5_giveNumbers 110 = .ok (.iinc 1 1, 3) := by decide +kernel
theorem dX5_giveNumbers_113 : decode cX5_giveNumbers 113 = .ok (.goto (-47), 3) := by decide +kernel
theorem dX5_giveNumbers_116 : decode cX5_giveNumbers 116 = .ok (.return_, 1) := by decide +kernel
theorem dX5_has_0 : decode cX5_has 0 = .ok (.iload_n 1, 1) := by decide +kernel
theorem dX5_has_1 : decode cX5_has 1 = .ok (.ifCond .lt 15, 3) := by decide +kernel
theorem dX5_has_4 : decode cX5_has 4 = .ok (.iload_n 1, 1) := by decide +kernel
theorem dX5_has_5 : decode cX5_has 5 = .ok (.aload_n 0, 1) := by decide +kernel
theorem dX5_has_6 : decode cX5_has 6 = .ok (.getfield 121, 3) := by decide +kernel
theorem dX5_has_9 : decode cX5_has 9 = .ok (.if_icmp .ge 7, 3) := by decide +kernel
theorem dX5_has_12 : decode cX5_has 12 = .ok (.iconst 1, 1) := by decide +kernel
theorem dX5_has_13 : decode cX5_has 13 = .ok (.goto 4, 3) := by decide +kernel
theorem dX5_has_16 : decode cX5_has 16 = .ok (.iconst 0, 1) := by decide +kernel
theorem dX5_has_17 : decode cX5_has 17 = .ok (.ireturn, 1) := by decide +kernel
theorem dX5_headOf_0 : decode cX5_headOf 0 = .ok (.aload_n 0, 1) := by decide +kernel
theorem dX5_headOf_1 : decode cX5_headOf 1 = .ok (.getfield 30, 3) := by decide +kernel
theorem dX5_headOf_4 : decode cX5_headOf 4 = .ok (.getfield 51, 3) := by decide +kernel
theorem dX5_headOf_7 : decode cX5_headOf 7 = .ok (.aload_n 0, 1) := by decide +kernel
theorem dX5_headOf_8 : decode cX5_headOf 8 = .ok (.getfield 24, 3) := by decide +kernel
theorem dX5_headOf_11 : decode cX5_headOf 11 = .ok (.iload_n 1, 1) := by decide +kernel
theorem dX5_headOf_12 : decode cX5_headOf 12 = .ok (.iaload, 1) := by decide +kernel
theorem dX5_headOf_13 : decode cX5_headOf 13 = .ok (.iaload, 1) := by decide +kernel
theorem dX5_headOf_14 : decode cX5_headOf 14 = .ok (.ifCond .ne 12, 3) := by decide +kernel
theorem dX5_headOf_17 : decode cX5_headOf 17 = .ok (.aload_n 0, 1) := by decide +kernel
theorem dX5_headOf_18 : decode cX5_headOf 18 = .ok (.getfield 24, 3) := by decide +kernel
theorem dX5_headOf_21 : decode cX5_headOf 21 = .ok (.iload_n 1, 1) := by decide +kernel
theorem dX5_headOf_22 : decode cX5_headOf 22 = .ok (.iaload, 1) := by decide +kernel
theorem dX5_headOf_23 : decode cX5_headOf 23 = .ok (.goto 5, 3) := by decide +kernel
theorem dX5_headOf_26 : decode cX5_headOf 26 = .ok (.bipush (-9), 2) := by decide +kernel
theorem dX5_headOf_28 : decode cX5_headOf 28 = .ok (.ireturn, 1) := by decide +kernel
theorem dX5_textsOf_0 : decode cX5_textsOf 0 = .ok (.iconst 0, 1) := by decide +kernel
theorem dX5_textsOf_1 : decode cX5_textsOf 1 = .ok (.istore_n 2, 1) := by decide +kernel
theorem dX5_textsOf_2 : decode cX5_textsOf 2 = .ok (.iconst 0, 1) := by decide +kernel
theorem dX5_textsOf_3 : decode cX5_textsOf 3 = .ok (.istore_n 3, 1) := by decide +kernel
theorem dX5_textsOf_4 : decode cX5_textsOf 4 = .ok (.iload_n 3, 1) := by decide +kernel
theorem dX5_textsOf_5 : decode cX5_textsOf 5 = .ok (.aload_n 0, 1) := by decide +kernel
theorem dX5_textsOf_6 : decode cX5_textsOf 6 = .ok (.getfield 42, 3) := by decide +kernel
theorem dX5_textsOf_9 : decode cX5_textsOf 9 = .ok (.if_icmp .ge 27, 3) := by decide +kernel
theorem dX5_textsOf_12 : decode cX5_textsOf 12 = .ok (.aload_n 0, 1) := by decide +kernel
theorem dX5_textsOf_13 : decode cX5_textsOf 13 = .ok (.getfield 21, 3) := by decide +kernel
theorem dX5_textsOf_16 : decode cX5_textsOf 16 = .ok (.aload_n 0, 1) := by decide +kernel
theorem dX5_textsOf_17 : decode cX5_textsOf 17 = .ok (.getfield 27, 3) := by decide +kernel
theorem dX5_textsOf_20 : decode cX5_textsOf 20 = .ok (.iload_n 3, 1) := by decide +kernel
theorem dX5_textsOf_21 : decode cX5_textsOf 21 = .ok (.iaload, 1) := by decide +kernel
theorem dX5_textsOf_22 : decode cX5_textsOf 22 = .ok (.iaload, 1) := by decide +kernel
theorem dX5_textsOf_23 : decode cX5_textsOf 23 = .ok (.iload_n 1, 1) := by decide +kernel
theorem dX5_textsOf_24 : decode cX5_textsOf 24 = .ok (.if_icmp .ne 6, 3) := by decide +kernel
theorem dX5_textsOf_27 : decode cX5_textsOf 27 = .ok (.iinc 2 1, 3) := by decide +kernel
theorem dX5_textsOf_30 : decode cX5_textsOf 30 = .ok (.iinc 3 1, 3) := by decide +kernel
theorem dX5_textsOf_33 : decode cX5_textsOf 33 = .ok (.goto (-29), 3) := by decide +kernel
theorem dX5_textsOf_36 : decode cX5_textsOf 36 = .ok (.iload_n 2, 1) := by decide +kernel
theorem dX5_textsOf_37 : decode cX5_textsOf 37 = .ok (.ireturn, 1) := by decide +kernel
theorem dX5_wordsOf_0 : decode cX5_wordsOf 0 = .ok (.iconst 0, 1) := by decide +kernel
theorem dX5_wordsOf_1 : decode cX5_wordsOf 1 = .ok (.istore_n 2, 1) := by decide +kernel
theorem dX5_wordsOf_2 : decode cX5_wordsOf 2 = .ok (.iconst 0, 1) := by decide +kernel
theorem dX5_wordsOf_3 : decode cX5_wordsOf 3 = .ok (.istore_n 3, 1) := by decide +kernel
theorem dX5_wordsOf_4 : decode cX5_wordsOf 4 = .ok (.iload_n 3, 1) := by decide +kernel
theorem dX5_wordsOf_5 : decode cX5_wordsOf 5 = .ok (.aload_n 0, 1) := by decide +kernel
theorem dX5_wordsOf_6 : decode cX5_wordsOf 6 = .ok (.getfield 42, 3) := by decide +kernel
theorem dX5_wordsOf_9 : decode cX5_wordsOf 9 = .ok (.if_icmp .ge 41, 3) := by decide +kernel
theorem dX5_wordsOf_12 : decode cX5_wordsOf 12 = .ok (.aload_n 0, 1) := by decide +kernel
theorem dX5_wordsOf_13 : decode cX5_wordsOf 13 = .ok (.getfield 21, 3) := by decide +kernel
theorem dX5_wordsOf_16 : decode cX5_wordsOf 16 = .ok (.aload_n 0, 1) := by decide +kernel
theorem dX5_wordsOf_17 : decode cX5_wordsOf 17 = .ok (.getfield 27, 3) := by decide +kernel
theorem dX5_wordsOf_20 : decode cX5_wordsOf 20 = .ok (.iload_n 3, 1) := by decide +kernel
theorem dX5_wordsOf_21 : decode cX5_wordsOf 21 = .ok (.iaload, 1) := by decide +kernel
theorem dX5_wordsOf_22 : decode cX5_wordsOf 22 = .ok (.iaload, 1) := by decide +kernel
theorem dX5_wordsOf_23 : decode cX5_wordsOf 23 = .ok (.iload_n 1, 1) := by decide +kernel
theorem dX5_wordsOf_24 : decode cX5_wordsOf 24 = .ok (.if_icmp .ne 20, 3) := by decide +kernel
theorem dX5_wordsOf_27 : decode cX5_wordsOf 27 = .ok (.iload_n 2, 1) := by decide +kernel
theorem dX5_wordsOf_28 : decode cX5_wordsOf 28 = .ok (.aload_n 0, 1) := by decide +kernel
theorem dX5_wordsOf_29 : decode cX5_wordsOf 29 = .ok (.getfield 30, 3) := by decide +kernel
theorem dX5_wordsOf_32 : decode cX5_wordsOf 32 = .ok (.getfield 122, 3) := by decide +kernel
theorem dX5_wordsOf_35 : decode cX5_wordsOf 35 = .ok (.aload_n 0, 1) := by decide +kernel
theorem dX5_wordsOf_36 : decode cX5_wordsOf 36 = .ok (.getfield 27, 3) := by decide +kernel
theorem dX5_wordsOf_39 : decode cX5_wordsOf 39 = .ok (.iload_n 3, 1) := by decide +kernel
theorem dX5_wordsOf_40 : decode cX5_wordsOf 40 = .ok (.iaload, 1) := by decide +kernel
theorem dX5_wordsOf_41 : decode cX5_wordsOf 41 = .ok (.iaload, 1) := by decide +kernel
theorem dX5_wordsOf_42 : decode cX5_wordsOf 42 = .ok (.iadd, 1) := by decide +kernel
theorem dX5_wordsOf_43 : decode cX5_wordsOf 43 = .ok (.istore_n 2, 1) := by decide +kernel
theorem dX5_wordsOf_44 : decode cX5_wordsOf 44 = .ok (.iinc 3 1, 3) := by decide +kernel
theorem dX5_wordsOf_47 : decode cX5_wordsOf 47 = .ok (.goto (-43), 3) := by decide +kernel
theorem dX5_wordsOf_50 : decode cX5_wordsOf 50 = .ok (.iload_n 2, 1) := by decide +kernel
theorem dX5_wordsOf_51 : decode cX5_wordsOf 51 = .ok (.ireturn, 1) := by decide +kernel
theorem dX5_picturesOf_0 : decode cX5_picturesOf 0 = .ok (.iconst 0, 1) := by decide +kernel
theorem dX5_picturesOf_1 : decode cX5_picturesOf 1 = .ok (.istore_n 2, 1) := by decide +kernel
theorem dX5_picturesOf_2 : decode cX5_picturesOf 2 = .ok (.iconst 0, 1) := by decide +kernel
theorem dX5_picturesOf_3 : decode cX5_picturesOf 3 = .ok (.istore_n 3, 1) := by decide +kernel
theorem dX5_picturesOf_4 : decode cX5_picturesOf 4 = .ok (.iload_n 3, 1) := by decide +kernel
theorem dX5_picturesOf_5 : decode cX5_picturesOf 5 = .ok (.aload_n 0, 1) := by decide +kernel
theorem dX5_picturesOf_6 : decode cX5_picturesOf 6 = .ok (.getfield 30, 3) := by decide +kernel
theorem dX5_picturesOf_9 : decode cX5_picturesOf 9 = .ok (.getfield 46, 3) := by decide +kernel
theorem dX5_picturesOf_12 : decode cX5_picturesOf 12 = .ok (.if_icmp .ge 35, 3) := by decide +kernel
theorem dX5_picturesOf_15 : decode cX5_picturesOf 15 = .ok (.aload_n 0, 1) := by decide +kernel
theorem dX5_picturesOf_16 : decode cX5_picturesOf 16 = .ok (.getfield 30, 3) := by decide +kernel
theorem dX5_picturesOf_19 : decode cX5_picturesOf 19 = .ok (.getfield 51, 3) := by decide +kernel
theorem dX5_picturesOf_22 : decode cX5_picturesOf 22 = .ok (.iload_n 3, 1) := by decide +kernel
theorem dX5_picturesOf_23 : decode cX5_picturesOf 23 = .ok (.iaload, 1) := by decide +kernel
theorem dX5_picturesOf_24 : decode cX5_picturesOf 24 = .ok (.iconst 2, 1) := by decide +kernel
theorem dX5_picturesOf_25 : decode cX5_picturesOf 25 = .ok (.if_icmp .ne 16, 3) := by decide +kernel
theorem dX5_picturesOf_28 : decode cX5_picturesOf 28 = .ok (.aload_n 0, 1) := by decide +kernel
theorem dX5_picturesOf_29 : decode cX5_picturesOf 29 = .ok (.getfield 21, 3) := by decide +kernel
theorem dX5_picturesOf_32 : decode cX5_picturesOf 32 = .ok (.iload_n 3, 1) := by decide +kernel
theorem dX5_picturesOf_33 : decode cX5_picturesOf 33 = .ok (.iaload, 1) := by decide +kernel
theorem dX5_picturesOf_34 : decode cX5_picturesOf 34 = .ok (.iload_n 1, 1) := by decide +kernel
theorem dX5_picturesOf_35 : decode cX5_picturesOf 35 = .ok (.if_icmp .ne 6, 3) := by decide +kernel
theorem dX5_picturesOf_38 : decode cX5_picturesOf 38 = .ok (.iinc 2 1, 3) := by decide +kernel
theorem dX5_picturesOf_41 : decode cX5_picturesOf 41 = .ok (.iinc 3 1, 3) := by decide +kernel
theorem dX5_picturesOf_44 : decode cX5_picturesOf 44 = .ok (.goto (-40), 3) := by decide +kernel
theorem dX5_picturesOf_47 : decode cX5_picturesOf 47 = .ok (.iload_n 2, 1) := by decide +kernel
theorem dX5_picturesOf_48 : decode cX5_picturesOf 48 = .ok (.ireturn, 1) := by decide +kernel
theorem dX5_joinedOf_0 : decode cX5_joinedOf 0 = .ok (.iconst 0, 1) := by decide +kernel
theorem dX5_joinedOf_1 : decode cX5_joinedOf 1 = .ok (.istore_n 2, 1) := by decide +kernel
theorem dX5_joinedOf_2 : decode cX5_joinedOf 2 = .ok (.iconst 0, 1) := by decide +kernel
theorem dX5_joinedOf_3 : decode cX5_joinedOf 3 = .ok (.istore_n 3, 1) := by decide +kernel
theorem dX5_joinedOf_4 : decode cX5_joinedOf 4 = .ok (.iload_n 3, 1) := by decide +kernel
theorem dX5_joinedOf_5 : decode cX5_joinedOf 5 = .ok (.aload_n 0, 1) := by decide +kernel
theorem dX5_joinedOf_6 : decode cX5_joinedOf 6 = .ok (.getfield 30, 3) := by decide +kernel
theorem dX5_joinedOf_9 : decode cX5_joinedOf 9 = .ok (.getfield 46, 3) := by decide +kernel
theorem dX5_joinedOf_12 : decode cX5_joinedOf 12 = .ok (.if_icmp .ge 33, 3) := by decide +kernel
theorem dX5_joinedOf_15 : decode cX5_joinedOf 15 = .ok (.aload_n 0, 1) := by decide +kernel
theorem dX5_joinedOf_16 : decode cX5_joinedOf 16 = .ok (.getfield 15, 3) := by decide +kernel
theorem dX5_joinedOf_19 : decode cX5_joinedOf 19 = .ok (.iload_n 3, 1) := by decide +kernel
theorem dX5_joinedOf_20 : decode cX5_joinedOf 20 = .ok (.iaload, 1) := by decide +kernel
theorem dX5_joinedOf_21 : decode cX5_joinedOf 21 = .ok (.bipush (-9), 2) := by decide +kernel
theorem dX5_joinedOf_23 : decode cX5_joinedOf 23 = .ok (.if_icmp .eq 16, 3) := by decide +kernel
theorem dX5_joinedOf_26 : decode cX5_joinedOf 26 = .ok (.aload_n 0, 1) := by decide +kernel
theorem dX5_joinedOf_27 : decode cX5_joinedOf 27 = .ok (.getfield 21, 3) := by decide +kernel
theorem dX5_joinedOf_30 : decode cX5_joinedOf 30 = .ok (.iload_n 3, 1) := by decide +kernel
theorem dX5_joinedOf_31 : decode cX5_joinedOf 31 = .ok (.iaload, 1) := by decide +kernel
theorem dX5_joinedOf_32 : decode cX5_joinedOf 32 = .ok (.iload_n 1, 1) := by decide +kernel
theorem dX5_joinedOf_33 : decode cX5_joinedOf 33 = .ok (.if_icmp .ne 6, 3) := by decide +kernel
theorem dX5_joinedOf_36 : decode cX5_joinedOf 36 = .ok (.iinc 2 1, 3) := by decide +kernel
theorem dX5_joinedOf_39 : decode cX5_joinedOf 39 = .ok (.iinc 3 1, 3) := by decide +kernel
theorem dX5_joinedOf_42 : decode cX5_joinedOf 42 = .ok (.goto (-38), 3) := by decide +kernel
theorem dX5_joinedOf_45 : decode cX5_joinedOf 45 = .ok (.iload_n 2, 1) := by decide +kernel
theorem dX5_joinedOf_46 : decode cX5_joinedOf 46 = .ok (.ireturn, 1) := by decide +kernel
theorem dX5_textAt_0 : decode cX5_textAt 0 = .ok (.iconst 0, 1) := by decide +kernel
theorem dX5_textAt_1 : decode cX5_textAt 1 = .ok (.istore_n 3, 1) := by decide +kernel
theorem dX5_textAt_2 : decode cX5_textAt 2 = .ok (.iconst 0, 1) := by decide +kernel
theorem dX5_textAt_3 : decode cX5_textAt 3 = .ok (.istore 4, 2) := by decide +kernel
theorem dX5_textAt_5 : decode cX5_textAt 5 = .ok (.iload 4, 2) := by decide +kernel
theorem dX5_textAt_7 : decode cX5_textAt 7 = .ok (.aload_n 0, 1) := by decide +kernel
theorem dX5_textAt_8 : decode cX5_textAt 8 = .ok (.getfield 42, 3) := by decide +kernel
theorem dX5_textAt_11 : decode cX5_textAt 11 = .ok (.if_icmp .ge 41, 3) := by decide +kernel
theorem dX5_textAt_14 : decode cX5_textAt 14 = .ok (.aload_n 0, 1) := by decide +kernel
theorem dX5_textAt_15 : decode cX5_textAt 15 = .ok (.getfield 21, 3) := by decide +kernel
theorem dX5_textAt_18 : decode cX5_textAt 18 = .ok (.aload_n 0, 1) := by decide +kernel
theorem dX5_textAt_19 : decode cX5_textAt 19 = .ok (.getfield 27, 3) := by decide +kernel
theorem dX5_textAt_22 : decode cX5_textAt 22 = .ok (.iload 4, 2) := by decide +kernel
theorem dX5_textAt_24 : decode cX5_textAt 24 = .ok (.iaload, 1) := by decide +kernel
theorem dX5_textAt_25 : decode cX5_textAt 25 = .ok (.iaload, 1) := by decide +kernel
theorem dX5_textAt_26 : decode cX5_textAt 26 = .ok (.iload_n 1, 1) := by decide +kernel
theorem dX5_textAt_27 : decode cX5_textAt 27 = .ok (.if_icmp .ne 19, 3) := by decide +kernel
theorem dX5_textAt_30 : decode cX5_textAt 30 = .ok (.iload_n 3, 1) := by decide +kernel
theorem dX5_textAt_31 : decode cX5_textAt 31 = .ok (.iload_n 2, 1) := by decide +kernel
theorem dX5_textAt_32 : decode cX5_textAt 32 = .ok (.if_icmp .ne 11, 3) := by decide +kernel
theorem dX5_textAt_35 : decode cX5_textAt 35 = .ok (.aload_n 0, 1) := by decide +kernel
theorem dX5_textAt_36 : decode cX5_textAt 36 = .ok (.getfield 27, 3) := by decide +kernel
theorem dX5_textAt_39 : decode cX5_textAt 39 = .ok (.iload 4, 2) := by decide +kernel
theorem dX5_textAt_41 : decode cX5_textAt 41 = .ok (.iaload, 1) := by decide +kernel
theorem dX5_textAt_42 : decode cX5_textAt 42 = .ok (.ireturn, 1) := by decide +kernel
theorem dX5_textAt_43 : decode cX5_textAt 43 = .ok (.iinc 3 1, 3) := by decide +kernel
theorem dX5_textAt_46 : decode cX5_textAt 46 = .ok (.iinc 4 1, 3) := by decide +kernel
theorem dX5_textAt_49 : decode cX5_textAt 49 = .ok (.goto (-44), 3) := by decide +kernel
theorem dX5_textAt_52 : decode cX5_textAt 52 = .ok (.bipush (-9), 2) := by decide +kernel
theorem dX5_textAt_54 : decode cX5_textAt 54 = .ok (.ireturn, 1) := by decide +kernel
theorem dX5_manyJoined_0 : decode cX5_manyJoined 0 = .ok (.iconst 0, 1) := by decide +kernel
theorem dX5_manyJoined_1 : decode cX5_manyJoined 1 = .ok (.istore_n 1, 1) := by decide +kernel
theorem dX5_manyJoined_2 : decode cX5_manyJoined 2 = .ok (.iconst 0, 1) := by decide +kernel
theorem dX5_manyJoined_3 : decode cX5_manyJoined 3 = .ok (.istore_n 2, 1) := by decide +kernel
theorem dX5_manyJoined_4 : decode cX5_manyJoined 4 = .ok (.iload_n 2, 1) := by decide +kernel
theorem dX5_manyJoined_5 : decode cX5_manyJoined 5 = .ok (.aload_n 0, 1) := by decide +kernel
theorem dX5_manyJoined_6 : decode cX5_manyJoined 6 = .ok (.getfield 30, 3) := by decide +kernel
theorem dX5_manyJoined_9 : decode cX5_manyJoined 9 = .ok (.getfield 46, 3) := by decide +kernel
theorem dX5_manyJoined_12 : decode cX5_manyJoined 12 = .ok (.if_icmp .ge 23, 3) := by decide +kernel
theorem dX5_manyJoined_15 : decode cX5_manyJoined 15 = .ok (.aload_n 0, 1) := by decide +kernel
theorem dX5_manyJoined_16 : decode cX5_manyJoined 16 = .ok (.getfield 15, 3) := by decide +kernel
theorem dX5_manyJoined_19 : decode cX5_manyJoined 19 = .ok (.iload_n 2, 1) := by decide +kernel
theorem dX5_manyJoined_20 : decode cX5_manyJoined 20 = .ok (.iaload, 1) := by decide +kernel
theorem dX5_manyJoined_21 : decode cX5_manyJoined 21 = .ok (.bipush (-9), 2) := by decide +kernel
theorem dX5_manyJoined_23 : decode cX5_manyJoined 23 = .ok (.if_icmp .eq 6, 3) := by decide +kernel
theorem dX5_manyJoined_26 : decode cX5_manyJoined 26 = .ok (.iinc 1 1, 3) := by decide +kernel
theorem dX5_manyJoined_29 : decode cX5_manyJoined 29 = .ok (.iinc 2 1, 3) := by decide +kernel
theorem dX5_manyJoined_32 : decode cX5_manyJoined 32 = .ok (.goto (-28), 3) := by decide +kernel
theorem dX5_manyJoined_35 : decode cX5_manyJoined 35 = .ok (.iload_n 1, 1) := by decide +kernel
theorem dX5_manyJoined_36 : decode cX5_manyJoined 36 = .ok (.ireturn, 1) := by decide +kernel
theorem dX5_manyLeftOver_0 : decode cX5_manyLeftOver 0 = .ok (.aload_n 0, 1) := by decide +kernel
theorem dX5_manyLeftOver_1 : decode cX5_manyLeftOver 1 = .ok (.getfield 121, 3) := by decide +kernel
theorem dX5_manyLeftOver_4 : decode cX5_manyLeftOver 4 = .ok (.aload_n 0, 1) := by decide +kernel
theorem dX5_manyLeftOver_5 : decode cX5_manyLeftOver 5 = .ok (.getfield 30, 3) := by decide +kernel
theorem dX5_manyLeftOver_8 : decode cX5_manyLeftOver 8 = .ok (.iconst 0, 1) := by decide +kernel
theorem dX5_manyLeftOver_9 : decode cX5_manyLeftOver 9 = .ok (.invokevirtual 125, 3) := by decide +kernel
theorem dX5_manyLeftOver_12 : decode cX5_manyLeftOver 12 = .ok (.isub, 1) := by decide +kernel
theorem dX5_manyLeftOver_13 : decode cX5_manyLeftOver 13 = .ok (.ireturn, 1) := by decide +kernel
theorem dX5_manyLoosePictures_0 : decode cX5_manyLoosePictures 0 = .ok (.iconst 0, 1) := by decide +kernel
theorem dX5_manyLoosePictures_1 : decode cX5_manyLoosePictures 1 = .ok (.istore_n 1, 1) := by decide +kernel
theorem dX5_manyLoosePictures_2 : decode cX5_manyLoosePictures 2 = .ok (.iconst 0, 1) := by decide +kernel
theorem dX5_manyLoosePictures_3 : decode cX5_manyLoosePictures 3 = .ok (.istore_n 2, 1) := by decide +kernel
theorem dX5_manyLoosePictures_4 : decode cX5_manyLoosePictures 4 = .ok (.iload_n 2, 1) := by decide +kernel
theorem dX5_manyLoosePictures_5 : decode cX5_manyLoosePictures 5 = .ok (.aload_n 0, 1) := by decide +kernel
theorem dX5_manyLoosePictures_6 : decode cX5_manyLoosePictures 6 = .ok (.getfield 30, 3) := by decide +kernel
theorem dX5_manyLoosePictures_9 : decode cX5_manyLoosePictures 9 = .ok (.getfield 46, 3) := by decide +kernel
theorem dX5_manyLoosePictures_12 : decode cX5_manyLoosePictures 12 = .ok (.if_icmp .ge 36, 3) := by decide +kernel
theorem dX5_manyLoosePictures_15 : decode cX5_manyLoosePictures 15 = .ok (.aload_n 0, 1) := by decide +kernel
theorem dX5_manyLoosePictures_16 : decode cX5_manyLoosePictures 16 = .ok (.getfield 30, 3) := by decide +kernel
theorem dX5_manyLoosePictures_19 : decode cX5_manyLoosePictures 19 = .ok (.getfield 51, 3) := by decide +kernel
theorem dX5_manyLoosePictures_22 : decode cX5_manyLoosePictures 22 = .ok (.iload_n 2, 1) := by decide +kernel
theorem dX5_manyLoosePictures_23 : decode cX5_manyLoosePictures 23 = .ok (.iaload, 1) := by decide +kernel
theorem dX5_manyLoosePictures_24 : decode cX5_manyLoosePictures 24 = .ok (.iconst 2, 1) := by decide +kernel
theorem dX5_manyLoosePictures_25 : decode cX5_manyLoosePictures 25 = .ok (.if_icmp .ne 17, 3) := by decide +kernel
theorem dX5_manyLoosePictures_28 : decode cX5_manyLoosePictures 28 = .ok (.aload_n 0, 1) := by decide +kernel
theorem dX5_manyLoosePictures_29 : decode cX5_manyLoosePictures 29 = .ok (.getfield 9, 3) := by decide +kernel
theorem dX5_manyLoosePictures_32 : decode cX5_manyLoosePictures 32 = .ok (.iload_n 2, 1) := by decide +kernel
theorem dX5_manyLoosePictures_33 : decode cX5_manyLoosePictures 33 = .ok (.iaload, 1) := by decide +kernel
theorem dX5_manyLoosePictures_34 : decode cX5_manyLoosePictures 34 = .ok (.bipush (-9), 2) := by decide +kernel
theorem dX5_manyLoosePictures_36 : decode cX5_manyLoosePictures 36 = .ok (.if_icmp .ne 6, 3) := by decide +kernel
theorem dX5_manyLoosePictures_39 : decode cX5_manyLoosePictures 39 = .ok (.iinc 1 1, 3) := by decide +kernel
theorem dX5_manyLoosePictures_42 : decode cX5_manyLoosePictures 42 = .ok (.iinc 2 1, 3) := by decide +kernel
theorem dX5_manyLoosePictures_45 : decode cX5_manyLoosePictures 45 = .ok (.goto (-41), 3) := by decide +kernel
theorem dX5_manyLoosePictures_48 : decode cX5_manyLoosePictures 48 = .ok (.iload_n 1, 1) := by decide +kernel
theorem dX5_manyLoosePictures_49 : decode cX5_manyLoosePictures 49 = .ok (.ireturn, 1) := by decide +kernel
theorem dX6_init_0 : decode cX6_init 0 = .ok (.aload_n 0, 1) := by decide +kernel
theorem dX6_init_1 : decode cX6_init 1 = .ok (.invokespecial 1, 3) := by decide +kernel
theorem dX6_init_4 : decode cX6_init 4 = .ok (.aload_n 0, 1) := by decide +kernel
theorem dX6_init_5 : decode cX6_init 5 = .ok (.new 7, 3) := by decide +kernel
theorem dX6_init_8 : decode cX6_init 8 = .ok (.dup, 1) := by decide +kernel
theorem dX6_init_9 : decode cX6_init 9 = .ok (.invokespecial 9, 3) := by decide +kernel
theorem dX6_init_12 : decode cX6_init 12 = .ok (.putfield 10, 3) := by decide +kernel
theorem dX6_init_15 : decode cX6_init 15 = .ok (.aload_n 0, 1) := by decide +kernel
theorem dX6_init_16 : decode cX6_init 16 = .ok (.new 16, 3) := by decide +kernel
theorem dX6_init_19 : decode cX6_init 19 = .ok (.dup, 1) := by decide +kernel
theorem dX6_init_20 : decode cX6_init 20 = .ok (.invokespecial 18, 3) := by decide +kernel
theorem dX6_init_23 : decode cX6_init 23 = .ok (.putfield 19, 3) := by decide +kernel
theorem dX6_init_26 : decode cX6_init 26 = .ok (.aload_n 0, 1) := by decide +kernel
theorem dX6_init_27 : decode cX6_init 27 = .ok (.new 23, 3) := by decide +kernel
theorem dX6_init_30 : decode cX6_init 30 = .ok (.dup, 1) := by decide +kernel
theorem dX6_init_31 : decode cX6_init 31 = .ok (.invokespecial 25, 3) := by decide +kernel
theorem dX6_init_34 : decode cX6_init 34 = .ok (.putfield 26, 3) := by decide +kernel
theorem dX6_init_37 : decode cX6_init 37 = .ok (.aload_n 0, 1) := by decide +kernel
theorem dX6_init_38 : decode cX6_init 38 = .ok (.new 30, 3) := by decide +kernel
theorem dX6_init_41 : decode cX6_init 41 = .ok (.dup, 1) := by decide +kernel
theorem dX6_init_42 : decode cX6_init 42 = .ok (.aload_n 0, 1) := by decide +kernel
theorem dX6_init_43 : decode cX6_init 43 = .ok (.getfield 10, 3) := by decide +kernel
theorem dX6_init_46 : decode cX6_init 46 = .ok (.aload_n 0, 1) := by decide +kernel
theorem dX6_init_47 : decode cX6_init 47 = .ok (.getfield 26, 3) := by decide +kernel
theorem dX6_init_50 : decode cX6_init 50 = .ok (.invokespecial 32, 3) := by decide +kernel
theorem dX6_init_53 : decode cX6_init 53 = .ok (.putfield 35, 3) := by decide +kernel
theorem dX6_init_56 : decode cX6_init 56 = .ok (.aload_n 0, 1) := by decide +kernel
theorem dX6_init_57 : decode cX6_init 57 = .ok (.new 39, 3) := by decide +kernel
theorem dX6_init_60 : decode cX6_init 60 = .ok (.dup, 1) := by decide +kernel
theorem dX6_init_61 : decode cX6_init 61 = .ok (.aload_n 0, 1) := by decide +kernel
theorem dX6_init_62 : decode cX6_init 62 = .ok (.getfield 10, 3) := by decide +kernel
theorem dX6_init_65 : decode cX6_init 65 = .ok (.aload_n 0, 1) := by decide +kernel
theorem dX6_init_66 : decode cX6_init 66 = .ok (.getfield 26, 3) := by decide +kernel
theorem dX6_init_69 : decode cX6_init 69 = .ok (.aload_n 0, 1) := by decide +kernel
theorem dX6_init_70 : decode cX6_init 70 = .ok (.getfield 35, 3) := by decide +kernel
theorem dX6_init_73 : decode cX6_init 73 = .ok (.invokespecial 41, 3) := by decide +kernel
theorem dX6_init_76 : decode cX6_init 76 = .ok (.putfield 44, 3) := by decide +kernel
theorem dX6_init_79 : decode cX6_init 79 = .ok (.aload_n 0, 1) := by decide +kernel
theorem dX6_init_80 : decode cX6_init 80 = .ok (.new 48, 3) := by decide +kernel
theorem dX6_init_83 : decode cX6_init 83 = .ok (.dup, 1) := by decide +kernel
theorem dX6_init_84 : decode cX6_init 84 = .ok (.aload_n 0, 1) := by decide +kernel
theorem dX6_init_85 : decode cX6_init 85 = .ok (.getfield 10, 3) := by decide +kernel
theorem dX6_init_88 : decode cX6_init 88 = .ok (.aload_n 0, 1) := by decide +kernel
theorem dX6_init_89 : decode cX6_init 89 = .ok (.getfield 19, 3) := by decide +kernel
theorem dX6_init_92 : decode cX6_init 92 = .ok (.aload_n 0, 1) := by decide +kernel
theorem dX6_init_93 : decode cX6_init 93 = .ok (.getfield 44, 3) := by decide +kernel
theorem dX6_init_96 : decode cX6_init 96 = .ok (.invokespecial 50, 3) := by decide +kernel
theorem dX6_init_99 : decode cX6_init 99 = .ok (.putfield 53, 3) := by decide +kernel
theorem dX6_init_102 : decode cX6_init 102 = .ok (.aload_n 0, 1) := by decide +kernel
theorem dX6_init_103 : decode cX6_init 103 = .ok (.iconst 1, 1) := by decide +kernel
theorem dX6_init_104 : decode cX6_init 104 = .ok (.putfield 57, 3) := by decide +kernel
theorem dX6_init_107 : decode cX6_init 107 = .ok (.return_, 1) := by decide +kernel
theorem dX6_block_0 : decode cX6_block 0 = .ok (.iload_n 1, 1) := by decide +kernel
theorem dX6_block_1 : decode cX6_block 1 = .ok (.iconst 4, 1) := by decide +kernel
theorem dX6_block_2 : decode cX6_block 2 = .ok (.invokestatic 61, 3) := by decide +kernel
theorem dX6_block_5 : decode cX6_block 5 = .ok (.ifCond .eq 11, 3) := by decide +kernel
theorem dX6_block_8 : decode cX6_block 8 = .ok (.iload_n 2, 1) := by decide +kernel
theorem dX6_block_9 : decode cX6_block 9 = .ok (.iconst 3, 1) := by decide +kernel
theorem dX6_block_10 : decode cX6_block 10 = .ok (.invokestatic 61, 3) := by decide +kernel
theorem dX6_block_13 : decode cX6_block 13 = .ok (.ifCond .ne 6, 3) := by decide +kernel
theorem dX6_block_16 : decode cX6_block 16 = .ok (.bipush (-2), 2) := by decide +kernel
theorem dX6_block_18 : decode cX6_block 18 = .ok (.ireturn, 1) := by decide +kernel
theorem dX6_block_19 : decode cX6_block 19 = .ok (.iload_n 3, 1) := by decide +kernel
theorem dX6_block_20 : decode cX6_block 20 = .ok (.iload 4, 2) := by decide +kernel
theorem dX6_block_22 : decode cX6_block 22 = .ok (.bipush 8, 2) := by decide +kernel
theorem dX6_block_24 : decode cX6_block 24 = .ok (.invokestatic 65, 3) := by decide +kernel
theorem dX6_block_27 : decode cX6_block 27 = .ok (.ifCond .eq 15, 3) := by decide +kernel
theorem dX6_block_30 : decode cX6_block 30 = .ok (.iload 5, 2) := by decide +kernel
theorem dX6_block_32 : decode cX6_block 32 = .ok (.iload 6, 2) := by decide +kernel
theorem dX6_block_34 : decode cX6_block 34 = .ok (.bipush 30, 2) := by decide +kernel
theorem dX6_block_36 : decode cX6_block 36 = .ok (.invokestatic 65, 3) := by decide +kernel
theorem dX6_block_39 : decode cX6_block 39 = .ok (.ifCond .ne 6, 3) := by decide +kernel
theorem dX6_block_42 : decode cX6_block 42 = .ok (.bipush (-2), 2) := by decide +kernel
theorem dX6_block_44 : decode cX6_block 44 = .ok (.ireturn, 1) := by decide +kernel
theorem dX6_block_45 : decode cX6_block 45 = .ok (.aload_n 0, 1) := by decide +kernel
theorem dX6_block_46 : decode cX6_block 46 = .ok (.getfield 10, 3) := by decide +kernel
theorem dX6_block_49 : decode cX6_block 49 = .ok (.iload_n 1, 1) := by decide +kernel
theorem dX6_block_50 : decode cX6_block 50 = .ok (.iload_n 3, 1) := by decide +kernel
theorem dX6_block_51 : decode cX6_block 51 = .ok (.iload 4, 2) := by decide +kernel
theorem dX6_block_53 : decode cX6_block 53 = .ok (.iload 5, 2) := by decide +kernel
theorem dX6_block_55 : decode cX6_block 55 = .ok (.iload 6, 2) := by decide +kernel
theorem dX6_block_57 : decode cX6_block 57 = .ok (.invokevirtual 69, 3) := by decide +kernel
theorem dX6_block_60 : decode cX6_block 60 = .ok (.ifCond .eq 6, 3) := by decide +kernel
theorem dX6_block_63 : decode cX6_block 63 = .ok (.bipush (-3), 2) := by decide +kernel
theorem dX6_block_65 : decode cX6_block 65 = .ok (.ireturn, 1) := by decide +kernel
theorem dX6_block_66 : decode cX6_block 66 = .ok (.aload_n 0, 1) := by decide +kernel
theorem dX6_block_67 : decode cX6_block 67 = .ok (.getfield 10, 3) := by decide +kernel
theorem dX6_block_70 : decode cX6_block 70 = .ok (.getfield 73, 3) := by decide +kernel
theorem dX6_block_73 : decode cX6_block 73 = .ok (.bipush 24, 2) := by decide +kernel
theorem dX6_block_75 : decode cX6_block 75 = .ok (.if_icmp .lt 6, 3) := by decide +kernel
theorem dX6_block_78 : decode cX6_block 78 = .ok (.bipush (-4), 2) := by decide +kernel
theorem dX6_block_80 : decode cX6_block 80 = .ok (.ireturn, 1) := by decide +kernel
theorem dX6_block_81 : decode cX6_block 81 = .ok (.aload_n 0, 1) := by decide +kernel
theorem dX6_block_82 : decode cX6_block 82 = .ok (.getfield 19, 3) := by decide +kernel
theorem dX6_block_85 : decode cX6_block 85 = .ok (.aload_n 0, 1) := by decide +kernel
theorem dX6_block_86 : decode cX6_block 86 = .ok (.getfield 10, 3) := by decide +kernel
theorem dX6_block_89 : decode cX6_block 89 = .ok (.getfield 73, 3) := by decide +kernel
theorem dX6_block_92 : decode cX6_block 92 = .ok (.invokevirtual 77, 3) := by decide +kernel
theorem dX6_block_95 : decode cX6_block 95 = .ok (.aload_n 0, 1) := by decide +kernel
theorem dX6_block_96 : decode cX6_block 96 = .ok (.iconst 1, 1) := by decide +kernel
theorem dX6_block_97 : decode cX6_block 97 = .ok (.putfield 57, 3) := by decide +kernel
theorem dX6_block_100 : decode cX6_block 100 = .ok (.aload_n 0, 1) := by decide +kernel
theorem dX6_block_101 : decode cX6_block 101 = .ok (.getfield 10, 3) := by decide +kernel
theorem dX6_block_104 : decode cX6_block 104 = .ok (.iload_n 1, 1) := by decide +kernel
theorem dX6_block_105 : decode cX6_block 105 = .ok (.iload_n 2, 1) := by decide +kernel
theorem dX6_block_106 : decode cX6_block 106 = .ok (.iload_n 3, 1) := by decide +kernel
theorem dX6_block_107 : decode cX6_block 107 = .ok (.iload 4, 2) := by decide +kernel
theorem dX6_block_109 : decode cX6_block 109 = .ok (.iload 5, 2) := by decide +kernel
theorem dX6_block_111 : decode cX6_block 111 = .ok (.iload 6, 2) := by decide +kernel
theorem dX6_block_113 : decode cX6_block 113 = .ok (.invokevirtual 81, 3) := by decide +kernel
theorem dX6_block_116 : decode cX6_block 116 = .ok (.ireturn, 1) := by decide +kernel
theorem dX6_words_0 : decode cX6_words 0 = .ok (.aload_n 0, 1) := by decide +kernel
theorem dX6_words_1 : decode cX6_words 1 = .ok (.getfield 10, 3) := by decide +kernel
theorem dX6_words_4 : decode cX6_words 4 = .ok (.iload_n 1, 1) := by decide +kernel
theorem dX6_words_5 : decode cX6_words 5 = .ok (.invokevirtual 85, 3) := by decide +kernel
theorem dX6_words_8 : decode cX6_words 8 = .ok (.ifCond .ne 5, 3) := by decide +kernel
theorem dX6_words_11 : decode cX6_words 11 = .ok (.iconst (-1), 1) := by decide +kernel
theorem dX6_words_12 : decode cX6_words 12 = .ok (.ireturn, 1) := by decide +kernel
theorem dX6_words_13 : decode cX6_words 13 = .ok (.iload_n 2, 1) := by decide +kernel
theorem dX6_words_14 : decode cX6_words 14 = .ok (.iconst 1, 1) := by decide +kernel
theorem dX6_words_15 : decode cX6_words 15 = .ok (.if_icmp .lt 9, 3) := by decide +kernel
theorem dX6_words_18 : decode cX6_words 18 = .ok (.iload_n 2, 1) := by decide +kernel
theorem dX6_words_19 : decode cX6_words 19 = .ok (.bipush 99, 2) := by decide +kernel
theorem dX6_words_21 : decode cX6_words 21 = .ok (.if_icmp .le 6, 3) := by decide +kernel
theorem dX6_words_24 : decode cX6_words 24 = .ok (.bipush (-2), 2) := by decide +kernel
theorem dX6_words_26 : decode cX6_words 26 = .ok (.ireturn, 1) := by decide +kernel
theorem dX6_words_27 : decode cX6_words 27 = .ok (.aload_n 0, 1) := by decide +kernel
theorem dX6_words_28 : decode cX6_words 28 = .ok (.getfield 10, 3) := by decide +kernel
theorem dX6_words_31 : decode cX6_words 31 = .ok (.getfield 89, 3) := by decide +kernel
theorem dX6_words_34 : decode cX6_words 34 = .ok (.iload_n 1, 1) := by decide +kernel
theorem dX6_words_35 : decode cX6_words 35 = .ok (.iaload, 1) := by decide +kernel
theorem dX6_words_36 : decode cX6_words 36 = .ok (.iconst 1, 1) := by decide +kernel
theorem dX6_words_37 : decode cX6_words 37 = .ok (.if_icmp .eq 6, 3) := by decide +kernel
theorem dX6_words_40 : decode cX6_words 40 = .ok (.bipush (-3), 2) := by decide +kernel
theorem dX6_words_42 : decode cX6_words 42 = .ok (.ireturn, 1) := by decide +kernel
theorem dX6_words_43 : decode cX6_words 43 = .ok (.aload_n 0, 1) := by decide +kernel
theorem dX6_words_44 : decode cX6_words 44 = .ok (.getfield 10, 3) := by decide +kernel
theorem dX6_words_47 : decode cX6_words 47 = .ok (.getfield 93, 3) := by decide +kernel
theorem dX6_words_50 : decode cX6_words 50 = .ok (.iload_n 1, 1) := by decide +kernel
theorem dX6_words_51 : decode cX6_words 51 = .ok (.iaload, 1) := by decide +kernel
theorem dX6_words_52 : decode cX6_words 52 = .ok (.istore_n 3, 1) := by decide +kernel
theorem dX6_words_53 : decode cX6_words 53 = .ok (.aload_n 0, 1) := by decide +kernel
theorem dX6_words_54 : decode cX6_words 54 = .ok (.getfield 10, 3) := by decide +kernel
theorem dX6_words_57 : decode cX6_words 57 = .ok (.getfield 93, 3) := by decide +kernel
theorem dX6_words_60 : decode cX6_words 60 = .ok (.iload_n 1, 1) := by decide +kernel
theorem dX6_words_61 : decode cX6_words 61 = .ok (.iload_n 2, 1) := by decide +kernel
theorem dX6_words_62 : decode cX6_words 62 = .ok (.iastore, 1) := by decide +kernel
theorem dX6_words_63 : decode cX6_words 63 = .ok (.iload_n 3, 1) := by decide +kernel
theorem dX6_words_64 : decode cX6_words 64 = .ok (.ireturn, 1) := by decide +kernel
theorem dX6_line_0 : decode cX6_line 0 = .ok (.iload_n 1, 1) := by decide +kernel
theorem dX6_line_1 : decode cX6_line 1 = .ok (.iconst 4, 1) := by decide +kernel
theorem dX6_line_2 : decode cX6_line 2 = .ok (.invokestatic 61, 3) := by decide +kernel
theorem dX6_line_5 : decode cX6_line 5 = .ok (.ifCond .eq 11, 3) := by decide +kernel
theorem dX6_line_8 : decode cX6_line 8 = .ok (.iload_n 2, 1) := by decide +kernel
theorem dX6_line_9 : decode cX6_line 9 = .ok (.iconst 2, 1) := by decide +kernel
theorem dX6_line_10 : decode cX6_line 10 = .ok (.invokestatic 61, 3) := by decide +kernel
theorem dX6_line_13 : decode cX6_line 13 = .ok (.ifCond .ne 6, 3) := by decide +kernel
theorem dX6_line_16 : decode cX6_line 16 = .ok (.bipush (-2), 2) := by decide +kernel
theorem dX6_line_18 : decode cX6_line 18 = .ok (.ireturn, 1) := by decide +kernel
theorem dX6_line_19 : decode cX6_line 19 = .ok (.iload_n 2, 1) := by decide +kernel
theorem dX6_line_20 : decode cX6_line 20 = .ok (.ifCond .ne 8, 3) := by decide +kernel
theorem dX6_line_23 : decode cX6_line 23 = .ok (.bipush 8, 2) := by decide +kernel
theorem dX6_line_25 : decode cX6_line 25 = .ok (.goto 5, 3) := by decide +kernel
theorem dX6_line_28 : decode cX6_line 28 = .ok (.bipush 30, 2) := by decide +kernel
theorem dX6_line_30 : decode cX6_line 30 = .ok (.istore 6, 2) := by decide +kernel
theorem dX6_line_32 : decode cX6_line 32 = .ok (.iload_n 2, 1) := by decide +kernel
theorem dX6_line_33 : decode cX6_line 33 = .ok (.ifCond .ne 8, 3) := by decide +kernel
theorem dX6_line_36 : decode cX6_line 36 = .ok (.bipush 30, 2) := by decide +kernel
theorem dX6_line_38 : decode cX6_line 38 = .ok (.goto 5, 3) := by decide +kernel
theorem dX6_line_41 : decode cX6_line 41 = .ok (.bipush 8, 2) := by decide +kernel
theorem dX6_line_43 : decode cX6_line 43 = .ok (.istore 7, 2) := by decide +kernel
theorem dX6_line_45 : decode cX6_line 45 = .ok (.iload_n 3, 1) := by decide +kernel
theorem dX6_line_46 : decode cX6_line 46 = .ok (.iconst 1, 1) := by decide +kernel
theorem dX6_line_47 : decode cX6_line 47 = .ok (.if_icmp .lt 21, 3) := by decide +kernel
theorem dX6_line_50 : decode cX6_line 50 = .ok (.iload_n 3, 1) := by decide +kernel
theorem dX6_line_51 : decode cX6_line 51 = .ok (.iload 6, 2) := by decide +kernel
theorem dX6_line_53 : decode cX6_line 53 = .ok (.if_icmp .ge 15, 3) := by decide +kernel
theorem dX6_line_56 : decode cX6_line 56 = .ok (.iload 4, 2) := by decide +kernel
theorem dX6_line_58 : decode cX6_line 58 = .ok (.iload 5, 2) := by decide +kernel
theorem dX6_line_60 : decode cX6_line 60 = .ok (.iload 7, 2) := by decide +kernel
theorem dX6_line_62 : decode cX6_line 62 = .ok (.invokestatic 65, 3) := by decide +kernel
theorem dX6_line_65 : decode cX6_line 65 = .ok (.ifCond .ne 6, 3) := by decide +kernel
theorem dX6_line_68 : decode cX6_line 68 = .ok (.bipush (-2), 2) := by decide +kernel
theorem dX6_line_70 : decode cX6_line 70 = .ok (.ireturn, 1) := by decide +kernel
theorem dX6_line_71 : decode cX6_line 71 = .ok (.aload_n 0, 1) := by decide +kernel
theorem dX6_line_72 : decode cX6_line 72 = .ok (.getfield 26, 3) := by decide +kernel
theorem dX6_line_75 : decode cX6_line 75 = .ok (.getfield 96, 3) := by decide +kernel
theorem dX6_line_78 : decode cX6_line 78 = .ok (.bipush 12, 2) := by decide +kernel
theorem dX6_line_80 : decode cX6_line 80 = .ok (.if_icmp .lt 6, 3) := by decide +kernel
theorem dX6_line_83 : decode cX6_line 83 = .ok (.bipush (-4), 2) := by decide +kernel
theorem dX6_line_85 : decode cX6_line 85 = .ok (.ireturn, 1) := by decide +kernel
theorem dX6_line_86 : decode cX6_line 86 = .ok (.aload_n 0, 1) := by decide +kernel
theorem dX6_line_87 : decode cX6_line 87 = .ok (.iconst 1, 1) := by decide +kernel
theorem dX6_line_88 : decode cX6_line 88 = .ok (.putfield 57, 3) := by decide +kernel
theorem dX6_line_91 : decode cX6_line 91 = .ok (.aload_n 0, 1) := by decide +kernel
theorem dX6_line_92 : decode cX6_line 92 = .ok (.getfield 26, 3) := by decide +kernel
theorem dX6_line_95 : decode cX6_line 95 = .ok (.iload_n 1, 1) := by decide +kernel
theorem dX6_line_96 : decode cX6_line 96 = .ok (.iload_n 2, 1) := by decide +kernel
theorem dX6_line_97 : decode cX6_line 97 = .ok (.iload_n 3, 1) := by decide +kernel
theorem dX6_line_98 : decode cX6_line 98 = .ok (.iload 4, 2) := by decide +kernel
theorem dX6_line_100 : decode cX6_line 100 = .ok (.iload 5, 2) := by decide +kernel
theorem dX6_line_102 : decode cX6_line 102 = .ok (.invokevirtual 97, 3) := by decide +kernel
theorem dX6_line_105 : decode cX6_line 105 = .ok (.ireturn, 1) := by decide +kernel
theorem dX6_back_0 : decode cX6_back 0 = .ok (.aload_n 0, 1) := by decide +kernel
theorem dX6_back_1 : decode cX6_back 1 = .ok (.getfield 10, 3) := by decide +kernel
theorem dX6_back_4 : decode cX6_back 4 = .ok (.getfield 73, 3) := by decide +kernel
theorem dX6_back_7 : decode cX6_back 7 = .ok (.iconst 1, 1) := by decide +kernel
theorem dX6_back_8 : decode cX6_back 8 = .ok (.if_icmp .ge 6, 3) := by decide +kernel
theorem dX6_back_11 : decode cX6_back 11 = .ok (.bipush (-3), 2) := by decide +kernel
theorem dX6_back_13 : decode cX6_back 13 = .ok (.ireturn, 1) := by decide +kernel
theorem dX6_back_14 : decode cX6_back 14 = .ok (.aload_n 0, 1) := by decide +kernel
theorem dX6_back_15 : decode cX6_back 15 = .ok (.getfield 10, 3) := by decide +kernel
theorem dX6_back_18 : decode cX6_back 18 = .ok (.dup, 1) := by decide +kernel
theorem dX6_back_19 : decode cX6_back 19 = .ok (.getfield 73, 3) := by decide +kernel
theorem dX6_back_22 : decode cX6_back 22 = .ok (.iconst 1, 1) := by decide +kernel
theorem dX6_back_23 : decode cX6_back 23 = .ok (.isub, 1) := by decide +kernel
theorem dX6_back_24 : decode cX6_back 24 = .ok (.putfield 73, 3) := by decide +kernel
theorem dX6_back_27 : decode cX6_back 27 = .ok (.aload_n 0, 1) := by decide +kernel
theorem dX6_back_28 : decode cX6_back 28 = .ok (.iconst 1, 1) := by decide +kernel
theorem dX6_back_29 : decode cX6_back 29 = .ok (.putfield 57, 3) := by decide +kernel
theorem dX6_back_32 : decode cX6_back 32 = .ok (.aload_n 0, 1) := by decide +kernel
theorem dX6_back_33 : decode cX6_back 33 = .ok (.getfield 10, 3) := by decide +kernel
theorem dX6_back_36 : decode cX6_back 36 = .ok (.getfield 73, 3) := by decide +kernel
theorem dX6_back_39 : decode cX6_back 39 = .ok (.ireturn, 1) := by decide +kernel
theorem dX6_erase_0 : decode cX6_erase 0 = .ok (.aload_n 0, 1) := by decide +kernel
theorem dX6_erase_1 : decode cX6_erase 1 = .ok (.getfield 26, 3) := by decide +kernel
theorem dX6_erase_4 : decode cX6_erase 4 = .ok (.getfield 96, 3) := by decide +kernel
theorem dX6_erase_7 : decode cX6_erase 7 = .ok (.iconst 1, 1) := by decide +kernel
theorem dX6_erase_8 : decode cX6_erase 8 = .ok (.if_icmp .ge 6, 3) := by decide +kernel
theorem dX6_erase_11 : decode cX6_erase 11 = .ok (.bipush (-3), 2) := by decide +kernel
theorem dX6_erase_13 : decode cX6_erase 13 = .ok (.ireturn, 1) := by decide +kernel
theorem dX6_erase_14 : decode cX6_erase 14 = .ok (.aload_n 0, 1) := by decide +kernel
theorem dX6_erase_15 : decode cX6_erase 15 = .ok (.getfield 26, 3) := by decide +kernel
theorem dX6_erase_18 : decode cX6_erase 18 = .ok (.dup, 1) := by decide +kernel
theorem dX6_erase_19 : decode cX6_erase 19 = .ok (.getfield 96, 3) := by decide +kernel
theorem dX6_erase_22 : decode cX6_erase 22 = .ok (.iconst 1, 1) := by decide +kernel
theorem dX6_erase_23 : decode cX6_erase 23 = .ok (.isub, 1) := by decide +kernel
theorem dX6_erase_24 : decode cX6_erase 24 = .ok (.putfield 96, 3) := by decide +kernel
theorem dX6_erase_27 : decode cX6_erase 27 = .ok (.aload_n 0, 1) := by decide +kernel
theorem dX6_erase_28 : decode cX6_erase 28 = .ok (.iconst 1, 1) := by decide +kernel
theorem dX6_erase_29 : decode cX6_erase 29 = .ok (.putfield 57, 3) := by decide +kernel
theorem dX6_erase_32 : decode cX6_erase 32 = .ok (.aload_n 0, 1) := by decide +kernel
theorem dX6_erase_33 : decode cX6_erase 33 = .ok (.getfield 26, 3) := by decide +kernel
theorem dX6_erase_36 : decode cX6_erase 36 = .ok (.getfield 96, 3) := by decide +kernel
theorem dX6_erase_39 : decode cX6_erase 39 = .ok (.ireturn, 1) := by decide +kernel
theorem dX6_clear_0 : decode cX6_clear 0 = .ok (.aload_n 0, 1) := by decide +kernel
theorem dX6_clear_1 : decode cX6_clear 1 = .ok (.getfield 10, 3) := by decide +kernel
theorem dX6_clear_4 : decode cX6_clear 4 = .ok (.getfield 73, 3) := by decide +kernel
theorem dX6_clear_7 : decode cX6_clear 7 = .ok (.istore_n 1, 1) := by decide +kernel
theorem dX6_clear_8 : decode cX6_clear 8 = .ok (.aload_n 0, 1) := by decide +kernel
theorem dX6_clear_9 : decode cX6_clear 9 = .ok (.getfield 10, 3) := by decide +kernel
theorem dX6_clear_12 : decode cX6_clear 12 = .ok (.iconst 0, 1) := by decide +kernel
theorem dX6_clear_13 : decode cX6_clear 13 = .ok (.putfield 73, 3) := by decide +kernel
theorem dX6_clear_16 : decode cX6_clear 16 = .ok (.aload_n 0, 1) := by decide +kernel
theorem dX6_clear_17 : decode cX6_clear 17 = .ok (.getfield 26, 3) := by decide +kernel
theorem dX6_clear_20 : decode cX6_clear 20 = .ok (.iconst 0, 1) := by decide +kernel
theorem dX6_clear_21 : decode cX6_clear 21 = .ok (.putfield 96, 3) := by decide +kernel
theorem dX6_clear_24 : decode cX6_clear 24 = .ok (.aload_n 0, 1) := by decide +kernel
theorem dX6_clear_25 : decode cX6_clear 25 = .ok (.iconst 1, 1) := by decide +kernel
theorem dX6_clear_26 : decode cX6_clear 26 = .ok (.putfield 57, 3) := by decide +kernel
theorem dX6_clear_29 : decode cX6_clear 29 = .ok (.iload_n 1, 1) := by decide +kernel
theorem dX6_clear_30 : decode cX6_clear 30 = .ok (.ireturn, 1) := by decide +kernel
theorem dX6_turn_0 : decode cX6_turn 0 = .ok (.aload_n 0, 1) := by decide +kernel
theorem dX6_turn_1 : decode cX6_turn 1 = .ok (.getfield 26, 3) := by decide +kernel
theorem dX6_turn_4 : decode cX6_turn 4 = .ok (.invokevirtual 100, 3) := by decide +kernel
theorem dX6_turn_7 : decode cX6_turn 7 = .ok (.aload_n 0, 1) := by decide +kernel
theorem dX6_turn_8 : decode cX6_turn 8 = .ok (.iconst 1, 1) := by decide +kernel
theorem dX6_turn_9 : decode cX6_turn 9 = .ok (.putfield 57, 3) := by decide +kernel
theorem dX6_turn_12 : decode cX6_turn 12 = .ok (.aload_n 0, 1) := by decide +kernel
theorem dX6_turn_13 : decode cX6_turn 13 = .ok (.getfield 10, 3) := by decide +kernel
theorem dX6_turn_16 : decode cX6_turn 16 = .ok (.invokevirtual 103, 3) := by decide +kernel
theorem dX6_turn_19 : decode cX6_turn 19 = .ok (.ireturn, 1) := by decide +kernel
theorem dX6_ofBlock_0 : decode cX6_ofBlock 0 = .ok (.aload_n 0, 1) := by decide +kernel
theorem dX6_ofBlock_1 : decode cX6_ofBlock 1 = .ok (.getfield 10, 3) := by decide +kernel
theorem dX6_ofBlock_4 : decode cX6_ofBlock 4 = .ok (.iload_n 1, 1) := by decide +kernel
theorem dX6_ofBlock_5 : decode cX6_ofBlock 5 = .ok (.invokevirtual 85, 3) := by decide +kernel
theorem dX6_ofBlock_8 : decode cX6_ofBlock 8 = .ok (.ifCond .ne 5, 3) := by decide +kernel
theorem dX6_ofBlock_11 : decode cX6_ofBlock 11 = .ok (.iconst (-1), 1) := by decide +kernel
theorem dX6_ofBlock_12 : decode cX6_ofBlock 12 = .ok (.ireturn, 1) := by decide +kernel
theorem dX6_ofBlock_13 : decode cX6_ofBlock 13 = .ok (.iload_n 2, 1) := by decide +kernel
theorem dX6_ofBlock_14 : decode cX6_ofBlock 14 = .ok (.tableswitch 130 0 6 #[42, 52, 62, 72, 82, 92, 102], 42) := by decide +kernel
theorem dX6_ofBlock_56 : decode cX6_ofBlock 56 = .ok (.aload_n 0, 1) := by decide +kernel
theorem dX6_ofBlock_57 : decode cX6_ofBlock 57 = .ok (.getfield 10, 3) := by decide +kernel
theorem dX6_ofBlock_60 : decode cX6_ofBlock 60 = .ok (.getfield 106, 3) := by decide +kernel
theorem dX6_ofBlock_63 : decode cX6_ofBlock 63 = .ok (.iload_n 1, 1) := by decide +kernel
theorem dX6_ofBlock_64 : decode cX6_ofBlock 64 = .ok (.iaload, 1) := by decide +kernel
theorem dX6_ofBlock_65 : decode cX6_ofBlock 65 = .ok (.ireturn, 1) := by decide +kernel
theorem dX6_ofBlock_66 : decode cX6_ofBlock 66 = .ok (.aload_n 0, 1) := by decide +kernel
theorem dX6_ofBlock_67 : decode cX6_ofBlock 67 = .ok (.getfield 10, 3) := by decide +kernel
theorem dX6_ofBlock_70 : decode cX6_ofBlock 70 = .ok (.getfield 89, 3) := by decide +kernel
theorem dX6_ofBlock_73 : decode cX6_ofBlock 73 = .ok (.iload_n 1, 1) := by decide +kernel
theorem dX6_ofBlock_74 : decode cX6_ofBlock 74 = .ok (.iaload, 1) := by decide +kernel
theorem dX6_ofBlock_75 : decode cX6_ofBlock 75 = .ok (.ireturn, 1) := by decide +kernel
theorem dX6_ofBlock_76 : decode cX6_ofBlock 76 = .ok (.aload_n 0, 1) := by decide +kernel
theorem dX6_ofBlock_77 : decode cX6_ofBlock 77 = .ok (.getfield 10, 3) := by decide +kernel
theorem dX6_ofBlock_80 : decode cX6_ofBlock 80 = .ok (.getfield 109, 3) := by decide +kernel
theorem dX6_ofBlock_83 : decode cX6_ofBlock 83 = .ok (.iload_n 1, 1) := by decide +kernel
theorem dX6_ofBlock_84 : decode cX6_ofBlock 84 = .ok (.iaload, 1) := by decide +kernel
theorem dX6_ofBlock_85 : decode cX6_ofBlock 85 = .ok (.ireturn, 1) := by decide +kernel
theorem dX6_ofBlock_86 : decode cX6_ofBlock 86 = .ok (.aload_n 0, 1) := by decide +kernel
theorem dX6_ofBlock_87 : decode cX6_ofBlock 87 = .ok (.getfield 10, 3) := by decide +kernel
theorem dX6_ofBlock_90 : decode cX6_ofBlock 90 = .ok (.getfield 112, 3) := by decide +kernel
theorem dX6_ofBlock_93 : decode cX6_ofBlock 93 = .ok (.iload_n 1, 1) := by decide +kernel
theorem dX6_ofBlock_94 : decode cX6_ofBlock 94 = .ok (.iaload, 1) := by decide +kernel
theorem dX6_ofBlock_95 : decode cX6_ofBlock 95 = .ok (.ireturn, 1) := by decide +kernel
theorem dX6_ofBlock_96 : decode cX6_ofBlock 96 = .ok (.aload_n 0, 1) := by decide +kernel
theorem dX6_ofBlock_97 : decode cX6_ofBlock 97 = .ok (.getfield 10, 3) := by decide +kernel
theorem dX6_ofBlock_100 : decode cX6_ofBlock 100 = .ok (.getfield 115, 3) := by decide +kernel
theorem dX6_ofBlock_103 : decode cX6_ofBlock 103 = .ok (.iload_n 1, 1) := by decide +kernel
theorem dX6_ofBlock_104 : decode cX6_ofBlock 104 = .ok (.iaload, 1) := by decide +kernel
theorem dX6_ofBlock_105 : decode cX6_ofBlock 105 = .ok (.ireturn, 1) := by decide +kernel
theorem dX6_ofBlock_106 : decode cX6_ofBlock 106 = .ok (.aload_n 0, 1) := by decide +kernel
theorem dX6_ofBlock_107 : decode cX6_ofBlock 107 = .ok (.getfield 10, 3) := by decide +kernel
theorem dX6_ofBlock_110 : decode cX6_ofBlock 110 = .ok (.getfield 118, 3) := by decide +kernel
theorem dX6_ofBlock_113 : decode cX6_ofBlock 113 = .ok (.iload_n 1, 1) := by decide +kernel
theorem dX6_ofBlock_114 : decode cX6_ofBlock 114 = .ok (.iaload, 1) := by decide +kernel
theorem dX6_ofBlock_115 : decode cX6_ofBlock 115 = .ok (.ireturn, 1) := by decide +kernel
theorem dX6_ofBlock_116 : decode cX6_ofBlock 116 = .ok (.aload_n 0, 1) := by decide +kernel
theorem dX6_ofBlock_117 : decode cX6_ofBlock 117 = .ok (.getfield 10, 3) := by decide +kernel
theorem dX6_ofBlock_120 : decode cX6_ofBlock 120 = .ok (.getfield 89, 3) := by decide +kernel
theorem dX6_ofBlock_123 : decode cX6_ofBlock 123 = .ok (.iload_n 1, 1) := by decide +kernel
theorem dX6_ofBlock_124 : decode cX6_ofBlock 124 = .ok (.iaload, 1) := by decide +kernel
theorem dX6_ofBlock_125 : decode cX6_ofBlock 125 = .ok (.iconst 1, 1) := by decide +kernel
theorem dX6_ofBlock_126 : decode cX6_ofBlock 126 = .ok (.if_icmp .ne 15, 3) := by decide +kernel
theorem dX6_ofBlock_129 : decode cX6_ofBlock 129 = .ok (.aload_n 0, 1) := by decide +kernel
theorem dX6_ofBlock_130 : decode cX6_ofBlock 130 = .ok (.getfield 10, 3) := by decide +kernel
theorem dX6_ofBlock_133 : decode cX6_ofBlock 133 = .ok (.getfield 93, 3) := by decide +kernel
theorem dX6_ofBlock_136 : decode cX6_ofBlock 136 = .ok (.iload_n 1, 1) := by decide +kernel
theorem dX6_ofBlock_137 : decode cX6_ofBlock 137 = .ok (.iaload, 1) := by decide +kernel
theorem dX6_ofBlock_138 : decode cX6_ofBlock 138 = .ok (.goto 5, 3) := by decide +kernel
theorem dX6_ofBlock_141 : decode cX6_ofBlock 141 = .ok (.bipush (-9), 2) := by decide +kernel
theorem dX6_ofBlock_143 : decode cX6_ofBlock 143 = .ok (.ireturn, 1) := by decide +kernel
theorem dX6_ofBlock_144 : decode cX6_ofBlock 144 = .ok (.bipush (-2), 2) := by decide +kernel
theorem dX6_ofBlock_146 : decode cX6_ofBlock 146 = .ok (.ireturn, 1) := by decide +kernel
theorem dX6_ofLine_0 : decode cX6_ofLine 0 = .ok (.aload_n 0, 1) := by decide +kernel
theorem dX6_ofLine_1 : decode cX6_ofLine 1 = .ok (.getfield 26, 3) := by decide +kernel
theorem dX6_ofLine_4 : decode cX6_ofLine 4 = .ok (.iload_n 1, 1) := by decide +kernel
theorem dX6_ofLine_5 : decode cX6_ofLine 5 = .ok (.invokevirtual 121, 3) := by decide +kernel
theorem dX6_ofLine_8 : decode cX6_ofLine 8 = .ok (.ifCond .ne 5, 3) := by decide +kernel
theorem dX6_ofLine_11 : decode cX6_ofLine 11 = .ok (.iconst (-1), 1) := by decide +kernel
theorem dX6_ofLine_12 : decode cX6_ofLine 12 = .ok (.ireturn, 1) := by decide +kernel
theorem dX6_ofLine_13 : decode cX6_ofLine 13 = .ok (.iload_n 2, 1) := by decide +kernel
theorem dX6_ofLine_14 : decode cX6_ofLine 14 = .ok (.tableswitch 84 0 4 #[34, 44, 54, 64, 74], 34) := by decide +kernel
theorem dX6_ofLine_48 : decode cX6_ofLine 48 = .ok (.aload_n 0, 1) := by decide +kernel
theorem dX6_ofLine_49 : decode cX6_ofLine 49 = .ok (.getfield 26, 3) := by decide +kernel
theorem dX6_ofLine_52 : decode cX6_ofLine 52 = .ok (.getfield 122, 3) := by decide +kernel
theorem dX6_ofLine_55 : decode cX6_ofLine 55 = .ok (.iload_n 1, 1) := by decide +kernel
theorem dX6_ofLine_56 : decode cX6_ofLine 56 = .ok (.iaload, 1) := by decide +kernel
theorem dX6_ofLine_57 : decode cX6_ofLine 57 = .ok (.ireturn, 1) := by decide +kernel
theorem dX6_ofLine_58 : decode cX6_ofLine 58 = .ok (.aload_n 0, 1) := by decide +kernel
theorem dX6_ofLine_59 : decode cX6_ofLine 59 = .ok (.getfield 26, 3) := by decide +kernel
theorem dX6_ofLine_62 : decode cX6_ofLine 62 = .ok (.getfield 123, 3) := by decide +kernel
theorem dX6_ofLine_65 : decode cX6_ofLine 65 = .ok (.iload_n 1, 1) := by decide +kernel
theorem dX6_ofLine_66 : decode cX6_ofLine 66 = .ok (.iaload, 1) := by decide +kernel
theorem dX6_ofLine_67 : decode cX6_ofLine 67 = .ok (.ireturn, 1) := by decide +kernel
theorem dX6_ofLine_68 : decode cX6_ofLine 68 = .ok (.aload_n 0, 1) := by decide +kernel
theorem dX6_ofLine_69 : decode cX6_ofLine 69 = .ok (.getfield 26, 3) := by decide +kernel
theorem dX6_ofLine_72 : decode cX6_ofLine 72 = .ok (.getfield 126, 3) := by decide +kernel
theorem dX6_ofLine_75 : decode cX6_ofLine 75 = .ok (.iload_n 1, 1) := by decide +kernel
theorem dX6_ofLine_76 : decode cX6_ofLine 76 = .ok (.iaload, 1) := by decide +kernel
theorem dX6_ofLine_77 : decode cX6_ofLine 77 = .ok (.ireturn, 1) := by decide +kernel
theorem dX6_ofLine_78 : decode cX6_ofLine 78 = .ok (.aload_n 0, 1) := by decide +kernel
theorem dX6_ofLine_79 : decode cX6_ofLine 79 = .ok (.getfield 26, 3) := by decide +kernel
theorem dX6_ofLine_82 : decode cX6_ofLine 82 = .ok (.getfield 129, 3) := by decide +kernel
theorem dX6_ofLine_85 : decode cX6_ofLine 85 = .ok (.iload_n 1, 1) := by decide +kernel
theorem dX6_ofLine_86 : decode cX6_ofLine 86 = .ok (.iaload, 1) := by decide +kernel
theorem dX6_ofLine_87 : decode cX6_ofLine 87 = .ok (.ireturn, 1) := by decide +kernel
theorem dX6_ofLine_88 : decode cX6_ofLine 88 = .ok (.aload_n 0, 1) := by decide +kernel
theorem dX6_ofLine_89 : decode cX6_ofLine 89 = .ok (.getfield 26, 3) := by decide +kernel
theorem dX6_ofLine_92 : decode cX6_ofLine 92 = .ok (.getfield 132, 3) := by decide +kernel
theorem dX6_ofLine_95 : decode cX6_ofLine 95 = .ok (.iload_n 1, 1) := by decide +kernel
theorem dX6_ofLine_96 : decode cX6_ofLine 96 = .ok (.iaload, 1) := by decide +kernel
theorem dX6_ofLine_97 : decode cX6_ofLine 97 = .ok (.ireturn, 1) := by decide +kernel
theorem dX6_ofLine_98 : decode cX6_ofLine 98 = .ok (.bipush (-2), 2) := by decide +kernel
theorem dX6_ofLine_100 : decode cX6_ofLine 100 = .ok (.ireturn, 1) := by decide +kernel
theorem dX6_at_0 : decode cX6_at 0 = .ok (.iload_n 1, 1) := by decide +kernel
theorem dX6_at_1 : decode cX6_at 1 = .ok (.iconst 4, 1) := by decide +kernel
theorem dX6_at_2 : decode cX6_at 2 = .ok (.invokestatic 61, 3) := by decide +kernel
theorem dX6_at_5 : decode cX6_at 5 = .ok (.ifCond .eq 21, 3) := by decide +kernel
theorem dX6_at_8 : decode cX6_at 8 = .ok (.iload_n 2, 1) := by decide +kernel
theorem dX6_at_9 : decode cX6_at 9 = .ok (.bipush 8, 2) := by decide +kernel
theorem dX6_at_11 : decode cX6_at 11 = .ok (.invokestatic 61, 3) := by decide +kernel
theorem dX6_at_14 : decode cX6_at 14 = .ok (.ifCond .eq 12, 3) := by decide +kernel
theorem dX6_at_17 : decode cX6_at 17 = .ok (.iload_n 3, 1) := by decide +kernel
theorem dX6_at_18 : decode cX6_at 18 = .ok (.bipush 30, 2) := by decide +kernel
theorem dX6_at_20 : decode cX6_at 20 = .ok (.invokestatic 61, 3) := by decide +kernel
theorem dX6_at_23 : decode cX6_at 23 = .ok (.ifCond .ne 6, 3) := by decide +kernel
theorem dX6_at_26 : decode cX6_at 26 = .ok (.bipush (-2), 2) := by decide +kernel
theorem dX6_at_28 : decode cX6_at 28 = .ok (.ireturn, 1) := by decide +kernel
theorem dX6_at_29 : decode cX6_at 29 = .ok (.aload_n 0, 1) := by decide +kernel
theorem dX6_at_30 : decode cX6_at 30 = .ok (.getfield 10, 3) := by decide +kernel
theorem dX6_at_33 : decode cX6_at 33 = .ok (.iload_n 1, 1) := by decide +kernel
theorem dX6_at_34 : decode cX6_at 34 = .ok (.iload_n 2, 1) := by decide +kernel
theorem dX6_at_35 : decode cX6_at 35 = .ok (.iload_n 2, 1) := by decide +kernel
theorem dX6_at_36 : decode cX6_at 36 = .ok (.iload_n 3, 1) := by decide +kernel
theorem dX6_at_37 : decode cX6_at 37 = .ok (.iload_n 3, 1) := by decide +kernel
theorem dX6_at_38 : decode cX6_at 38 = .ok (.invokevirtual 135, 3) := by decide +kernel
theorem dX6_at_41 : decode cX6_at 41 = .ok (.ireturn, 1) := by decide +kernel
theorem dX6_reach_0 : decode cX6_reach 0 = .ok (.aload_n 0, 1) := by decide +kernel
theorem dX6_reach_1 : decode cX6_reach 1 = .ok (.getfield 10, 3) := by decide +kernel
theorem dX6_reach_4 : decode cX6_reach 4 = .ok (.iload_n 1, 1) := by decide +kernel
theorem dX6_reach_5 : decode cX6_reach 5 = .ok (.invokevirtual 85, 3) := by decide +kernel
theorem dX6_reach_8 : decode cX6_reach 8 = .ok (.ifCond .eq 15, 3) := by decide +kernel
theorem dX6_reach_11 : decode cX6_reach 11 = .ok (.aload_n 0, 1) := by decide +kernel
theorem dX6_reach_12 : decode cX6_reach 12 = .ok (.getfield 10, 3) := by decide +kernel
theorem dX6_reach_15 : decode cX6_reach 15 = .ok (.getfield 89, 3) := by decide +kernel
theorem dX6_reach_18 : decode cX6_reach 18 = .ok (.iload_n 1, 1) := by decide +kernel
theorem dX6_reach_19 : decode cX6_reach 19 = .ok (.iaload, 1) := by decide +kernel
theorem dX6_reach_20 : decode cX6_reach 20 = .ok (.ifCond .eq 5, 3) := by decide +kernel
theorem dX6_reach_23 : decode cX6_reach 23 = .ok (.iconst (-1), 1) := by decide +kernel
theorem dX6_reach_24 : decode cX6_reach 24 = .ok (.ireturn, 1) := by decide +kernel
theorem dX6_reach_25 : decode cX6_reach 25 = .ok (.iload_n 2, 1) := by decide +kernel
theorem dX6_reach_26 : decode cX6_reach 26 = .ok (.bipush 8, 2) := by decide +kernel
theorem dX6_reach_28 : decode cX6_reach 28 = .ok (.invokestatic 61, 3) := by decide +kernel
theorem dX6_reach_31 : decode cX6_reach 31 = .ok (.ifCond .ne 6, 3) := by decide +kernel
theorem dX6_reach_34 : decode cX6_reach 34 = .ok (.bipush (-2), 2) := by decide +kernel
theorem dX6_reach_36 : decode cX6_reach 36 = .ok (.ireturn, 1) := by decide +kernel
theorem dX6_reach_37 : decode cX6_reach 37 = .ok (.aload_n 0, 1) := by decide +kernel
theorem dX6_reach_38 : decode cX6_reach 38 = .ok (.getfield 35, 3) := by decide +kernel
theorem dX6_reach_41 : decode cX6_reach 41 = .ok (.iload_n 1, 1) := by decide +kernel
theorem dX6_reach_42 : decode cX6_reach 42 = .ok (.iload_n 2, 1) := by decide +kernel
theorem dX6_reach_43 : decode cX6_reach 43 = .ok (.invokevirtual 138, 3) := by decide +kernel
theorem dX6_reach_46 : decode cX6_reach 46 = .ok (.ireturn, 1) := by decide +kernel
theorem dX6_under_0 : decode cX6_under 0 = .ok (.aload_n 0, 1) := by decide +kernel
theorem dX6_under_1 : decode cX6_under 1 = .ok (.getfield 10, 3) := by decide +kernel
theorem dX6_under_4 : decode cX6_under 4 = .ok (.iload_n 1, 1) := by decide +kernel
theorem dX6_under_5 : decode cX6_under 5 = .ok (.invokevirtual 85, 3) := by decide +kernel
theorem dX6_under_8 : decode cX6_under 8 = .ok (.ifCond .ne 5, 3) := by decide +kernel
theorem dX6_under_11 : decode cX6_under 11 = .ok (.iconst (-1), 1) := by decide +kernel
theorem dX6_under_12 : decode cX6_under 12 = .ok (.ireturn, 1) := by decide +kernel
theorem dX6_under_13 : decode cX6_under 13 = .ok (.aload_n 0, 1) := by decide +kernel
theorem dX6_under_14 : decode cX6_under 14 = .ok (.getfield 10, 3) := by decide +kernel
theorem dX6_under_17 : decode cX6_under 17 = .ok (.getfield 89, 3) := by decide +kernel
theorem dX6_under_20 : decode cX6_under 20 = .ok (.iload_n 1, 1) := by decide +kernel
theorem dX6_under_21 : decode cX6_under 21 = .ok (.iaload, 1) := by decide +kernel
theorem dX6_under_22 : decode cX6_under 22 = .ok (.ifCond .ne 6, 3) := by decide +kernel
theorem dX6_under_25 : decode cX6_under 25 = .ok (.bipush (-3), 2) := by decide +kernel
theorem dX6_under_27 : decode cX6_under 27 = .ok (.ireturn, 1) := by decide +kernel
theorem dX6_under_28 : decode cX6_under 28 = .ok (.aload_n 0, 1) := by decide +kernel
theorem dX6_under_29 : decode cX6_under 29 = .ok (.invokevirtual 142, 3) := by decide +kernel
theorem dX6_under_32 : decode cX6_under 32 = .ok (.aload_n 0, 1) := by decide +kernel
theorem dX6_under_33 : decode cX6_under 33 = .ok (.getfield 44, 3) := by decide +kernel
theorem dX6_under_36 : decode cX6_under 36 = .ok (.getfield 145, 3) := by decide +kernel
theorem dX6_under_39 : decode cX6_under 39 = .ok (.iload_n 1, 1) := by decide +kernel
theorem dX6_under_40 : decode cX6_under 40 = .ok (.iaload, 1) := by decide +kernel
theorem dX6_under_41 : decode cX6_under 41 = .ok (.ireturn, 1) := by decide +kernel
theorem dX6_story_0 : decode cX6_story 0 = .ok (.aload_n 0, 1) := by decide +kernel
theorem dX6_story_1 : decode cX6_story 1 = .ok (.getfield 10, 3) := by decide +kernel
theorem dX6_story_4 : decode cX6_story 4 = .ok (.iload_n 1, 1) := by decide +kernel
theorem dX6_story_5 : decode cX6_story 5 = .ok (.invokevirtual 85, 3) := by decide +kernel
theorem dX6_story_8 : decode cX6_story 8 = .ok (.ifCond .ne 5, 3) := by decide +kernel
theorem dX6_story_11 : decode cX6_story 11 = .ok (.iconst (-1), 1) := by decide +kernel
theorem dX6_story_12 : decode cX6_story 12 = .ok (.ireturn, 1) := by decide +kernel
theorem dX6_story_13 : decode cX6_story 13 = .ok (.aload_n 0, 1) := by decide +kernel
theorem dX6_story_14 : decode cX6_story 14 = .ok (.invokevirtual 142, 3) := by decide +kernel
theorem dX6_story_17 : decode cX6_story 17 = .ok (.aload_n 0, 1) := by decide +kernel
theorem dX6_story_18 : decode cX6_story 18 = .ok (.getfield 44, 3) := by decide +kernel
theorem dX6_story_21 : decode cX6_story 21 = .ok (.getfield 148, 3) := by decide +kernel
theorem dX6_story_24 : decode cX6_story 24 = .ok (.iload_n 1, 1) := by decide +kernel
theorem dX6_story_25 : decode cX6_story 25 = .ok (.iaload, 1) := by decide +kernel
theorem dX6_story_26 : decode cX6_story 26 = .ok (.ireturn, 1) := by decide +kernel
theorem dX6_takenBy_0 : decode cX6_takenBy 0 = .ok (.aload_n 0, 1) := by decide +kernel
theorem dX6_takenBy_1 : decode cX6_takenBy 1 = .ok (.getfield 10, 3) := by decide +kernel
theorem dX6_takenBy_4 : decode cX6_takenBy 4 = .ok (.iload_n 1, 1) := by decide +kernel
theorem dX6_takenBy_5 : decode cX6_takenBy 5 = .ok (.invokevirtual 85, 3) := by decide +kernel
theorem dX6_takenBy_8 : decode cX6_takenBy 8 = .ok (.ifCond .ne 5, 3) := by decide +kernel
theorem dX6_takenBy_11 : decode cX6_takenBy 11 = .ok (.iconst (-1), 1) := by decide +kernel
theorem dX6_takenBy_12 : decode cX6_takenBy 12 = .ok (.ireturn, 1) := by decide +kernel
theorem dX6_takenBy_13 : decode cX6_takenBy 13 = .ok (.aload_n 0, 1) := by decide +kernel
theorem dX6_takenBy_14 : decode cX6_takenBy 14 = .ok (.getfield 10, 3) := by decide +kernel
theorem dX6_takenBy_17 : decode cX6_takenBy 17 = .ok (.getfield 89, 3) := by decide +kernel
theorem dX6_takenBy_20 : decode cX6_takenBy 20 = .ok (.iload_n 1, 1) := by decide +kernel
theorem dX6_takenBy_21 : decode cX6_takenBy 21 = .ok (.iaload, 1) := by decide +kernel
theorem dX6_takenBy_22 : decode cX6_takenBy 22 = .ok (.iconst 1, 1) := by decide +kernel
theorem dX6_takenBy_23 : decode cX6_takenBy 23 = .ok (.if_icmp .eq 6, 3) := by decide +kernel
theorem dX6_takenBy_26 : decode cX6_takenBy 26 = .ok (.bipush (-3), 2) := by decide +kernel
theorem dX6_takenBy_28 : decode cX6_takenBy 28 = .ok (.ireturn, 1) := by decide +kernel
theorem dX6_takenBy_29 : decode cX6_takenBy 29 = .ok (.aload_n 0, 1) := by decide +kernel
theorem dX6_takenBy_30 : decode cX6_takenBy 30 = .ok (.invokevirtual 142, 3) := by decide +kernel
theorem dX6_takenBy_33 : decode cX6_takenBy 33 = .ok (.aload_n 0, 1) := by decide +kernel
theorem dX6_takenBy_34 : decode cX6_takenBy 34 = .ok (.getfield 44, 3) := by decide +kernel
theorem dX6_takenBy_37 : decode cX6_takenBy 37 = .ok (.getfield 151, 3) := by decide +kernel
theorem dX6_takenBy_40 : decode cX6_takenBy 40 = .ok (.iload_n 1, 1) := by decide +kernel
theorem dX6_takenBy_41 : decode cX6_takenBy 41 = .ok (.iaload, 1) := by decide +kernel
theorem dX6_takenBy_42 : decode cX6_takenBy 42 = .ok (.ireturn, 1) := by decide +kernel
theorem dX6_ofStory_0 : decode cX6_ofStory 0 = .ok (.aload_n 0, 1) := by decide +kernel
theorem dX6_ofStory_1 : decode cX6_ofStory 1 = .ok (.invokevirtual 142, 3) := by decide +kernel
theorem dX6_ofStory_4 : decode cX6_ofStory 4 = .ok (.aload_n 0, 1) := by decide +kernel
theorem dX6_ofStory_5 : decode cX6_ofStory 5 = .ok (.getfield 44, 3) := by decide +kernel
theorem dX6_ofStory_8 : decode cX6_ofStory 8 = .ok (.iload_n 1, 1) := by decide +kernel
theorem dX6_ofStory_9 : decode cX6_ofStory 9 = .ok (.invokevirtual 154, 3) := by decide +kernel
theorem dX6_ofStory_12 : decode cX6_ofStory 12 = .ok (.ifCond .ne 5, 3) := by decide +kernel
theorem dX6_ofStory_15 : decode cX6_ofStory 15 = .ok (.iconst (-1), 1) := by decide +kernel
theorem dX6_ofStory_16 : decode cX6_ofStory 16 = .ok (.ireturn, 1) := by decide +kernel
theorem dX6_ofStory_17 : decode cX6_ofStory 17 = .ok (.iload_n 2, 1) := by decide +kernel
theorem dX6_ofStory_18 : decode cX6_ofStory 18 = .ok (.tableswitch 142 0 8 #[50, 59, 68, 77, 86, 95, 105, 115, 125], 50) := by decide +kernel
theorem dX6_ofStory_68 : decode cX6_ofStory 68 = .ok (.aload_n 0, 1) := by decide +kernel
theorem dX6_ofStory_69 : decode cX6_ofStory 69 = .ok (.getfield 44, 3) := by decide +kernel
theorem dX6_ofStory_72 : decode cX6_ofStory 72 = .ok (.iload_n 1, 1) := by decide +kernel
theorem dX6_ofStory_73 : decode cX6_ofStory 73 = .ok (.invokevirtual 155, 3) := by decide +kernel
theorem dX6_ofStory_76 : decode cX6_ofStory 76 = .ok (.ireturn, 1) := by decide +kernel
theorem dX6_ofStory_77 : decode cX6_ofStory 77 = .ok (.aload_n 0, 1) := by decide +kernel
theorem dX6_ofStory_78 : decode cX6_ofStory 78 = .ok (.getfield 44, 3) := by decide +kernel
theorem dX6_ofStory_81 : decode cX6_ofStory 81 = .ok (.iload_n 1, 1) := by decide +kernel
theorem dX6_ofStory_82 : decode cX6_ofStory 82 = .ok (.invokevirtual 159, 3) := by decide +kernel
theorem dX6_ofStory_85 : decode cX6_ofStory 85 = .ok (.ireturn, 1) := by decide +kernel
theorem dX6_ofStory_86 : decode cX6_ofStory 86 = .ok (.aload_n 0, 1) := by decide +kernel
theorem dX6_ofStory_87 : decode cX6_ofStory 87 = .ok (.getfield 44, 3) := by decide +kernel
theorem dX6_ofStory_90 : decode cX6_ofStory 90 = .ok (.iload_n 1, 1) := by decide +kernel
theorem dX6_ofStory_91 : decode cX6_ofStory 91 = .ok (.invokevirtual 162, 3) := by decide +kernel
theorem dX6_ofStory_94 : decode cX6_ofStory 94 = .ok (.ireturn, 1) := by decide +kernel
theorem dX6_ofStory_95 : decode cX6_ofStory 95 = .ok (.aload_n 0, 1) := by decide +kernel
theorem dX6_ofStory_96 : decode cX6_ofStory 96 = .ok (.getfield 44, 3) := by decide +kernel
theorem dX6_ofStory_99 : decode cX6_ofStory 99 = .ok (.iload_n 1, 1) := by decide +kernel
theorem dX6_ofStory_100 : decode cX6_ofStory 100 = .ok (.invokevirtual 165, 3) := by decide +kernel
theorem dX6_ofStory_103 : decode cX6_ofStory 103 = .ok (.ireturn, 1) := by decide +kernel
theorem dX6_ofStory_104 : decode cX6_ofStory 104 = .ok (.aload_n 0, 1) := by decide +kernel
theorem dX6_ofStory_105 : decode cX6_ofStory 105 = .ok (.getfield 44, 3) := by decide +kernel
theorem dX6_ofStory_108 : decode cX6_ofStory 108 = .ok (.iload_n 1, 1) := by decide +kernel
theorem dX6_ofStory_109 : decode cX6_ofStory 109 = .ok (.invokevirtual 168, 3) := by decide +kernel
theorem dX6_ofStory_112 : decode cX6_ofStory 112 = .ok (.ireturn, 1) := by decide +kernel
theorem dX6_ofStory_113 : decode cX6_ofStory 113 = .ok (.aload_n 0, 1) := by decide +kernel
theorem dX6_ofStory_114 : decode cX6_ofStory 114 = .ok (.getfield 53, 3) := by decide +kernel
theorem dX6_ofStory_117 : decode cX6_ofStory 117 = .ok (.getfield 171, 3) := by decide +kernel
theorem dX6_ofStory_120 : decode cX6_ofStory 120 = .ok (.iload_n 1, 1) := by decide +kernel
theorem dX6_ofStory_121 : decode cX6_ofStory 121 = .ok (.iaload, 1) := by decide +kernel
theorem dX6_ofStory_122 : decode cX6_ofStory 122 = .ok (.ireturn, 1) := by decide +kernel
theorem dX6_ofStory_123 : decode cX6_ofStory 123 = .ok (.aload_n 0, 1) := by decide +kernel
theorem dX6_ofStory_124 : decode cX6_ofStory 124 = .ok (.getfield 53, 3) := by decide +kernel
theorem dX6_ofStory_127 : decode cX6_ofStory 127 = .ok (.getfield 174, 3) := by decide +kernel
theorem dX6_ofStory_130 : decode cX6_ofStory 130 = .ok (.iload_n 1, 1) := by decide +kernel
theorem dX6_ofStory_131 : decode cX6_ofStory 131 = .ok (.iaload, 1) := by decide +kernel
theorem dX6_ofStory_132 : decode cX6_ofStory 132 = .ok (.ireturn, 1) := by decide +kernel
theorem dX6_ofStory_133 : decode cX6_ofStory 133 = .ok (.aload_n 0, 1) := by decide +kernel
theorem dX6_ofStory_134 : decode cX6_ofStory 134 = .ok (.getfield 53, 3) := by decide +kernel
theorem dX6_ofStory_137 : decode cX6_ofStory 137 = .ok (.getfield 177, 3) := by decide +kernel
theorem dX6_ofStory_140 : decode cX6_ofStory 140 = .ok (.iload_n 1, 1) := by decide +kernel
theorem dX6_ofStory_141 : decode cX6_ofStory 141 = .ok (.iaload, 1) := by decide +kernel
theorem dX6_ofStory_142 : decode cX6_ofStory 142 = .ok (.ireturn, 1) := by decide +kernel
theorem dX6_ofStory_143 : decode cX6_ofStory 143 = .ok (.aload_n 0, 1) := by decide +kernel
theorem dX6_ofStory_144 : decode cX6_ofStory 144 = .ok (.getfield 53, 3) := by decide +kernel
theorem dX6_ofStory_147 : decode cX6_ofStory 147 = .ok (.iload_n 1, 1) := by decide +kernel
theorem dX6_ofStory_148 : decode cX6_ofStory 148 = .ok (.invokevirtual 180, 3) := by decide +kernel
theorem dX6_ofStory_151 : decode cX6_ofStory 151 = .ok (.ifCond .eq 7, 3) := by decide +kernel
theorem dX6_ofStory_154 : decode cX6_ofStory 154 = .ok (.iconst 1, 1) := by decide +kernel
theorem dX6_ofStory_155 : decode cX6_ofStory 155 = .ok (.goto 4, 3) := by decide +kernel
theorem dX6_ofStory_158 : decode cX6_ofStory 158 = .ok (.iconst 0, 1) := by decide +kernel
theorem dX6_ofStory_159 : decode cX6_ofStory 159 = .ok (.ireturn, 1) := by decide +kernel
theorem dX6_ofStory_160 : decode cX6_ofStory 160 = .ok (.bipush (-2), 2) := by decide +kernel
theorem dX6_ofStory_162 : decode cX6_ofStory 162 = .ok (.ireturn, 1) := by decide +kernel
theorem dX6_text_0 : decode cX6_text 0 = .ok (.aload_n 0, 1) := by decide +kernel
theorem dX6_text_1 : decode cX6_text 1 = .ok (.invokevirtual 142, 3) := by decide +kernel
theorem dX6_text_4 : decode cX6_text 4 = .ok (.aload_n 0, 1) := by decide +kernel
theorem dX6_text_5 : decode cX6_text 5 = .ok (.getfield 44, 3) := by decide +kernel
theorem dX6_text_8 : decode cX6_text 8 = .ok (.iload_n 1, 1) := by decide +kernel
theorem dX6_text_9 : decode cX6_text 9 = .ok (.invokevirtual 154, 3) := by decide +kernel
theorem dX6_text_12 : decode cX6_text 12 = .ok (.ifCond .ne 5, 3) := by decide +kernel
theorem dX6_text_15 : decode cX6_text 15 = .ok (.iconst (-1), 1) := by decide +kernel
theorem dX6_text_16 : decode cX6_text 16 = .ok (.ireturn, 1) := by decide +kernel
theorem dX6_text_17 : decode cX6_text 17 = .ok (.iload_n 2, 1) := by decide +kernel
theorem dX6_text_18 : decode cX6_text 18 = .ok (.bipush 24, 2) := by decide +kernel
theorem dX6_text_20 : decode cX6_text 20 = .ok (.invokestatic 61, 3) := by decide +kernel
theorem dX6_text_23 : decode cX6_text 23 = .ok (.ifCond .ne 6, 3) := by decide +kernel
theorem dX6_text_26 : decode cX6_text 26 = .ok (.bipush (-2), 2) := by decide +kernel
theorem dX6_text_28 : decode cX6_text 28 = .ok (.ireturn, 1) := by decide +kernel
theorem dX6_text_29 : decode cX6_text 29 = .ok (.aload_n 0, 1) := by decide +kernel
theorem dX6_text_30 : decode cX6_text 30 = .ok (.getfield 44, 3) := by decide +kernel
theorem dX6_text_33 : decode cX6_text 33 = .ok (.iload_n 1, 1) := by decide +kernel
theorem dX6_text_34 : decode cX6_text 34 = .ok (.iload_n 2, 1) := by decide +kernel
theorem dX6_text_35 : decode cX6_text 35 = .ok (.invokevirtual 183, 3) := by decide +kernel
theorem dX6_text_38 : decode cX6_text 38 = .ok (.ireturn, 1) := by decide +kernel
theorem dX6_mark_0 : decode cX6_mark 0 = .ok (.aload_n 0, 1) := by decide +kernel
end
section
theorem dX6_mark_1 : decode cX6_mark 1 = .ok (.getfield 10, 3) := by decide +kernel
theorem dX6_mark_4 : decode cX6_mark 4 = .ok (.iload_n 1, 1) := by decide +kernel
theorem dX6_mark_5 : decode cX6_mark 5 = .ok (.invokevirtual 85, 3) := by decide +kernel
theorem dX6_mark_8 : decode cX6_mark 8 = .ok (.ifCond .ne 5, 3) := by decide +kernel
theorem dX6_mark_11 : decode cX6_mark 11 = .ok (.iconst (-1), 1) := by decide +kernel
theorem dX6_mark_12 : decode cX6_mark 12 = .ok (.ireturn, 1) := by decide +kernel
theorem dX6_mark_13 : decode cX6_mark 13 = .ok (.iload_n 2, 1) := by decide +kernel
theorem dX6_mark_14 : decode cX6_mark 14 = .ok (.iconst 2, 1) := by decide +kernel
theorem dX6_mark_15 : decode cX6_mark 15 = .ok (.invokestatic 61, 3) := by decide +kernel
theorem dX6_mark_18 : decode cX6_mark 18 = .ok (.ifCond .eq 21, 3) := by decide +kernel
theorem dX6_mark_21 : decode cX6_mark 21 = .ok (.iload_n 3, 1) := by decide +kernel
theorem dX6_mark_22 : decode cX6_mark 22 = .ok (.iconst 4, 1) := by decide +kernel
theorem dX6_mark_23 : decode cX6_mark 23 = .ok (.invokestatic 61, 3) := by decide +kernel
theorem dX6_mark_26 : decode cX6_mark 26 = .ok (.ifCond .eq 13, 3) := by decide +kernel
theorem dX6_mark_29 : decode cX6_mark 29 = .ok (.iload 4, 2) := by decide +kernel
theorem dX6_mark_31 : decode cX6_mark 31 = .ok (.bipush 100, 2) := by decide +kernel
theorem dX6_mark_33 : decode cX6_mark 33 = .ok (.invokestatic 61, 3) := by decide +kernel
theorem dX6_mark_36 : decode cX6_mark 36 = .ok (.ifCond .ne 6, 3) := by decide +kernel
theorem dX6_mark_39 : decode cX6_mark 39 = .ok (.bipush (-2), 2) := by decide +kernel
theorem dX6_mark_41 : decode cX6_mark 41 = .ok (.ireturn, 1) := by decide +kernel
theorem dX6_mark_42 : decode cX6_mark 42 = .ok (.aload_n 0, 1) := by decide +kernel
theorem dX6_mark_43 : decode cX6_mark 43 = .ok (.getfield 10, 3) := by decide +kernel
theorem dX6_mark_46 : decode cX6_mark 46 = .ok (.getfield 89, 3) := by decide +kernel
theorem dX6_mark_49 : decode cX6_mark 49 = .ok (.iload_n 1, 1) := by decide +kernel
theorem dX6_mark_50 : decode cX6_mark 50 = .ok (.iaload, 1) := by decide +kernel
theorem dX6_mark_51 : decode cX6_mark 51 = .ok (.iconst 2, 1) := by decide +kernel
theorem dX6_mark_52 : decode cX6_mark 52 = .ok (.if_icmp .eq 19, 3) := by decide +kernel
theorem dX6_mark_55 : decode cX6_mark 55 = .ok (.aload_n 0, 1) := by decide +kernel
theorem dX6_mark_56 : decode cX6_mark 56 = .ok (.getfield 10, 3) := by decide +kernel
theorem dX6_mark_59 : decode cX6_mark 59 = .ok (.getfield 89, 3) := by decide +kernel
theorem dX6_mark_62 : decode cX6_mark 62 = .ok (.iload_n 1, 1) := by decide +kernel
theorem dX6_mark_63 : decode cX6_mark 63 = .ok (.iaload, 1) := by decide +kernel
theorem dX6_mark_64 : decode cX6_mark 64 = .ok (.ifCond .ne 10, 3) := by decide +kernel
theorem dX6_mark_67 : decode cX6_mark 67 = .ok (.iload_n 2, 1) := by decide +kernel
theorem dX6_mark_68 : decode cX6_mark 68 = .ok (.ifCond .ne 6, 3) := by decide +kernel
theorem dX6_mark_71 : decode cX6_mark 71 = .ok (.bipush (-3), 2) := by decide +kernel
theorem dX6_mark_73 : decode cX6_mark 73 = .ok (.ireturn, 1) := by decide +kernel
theorem dX6_mark_74 : decode cX6_mark 74 = .ok (.aload_n 0, 1) := by decide +kernel
theorem dX6_mark_75 : decode cX6_mark 75 = .ok (.getfield 19, 3) := by decide +kernel
theorem dX6_mark_78 : decode cX6_mark 78 = .ok (.iload_n 1, 1) := by decide +kernel
theorem dX6_mark_79 : decode cX6_mark 79 = .ok (.iload_n 2, 1) := by decide +kernel
theorem dX6_mark_80 : decode cX6_mark 80 = .ok (.invokevirtual 186, 3) := by decide +kernel
theorem dX6_mark_83 : decode cX6_mark 83 = .ok (.ifCond .eq 7, 3) := by decide +kernel
theorem dX6_mark_86 : decode cX6_mark 86 = .ok (.iconst 1, 1) := by decide +kernel
theorem dX6_mark_87 : decode cX6_mark 87 = .ok (.goto 4, 3) := by decide +kernel
theorem dX6_mark_90 : decode cX6_mark 90 = .ok (.iconst 0, 1) := by decide +kernel
theorem dX6_mark_91 : decode cX6_mark 91 = .ok (.istore 5, 2) := by decide +kernel
theorem dX6_mark_93 : decode cX6_mark 93 = .ok (.aload_n 0, 1) := by decide +kernel
theorem dX6_mark_94 : decode cX6_mark 94 = .ok (.getfield 19, 3) := by decide +kernel
theorem dX6_mark_97 : decode cX6_mark 97 = .ok (.iload_n 1, 1) := by decide +kernel
theorem dX6_mark_98 : decode cX6_mark 98 = .ok (.iload_n 2, 1) := by decide +kernel
theorem dX6_mark_99 : decode cX6_mark 99 = .ok (.iload_n 3, 1) := by decide +kernel
theorem dX6_mark_100 : decode cX6_mark 100 = .ok (.iload 4, 2) := by decide +kernel
theorem dX6_mark_102 : decode cX6_mark 102 = .ok (.invokevirtual 188, 3) := by decide +kernel
theorem dX6_mark_105 : decode cX6_mark 105 = .ok (.aload_n 0, 1) := by decide +kernel
theorem dX6_mark_106 : decode cX6_mark 106 = .ok (.iconst 1, 1) := by decide +kernel
theorem dX6_mark_107 : decode cX6_mark 107 = .ok (.putfield 57, 3) := by decide +kernel
theorem dX6_mark_110 : decode cX6_mark 110 = .ok (.iload 5, 2) := by decide +kernel
theorem dX6_mark_112 : decode cX6_mark 112 = .ok (.ireturn, 1) := by decide +kernel
theorem dX6_unmark_0 : decode cX6_unmark 0 = .ok (.aload_n 0, 1) := by decide +kernel
theorem dX6_unmark_1 : decode cX6_unmark 1 = .ok (.getfield 10, 3) := by decide +kernel
theorem dX6_unmark_4 : decode cX6_unmark 4 = .ok (.iload_n 1, 1) := by decide +kernel
theorem dX6_unmark_5 : decode cX6_unmark 5 = .ok (.invokevirtual 85, 3) := by decide +kernel
theorem dX6_unmark_8 : decode cX6_unmark 8 = .ok (.ifCond .ne 5, 3) := by decide +kernel
theorem dX6_unmark_11 : decode cX6_unmark 11 = .ok (.iconst (-1), 1) := by decide +kernel
theorem dX6_unmark_12 : decode cX6_unmark 12 = .ok (.ireturn, 1) := by decide +kernel
theorem dX6_unmark_13 : decode cX6_unmark 13 = .ok (.iload_n 2, 1) := by decide +kernel
theorem dX6_unmark_14 : decode cX6_unmark 14 = .ok (.iconst 2, 1) := by decide +kernel
theorem dX6_unmark_15 : decode cX6_unmark 15 = .ok (.invokestatic 61, 3) := by decide +kernel
theorem dX6_unmark_18 : decode cX6_unmark 18 = .ok (.ifCond .ne 6, 3) := by decide +kernel
theorem dX6_unmark_21 : decode cX6_unmark 21 = .ok (.bipush (-2), 2) := by decide +kernel
theorem dX6_unmark_23 : decode cX6_unmark 23 = .ok (.ireturn, 1) := by decide +kernel
theorem dX6_unmark_24 : decode cX6_unmark 24 = .ok (.aload_n 0, 1) := by decide +kernel
theorem dX6_unmark_25 : decode cX6_unmark 25 = .ok (.getfield 19, 3) := by decide +kernel
theorem dX6_unmark_28 : decode cX6_unmark 28 = .ok (.iload_n 1, 1) := by decide +kernel
theorem dX6_unmark_29 : decode cX6_unmark 29 = .ok (.iload_n 2, 1) := by decide +kernel
theorem dX6_unmark_30 : decode cX6_unmark 30 = .ok (.invokevirtual 186, 3) := by decide +kernel
theorem dX6_unmark_33 : decode cX6_unmark 33 = .ok (.ifCond .eq 7, 3) := by decide +kernel
theorem dX6_unmark_36 : decode cX6_unmark 36 = .ok (.iconst 1, 1) := by decide +kernel
theorem dX6_unmark_37 : decode cX6_unmark 37 = .ok (.goto 4, 3) := by decide +kernel
theorem dX6_unmark_40 : decode cX6_unmark 40 = .ok (.iconst 0, 1) := by decide +kernel
theorem dX6_unmark_41 : decode cX6_unmark 41 = .ok (.istore_n 3, 1) := by decide +kernel
theorem dX6_unmark_42 : decode cX6_unmark 42 = .ok (.aload_n 0, 1) := by decide +kernel
theorem dX6_unmark_43 : decode cX6_unmark 43 = .ok (.getfield 19, 3) := by decide +kernel
theorem dX6_unmark_46 : decode cX6_unmark 46 = .ok (.iload_n 1, 1) := by decide +kernel
theorem dX6_unmark_47 : decode cX6_unmark 47 = .ok (.iload_n 2, 1) := by decide +kernel
theorem dX6_unmark_48 : decode cX6_unmark 48 = .ok (.invokevirtual 192, 3) := by decide +kernel
theorem dX6_unmark_51 : decode cX6_unmark 51 = .ok (.aload_n 0, 1) := by decide +kernel
theorem dX6_unmark_52 : decode cX6_unmark 52 = .ok (.iconst 1, 1) := by decide +kernel
theorem dX6_unmark_53 : decode cX6_unmark 53 = .ok (.putfield 57, 3) := by decide +kernel
theorem dX6_unmark_56 : decode cX6_unmark 56 = .ok (.iload_n 3, 1) := by decide +kernel
theorem dX6_unmark_57 : decode cX6_unmark 57 = .ok (.ireturn, 1) := by decide +kernel
theorem dX6_ofMark_0 : decode cX6_ofMark 0 = .ok (.aload_n 0, 1) := by decide +kernel
theorem dX6_ofMark_1 : decode cX6_ofMark 1 = .ok (.getfield 10, 3) := by decide +kernel
theorem dX6_ofMark_4 : decode cX6_ofMark 4 = .ok (.iload_n 1, 1) := by decide +kernel
theorem dX6_ofMark_5 : decode cX6_ofMark 5 = .ok (.invokevirtual 85, 3) := by decide +kernel
theorem dX6_ofMark_8 : decode cX6_ofMark 8 = .ok (.ifCond .ne 5, 3) := by decide +kernel
theorem dX6_ofMark_11 : decode cX6_ofMark 11 = .ok (.iconst (-1), 1) := by decide +kernel
theorem dX6_ofMark_12 : decode cX6_ofMark 12 = .ok (.ireturn, 1) := by decide +kernel
theorem dX6_ofMark_13 : decode cX6_ofMark 13 = .ok (.iload_n 2, 1) := by decide +kernel
theorem dX6_ofMark_14 : decode cX6_ofMark 14 = .ok (.iconst 2, 1) := by decide +kernel
theorem dX6_ofMark_15 : decode cX6_ofMark 15 = .ok (.invokestatic 61, 3) := by decide +kernel
theorem dX6_ofMark_18 : decode cX6_ofMark 18 = .ok (.ifCond .eq 11, 3) := by decide +kernel
theorem dX6_ofMark_21 : decode cX6_ofMark 21 = .ok (.iload_n 3, 1) := by decide +kernel
theorem dX6_ofMark_22 : decode cX6_ofMark 22 = .ok (.iconst 2, 1) := by decide +kernel
theorem dX6_ofMark_23 : decode cX6_ofMark 23 = .ok (.invokestatic 61, 3) := by decide +kernel
theorem dX6_ofMark_26 : decode cX6_ofMark 26 = .ok (.ifCond .ne 6, 3) := by decide +kernel
theorem dX6_ofMark_29 : decode cX6_ofMark 29 = .ok (.bipush (-2), 2) := by decide +kernel
theorem dX6_ofMark_31 : decode cX6_ofMark 31 = .ok (.ireturn, 1) := by decide +kernel
theorem dX6_ofMark_32 : decode cX6_ofMark 32 = .ok (.iload_n 3, 1) := by decide +kernel
theorem dX6_ofMark_33 : decode cX6_ofMark 33 = .ok (.ifCond .ne 15, 3) := by decide +kernel
theorem dX6_ofMark_36 : decode cX6_ofMark 36 = .ok (.aload_n 0, 1) := by decide +kernel
theorem dX6_ofMark_37 : decode cX6_ofMark 37 = .ok (.getfield 19, 3) := by decide +kernel
theorem dX6_ofMark_40 : decode cX6_ofMark 40 = .ok (.iload_n 1, 1) := by decide +kernel
theorem dX6_ofMark_41 : decode cX6_ofMark 41 = .ok (.iload_n 2, 1) := by decide +kernel
theorem dX6_ofMark_42 : decode cX6_ofMark 42 = .ok (.invokevirtual 196, 3) := by decide +kernel
theorem dX6_ofMark_45 : decode cX6_ofMark 45 = .ok (.goto 12, 3) := by decide +kernel
theorem dX6_ofMark_48 : decode cX6_ofMark 48 = .ok (.aload_n 0, 1) := by decide +kernel
theorem dX6_ofMark_49 : decode cX6_ofMark 49 = .ok (.getfield 19, 3) := by decide +kernel
theorem dX6_ofMark_52 : decode cX6_ofMark 52 = .ok (.iload_n 1, 1) := by decide +kernel
theorem dX6_ofMark_53 : decode cX6_ofMark 53 = .ok (.iload_n 2, 1) := by decide +kernel
theorem dX6_ofMark_54 : decode cX6_ofMark 54 = .ok (.invokevirtual 199, 3) := by decide +kernel
theorem dX6_ofMark_57 : decode cX6_ofMark 57 = .ok (.ireturn, 1) := by decide +kernel
theorem dX6_ofArticle_0 : decode cX6_ofArticle 0 = .ok (.aload_n 0, 1) := by decide +kernel
theorem dX6_ofArticle_1 : decode cX6_ofArticle 1 = .ok (.invokevirtual 142, 3) := by decide +kernel
theorem dX6_ofArticle_4 : decode cX6_ofArticle 4 = .ok (.aload_n 0, 1) := by decide +kernel
theorem dX6_ofArticle_5 : decode cX6_ofArticle 5 = .ok (.getfield 53, 3) := by decide +kernel
theorem dX6_ofArticle_8 : decode cX6_ofArticle 8 = .ok (.iload_n 1, 1) := by decide +kernel
theorem dX6_ofArticle_9 : decode cX6_ofArticle 9 = .ok (.invokevirtual 202, 3) := by decide +kernel
theorem dX6_ofArticle_12 : decode cX6_ofArticle 12 = .ok (.ifCond .ne 5, 3) := by decide +kernel
theorem dX6_ofArticle_15 : decode cX6_ofArticle 15 = .ok (.iconst (-1), 1) := by decide +kernel
theorem dX6_ofArticle_16 : decode cX6_ofArticle 16 = .ok (.ireturn, 1) := by decide +kernel
theorem dX6_ofArticle_17 : decode cX6_ofArticle 17 = .ok (.iload_n 2, 1) := by decide +kernel
theorem dX6_ofArticle_18 : decode cX6_ofArticle 18 = .ok (.tableswitch 131 0 6 #[42, 52, 62, 71, 80, 89, 106], 42) := by decide +kernel
theorem dX6_ofArticle_60 : decode cX6_ofArticle 60 = .ok (.aload_n 0, 1) := by decide +kernel
theorem dX6_ofArticle_61 : decode cX6_ofArticle 61 = .ok (.getfield 53, 3) := by decide +kernel
theorem dX6_ofArticle_64 : decode cX6_ofArticle 64 = .ok (.getfield 203, 3) := by decide +kernel
theorem dX6_ofArticle_67 : decode cX6_ofArticle 67 = .ok (.iload_n 1, 1) := by decide +kernel
theorem dX6_ofArticle_68 : decode cX6_ofArticle 68 = .ok (.iaload, 1) := by decide +kernel
theorem dX6_ofArticle_69 : decode cX6_ofArticle 69 = .ok (.ireturn, 1) := by decide +kernel
theorem dX6_ofArticle_70 : decode cX6_ofArticle 70 = .ok (.aload_n 0, 1) := by decide +kernel
theorem dX6_ofArticle_71 : decode cX6_ofArticle 71 = .ok (.getfield 53, 3) := by decide +kernel
theorem dX6_ofArticle_74 : decode cX6_ofArticle 74 = .ok (.getfield 206, 3) := by decide +kernel
theorem dX6_ofArticle_77 : decode cX6_ofArticle 77 = .ok (.iload_n 1, 1) := by decide +kernel
theorem dX6_ofArticle_78 : decode cX6_ofArticle 78 = .ok (.iaload, 1) := by decide +kernel
theorem dX6_ofArticle_79 : decode cX6_ofArticle 79 = .ok (.ireturn, 1) := by decide +kernel
theorem dX6_ofArticle_80 : decode cX6_ofArticle 80 = .ok (.aload_n 0, 1) := by decide +kernel
theorem dX6_ofArticle_81 : decode cX6_ofArticle 81 = .ok (.getfield 53, 3) := by decide +kernel
theorem dX6_ofArticle_84 : decode cX6_ofArticle 84 = .ok (.iload_n 1, 1) := by decide +kernel
theorem dX6_ofArticle_85 : decode cX6_ofArticle 85 = .ok (.invokevirtual 209, 3) := by decide +kernel
theorem dX6_ofArticle_88 : decode cX6_ofArticle 88 = .ok (.ireturn, 1) := by decide +kernel
theorem dX6_ofArticle_89 : decode cX6_ofArticle 89 = .ok (.aload_n 0, 1) := by decide +kernel
theorem dX6_ofArticle_90 : decode cX6_ofArticle 90 = .ok (.getfield 53, 3) := by decide +kernel
theorem dX6_ofArticle_93 : decode cX6_ofArticle 93 = .ok (.iload_n 1, 1) := by decide +kernel
theorem dX6_ofArticle_94 : decode cX6_ofArticle 94 = .ok (.invokevirtual 210, 3) := by decide +kernel
theorem dX6_ofArticle_97 : decode cX6_ofArticle 97 = .ok (.ireturn, 1) := by decide +kernel
theorem dX6_ofArticle_98 : decode cX6_ofArticle 98 = .ok (.aload_n 0, 1) := by decide +kernel
theorem dX6_ofArticle_99 : decode cX6_ofArticle 99 = .ok (.getfield 53, 3) := by decide +kernel
theorem dX6_ofArticle_102 : decode cX6_ofArticle 102 = .ok (.iload_n 1, 1) := by decide +kernel
theorem dX6_ofArticle_103 : decode cX6_ofArticle 103 = .ok (.invokevirtual 211, 3) := by decide +kernel
theorem dX6_ofArticle_106 : decode cX6_ofArticle 106 = .ok (.ireturn, 1) := by decide +kernel
theorem dX6_ofArticle_107 : decode cX6_ofArticle 107 = .ok (.aload_n 0, 1) := by decide +kernel
theorem dX6_ofArticle_108 : decode cX6_ofArticle 108 = .ok (.getfield 53, 3) := by decide +kernel
theorem dX6_ofArticle_111 : decode cX6_ofArticle 111 = .ok (.iload_n 1, 1) := by decide +kernel
theorem dX6_ofArticle_112 : decode cX6_ofArticle 112 = .ok (.invokevirtual 214, 3) := by decide +kernel
theorem dX6_ofArticle_115 : decode cX6_ofArticle 115 = .ok (.ifCond .eq 7, 3) := by decide +kernel
theorem dX6_ofArticle_118 : decode cX6_ofArticle 118 = .ok (.iconst 1, 1) := by decide +kernel
theorem dX6_ofArticle_119 : decode cX6_ofArticle 119 = .ok (.goto 4, 3) := by decide +kernel
theorem dX6_ofArticle_122 : decode cX6_ofArticle 122 = .ok (.iconst 0, 1) := by decide +kernel
theorem dX6_ofArticle_123 : decode cX6_ofArticle 123 = .ok (.ireturn, 1) := by decide +kernel
theorem dX6_ofArticle_124 : decode cX6_ofArticle 124 = .ok (.aload_n 0, 1) := by decide +kernel
theorem dX6_ofArticle_125 : decode cX6_ofArticle 125 = .ok (.getfield 53, 3) := by decide +kernel
theorem dX6_ofArticle_128 : decode cX6_ofArticle 128 = .ok (.aload_n 0, 1) := by decide +kernel
theorem dX6_ofArticle_129 : decode cX6_ofArticle 129 = .ok (.getfield 53, 3) := by decide +kernel
theorem dX6_ofArticle_132 : decode cX6_ofArticle 132 = .ok (.getfield 217, 3) := by decide +kernel
theorem dX6_ofArticle_135 : decode cX6_ofArticle 135 = .ok (.iload_n 1, 1) := by decide +kernel
theorem dX6_ofArticle_136 : decode cX6_ofArticle 136 = .ok (.iaload, 1) := by decide +kernel
theorem dX6_ofArticle_137 : decode cX6_ofArticle 137 = .ok (.invokevirtual 180, 3) := by decide +kernel
theorem dX6_ofArticle_140 : decode cX6_ofArticle 140 = .ok (.ifCond .eq 7, 3) := by decide +kernel
theorem dX6_ofArticle_143 : decode cX6_ofArticle 143 = .ok (.iconst 1, 1) := by decide +kernel
theorem dX6_ofArticle_144 : decode cX6_ofArticle 144 = .ok (.goto 4, 3) := by decide +kernel
theorem dX6_ofArticle_147 : decode cX6_ofArticle 147 = .ok (.iconst 0, 1) := by decide +kernel
theorem dX6_ofArticle_148 : decode cX6_ofArticle 148 = .ok (.ireturn, 1) := by decide +kernel
theorem dX6_ofArticle_149 : decode cX6_ofArticle 149 = .ok (.bipush (-2), 2) := by decide +kernel
theorem dX6_ofArticle_151 : decode cX6_ofArticle 151 = .ok (.ireturn, 1) := by decide +kernel
theorem dX6_read_0 : decode cX6_read 0 = .ok (.aload_n 0, 1) := by decide +kernel
theorem dX6_read_1 : decode cX6_read 1 = .ok (.invokevirtual 142, 3) := by decide +kernel
theorem dX6_read_4 : decode cX6_read 4 = .ok (.aload_n 0, 1) := by decide +kernel
theorem dX6_read_5 : decode cX6_read 5 = .ok (.getfield 53, 3) := by decide +kernel
theorem dX6_read_8 : decode cX6_read 8 = .ok (.iload_n 1, 1) := by decide +kernel
theorem dX6_read_9 : decode cX6_read 9 = .ok (.invokevirtual 202, 3) := by decide +kernel
theorem dX6_read_12 : decode cX6_read 12 = .ok (.ifCond .ne 5, 3) := by decide +kernel
theorem dX6_read_15 : decode cX6_read 15 = .ok (.iconst (-1), 1) := by decide +kernel
theorem dX6_read_16 : decode cX6_read 16 = .ok (.ireturn, 1) := by decide +kernel
theorem dX6_read_17 : decode cX6_read 17 = .ok (.iload_n 2, 1) := by decide +kernel
theorem dX6_read_18 : decode cX6_read 18 = .ok (.bipush 24, 2) := by decide +kernel
theorem dX6_read_20 : decode cX6_read 20 = .ok (.invokestatic 61, 3) := by decide +kernel
theorem dX6_read_23 : decode cX6_read 23 = .ok (.ifCond .ne 6, 3) := by decide +kernel
theorem dX6_read_26 : decode cX6_read 26 = .ok (.bipush (-2), 2) := by decide +kernel
theorem dX6_read_28 : decode cX6_read 28 = .ok (.ireturn, 1) := by decide +kernel
theorem dX6_read_29 : decode cX6_read 29 = .ok (.aload_n 0, 1) := by decide +kernel
theorem dX6_read_30 : decode cX6_read 30 = .ok (.getfield 53, 3) := by decide +kernel
theorem dX6_read_33 : decode cX6_read 33 = .ok (.iload_n 1, 1) := by decide +kernel
theorem dX6_read_34 : decode cX6_read 34 = .ok (.iload_n 2, 1) := by decide +kernel
theorem dX6_read_35 : decode cX6_read 35 = .ok (.invokevirtual 220, 3) := by decide +kernel
theorem dX6_read_38 : decode cX6_read 38 = .ok (.ireturn, 1) := by decide +kernel
theorem dX6_many_0 : decode cX6_many 0 = .ok (.aload_n 0, 1) := by decide +kernel
theorem dX6_many_1 : decode cX6_many 1 = .ok (.invokevirtual 142, 3) := by decide +kernel
theorem dX6_many_4 : decode cX6_many 4 = .ok (.iload_n 1, 1) := by decide +kernel
theorem dX6_many_5 : decode cX6_many 5 = .ok (.tableswitch 161 0 11 #[63, 71, 79, 88, 97, 105, 113, 121, 129, 137, 145, 153], 63) := by decide +kernel
theorem dX6_many_68 : decode cX6_many 68 = .ok (.aload_n 0, 1) := by decide +kernel
theorem dX6_many_69 : decode cX6_many 69 = .ok (.getfield 10, 3) := by decide +kernel
theorem dX6_many_72 : decode cX6_many 72 = .ok (.getfield 73, 3) := by decide +kernel
theorem dX6_many_75 : decode cX6_many 75 = .ok (.ireturn, 1) := by decide +kernel
theorem dX6_many_76 : decode cX6_many 76 = .ok (.aload_n 0, 1) := by decide +kernel
theorem dX6_many_77 : decode cX6_many 77 = .ok (.getfield 26, 3) := by decide +kernel
theorem dX6_many_80 : decode cX6_many 80 = .ok (.getfield 96, 3) := by decide +kernel
theorem dX6_many_83 : decode cX6_many 83 = .ok (.ireturn, 1) := by decide +kernel
theorem dX6_many_84 : decode cX6_many 84 = .ok (.aload_n 0, 1) := by decide +kernel
theorem dX6_many_85 : decode cX6_many 85 = .ok (.getfield 10, 3) := by decide +kernel
theorem dX6_many_88 : decode cX6_many 88 = .ok (.iconst 0, 1) := by decide +kernel
theorem dX6_many_89 : decode cX6_many 89 = .ok (.invokevirtual 223, 3) := by decide +kernel
theorem dX6_many_92 : decode cX6_many 92 = .ok (.ireturn, 1) := by decide +kernel
theorem dX6_many_93 : decode cX6_many 93 = .ok (.aload_n 0, 1) := by decide +kernel
theorem dX6_many_94 : decode cX6_many 94 = .ok (.getfield 10, 3) := by decide +kernel
theorem dX6_many_97 : decode cX6_many 97 = .ok (.iconst 1, 1) := by decide +kernel
theorem dX6_many_98 : decode cX6_many 98 = .ok (.invokevirtual 223, 3) := by decide +kernel
theorem dX6_many_101 : decode cX6_many 101 = .ok (.ireturn, 1) := by decide +kernel
theorem dX6_many_102 : decode cX6_many 102 = .ok (.aload_n 0, 1) := by decide +kernel
theorem dX6_many_103 : decode cX6_many 103 = .ok (.getfield 44, 3) := by decide +kernel
theorem dX6_many_106 : decode cX6_many 106 = .ok (.getfield 226, 3) := by decide +kernel
theorem dX6_many_109 : decode cX6_many 109 = .ok (.ireturn, 1) := by decide +kernel
theorem dX6_many_110 : decode cX6_many 110 = .ok (.aload_n 0, 1) := by decide +kernel
theorem dX6_many_111 : decode cX6_many 111 = .ok (.getfield 44, 3) := by decide +kernel
theorem dX6_many_114 : decode cX6_many 114 = .ok (.invokevirtual 227, 3) := by decide +kernel
theorem dX6_many_117 : decode cX6_many 117 = .ok (.ireturn, 1) := by decide +kernel
theorem dX6_many_118 : decode cX6_many 118 = .ok (.aload_n 0, 1) := by decide +kernel
theorem dX6_many_119 : decode cX6_many 119 = .ok (.getfield 44, 3) := by decide +kernel
theorem dX6_many_122 : decode cX6_many 122 = .ok (.invokevirtual 230, 3) := by decide +kernel
theorem dX6_many_125 : decode cX6_many 125 = .ok (.ireturn, 1) := by decide +kernel
theorem dX6_many_126 : decode cX6_many 126 = .ok (.aload_n 0, 1) := by decide +kernel
theorem dX6_many_127 : decode cX6_many 127 = .ok (.getfield 53, 3) := by decide +kernel
theorem dX6_many_130 : decode cX6_many 130 = .ok (.getfield 233, 3) := by decide +kernel
theorem dX6_many_133 : decode cX6_many 133 = .ok (.ireturn, 1) := by decide +kernel
theorem dX6_many_134 : decode cX6_many 134 = .ok (.aload_n 0, 1) := by decide +kernel
theorem dX6_many_135 : decode cX6_many 135 = .ok (.getfield 53, 3) := by decide +kernel
theorem dX6_many_138 : decode cX6_many 138 = .ok (.invokevirtual 234, 3) := by decide +kernel
theorem dX6_many_141 : decode cX6_many 141 = .ok (.ireturn, 1) := by decide +kernel
theorem dX6_many_142 : decode cX6_many 142 = .ok (.aload_n 0, 1) := by decide +kernel
theorem dX6_many_143 : decode cX6_many 143 = .ok (.getfield 53, 3) := by decide +kernel
theorem dX6_many_146 : decode cX6_many 146 = .ok (.invokevirtual 237, 3) := by decide +kernel
theorem dX6_many_149 : decode cX6_many 149 = .ok (.ireturn, 1) := by decide +kernel
theorem dX6_many_150 : decode cX6_many 150 = .ok (.aload_n 0, 1) := by decide +kernel
theorem dX6_many_151 : decode cX6_many 151 = .ok (.getfield 53, 3) := by decide +kernel
theorem dX6_many_154 : decode cX6_many 154 = .ok (.invokevirtual 240, 3) := by decide +kernel
theorem dX6_many_157 : decode cX6_many 157 = .ok (.ireturn, 1) := by decide +kernel
theorem dX6_many_158 : decode cX6_many 158 = .ok (.aload_n 0, 1) := by decide +kernel
theorem dX6_many_159 : decode cX6_many 159 = .ok (.getfield 44, 3) := by decide +kernel
theorem dX6_many_162 : decode cX6_many 162 = .ok (.invokevirtual 243, 3) := by decide +kernel
theorem dX6_many_165 : decode cX6_many 165 = .ok (.ireturn, 1) := by decide +kernel
theorem dX6_many_166 : decode cX6_many 166 = .ok (.bipush (-2), 2) := by decide +kernel
theorem dX6_many_168 : decode cX6_many 168 = .ok (.ireturn, 1) := by decide +kernel
theorem dX6_isBelow_0 : decode cX6_isBelow 0 = .ok (.iload_n 0, 1) := by decide +kernel
theorem dX6_isBelow_1 : decode cX6_isBelow 1 = .ok (.ifCond .lt 12, 3) := by decide +kernel
theorem dX6_isBelow_4 : decode cX6_isBelow 4 = .ok (.iload_n 0, 1) := by decide +kernel
theorem dX6_isBelow_5 : decode cX6_isBelow 5 = .ok (.iload_n 1, 1) := by decide +kernel
theorem dX6_isBelow_6 : decode cX6_isBelow 6 = .ok (.if_icmp .ge 7, 3) := by decide +kernel
theorem dX6_isBelow_9 : decode cX6_isBelow 9 = .ok (.iconst 1, 1) := by decide +kernel
theorem dX6_isBelow_10 : decode cX6_isBelow 10 = .ok (.goto 4, 3) := by decide +kernel
theorem dX6_isBelow_13 : decode cX6_isBelow 13 = .ok (.iconst 0, 1) := by decide +kernel
theorem dX6_isBelow_14 : decode cX6_isBelow 14 = .ok (.ireturn, 1) := by decide +kernel
theorem dX6_isSpan_0 : decode cX6_isSpan 0 = .ok (.iload_n 0, 1) := by decide +kernel
theorem dX6_isSpan_1 : decode cX6_isSpan 1 = .ok (.ifCond .lt 17, 3) := by decide +kernel
theorem dX6_isSpan_4 : decode cX6_isSpan 4 = .ok (.iload_n 0, 1) := by decide +kernel
theorem dX6_isSpan_5 : decode cX6_isSpan 5 = .ok (.iload_n 1, 1) := by decide +kernel
theorem dX6_isSpan_6 : decode cX6_isSpan 6 = .ok (.if_icmp .gt 12, 3) := by decide +kernel
theorem dX6_isSpan_9 : decode cX6_isSpan 9 = .ok (.iload_n 1, 1) := by decide +kernel
theorem dX6_isSpan_10 : decode cX6_isSpan 10 = .ok (.iload_n 2, 1) := by decide +kernel
theorem dX6_isSpan_11 : decode cX6_isSpan 11 = .ok (.if_icmp .ge 7, 3) := by decide +kernel
theorem dX6_isSpan_14 : decode cX6_isSpan 14 = .ok (.iconst 1, 1) := by decide +kernel
theorem dX6_isSpan_15 : decode cX6_isSpan 15 = .ok (.goto 4, 3) := by decide +kernel
theorem dX6_isSpan_18 : decode cX6_isSpan 18 = .ok (.iconst 0, 1) := by decide +kernel
theorem dX6_isSpan_19 : decode cX6_isSpan 19 = .ok (.ireturn, 1) := by decide +kernel
theorem dX6_refresh_0 : decode cX6_refresh 0 = .ok (.aload_n 0, 1) := by decide +kernel
theorem dX6_refresh_1 : decode cX6_refresh 1 = .ok (.getfield 57, 3) := by decide +kernel
theorem dX6_refresh_4 : decode cX6_refresh 4 = .ok (.ifCond .eq 22, 3) := by decide +kernel
theorem dX6_refresh_7 : decode cX6_refresh 7 = .ok (.aload_n 0, 1) := by decide +kernel
theorem dX6_refresh_8 : decode cX6_refresh 8 = .ok (.getfield 44, 3) := by decide +kernel
theorem dX6_refresh_11 : decode cX6_refresh 11 = .ok (.invokevirtual 246, 3) := by decide +kernel
theorem dX6_refresh_14 : decode cX6_refresh 14 = .ok (.aload_n 0, 1) := by decide +kernel
theorem dX6_refresh_15 : decode cX6_refresh 15 = .ok (.getfield 53, 3) := by decide +kernel
theorem dX6_refresh_18 : decode cX6_refresh 18 = .ok (.invokevirtual 249, 3) := by decide +kernel
theorem dX6_refresh_21 : decode cX6_refresh 21 = .ok (.aload_n 0, 1) := by decide +kernel
theorem dX6_refresh_22 : decode cX6_refresh 22 = .ok (.iconst 0, 1) := by decide +kernel
theorem dX6_refresh_23 : decode cX6_refresh 23 = .ok (.putfield 57, 3) := by decide +kernel
theorem dX6_refresh_26 : decode cX6_refresh 26 = .ok (.return_, 1) := by decide +kernel
theorem dX7_init_0 : decode cX7_init 0 = .ok (.aload_n 0, 1) := by decide +kernel
theorem dX7_init_1 : decode cX7_init 1 = .ok (.invokespecial 1, 3) := by decide +kernel
theorem dX7_init_4 : decode cX7_init 4 = .ok (.aload_n 0, 1) := by decide +kernel
theorem dX7_init_5 : decode cX7_init 5 = .ok (.bipush 24, 2) := by decide +kernel
theorem dX7_init_7 : decode cX7_init 7 = .ok (.newarray .int, 2) := by decide +kernel
theorem dX7_init_9 : decode cX7_init 9 = .ok (.putfield 7, 3) := by decide +kernel
theorem dX7_init_12 : decode cX7_init 12 = .ok (.aload_n 0, 1) := by decide +kernel
theorem dX7_init_13 : decode cX7_init 13 = .ok (.bipush 24, 2) := by decide +kernel
theorem dX7_init_15 : decode cX7_init 15 = .ok (.newarray .int, 2) := by decide +kernel
theorem dX7_init_17 : decode cX7_init 17 = .ok (.putfield 13, 3) := by decide +kernel
theorem dX7_init_20 : decode cX7_init 20 = .ok (.aload_n 0, 1) := by decide +kernel
theorem dX7_init_21 : decode cX7_init 21 = .ok (.bipush 24, 2) := by decide +kernel
theorem dX7_init_23 : decode cX7_init 23 = .ok (.newarray .int, 2) := by decide +kernel
theorem dX7_init_25 : decode cX7_init 25 = .ok (.putfield 16, 3) := by decide +kernel
theorem dX7_init_28 : decode cX7_init 28 = .ok (.aload_n 0, 1) := by decide +kernel
theorem dX7_init_29 : decode cX7_init 29 = .ok (.bipush 24, 2) := by decide +kernel
theorem dX7_init_31 : decode cX7_init 31 = .ok (.newarray .int, 2) := by decide +kernel
theorem dX7_init_33 : decode cX7_init 33 = .ok (.putfield 19, 3) := by decide +kernel
theorem dX7_init_36 : decode cX7_init 36 = .ok (.aload_n 0, 1) := by decide +kernel
theorem dX7_init_37 : decode cX7_init 37 = .ok (.bipush 24, 2) := by decide +kernel
theorem dX7_init_39 : decode cX7_init 39 = .ok (.newarray .int, 2) := by decide +kernel
theorem dX7_init_41 : decode cX7_init 41 = .ok (.putfield 22, 3) := by decide +kernel
theorem dX7_init_44 : decode cX7_init 44 = .ok (.aload_n 0, 1) := by decide +kernel
theorem dX7_init_45 : decode cX7_init 45 = .ok (.bipush 24, 2) := by decide +kernel
theorem dX7_init_47 : decode cX7_init 47 = .ok (.newarray .int, 2) := by decide +kernel
theorem dX7_init_49 : decode cX7_init 49 = .ok (.putfield 25, 3) := by decide +kernel
theorem dX7_init_52 : decode cX7_init 52 = .ok (.aload_n 0, 1) := by decide +kernel
theorem dX7_init_53 : decode cX7_init 53 = .ok (.bipush 24, 2) := by decide +kernel
theorem dX7_init_55 : decode cX7_init 55 = .ok (.newarray .int, 2) := by decide +kernel
theorem dX7_init_57 : decode cX7_init 57 = .ok (.putfield 28, 3) := by decide +kernel
theorem dX7_init_60 : decode cX7_init 60 = .ok (.aload_n 0, 1) := by decide +kernel
theorem dX7_init_61 : decode cX7_init 61 = .ok (.bipush 48, 2) := by decide +kernel
theorem dX7_init_63 : decode cX7_init 63 = .ok (.newarray .int, 2) := by decide +kernel
theorem dX7_init_65 : decode cX7_init 65 = .ok (.putfield 31, 3) := by decide +kernel
theorem dX7_init_68 : decode cX7_init 68 = .ok (.aload_n 0, 1) := by decide +kernel
theorem dX7_init_69 : decode cX7_init 69 = .ok (.bipush 48, 2) := by decide +kernel
theorem dX7_init_71 : decode cX7_init 71 = .ok (.newarray .int, 2) := by decide +kernel
theorem dX7_init_73 : decode cX7_init 73 = .ok (.putfield 34, 3) := by decide +kernel
theorem dX7_init_76 : decode cX7_init 76 = .ok (.aload_n 0, 1) := by decide +kernel
theorem dX7_init_77 : decode cX7_init 77 = .ok (.bipush 12, 2) := by decide +kernel
theorem dX7_init_79 : decode cX7_init 79 = .ok (.newarray .int, 2) := by decide +kernel
theorem dX7_init_81 : decode cX7_init 81 = .ok (.putfield 37, 3) := by decide +kernel
theorem dX7_init_84 : decode cX7_init 84 = .ok (.aload_n 0, 1) := by decide +kernel
theorem dX7_init_85 : decode cX7_init 85 = .ok (.bipush 12, 2) := by decide +kernel
theorem dX7_init_87 : decode cX7_init 87 = .ok (.newarray .int, 2) := by decide +kernel
theorem dX7_init_89 : decode cX7_init 89 = .ok (.putfield 40, 3) := by decide +kernel
theorem dX7_init_92 : decode cX7_init 92 = .ok (.aload_n 0, 1) := by decide +kernel
theorem dX7_init_93 : decode cX7_init 93 = .ok (.bipush 12, 2) := by decide +kernel
theorem dX7_init_95 : decode cX7_init 95 = .ok (.newarray .int, 2) := by decide +kernel
theorem dX7_init_97 : decode cX7_init 97 = .ok (.putfield 43, 3) := by decide +kernel
theorem dX7_init_100 : decode cX7_init 100 = .ok (.aload_n 0, 1) := by decide +kernel
theorem dX7_init_101 : decode cX7_init 101 = .ok (.bipush 12, 2) := by decide +kernel
theorem dX7_init_103 : decode cX7_init 103 = .ok (.newarray .int, 2) := by decide +kernel
theorem dX7_init_105 : decode cX7_init 105 = .ok (.putfield 46, 3) := by decide +kernel
theorem dX7_init_108 : decode cX7_init 108 = .ok (.aload_n 0, 1) := by decide +kernel
theorem dX7_init_109 : decode cX7_init 109 = .ok (.bipush 12, 2) := by decide +kernel
theorem dX7_init_111 : decode cX7_init 111 = .ok (.newarray .int, 2) := by decide +kernel
theorem dX7_init_113 : decode cX7_init 113 = .ok (.putfield 49, 3) := by decide +kernel
theorem dX7_init_116 : decode cX7_init 116 = .ok (.aload_n 0, 1) := by decide +kernel
theorem dX7_init_117 : decode cX7_init 117 = .ok (.bipush 24, 2) := by decide +kernel
theorem dX7_init_119 : decode cX7_init 119 = .ok (.newarray .int, 2) := by decide +kernel
theorem dX7_init_121 : decode cX7_init 121 = .ok (.putfield 52, 3) := by decide +kernel
theorem dX7_init_124 : decode cX7_init 124 = .ok (.aload_n 0, 1) := by decide +kernel
theorem dX7_init_125 : decode cX7_init 125 = .ok (.bipush 24, 2) := by decide +kernel
theorem dX7_init_127 : decode cX7_init 127 = .ok (.newarray .int, 2) := by decide +kernel
theorem dX7_init_129 : decode cX7_init 129 = .ok (.putfield 55, 3) := by decide +kernel
theorem dX7_init_132 : decode cX7_init 132 = .ok (.aload_n 0, 1) := by decide +kernel
theorem dX7_init_133 : decode cX7_init 133 = .ok (.bipush 24, 2) := by decide +kernel
theorem dX7_init_135 : decode cX7_init 135 = .ok (.newarray .int, 2) := by decide +kernel
theorem dX7_init_137 : decode cX7_init 137 = .ok (.putfield 58, 3) := by decide +kernel
theorem dX7_init_140 : decode cX7_init 140 = .ok (.aload_n 0, 1) := by decide +kernel
theorem dX7_init_141 : decode cX7_init 141 = .ok (.bipush 24, 2) := by decide +kernel
theorem dX7_init_143 : decode cX7_init 143 = .ok (.newarray .int, 2) := by decide +kernel
theorem dX7_init_145 : decode cX7_init 145 = .ok (.putfield 61, 3) := by decide +kernel
theorem dX7_init_148 : decode cX7_init 148 = .ok (.aload_n 0, 1) := by decide +kernel
theorem dX7_init_149 : decode cX7_init 149 = .ok (.sipush 576, 3) := by decide +kernel
theorem dX7_init_152 : decode cX7_init 152 = .ok (.newarray .int, 2) := by decide +kernel
theorem dX7_init_154 : decode cX7_init 154 = .ok (.putfield 64, 3) := by decide +kernel
theorem dX7_init_157 : decode cX7_init 157 = .ok (.aload_n 0, 1) := by decide +kernel
theorem dX7_init_158 : decode cX7_init 158 = .ok (.bipush 24, 2) := by decide +kernel
theorem dX7_init_160 : decode cX7_init 160 = .ok (.newarray .int, 2) := by decide +kernel
theorem dX7_init_162 : decode cX7_init 162 = .ok (.putfield 67, 3) := by decide +kernel
theorem dX7_init_165 : decode cX7_init 165 = .ok (.aload_n 0, 1) := by decide +kernel
theorem dX7_init_166 : decode cX7_init 166 = .ok (.bipush 24, 2) := by decide +kernel
theorem dX7_init_168 : decode cX7_init 168 = .ok (.newarray .int, 2) := by decide +kernel
theorem dX7_init_170 : decode cX7_init 170 = .ok (.putfield 70, 3) := by decide +kernel
theorem dX7_init_173 : decode cX7_init 173 = .ok (.aload_n 0, 1) := by decide +kernel
theorem dX7_init_174 : decode cX7_init 174 = .ok (.bipush 24, 2) := by decide +kernel
theorem dX7_init_176 : decode cX7_init 176 = .ok (.newarray .boolean, 2) := by decide +kernel
theorem dX7_init_178 : decode cX7_init 178 = .ok (.putfield 73, 3) := by decide +kernel
theorem dX7_init_181 : decode cX7_init 181 = .ok (.aload_n 0, 1) := by decide +kernel
theorem dX7_init_182 : decode cX7_init 182 = .ok (.bipush 24, 2) := by decide +kernel
theorem dX7_init_184 : decode cX7_init 184 = .ok (.newarray .int, 2) := by decide +kernel
theorem dX7_init_186 : decode cX7_init 186 = .ok (.putfield 77, 3) := by decide +kernel
theorem dX7_init_189 : decode cX7_init 189 = .ok (.aload_n 0, 1) := by decide +kernel
theorem dX7_init_190 : decode cX7_init 190 = .ok (.bipush 24, 2) := by decide +kernel
theorem dX7_init_192 : decode cX7_init 192 = .ok (.newarray .int, 2) := by decide +kernel
theorem dX7_init_194 : decode cX7_init 194 = .ok (.putfield 80, 3) := by decide +kernel
theorem dX7_init_197 : decode cX7_init 197 = .ok (.aload_n 0, 1) := by decide +kernel
theorem dX7_init_198 : decode cX7_init 198 = .ok (.bipush 24, 2) := by decide +kernel
theorem dX7_init_200 : decode cX7_init 200 = .ok (.newarray .int, 2) := by decide +kernel
theorem dX7_init_202 : decode cX7_init 202 = .ok (.putfield 83, 3) := by decide +kernel
theorem dX7_init_205 : decode cX7_init 205 = .ok (.aload_n 0, 1) := by decide +kernel
theorem dX7_init_206 : decode cX7_init 206 = .ok (.bipush 25, 2) := by decide +kernel
theorem dX7_init_208 : decode cX7_init 208 = .ok (.newarray .int, 2) := by decide +kernel
theorem dX7_init_210 : decode cX7_init 210 = .ok (.putfield 86, 3) := by decide +kernel
theorem dX7_init_213 : decode cX7_init 213 = .ok (.aload_n 0, 1) := by decide +kernel
theorem dX7_init_214 : decode cX7_init 214 = .ok (.bipush 24, 2) := by decide +kernel
theorem dX7_init_216 : decode cX7_init 216 = .ok (.newarray .boolean, 2) := by decide +kernel
theorem dX7_init_218 : decode cX7_init 218 = .ok (.putfield 89, 3) := by decide +kernel
theorem dX7_init_221 : decode cX7_init 221 = .ok (.aload_n 0, 1) := by decide +kernel
theorem dX7_init_222 : decode cX7_init 222 = .ok (.bipush 24, 2) := by decide +kernel
theorem dX7_init_224 : decode cX7_init 224 = .ok (.newarray .int, 2) := by decide +kernel
theorem dX7_init_226 : decode cX7_init 226 = .ok (.putfield 92, 3) := by decide +kernel
theorem dX7_init_229 : decode cX7_init 229 = .ok (.aload_n 0, 1) := by decide +kernel
theorem dX7_init_230 : decode cX7_init 230 = .ok (.bipush 24, 2) := by decide +kernel
theorem dX7_init_232 : decode cX7_init 232 = .ok (.newarray .int, 2) := by decide +kernel
theorem dX7_init_234 : decode cX7_init 234 = .ok (.putfield 95, 3) := by decide +kernel
theorem dX7_init_237 : decode cX7_init 237 = .ok (.return_, 1) := by decide +kernel
theorem dX7_within_0 : decode cX7_within 0 = .ok (.iload_n 0, 1) := by decide +kernel
theorem dX7_within_1 : decode cX7_within 1 = .ok (.iload_n 1, 1) := by decide +kernel
theorem dX7_within_2 : decode cX7_within 2 = .ok (.if_icmp .lt 12, 3) := by decide +kernel
theorem dX7_within_5 : decode cX7_within 5 = .ok (.iload_n 0, 1) := by decide +kernel
theorem dX7_within_6 : decode cX7_within 6 = .ok (.iload_n 2, 1) := by decide +kernel
theorem dX7_within_7 : decode cX7_within 7 = .ok (.if_icmp .gt 7, 3) := by decide +kernel
theorem dX7_within_10 : decode cX7_within 10 = .ok (.iconst 1, 1) := by decide +kernel
theorem dX7_within_11 : decode cX7_within 11 = .ok (.goto 4, 3) := by decide +kernel
theorem dX7_within_14 : decode cX7_within 14 = .ok (.iconst 0, 1) := by decide +kernel
theorem dX7_within_15 : decode cX7_within 15 = .ok (.ireturn, 1) := by decide +kernel
theorem dX7_isBlock_0 : decode cX7_isBlock 0 = .ok (.iload_n 1, 1) := by decide +kernel
theorem dX7_isBlock_1 : decode cX7_isBlock 1 = .ok (.iconst 0, 1) := by decide +kernel
theorem dX7_isBlock_2 : decode cX7_isBlock 2 = .ok (.aload_n 0, 1) := by decide +kernel
theorem dX7_isBlock_3 : decode cX7_isBlock 3 = .ok (.getfield 98, 3) := by decide +kernel
theorem dX7_isBlock_6 : decode cX7_isBlock 6 = .ok (.iconst 1, 1) := by decide +kernel
theorem dX7_isBlock_7 : decode cX7_isBlock 7 = .ok (.isub, 1) := by decide +kernel
theorem dX7_isBlock_8 : decode cX7_isBlock 8 = .ok (.invokestatic 102, 3) := by decide +kernel
theorem dX7_isBlock_11 : decode cX7_isBlock 11 = .ok (.ireturn, 1) := by decide +kernel
theorem dX7_isMeeting_0 : decode cX7_isMeeting 0 = .ok (.aload_n 0, 1) := by decide +kernel
theorem dX7_isMeeting_1 : decode cX7_isMeeting 1 = .ok (.getfield 16, 3) := by decide +kernel
theorem dX7_isMeeting_4 : decode cX7_isMeeting 4 = .ok (.iload_n 1, 1) := by decide +kernel
theorem dX7_isMeeting_5 : decode cX7_isMeeting 5 = .ok (.iaload, 1) := by decide +kernel
theorem dX7_isMeeting_6 : decode cX7_isMeeting 6 = .ok (.iload_n 3, 1) := by decide +kernel
theorem dX7_isMeeting_7 : decode cX7_isMeeting 7 = .ok (.if_icmp .gt 39, 3) := by decide +kernel
theorem dX7_isMeeting_10 : decode cX7_isMeeting 10 = .ok (.aload_n 0, 1) := by decide +kernel
theorem dX7_isMeeting_11 : decode cX7_isMeeting 11 = .ok (.getfield 19, 3) := by decide +kernel
theorem dX7_isMeeting_14 : decode cX7_isMeeting 14 = .ok (.iload_n 1, 1) := by decide +kernel
theorem dX7_isMeeting_15 : decode cX7_isMeeting 15 = .ok (.iaload, 1) := by decide +kernel
theorem dX7_isMeeting_16 : decode cX7_isMeeting 16 = .ok (.iload_n 2, 1) := by decide +kernel
theorem dX7_isMeeting_17 : decode cX7_isMeeting 17 = .ok (.if_icmp .lt 29, 3) := by decide +kernel
theorem dX7_isMeeting_20 : decode cX7_isMeeting 20 = .ok (.aload_n 0, 1) := by decide +kernel
theorem dX7_isMeeting_21 : decode cX7_isMeeting 21 = .ok (.getfield 22, 3) := by decide +kernel
theorem dX7_isMeeting_24 : decode cX7_isMeeting 24 = .ok (.iload_n 1, 1) := by decide +kernel
theorem dX7_isMeeting_25 : decode cX7_isMeeting 25 = .ok (.iaload, 1) := by decide +kernel
theorem dX7_isMeeting_26 : decode cX7_isMeeting 26 = .ok (.iload 5, 2) := by decide +kernel
theorem dX7_isMeeting_28 : decode cX7_isMeeting 28 = .ok (.if_icmp .gt 18, 3) := by decide +kernel
theorem dX7_isMeeting_31 : decode cX7_isMeeting 31 = .ok (.aload_n 0, 1) := by decide +kernel
theorem dX7_isMeeting_32 : decode cX7_isMeeting 32 = .ok (.getfield 25, 3) := by decide +kernel
theorem dX7_isMeeting_35 : decode cX7_isMeeting 35 = .ok (.iload_n 1, 1) := by decide +kernel
theorem dX7_isMeeting_36 : decode cX7_isMeeting 36 = .ok (.iaload, 1) := by decide +kernel
theorem dX7_isMeeting_37 : decode cX7_isMeeting 37 = .ok (.iload 4, 2) := by decide +kernel
theorem dX7_isMeeting_39 : decode cX7_isMeeting 39 = .ok (.if_icmp .lt 7, 3) := by decide +kernel
theorem dX7_isMeeting_42 : decode cX7_isMeeting 42 = .ok (.iconst 1, 1) := by decide +kernel
theorem dX7_isMeeting_43 : decode cX7_isMeeting 43 = .ok (.goto 4, 3) := by decide +kernel
theorem dX7_isMeeting_46 : decode cX7_isMeeting 46 = .ok (.iconst 0, 1) := by decide +kernel
theorem dX7_isMeeting_47 : decode cX7_isMeeting 47 = .ok (.ireturn, 1) := by decide +kernel
theorem dX7_block_0 : decode cX7_block 0 = .ok (.iload_n 3, 1) := by decide +kernel
theorem dX7_block_1 : decode cX7_block 1 = .ok (.iconst 0, 1) := by decide +kernel
theorem dX7_block_2 : decode cX7_block 2 = .ok (.iload 4, 2) := by decide +kernel
theorem dX7_block_4 : decode cX7_block 4 = .ok (.invokestatic 102, 3) := by decide +kernel
theorem dX7_block_7 : decode cX7_block 7 = .ok (.ifCond .eq 41, 3) := by decide +kernel
theorem dX7_block_10 : decode cX7_block 10 = .ok (.iload 4, 2) := by decide +kernel
theorem dX7_block_12 : decode cX7_block 12 = .ok (.iload_n 3, 1) := by decide +kernel
theorem dX7_block_13 : decode cX7_block 13 = .ok (.bipush 7, 2) := by decide +kernel
theorem dX7_block_15 : decode cX7_block 15 = .ok (.invokestatic 102, 3) := by decide +kernel
theorem dX7_block_18 : decode cX7_block 18 = .ok (.ifCond .eq 30, 3) := by decide +kernel
theorem dX7_block_21 : decode cX7_block 21 = .ok (.iload 5, 2) := by decide +kernel
theorem dX7_block_23 : decode cX7_block 23 = .ok (.iconst 0, 1) := by decide +kernel
theorem dX7_block_24 : decode cX7_block 24 = .ok (.iload 6, 2) := by decide +kernel
theorem dX7_block_26 : decode cX7_block 26 = .ok (.invokestatic 102, 3) := by decide +kernel
theorem dX7_block_29 : decode cX7_block 29 = .ok (.ifCond .eq 19, 3) := by decide +kernel
theorem dX7_block_32 : decode cX7_block 32 = .ok (.iload 6, 2) := by decide +kernel
theorem dX7_block_34 : decode cX7_block 34 = .ok (.iload 5, 2) := by decide +kernel
theorem dX7_block_36 : decode cX7_block 36 = .ok (.bipush 29, 2) := by decide +kernel
theorem dX7_block_38 : decode cX7_block 38 = .ok (.invokestatic 102, 3) := by decide +kernel
theorem dX7_block_41 : decode cX7_block 41 = .ok (.ifCond .eq 7, 3) := by decide +kernel
theorem dX7_block_44 : decode cX7_block 44 = .ok (.iconst 1, 1) := by decide +kernel
theorem dX7_block_45 : decode cX7_block 45 = .ok (.goto 4, 3) := by decide +kernel
theorem dX7_block_48 : decode cX7_block 48 = .ok (.iconst 0, 1) := by decide +kernel
theorem dX7_block_49 : decode cX7_block 49 = .ok (.istore 7, 2) := by decide +kernel
theorem dX7_block_51 : decode cX7_block 51 = .ok (.iload_n 1, 1) := by decide +kernel
theorem dX7_block_52 : decode cX7_block 52 = .ok (.iconst 0, 1) := by decide +kernel
theorem dX7_block_53 : decode cX7_block 53 = .ok (.iconst 3, 1) := by decide +kernel
theorem dX7_block_54 : decode cX7_block 54 = .ok (.invokestatic 102, 3) := by decide +kernel
theorem dX7_block_57 : decode cX7_block 57 = .ok (.ifCond .eq 17, 3) := by decide +kernel
theorem dX7_block_60 : decode cX7_block 60 = .ok (.iload_n 2, 1) := by decide +kernel
theorem dX7_block_61 : decode cX7_block 61 = .ok (.iconst 0, 1) := by decide +kernel
theorem dX7_block_62 : decode cX7_block 62 = .ok (.iconst 2, 1) := by decide +kernel
theorem dX7_block_63 : decode cX7_block 63 = .ok (.invokestatic 102, 3) := by decide +kernel
theorem dX7_block_66 : decode cX7_block 66 = .ok (.ifCond .eq 8, 3) := by decide +kernel
theorem dX7_block_69 : decode cX7_block 69 = .ok (.iload 7, 2) := by decide +kernel
theorem dX7_block_71 : decode cX7_block 71 = .ok (.ifCond .ne 6, 3) := by decide +kernel
theorem dX7_block_74 : decode cX7_block 74 = .ok (.bipush (-2), 2) := by decide +kernel
theorem dX7_block_76 : decode cX7_block 76 = .ok (.ireturn, 1) := by decide +kernel
theorem dX7_block_77 : decode cX7_block 77 = .ok (.iconst 0, 1) := by decide +kernel
theorem dX7_block_78 : decode cX7_block 78 = .ok (.istore 8, 2) := by decide +kernel
theorem dX7_block_80 : decode cX7_block 80 = .ok (.iload 8, 2) := by decide +kernel
theorem dX7_block_82 : decode cX7_block 82 = .ok (.aload_n 0, 1) := by decide +kernel
theorem dX7_block_83 : decode cX7_block 83 = .ok (.getfield 98, 3) := by decide +kernel
theorem dX7_block_86 : decode cX7_block 86 = .ok (.if_icmp .ge 39, 3) := by decide +kernel
theorem dX7_block_89 : decode cX7_block 89 = .ok (.aload_n 0, 1) := by decide +kernel
theorem dX7_block_90 : decode cX7_block 90 = .ok (.getfield 7, 3) := by decide +kernel
theorem dX7_block_93 : decode cX7_block 93 = .ok (.iload 8, 2) := by decide +kernel
theorem dX7_block_95 : decode cX7_block 95 = .ok (.iaload, 1) := by decide +kernel
theorem dX7_block_96 : decode cX7_block 96 = .ok (.iload_n 1, 1) := by decide +kernel
theorem dX7_block_97 : decode cX7_block 97 = .ok (.if_icmp .ne 22, 3) := by decide +kernel
theorem dX7_block_100 : decode cX7_block 100 = .ok (.aload_n 0, 1) := by decide +kernel
theorem dX7_block_101 : decode cX7_block 101 = .ok (.iload 8, 2) := by decide +kernel
theorem dX7_block_103 : decode cX7_block 103 = .ok (.iload_n 3, 1) := by decide +kernel
theorem dX7_block_104 : decode cX7_block 104 = .ok (.iload 4, 2) := by decide +kernel
theorem dX7_block_106 : decode cX7_block 106 = .ok (.iload 5, 2) := by decide +kernel
theorem dX7_block_108 : decode cX7_block 108 = .ok (.iload 6, 2) := by decide +kernel
theorem dX7_block_110 : decode cX7_block 110 = .ok (.invokevirtual 106, 3) := by decide +kernel
theorem dX7_block_113 : decode cX7_block 113 = .ok (.ifCond .eq 6, 3) := by decide +kernel
theorem dX7_block_116 : decode cX7_block 116 = .ok (.bipush (-3), 2) := by decide +kernel
theorem dX7_block_118 : decode cX7_block 118 = .ok (.ireturn, 1) := by decide +kernel
theorem dX7_block_119 : decode cX7_block 119 = .ok (.iinc 8 1, 3) := by decide +kernel
theorem dX7_block_122 : decode cX7_block 122 = .ok (.goto (-42), 3) := by decide +kernel
theorem dX7_block_125 : decode cX7_block 125 = .ok (.aload_n 0, 1) := by decide +kernel
theorem dX7_block_126 : decode cX7_block 126 = .ok (.getfield 98, 3) := by decide +kernel
theorem dX7_block_129 : decode cX7_block 129 = .ok (.bipush 24, 2) := by decide +kernel
theorem dX7_block_131 : decode cX7_block 131 = .ok (.if_icmp .ne 6, 3) := by decide +kernel
theorem dX7_block_134 : decode cX7_block 134 = .ok (.bipush (-4), 2) := by decide +kernel
theorem dX7_block_136 : decode cX7_block 136 = .ok (.ireturn, 1) := by decide +kernel
theorem dX7_block_137 : decode cX7_block 137 = .ok (.aload_n 0, 1) := by decide +kernel
theorem dX7_block_138 : decode cX7_block 138 = .ok (.getfield 7, 3) := by decide +kernel
theorem dX7_block_141 : decode cX7_block 141 = .ok (.aload_n 0, 1) := by decide +kernel
theorem dX7_block_142 : decode cX7_block 142 = .ok (.getfield 98, 3) := by decide +kernel
theorem dX7_block_145 : decode cX7_block 145 = .ok (.iload_n 1, 1) := by decide +kernel
theorem dX7_block_146 : decode cX7_block 146 = .ok (.iastore, 1) := by decide +kernel
theorem dX7_block_147 : decode cX7_block 147 = .ok (.aload_n 0, 1) := by decide +kernel
theorem dX7_block_148 : decode cX7_block 148 = .ok (.getfield 13, 3) := by decide +kernel
theorem dX7_block_151 : decode cX7_block 151 = .ok (.aload_n 0, 1) := by decide +kernel
theorem dX7_block_152 : decode cX7_block 152 = .ok (.getfield 98, 3) := by decide +kernel
theorem dX7_block_155 : decode cX7_block 155 = .ok (.iload_n 2, 1) := by decide +kernel
theorem dX7_block_156 : decode cX7_block 156 = .ok (.iastore, 1) := by decide +kernel
theorem dX7_block_157 : decode cX7_block 157 = .ok (.aload_n 0, 1) := by decide +kernel
theorem dX7_block_158 : decode cX7_block 158 = .ok (.getfield 16, 3) := by decide +kernel
theorem dX7_block_161 : decode cX7_block 161 = .ok (.aload_n 0, 1) := by decide +kernel
theorem dX7_block_162 : decode cX7_block 162 = .ok (.getfield 98, 3) := by decide +kernel
theorem dX7_block_165 : decode cX7_block 165 = .ok (.iload_n 3, 1) := by decide +kernel
theorem dX7_block_166 : decode cX7_block 166 = .ok (.iastore, 1) := by decide +kernel
theorem dX7_block_167 : decode cX7_block 167 = .ok (.aload_n 0, 1) := by decide +kernel
theorem dX7_block_168 : decode cX7_block 168 = .ok (.getfield 19, 3) := by decide +kernel
theorem dX7_block_171 : decode cX7_block 171 = .ok (.aload_n 0, 1) := by decide +kernel
theorem dX7_block_172 : decode cX7_block 172 = .ok (.getfield 98, 3) := by decide +kernel
theorem dX7_block_175 : decode cX7_block 175 = .ok (.iload 4, 2) := by decide +kernel
theorem dX7_block_177 : decode cX7_block 177 = .ok (.iastore, 1) := by decide +kernel
theorem dX7_block_178 : decode cX7_block 178 = .ok (.aload_n 0, 1) := by decide +kernel
theorem dX7_block_179 : decode cX7_block 179 = .ok (.getfield 22, 3) := by decide +kernel
theorem dX7_block_182 : decode cX7_block 182 = .ok (.aload_n 0, 1) := by decide +kernel
theorem dX7_block_183 : decode cX7_block 183 = .ok (.getfield 98, 3) := by decide +kernel
theorem dX7_block_186 : decode cX7_block 186 = .ok (.iload 5, 2) := by decide +kernel
theorem dX7_block_188 : decode cX7_block 188 = .ok (.iastore, 1) := by decide +kernel
theorem dX7_block_189 : decode cX7_block 189 = .ok (.aload_n 0, 1) := by decide +kernel
theorem dX7_block_190 : decode cX7_block 190 = .ok (.getfield 25, 3) := by decide +kernel
theorem dX7_block_193 : decode cX7_block 193 = .ok (.aload_n 0, 1) := by decide +kernel
theorem dX7_block_194 : decode cX7_block 194 = .ok (.getfield 98, 3) := by decide +kernel
theorem dX7_block_197 : decode cX7_block 197 = .ok (.iload 6, 2) := by decide +kernel
theorem dX7_block_199 : decode cX7_block 199 = .ok (.iastore, 1) := by decide +kernel
theorem dX7_block_200 : decode cX7_block 200 = .ok (.aload_n 0, 1) := by decide +kernel
theorem dX7_block_201 : decode cX7_block 201 = .ok (.getfield 28, 3) := by decide +kernel
theorem dX7_block_204 : decode cX7_block 204 = .ok (.aload_n 0, 1) := by decide +kernel
theorem dX7_block_205 : decode cX7_block 205 = .ok (.getfield 98, 3) := by decide +kernel
theorem dX7_block_208 : decode cX7_block 208 = .ok (.iload_n 2, 1) := by decide +kernel
theorem dX7_block_209 : decode cX7_block 209 = .ok (.iconst 1, 1) := by decide +kernel
theorem dX7_block_210 : decode cX7_block 210 = .ok (.if_icmp .ne 7, 3) := by decide +kernel
theorem dX7_block_213 : decode cX7_block 213 = .ok (.iconst 1, 1) := by decide +kernel
theorem dX7_block_214 : decode cX7_block 214 = .ok (.goto 5, 3) := by decide +kernel
theorem dX7_block_217 : decode cX7_block 217 = .ok (.bipush (-9), 2) := by decide +kernel
theorem dX7_block_219 : decode cX7_block 219 = .ok (.iastore, 1) := by decide +kernel
theorem dX7_block_220 : decode cX7_block 220 = .ok (.aload_n 0, 1) := by decide +kernel
theorem dX7_block_221 : decode cX7_block 221 = .ok (.getfield 31, 3) := by decide +kernel
theorem dX7_block_224 : decode cX7_block 224 = .ok (.iconst 2, 1) := by decide +kernel
theorem dX7_block_225 : decode cX7_block 225 = .ok (.aload_n 0, 1) := by decide +kernel
theorem dX7_block_226 : decode cX7_block 226 = .ok (.getfield 98, 3) := by decide +kernel
theorem dX7_block_229 : decode cX7_block 229 = .ok (.imul, 1) := by decide +kernel
theorem dX7_block_230 : decode cX7_block 230 = .ok (.bipush (-9), 2) := by decide +kernel
theorem dX7_block_232 : decode cX7_block 232 = .ok (.iastore, 1) := by decide +kernel
theorem dX7_block_233 : decode cX7_block 233 = .ok (.aload_n 0, 1) := by decide +kernel
theorem dX7_block_234 : decode cX7_block 234 = .ok (.getfield 31, 3) := by decide +kernel
theorem dX7_block_237 : decode cX7_block 237 = .ok (.iconst 2, 1) := by decide +kernel
theorem dX7_block_238 : decode cX7_block 238 = .ok (.aload_n 0, 1) := by decide +kernel
theorem dX7_block_239 : decode cX7_block 239 = .ok (.getfield 98, 3) := by decide +kernel
theorem dX7_block_242 : decode cX7_block 242 = .ok (.imul, 1) := by decide +kernel
theorem dX7_block_243 : decode cX7_block 243 = .ok (.iconst 1, 1) := by decide +kernel
theorem dX7_block_244 : decode cX7_block 244 = .ok (.iadd, 1) := by decide +kernel
theorem dX7_block_245 : decode cX7_block 245 = .ok (.bipush (-9), 2) := by decide +kernel
theorem dX7_block_247 : decode cX7_block 247 = .ok (.iastore, 1) := by decide +kernel
theorem dX7_block_248 : decode cX7_block 248 = .ok (.aload_n 0, 1) := by decide +kernel
theorem dX7_block_249 : decode cX7_block 249 = .ok (.dup, 1) := by decide +kernel
theorem dX7_block_250 : decode cX7_block 250 = .ok (.getfield 98, 3) := by decide +kernel
theorem dX7_block_253 : decode cX7_block 253 = .ok (.iconst 1, 1) := by decide +kernel
theorem dX7_block_254 : decode cX7_block 254 = .ok (.iadd, 1) := by decide +kernel
theorem dX7_block_255 : decode cX7_block 255 = .ok (.putfield 98, 3) := by decide +kernel
theorem dX7_block_258 : decode cX7_block 258 = .ok (.aload_n 0, 1) := by decide +kernel
theorem dX7_block_259 : decode cX7_block 259 = .ok (.getfield 98, 3) := by decide +kernel
theorem dX7_block_262 : decode cX7_block 262 = .ok (.iconst 1, 1) := by decide +kernel
theorem dX7_block_263 : decode cX7_block 263 = .ok (.isub, 1) := by decide +kernel
theorem dX7_block_264 : decode cX7_block 264 = .ok (.ireturn, 1) := by decide +kernel
theorem dX7_words_0 : decode cX7_words 0 = .ok (.aload_n 0, 1) := by decide +kernel
theorem dX7_words_1 : decode cX7_words 1 = .ok (.iload_n 1, 1) := by decide +kernel
theorem dX7_words_2 : decode cX7_words 2 = .ok (.invokevirtual 110, 3) := by decide +kernel
theorem dX7_words_5 : decode cX7_words 5 = .ok (.ifCond .ne 5, 3) := by decide +kernel
theorem dX7_words_8 : decode cX7_words 8 = .ok (.iconst (-1), 1) := by decide +kernel
theorem dX7_words_9 : decode cX7_words 9 = .ok (.ireturn, 1) := by decide +kernel
theorem dX7_words_10 : decode cX7_words 10 = .ok (.iload_n 2, 1) := by decide +kernel
theorem dX7_words_11 : decode cX7_words 11 = .ok (.iconst 1, 1) := by decide +kernel
theorem dX7_words_12 : decode cX7_words 12 = .ok (.bipush 99, 2) := by decide +kernel
theorem dX7_words_14 : decode cX7_words 14 = .ok (.invokestatic 102, 3) := by decide +kernel
theorem dX7_words_17 : decode cX7_words 17 = .ok (.ifCond .ne 6, 3) := by decide +kernel
theorem dX7_words_20 : decode cX7_words 20 = .ok (.bipush (-2), 2) := by decide +kernel
theorem dX7_words_22 : decode cX7_words 22 = .ok (.ireturn, 1) := by decide +kernel
theorem dX7_words_23 : decode cX7_words 23 = .ok (.aload_n 0, 1) := by decide +kernel
theorem dX7_words_24 : decode cX7_words 24 = .ok (.getfield 13, 3) := by decide +kernel
theorem dX7_words_27 : decode cX7_words 27 = .ok (.iload_n 1, 1) := by decide +kernel
theorem dX7_words_28 : decode cX7_words 28 = .ok (.iaload, 1) := by decide +kernel
theorem dX7_words_29 : decode cX7_words 29 = .ok (.iconst 1, 1) := by decide +kernel
theorem dX7_words_30 : decode cX7_words 30 = .ok (.if_icmp .eq 6, 3) := by decide +kernel
theorem dX7_words_33 : decode cX7_words 33 = .ok (.bipush (-3), 2) := by decide +kernel
theorem dX7_words_35 : decode cX7_words 35 = .ok (.ireturn, 1) := by decide +kernel
theorem dX7_words_36 : decode cX7_words 36 = .ok (.aload_n 0, 1) := by decide +kernel
theorem dX7_words_37 : decode cX7_words 37 = .ok (.getfield 28, 3) := by decide +kernel
theorem dX7_words_40 : decode cX7_words 40 = .ok (.iload_n 1, 1) := by decide +kernel
theorem dX7_words_41 : decode cX7_words 41 = .ok (.iaload, 1) := by decide +kernel
theorem dX7_words_42 : decode cX7_words 42 = .ok (.istore_n 3, 1) := by decide +kernel
theorem dX7_words_43 : decode cX7_words 43 = .ok (.aload_n 0, 1) := by decide +kernel
theorem dX7_words_44 : decode cX7_words 44 = .ok (.getfield 28, 3) := by decide +kernel
theorem dX7_words_47 : decode cX7_words 47 = .ok (.iload_n 1, 1) := by decide +kernel
theorem dX7_words_48 : decode cX7_words 48 = .ok (.iload_n 2, 1) := by decide +kernel
theorem dX7_words_49 : decode cX7_words 49 = .ok (.iastore, 1) := by decide +kernel
theorem dX7_words_50 : decode cX7_words 50 = .ok (.iload_n 3, 1) := by decide +kernel
theorem dX7_words_51 : decode cX7_words 51 = .ok (.ireturn, 1) := by decide +kernel
theorem dX7_line_0 : decode cX7_line 0 = .ok (.iload_n 1, 1) := by decide +kernel
theorem dX7_line_1 : decode cX7_line 1 = .ok (.iconst 0, 1) := by decide +kernel
theorem dX7_line_2 : decode cX7_line 2 = .ok (.iconst 3, 1) := by decide +kernel
theorem dX7_line_3 : decode cX7_line 3 = .ok (.invokestatic 102, 3) := by decide +kernel
theorem dX7_line_6 : decode cX7_line 6 = .ok (.ifCond .eq 12, 3) := by decide +kernel
theorem dX7_line_9 : decode cX7_line 9 = .ok (.iload_n 2, 1) := by decide +kernel
theorem dX7_line_10 : decode cX7_line 10 = .ok (.iconst 0, 1) := by decide +kernel
theorem dX7_line_11 : decode cX7_line 11 = .ok (.iconst 1, 1) := by decide +kernel
theorem dX7_line_12 : decode cX7_line 12 = .ok (.invokestatic 102, 3) := by decide +kernel
theorem dX7_line_15 : decode cX7_line 15 = .ok (.ifCond .ne 6, 3) := by decide +kernel
theorem dX7_line_18 : decode cX7_line 18 = .ok (.bipush (-2), 2) := by decide +kernel
theorem dX7_line_20 : decode cX7_line 20 = .ok (.ireturn, 1) := by decide +kernel
theorem dX7_line_21 : decode cX7_line 21 = .ok (.iload_n 2, 1) := by decide +kernel
theorem dX7_line_22 : decode cX7_line 22 = .ok (.ifCond .ne 8, 3) := by decide +kernel
theorem dX7_line_25 : decode cX7_line 25 = .ok (.bipush 7, 2) := by decide +kernel
theorem dX7_line_27 : decode cX7_line 27 = .ok (.goto 5, 3) := by decide +kernel
theorem dX7_line_30 : decode cX7_line 30 = .ok (.bipush 29, 2) := by decide +kernel
theorem dX7_line_32 : decode cX7_line 32 = .ok (.istore 6, 2) := by decide +kernel
theorem dX7_line_34 : decode cX7_line 34 = .ok (.iload_n 2, 1) := by decide +kernel
theorem dX7_line_35 : decode cX7_line 35 = .ok (.ifCond .ne 8, 3) := by decide +kernel
theorem dX7_line_38 : decode cX7_line 38 = .ok (.bipush 29, 2) := by decide +kernel
theorem dX7_line_40 : decode cX7_line 40 = .ok (.goto 5, 3) := by decide +kernel
theorem dX7_line_43 : decode cX7_line 43 = .ok (.bipush 7, 2) := by decide +kernel
theorem dX7_line_45 : decode cX7_line 45 = .ok (.istore 7, 2) := by decide +kernel
theorem dX7_line_47 : decode cX7_line 47 = .ok (.iload_n 3, 1) := by decide +kernel
theorem dX7_line_48 : decode cX7_line 48 = .ok (.iconst 1, 1) := by decide +kernel
theorem dX7_line_49 : decode cX7_line 49 = .ok (.iload 6, 2) := by decide +kernel
theorem dX7_line_51 : decode cX7_line 51 = .ok (.invokestatic 102, 3) := by decide +kernel
theorem dX7_line_54 : decode cX7_line 54 = .ok (.ifCond .eq 21, 3) := by decide +kernel
theorem dX7_line_57 : decode cX7_line 57 = .ok (.iload 4, 2) := by decide +kernel
theorem dX7_line_59 : decode cX7_line 59 = .ok (.iconst 0, 1) := by decide +kernel
theorem dX7_line_60 : decode cX7_line 60 = .ok (.iload 5, 2) := by decide +kernel
theorem dX7_line_62 : decode cX7_line 62 = .ok (.invokestatic 102, 3) := by decide +kernel
theorem dX7_line_65 : decode cX7_line 65 = .ok (.ifCond .eq 10, 3) := by decide +kernel
theorem dX7_line_68 : decode cX7_line 68 = .ok (.iload 5, 2) := by decide +kernel
theorem dX7_line_70 : decode cX7_line 70 = .ok (.iload 7, 2) := by decide +kernel
theorem dX7_line_72 : decode cX7_line 72 = .ok (.if_icmp .le 6, 3) := by decide +kernel
theorem dX7_line_75 : decode cX7_line 75 = .ok (.bipush (-2), 2) := by decide +kernel
theorem dX7_line_77 : decode cX7_line 77 = .ok (.ireturn, 1) := by decide +kernel
theorem dX7_line_78 : decode cX7_line 78 = .ok (.aload_n 0, 1) := by decide +kernel
theorem dX7_line_79 : decode cX7_line 79 = .ok (.getfield 114, 3) := by decide +kernel
theorem dX7_line_82 : decode cX7_line 82 = .ok (.bipush 12, 2) := by decide +kernel
theorem dX7_line_84 : decode cX7_line 84 = .ok (.if_icmp .ne 6, 3) := by decide +kernel
theorem dX7_line_87 : decode cX7_line 87 = .ok (.bipush (-4), 2) := by decide +kernel
theorem dX7_line_89 : decode cX7_line 89 = .ok (.ireturn, 1) := by decide +kernel
theorem dX7_line_90 : decode cX7_line 90 = .ok (.aload_n 0, 1) := by decide +kernel
theorem dX7_line_91 : decode cX7_line 91 = .ok (.getfield 37, 3) := by decide +kernel
theorem dX7_line_94 : decode cX7_line 94 = .ok (.aload_n 0, 1) := by decide +kernel
theorem dX7_line_95 : decode cX7_line 95 = .ok (.getfield 114, 3) := by decide +kernel
theorem dX7_line_98 : decode cX7_line 98 = .ok (.iload_n 1, 1) := by decide +kernel
theorem dX7_line_99 : decode cX7_line 99 = .ok (.iastore, 1) := by decide +kernel
theorem dX7_line_100 : decode cX7_line 100 = .ok (.aload_n 0, 1) := by decide +kernel
theorem dX7_line_101 : decode cX7_line 101 = .ok (.getfield 40, 3) := by decide +kernel
theorem dX7_line_104 : decode cX7_line 104 = .ok (.aload_n 0, 1) := by decide +kernel
theorem dX7_line_105 : decode cX7_line 105 = .ok (.getfield 114, 3) := by decide +kernel
theorem dX7_line_108 : decode cX7_line 108 = .ok (.iload_n 2, 1) := by decide +kernel
theorem dX7_line_109 : decode cX7_line 109 = .ok (.iastore, 1) := by decide +kernel
theorem dX7_line_110 : decode cX7_line 110 = .ok (.aload_n 0, 1) := by decide +kernel
theorem dX7_line_111 : decode cX7_line 111 = .ok (.getfield 43, 3) := by decide +kernel
theorem dX7_line_114 : decode cX7_line 114 = .ok (.aload_n 0, 1) := by decide +kernel
theorem dX7_line_115 : decode cX7_line 115 = .ok (.getfield 114, 3) := by decide +kernel
theorem dX7_line_118 : decode cX7_line 118 = .ok (.iload_n 3, 1) := by decide +kernel
theorem dX7_line_119 : decode cX7_line 119 = .ok (.iastore, 1) := by decide +kernel
theorem dX7_line_120 : decode cX7_line 120 = .ok (.aload_n 0, 1) := by decide +kernel
theorem dX7_line_121 : decode cX7_line 121 = .ok (.getfield 46, 3) := by decide +kernel
theorem dX7_line_124 : decode cX7_line 124 = .ok (.aload_n 0, 1) := by decide +kernel
theorem dX7_line_125 : decode cX7_line 125 = .ok (.getfield 114, 3) := by decide +kernel
theorem dX7_line_128 : decode cX7_line 128 = .ok (.iload 4, 2) := by decide +kernel
theorem dX7_line_130 : decode cX7_line 130 = .ok (.iastore, 1) := by decide +kernel
theorem dX7_line_131 : decode cX7_line 131 = .ok (.aload_n 0, 1) := by decide +kernel
theorem dX7_line_132 : decode cX7_line 132 = .ok (.getfield 49, 3) := by decide +kernel
theorem dX7_line_135 : decode cX7_line 135 = .ok (.aload_n 0, 1) := by decide +kernel
theorem dX7_line_136 : decode cX7_line 136 = .ok (.getfield 114, 3) := by decide +kernel
theorem dX7_line_139 : decode cX7_line 139 = .ok (.iload 5, 2) := by decide +kernel
theorem dX7_line_141 : decode cX7_line 141 = .ok (.iastore, 1) := by decide +kernel
theorem dX7_line_142 : decode cX7_line 142 = .ok (.aload_n 0, 1) := by decide +kernel
theorem dX7_line_143 : decode cX7_line 143 = .ok (.dup, 1) := by decide +kernel
theorem dX7_line_144 : decode cX7_line 144 = .ok (.getfield 114, 3) := by decide +kernel
theorem dX7_line_147 : decode cX7_line 147 = .ok (.iconst 1, 1) := by decide +kernel
theorem dX7_line_148 : decode cX7_line 148 = .ok (.iadd, 1) := by decide +kernel
theorem dX7_line_149 : decode cX7_line 149 = .ok (.putfield 114, 3) := by decide +kernel
theorem dX7_line_152 : decode cX7_line 152 = .ok (.aload_n 0, 1) := by decide +kernel
theorem dX7_line_153 : decode cX7_line 153 = .ok (.getfield 114, 3) := by decide +kernel
theorem dX7_line_156 : decode cX7_line 156 = .ok (.iconst 1, 1) := by decide +kernel
theorem dX7_line_157 : decode cX7_line 157 = .ok (.isub, 1) := by decide +kernel
theorem dX7_line_158 : decode cX7_line 158 = .ok (.ireturn, 1) := by decide +kernel
theorem dX7_back_0 : decode cX7_back 0 = .ok (.aload_n 0, 1) := by decide +kernel
theorem dX7_back_1 : decode cX7_back 1 = .ok (.getfield 98, 3) := by decide +kernel
theorem dX7_back_4 : decode cX7_back 4 = .ok (.ifCond .ne 6, 3) := by decide +kernel
theorem dX7_back_7 : decode cX7_back 7 = .ok (.bipush (-3), 2) := by decide +kernel
theorem dX7_back_9 : decode cX7_back 9 = .ok (.ireturn, 1) := by decide +kernel
theorem dX7_back_10 : decode cX7_back 10 = .ok (.aload_n 0, 1) := by decide +kernel
theorem dX7_back_11 : decode cX7_back 11 = .ok (.dup, 1) := by decide +kernel
theorem dX7_back_12 : decode cX7_back 12 = .ok (.getfield 98, 3) := by decide +kernel
theorem dX7_back_15 : decode cX7_back 15 = .ok (.iconst 1, 1) := by decide +kernel
theorem dX7_back_16 : decode cX7_back 16 = .ok (.isub, 1) := by decide +kernel
theorem dX7_back_17 : decode cX7_back 17 = .ok (.putfield 98, 3) := by decide +kernel
theorem dX7_back_20 : decode cX7_back 20 = .ok (.aload_n 0, 1) := by decide +kernel
theorem dX7_back_21 : decode cX7_back 21 = .ok (.getfield 98, 3) := by decide +kernel
theorem dX7_back_24 : decode cX7_back 24 = .ok (.ireturn, 1) := by decide +kernel
theorem dX7_erase_0 : decode cX7_erase 0 = .ok (.aload_n 0, 1) := by decide +kernel
theorem dX7_erase_1 : decode cX7_erase 1 = .ok (.getfield 114, 3) := by decide +kernel
theorem dX7_erase_4 : decode cX7_erase 4 = .ok (.ifCond .ne 6, 3) := by decide +kernel
theorem dX7_erase_7 : decode cX7_erase 7 = .ok (.bipush (-3), 2) := by decide +kernel
theorem dX7_erase_9 : decode cX7_erase 9 = .ok (.ireturn, 1) := by decide +kernel
theorem dX7_erase_10 : decode cX7_erase 10 = .ok (.aload_n 0, 1) := by decide +kernel
theorem dX7_erase_11 : decode cX7_erase 11 = .ok (.dup, 1) := by decide +kernel
theorem dX7_erase_12 : decode cX7_erase 12 = .ok (.getfield 114, 3) := by decide +kernel
theorem dX7_erase_15 : decode cX7_erase 15 = .ok (.iconst 1, 1) := by decide +kernel
theorem dX7_erase_16 : decode cX7_erase 16 = .ok (.isub, 1) := by decide +kernel
theorem dX7_erase_17 : decode cX7_erase 17 = .ok (.putfield 114, 3) := by decide +kernel
theorem dX7_erase_20 : decode cX7_erase 20 = .ok (.aload_n 0, 1) := by decide +kernel
theorem dX7_erase_21 : decode cX7_erase 21 = .ok (.getfield 114, 3) := by decide +kernel
theorem dX7_erase_24 : decode cX7_erase 24 = .ok (.ireturn, 1) := by decide +kernel
theorem dX7_clear_0 : decode cX7_clear 0 = .ok (.aload_n 0, 1) := by decide +kernel
theorem dX7_clear_1 : decode cX7_clear 1 = .ok (.getfield 98, 3) := by decide +kernel
theorem dX7_clear_4 : decode cX7_clear 4 = .ok (.istore_n 1, 1) := by decide +kernel
theorem dX7_clear_5 : decode cX7_clear 5 = .ok (.aload_n 0, 1) := by decide +kernel
theorem dX7_clear_6 : decode cX7_clear 6 = .ok (.iconst 0, 1) := by decide +kernel
theorem dX7_clear_7 : decode cX7_clear 7 = .ok (.putfield 98, 3) := by decide +kernel
theorem dX7_clear_10 : decode cX7_clear 10 = .ok (.aload_n 0, 1) := by decide +kernel
theorem dX7_clear_11 : decode cX7_clear 11 = .ok (.iconst 0, 1) := by decide +kernel
theorem dX7_clear_12 : decode cX7_clear 12 = .ok (.putfield 114, 3) := by decide +kernel
theorem dX7_clear_15 : decode cX7_clear 15 = .ok (.iload_n 1, 1) := by decide +kernel
theorem dX7_clear_16 : decode cX7_clear 16 = .ok (.ireturn, 1) := by decide +kernel
theorem dX7_turn_0 : decode cX7_turn 0 = .ok (.iconst 0, 1) := by decide +kernel
theorem dX7_turn_1 : decode cX7_turn 1 = .ok (.istore_n 1, 1) := by decide +kernel
theorem dX7_turn_2 : decode cX7_turn 2 = .ok (.iconst 0, 1) := by decide +kernel
theorem dX7_turn_3 : decode cX7_turn 3 = .ok (.istore_n 2, 1) := by decide +kernel
theorem dX7_turn_4 : decode cX7_turn 4 = .ok (.iload_n 2, 1) := by decide +kernel
theorem dX7_turn_5 : decode cX7_turn 5 = .ok (.aload_n 0, 1) := by decide +kernel
theorem dX7_turn_6 : decode cX7_turn 6 = .ok (.getfield 98, 3) := by decide +kernel
theorem dX7_turn_9 : decode cX7_turn 9 = .ok (.if_icmp .ge 59, 3) := by decide +kernel
theorem dX7_turn_12 : decode cX7_turn 12 = .ok (.aload_n 0, 1) := by decide +kernel
theorem dX7_turn_13 : decode cX7_turn 13 = .ok (.getfield 16, 3) := by decide +kernel
theorem dX7_turn_16 : decode cX7_turn 16 = .ok (.iload_n 2, 1) := by decide +kernel
theorem dX7_turn_17 : decode cX7_turn 17 = .ok (.iaload, 1) := by decide +kernel
theorem dX7_turn_18 : decode cX7_turn 18 = .ok (.istore_n 3, 1) := by decide +kernel
theorem dX7_turn_19 : decode cX7_turn 19 = .ok (.aload_n 0, 1) := by decide +kernel
theorem dX7_turn_20 : decode cX7_turn 20 = .ok (.getfield 16, 3) := by decide +kernel
theorem dX7_turn_23 : decode cX7_turn 23 = .ok (.iload_n 2, 1) := by decide +kernel
theorem dX7_turn_24 : decode cX7_turn 24 = .ok (.bipush 7, 2) := by decide +kernel
theorem dX7_turn_26 : decode cX7_turn 26 = .ok (.aload_n 0, 1) := by decide +kernel
theorem dX7_turn_27 : decode cX7_turn 27 = .ok (.getfield 19, 3) := by decide +kernel
theorem dX7_turn_30 : decode cX7_turn 30 = .ok (.iload_n 2, 1) := by decide +kernel
theorem dX7_turn_31 : decode cX7_turn 31 = .ok (.iaload, 1) := by decide +kernel
theorem dX7_turn_32 : decode cX7_turn 32 = .ok (.isub, 1) := by decide +kernel
theorem dX7_turn_33 : decode cX7_turn 33 = .ok (.iastore, 1) := by decide +kernel
theorem dX7_turn_34 : decode cX7_turn 34 = .ok (.aload_n 0, 1) := by decide +kernel
theorem dX7_turn_35 : decode cX7_turn 35 = .ok (.getfield 19, 3) := by decide +kernel
theorem dX7_turn_38 : decode cX7_turn 38 = .ok (.iload_n 2, 1) := by decide +kernel
theorem dX7_turn_39 : decode cX7_turn 39 = .ok (.bipush 7, 2) := by decide +kernel
theorem dX7_turn_41 : decode cX7_turn 41 = .ok (.iload_n 3, 1) := by decide +kernel
theorem dX7_turn_42 : decode cX7_turn 42 = .ok (.isub, 1) := by decide +kernel
theorem dX7_turn_43 : decode cX7_turn 43 = .ok (.iastore, 1) := by decide +kernel
theorem dX7_turn_44 : decode cX7_turn 44 = .ok (.iload_n 1, 1) := by decide +kernel
theorem dX7_turn_45 : decode cX7_turn 45 = .ok (.aload_n 0, 1) := by decide +kernel
theorem dX7_turn_46 : decode cX7_turn 46 = .ok (.getfield 16, 3) := by decide +kernel
theorem dX7_turn_49 : decode cX7_turn 49 = .ok (.iload_n 2, 1) := by decide +kernel
theorem dX7_turn_50 : decode cX7_turn 50 = .ok (.iaload, 1) := by decide +kernel
theorem dX7_turn_51 : decode cX7_turn 51 = .ok (.iload_n 3, 1) := by decide +kernel
theorem dX7_turn_52 : decode cX7_turn 52 = .ok (.if_icmp .ne 7, 3) := by decide +kernel
theorem dX7_turn_55 : decode cX7_turn 55 = .ok (.iconst 0, 1) := by decide +kernel
theorem dX7_turn_56 : decode cX7_turn 56 = .ok (.goto 4, 3) := by decide +kernel
theorem dX7_turn_59 : decode cX7_turn 59 = .ok (.iconst 1, 1) := by decide +kernel
theorem dX7_turn_60 : decode cX7_turn 60 = .ok (.iadd, 1) := by decide +kernel
theorem dX7_turn_61 : decode cX7_turn 61 = .ok (.istore_n 1, 1) := by decide +kernel
theorem dX7_turn_62 : decode cX7_turn 62 = .ok (.iinc 2 1, 3) := by decide +kernel
theorem dX7_turn_65 : decode cX7_turn 65 = .ok (.goto (-61), 3) := by decide +kernel
theorem dX7_turn_68 : decode cX7_turn 68 = .ok (.iconst 0, 1) := by decide +kernel
theorem dX7_turn_69 : decode cX7_turn 69 = .ok (.istore_n 2, 1) := by decide +kernel
theorem dX7_turn_70 : decode cX7_turn 70 = .ok (.iload_n 2, 1) := by decide +kernel
theorem dX7_turn_71 : decode cX7_turn 71 = .ok (.aload_n 0, 1) := by decide +kernel
theorem dX7_turn_72 : decode cX7_turn 72 = .ok (.getfield 114, 3) := by decide +kernel
theorem dX7_turn_75 : decode cX7_turn 75 = .ok (.if_icmp .ge 68, 3) := by decide +kernel
theorem dX7_turn_78 : decode cX7_turn 78 = .ok (.aload_n 0, 1) := by decide +kernel
theorem dX7_turn_79 : decode cX7_turn 79 = .ok (.getfield 40, 3) := by decide +kernel
theorem dX7_turn_82 : decode cX7_turn 82 = .ok (.iload_n 2, 1) := by decide +kernel
theorem dX7_turn_83 : decode cX7_turn 83 = .ok (.iaload, 1) := by decide +kernel
theorem dX7_turn_84 : decode cX7_turn 84 = .ok (.ifCond .ne 21, 3) := by decide +kernel
theorem dX7_turn_87 : decode cX7_turn 87 = .ok (.aload_n 0, 1) := by decide +kernel
theorem dX7_turn_88 : decode cX7_turn 88 = .ok (.getfield 43, 3) := by decide +kernel
theorem dX7_turn_91 : decode cX7_turn 91 = .ok (.iload_n 2, 1) := by decide +kernel
theorem dX7_turn_92 : decode cX7_turn 92 = .ok (.bipush 8, 2) := by decide +kernel
theorem dX7_turn_94 : decode cX7_turn 94 = .ok (.aload_n 0, 1) := by decide +kernel
theorem dX7_turn_95 : decode cX7_turn 95 = .ok (.getfield 43, 3) := by decide +kernel
theorem dX7_turn_98 : decode cX7_turn 98 = .ok (.iload_n 2, 1) := by decide +kernel
theorem dX7_turn_99 : decode cX7_turn 99 = .ok (.iaload, 1) := by decide +kernel
theorem dX7_turn_100 : decode cX7_turn 100 = .ok (.isub, 1) := by decide +kernel
theorem dX7_turn_101 : decode cX7_turn 101 = .ok (.iastore, 1) := by decide +kernel
theorem dX7_turn_102 : decode cX7_turn 102 = .ok (.goto 35, 3) := by decide +kernel
theorem dX7_turn_105 : decode cX7_turn 105 = .ok (.aload_n 0, 1) := by decide +kernel
theorem dX7_turn_106 : decode cX7_turn 106 = .ok (.getfield 46, 3) := by decide +kernel
theorem dX7_turn_109 : decode cX7_turn 109 = .ok (.iload_n 2, 1) := by decide +kernel
theorem dX7_turn_110 : decode cX7_turn 110 = .ok (.iaload, 1) := by decide +kernel
theorem dX7_turn_111 : decode cX7_turn 111 = .ok (.istore_n 3, 1) := by decide +kernel
theorem dX7_turn_112 : decode cX7_turn 112 = .ok (.aload_n 0, 1) := by decide +kernel
theorem dX7_turn_113 : decode cX7_turn 113 = .ok (.getfield 46, 3) := by decide +kernel
theorem dX7_turn_116 : decode cX7_turn 116 = .ok (.iload_n 2, 1) := by decide +kernel
theorem dX7_turn_117 : decode cX7_turn 117 = .ok (.bipush 7, 2) := by decide +kernel
theorem dX7_turn_119 : decode cX7_turn 119 = .ok (.aload_n 0, 1) := by decide +kernel
theorem dX7_turn_120 : decode cX7_turn 120 = .ok (.getfield 49, 3) := by decide +kernel
theorem dX7_turn_123 : decode cX7_turn 123 = .ok (.iload_n 2, 1) := by decide +kernel
theorem dX7_turn_124 : decode cX7_turn 124 = .ok (.iaload, 1) := by decide +kernel
theorem dX7_turn_125 : decode cX7_turn 125 = .ok (.isub, 1) := by decide +kernel
theorem dX7_turn_126 : decode cX7_turn 126 = .ok (.iastore, 1) := by decide +kernel
theorem dX7_turn_127 : decode cX7_turn 127 = .ok (.aload_n 0, 1) := by decide +kernel
theorem dX7_turn_128 : decode cX7_turn 128 = .ok (.getfield 49, 3) := by decide +kernel
theorem dX7_turn_131 : decode cX7_turn 131 = .ok (.iload_n 2, 1) := by decide +kernel
theorem dX7_turn_132 : decode cX7_turn 132 = .ok (.bipush 7, 2) := by decide +kernel
theorem dX7_turn_134 : decode cX7_turn 134 = .ok (.iload_n 3, 1) := by decide +kernel
theorem dX7_turn_135 : decode cX7_turn 135 = .ok (.isub, 1) := by decide +kernel
theorem dX7_turn_136 : decode cX7_turn 136 = .ok (.iastore, 1) := by decide +kernel
theorem dX7_turn_137 : decode cX7_turn 137 = .ok (.iinc 2 1, 3) := by decide +kernel
theorem dX7_turn_140 : decode cX7_turn 140 = .ok (.goto (-70), 3) := by decide +kernel
theorem dX7_turn_143 : decode cX7_turn 143 = .ok (.iload_n 1, 1) := by decide +kernel
theorem dX7_turn_144 : decode cX7_turn 144 = .ok (.ireturn, 1) := by decide +kernel
theorem dX7_ofBlock_0 : decode cX7_ofBlock 0 = .ok (.aload_n 0, 1) := by decide +kernel
theorem dX7_ofBlock_1 : decode cX7_ofBlock 1 = .ok (.iload_n 1, 1) := by decide +kernel
theorem dX7_ofBlock_2 : decode cX7_ofBlock 2 = .ok (.invokevirtual 110, 3) := by decide +kernel
theorem dX7_ofBlock_5 : decode cX7_ofBlock 5 = .ok (.ifCond .ne 5, 3) := by decide +kernel
theorem dX7_ofBlock_8 : decode cX7_ofBlock 8 = .ok (.iconst (-1), 1) := by decide +kernel
theorem dX7_ofBlock_9 : decode cX7_ofBlock 9 = .ok (.ireturn, 1) := by decide +kernel
theorem dX7_ofBlock_10 : decode cX7_ofBlock 10 = .ok (.iload_n 2, 1) := by decide +kernel
theorem dX7_ofBlock_11 : decode cX7_ofBlock 11 = .ok (.tableswitch 90 0 6 #[41, 48, 55, 62, 69, 76, 83], 41) := by decide +kernel
theorem dX7_ofBlock_52 : decode cX7_ofBlock 52 = .ok (.aload_n 0, 1) := by decide +kernel
theorem dX7_ofBlock_53 : decode cX7_ofBlock 53 = .ok (.getfield 7, 3) := by decide +kernel
theorem dX7_ofBlock_56 : decode cX7_ofBlock 56 = .ok (.iload_n 1, 1) := by decide +kernel
theorem dX7_ofBlock_57 : decode cX7_ofBlock 57 = .ok (.iaload, 1) := by decide +kernel
theorem dX7_ofBlock_58 : decode cX7_ofBlock 58 = .ok (.ireturn, 1) := by decide +kernel
theorem dX7_ofBlock_59 : decode cX7_ofBlock 59 = .ok (.aload_n 0, 1) := by decide +kernel
theorem dX7_ofBlock_60 : decode cX7_ofBlock 60 = .ok (.getfield 13, 3) := by decide +kernel
theorem dX7_ofBlock_63 : decode cX7_ofBlock 63 = .ok (.iload_n 1, 1) := by decide +kernel
theorem dX7_ofBlock_64 : decode cX7_ofBlock 64 = .ok (.iaload, 1) := by decide +kernel
theorem dX7_ofBlock_65 : decode cX7_ofBlock 65 = .ok (.ireturn, 1) := by decide +kernel
theorem dX7_ofBlock_66 : decode cX7_ofBlock 66 = .ok (.aload_n 0, 1) := by decide +kernel
theorem dX7_ofBlock_67 : decode cX7_ofBlock 67 = .ok (.getfield 16, 3) := by decide +kernel
theorem dX7_ofBlock_70 : decode cX7_ofBlock 70 = .ok (.iload_n 1, 1) := by decide +kernel
theorem dX7_ofBlock_71 : decode cX7_ofBlock 71 = .ok (.iaload, 1) := by decide +kernel
theorem dX7_ofBlock_72 : decode cX7_ofBlock 72 = .ok (.ireturn, 1) := by decide +kernel
theorem dX7_ofBlock_73 : decode cX7_ofBlock 73 = .ok (.aload_n 0, 1) := by decide +kernel
theorem dX7_ofBlock_74 : decode cX7_ofBlock 74 = .ok (.getfield 19, 3) := by decide +kernel
theorem dX7_ofBlock_77 : decode cX7_ofBlock 77 = .ok (.iload_n 1, 1) := by decide +kernel
theorem dX7_ofBlock_78 : decode cX7_ofBlock 78 = .ok (.iaload, 1) := by decide +kernel
theorem dX7_ofBlock_79 : decode cX7_ofBlock 79 = .ok (.ireturn, 1) := by decide +kernel
theorem dX7_ofBlock_80 : decode cX7_ofBlock 80 = .ok (.aload_n 0, 1) := by decide +kernel
theorem dX7_ofBlock_81 : decode cX7_ofBlock 81 = .ok (.getfield 22, 3) := by decide +kernel
theorem dX7_ofBlock_84 : decode cX7_ofBlock 84 = .ok (.iload_n 1, 1) := by decide +kernel
theorem dX7_ofBlock_85 : decode cX7_ofBlock 85 = .ok (.iaload, 1) := by decide +kernel
theorem dX7_ofBlock_86 : decode cX7_ofBlock 86 = .ok (.ireturn, 1) := by decide +kernel
theorem dX7_ofBlock_87 : decode cX7_ofBlock 87 = .ok (.aload_n 0, 1) := by decide +kernel
theorem dX7_ofBlock_88 : decode cX7_ofBlock 88 = .ok (.getfield 25, 3) := by decide +kernel
theorem dX7_ofBlock_91 : decode cX7_ofBlock 91 = .ok (.iload_n 1, 1) := by decide +kernel
theorem dX7_ofBlock_92 : decode cX7_ofBlock 92 = .ok (.iaload, 1) := by decide +kernel
theorem dX7_ofBlock_93 : decode cX7_ofBlock 93 = .ok (.ireturn, 1) := by decide +kernel
theorem dX7_ofBlock_94 : decode cX7_ofBlock 94 = .ok (.aload_n 0, 1) := by decide +kernel
theorem dX7_ofBlock_95 : decode cX7_ofBlock 95 = .ok (.getfield 28, 3) := by decide +kernel
theorem dX7_ofBlock_98 : decode cX7_ofBlock 98 = .ok (.iload_n 1, 1) := by decide +kernel
theorem dX7_ofBlock_99 : decode cX7_ofBlock 99 = .ok (.iaload, 1) := by decide +kernel
theorem dX7_ofBlock_100 : decode cX7_ofBlock 100 = .ok (.ireturn, 1) := by decide +kernel
theorem dX7_ofBlock_101 : decode cX7_ofBlock 101 = .ok (.bipush (-2), 2) := by decide +kernel
theorem dX7_ofBlock_103 : decode cX7_ofBlock 103 = .ok (.ireturn, 1) := by decide +kernel
theorem dX7_ofLine_0 : decode cX7_ofLine 0 = .ok (.iload_n 1, 1) := by decide +kernel
theorem dX7_ofLine_1 : decode cX7_ofLine 1 = .ok (.iconst 0, 1) := by decide +kernel
theorem dX7_ofLine_2 : decode cX7_ofLine 2 = .ok (.aload_n 0, 1) := by decide +kernel
theorem dX7_ofLine_3 : decode cX7_ofLine 3 = .ok (.getfield 114, 3) := by decide +kernel
theorem dX7_ofLine_6 : decode cX7_ofLine 6 = .ok (.iconst 1, 1) := by decide +kernel
theorem dX7_ofLine_7 : decode cX7_ofLine 7 = .ok (.isub, 1) := by decide +kernel
theorem dX7_ofLine_8 : decode cX7_ofLine 8 = .ok (.invokestatic 102, 3) := by decide +kernel
theorem dX7_ofLine_11 : decode cX7_ofLine 11 = .ok (.ifCond .ne 5, 3) := by decide +kernel
theorem dX7_ofLine_14 : decode cX7_ofLine 14 = .ok (.iconst (-1), 1) := by decide +kernel
theorem dX7_ofLine_15 : decode cX7_ofLine 15 = .ok (.ireturn, 1) := by decide +kernel
theorem dX7_ofLine_16 : decode cX7_ofLine 16 = .ok (.iload_n 2, 1) := by decide +kernel
theorem dX7_ofLine_17 : decode cX7_ofLine 17 = .ok (.tableswitch 70 0 4 #[35, 42, 49, 56, 63], 35) := by decide +kernel
theorem dX7_ofLine_52 : decode cX7_ofLine 52 = .ok (.aload_n 0, 1) := by decide +kernel
theorem dX7_ofLine_53 : decode cX7_ofLine 53 = .ok (.getfield 37, 3) := by decide +kernel
theorem dX7_ofLine_56 : decode cX7_ofLine 56 = .ok (.iload_n 1, 1) := by decide +kernel
theorem dX7_ofLine_57 : decode cX7_ofLine 57 = .ok (.iaload, 1) := by decide +kernel
theorem dX7_ofLine_58 : decode cX7_ofLine 58 = .ok (.ireturn, 1) := by decide +kernel
theorem dX7_ofLine_59 : decode cX7_ofLine 59 = .ok (.aload_n 0, 1) := by decide +kernel
theorem dX7_ofLine_60 : decode cX7_ofLine 60 = .ok (.getfield 40, 3) := by decide +kernel
theorem dX7_ofLine_63 : decode cX7_ofLine 63 = .ok (.iload_n 1, 1) := by decide +kernel
theorem dX7_ofLine_64 : decode cX7_ofLine 64 = .ok (.iaload, 1) := by decide +kernel
theorem dX7_ofLine_65 : decode cX7_ofLine 65 = .ok (.ireturn, 1) := by decide +kernel
theorem dX7_ofLine_66 : decode cX7_ofLine 66 = .ok (.aload_n 0, 1) := by decide +kernel
theorem dX7_ofLine_67 : decode cX7_ofLine 67 = .ok (.getfield 43, 3) := by decide +kernel
theorem dX7_ofLine_70 : decode cX7_ofLine 70 = .ok (.iload_n 1, 1) := by decide +kernel
theorem dX7_ofLine_71 : decode cX7_ofLine 71 = .ok (.iaload, 1) := by decide +kernel
theorem dX7_ofLine_72 : decode cX7_ofLine 72 = .ok (.ireturn, 1) := by decide +kernel
theorem dX7_ofLine_73 : decode cX7_ofLine 73 = .ok (.aload_n 0, 1) := by decide +kernel
theorem dX7_ofLine_74 : decode cX7_ofLine 74 = .ok (.getfield 46, 3) := by decide +kernel
theorem dX7_ofLine_77 : decode cX7_ofLine 77 = .ok (.iload_n 1, 1) := by decide +kernel
theorem dX7_ofLine_78 : decode cX7_ofLine 78 = .ok (.iaload, 1) := by decide +kernel
theorem dX7_ofLine_79 : decode cX7_ofLine 79 = .ok (.ireturn, 1) := by decide +kernel
theorem dX7_ofLine_80 : decode cX7_ofLine 80 = .ok (.aload_n 0, 1) := by decide +kernel
theorem dX7_ofLine_81 : decode cX7_ofLine 81 = .ok (.getfield 49, 3) := by decide +kernel
theorem dX7_ofLine_84 : decode cX7_ofLine 84 = .ok (.iload_n 1, 1) := by decide +kernel
theorem dX7_ofLine_85 : decode cX7_ofLine 85 = .ok (.iaload, 1) := by decide +kernel
theorem dX7_ofLine_86 : decode cX7_ofLine 86 = .ok (.ireturn, 1) := by decide +kernel
theorem dX7_ofLine_87 : decode cX7_ofLine 87 = .ok (.bipush (-2), 2) := by decide +kernel
theorem dX7_ofLine_89 : decode cX7_ofLine 89 = .ok (.ireturn, 1) := by decide +kernel
theorem dX7_at_0 : decode cX7_at 0 = .ok (.iload_n 1, 1) := by decide +kernel
theorem dX7_at_1 : decode cX7_at 1 = .ok (.iconst 0, 1) := by decide +kernel
theorem dX7_at_2 : decode cX7_at 2 = .ok (.iconst 3, 1) := by decide +kernel
theorem dX7_at_3 : decode cX7_at 3 = .ok (.invokestatic 102, 3) := by decide +kernel
theorem dX7_at_6 : decode cX7_at 6 = .ok (.ifCond .eq 23, 3) := by decide +kernel
theorem dX7_at_9 : decode cX7_at 9 = .ok (.iload_n 2, 1) := by decide +kernel
theorem dX7_at_10 : decode cX7_at 10 = .ok (.iconst 0, 1) := by decide +kernel
theorem dX7_at_11 : decode cX7_at 11 = .ok (.bipush 7, 2) := by decide +kernel
theorem dX7_at_13 : decode cX7_at 13 = .ok (.invokestatic 102, 3) := by decide +kernel
theorem dX7_at_16 : decode cX7_at 16 = .ok (.ifCond .eq 13, 3) := by decide +kernel
theorem dX7_at_19 : decode cX7_at 19 = .ok (.iload_n 3, 1) := by decide +kernel
theorem dX7_at_20 : decode cX7_at 20 = .ok (.iconst 0, 1) := by decide +kernel
theorem dX7_at_21 : decode cX7_at 21 = .ok (.bipush 29, 2) := by decide +kernel
theorem dX7_at_23 : decode cX7_at 23 = .ok (.invokestatic 102, 3) := by decide +kernel
theorem dX7_at_26 : decode cX7_at 26 = .ok (.ifCond .ne 6, 3) := by decide +kernel
theorem dX7_at_29 : decode cX7_at 29 = .ok (.bipush (-2), 2) := by decide +kernel
theorem dX7_at_31 : decode cX7_at 31 = .ok (.ireturn, 1) := by decide +kernel
theorem dX7_at_32 : decode cX7_at 32 = .ok (.iconst 0, 1) := by decide +kernel
theorem dX7_at_33 : decode cX7_at 33 = .ok (.istore 4, 2) := by decide +kernel
theorem dX7_at_35 : decode cX7_at 35 = .ok (.iload 4, 2) := by decide +kernel
theorem dX7_at_37 : decode cX7_at 37 = .ok (.aload_n 0, 1) := by decide +kernel
theorem dX7_at_38 : decode cX7_at 38 = .ok (.getfield 98, 3) := by decide +kernel
theorem dX7_at_41 : decode cX7_at 41 = .ok (.if_icmp .ge 36, 3) := by decide +kernel
theorem dX7_at_44 : decode cX7_at 44 = .ok (.aload_n 0, 1) := by decide +kernel
theorem dX7_at_45 : decode cX7_at 45 = .ok (.getfield 7, 3) := by decide +kernel
theorem dX7_at_48 : decode cX7_at 48 = .ok (.iload 4, 2) := by decide +kernel
theorem dX7_at_50 : decode cX7_at 50 = .ok (.iaload, 1) := by decide +kernel
theorem dX7_at_51 : decode cX7_at 51 = .ok (.iload_n 1, 1) := by decide +kernel
theorem dX7_at_52 : decode cX7_at 52 = .ok (.if_icmp .ne 19, 3) := by decide +kernel
theorem dX7_at_55 : decode cX7_at 55 = .ok (.aload_n 0, 1) := by decide +kernel
theorem dX7_at_56 : decode cX7_at 56 = .ok (.iload 4, 2) := by decide +kernel
theorem dX7_at_58 : decode cX7_at 58 = .ok (.iload_n 2, 1) := by decide +kernel
theorem dX7_at_59 : decode cX7_at 59 = .ok (.iload_n 2, 1) := by decide +kernel
theorem dX7_at_60 : decode cX7_at 60 = .ok (.iload_n 3, 1) := by decide +kernel
theorem dX7_at_61 : decode cX7_at 61 = .ok (.iload_n 3, 1) := by decide +kernel
theorem dX7_at_62 : decode cX7_at 62 = .ok (.invokevirtual 106, 3) := by decide +kernel
theorem dX7_at_65 : decode cX7_at 65 = .ok (.ifCond .eq 6, 3) := by decide +kernel
theorem dX7_at_68 : decode cX7_at 68 = .ok (.iload 4, 2) := by decide +kernel
theorem dX7_at_70 : decode cX7_at 70 = .ok (.ireturn, 1) := by decide +kernel
theorem dX7_at_71 : decode cX7_at 71 = .ok (.iinc 4 1, 3) := by decide +kernel
theorem dX7_at_74 : decode cX7_at 74 = .ok (.goto (-39), 3) := by decide +kernel
theorem dX7_at_77 : decode cX7_at 77 = .ok (.bipush (-9), 2) := by decide +kernel
theorem dX7_at_79 : decode cX7_at 79 = .ok (.ireturn, 1) := by decide +kernel
theorem dX7_isHead_0 : decode cX7_isHead 0 = .ok (.aload_n 0, 1) := by decide +kernel
theorem dX7_isHead_1 : decode cX7_isHead 1 = .ok (.iload_n 1, 1) := by decide +kernel
theorem dX7_isHead_2 : decode cX7_isHead 2 = .ok (.invokevirtual 110, 3) := by decide +kernel
theorem dX7_isHead_5 : decode cX7_isHead 5 = .ok (.ifCond .eq 16, 3) := by decide +kernel
theorem dX7_isHead_8 : decode cX7_isHead 8 = .ok (.aload_n 0, 1) := by decide +kernel
theorem dX7_isHead_9 : decode cX7_isHead 9 = .ok (.getfield 13, 3) := by decide +kernel
theorem dX7_isHead_12 : decode cX7_isHead 12 = .ok (.iload_n 1, 1) := by decide +kernel
theorem dX7_isHead_13 : decode cX7_isHead 13 = .ok (.iaload, 1) := by decide +kernel
theorem dX7_isHead_14 : decode cX7_isHead 14 = .ok (.ifCond .ne 7, 3) := by decide +kernel
theorem dX7_isHead_17 : decode cX7_isHead 17 = .ok (.iconst 1, 1) := by decide +kernel
theorem dX7_isHead_18 : decode cX7_isHead 18 = .ok (.goto 4, 3) := by decide +kernel
theorem dX7_isHead_21 : decode cX7_isHead 21 = .ok (.iconst 0, 1) := by decide +kernel
theorem dX7_isHead_22 : decode cX7_isHead 22 = .ok (.ireturn, 1) := by decide +kernel
theorem dX7_isUpright_0 : decode cX7_isUpright 0 = .ok (.iconst 0, 1) := by decide +kernel
theorem dX7_isUpright_1 : decode cX7_isUpright 1 = .ok (.istore 5, 2) := by decide +kernel
theorem dX7_isUpright_3 : decode cX7_isUpright 3 = .ok (.iload 5, 2) := by decide +kernel
theorem dX7_isUpright_5 : decode cX7_isUpright 5 = .ok (.aload_n 0, 1) := by decide +kernel
theorem dX7_isUpright_6 : decode cX7_isUpright 6 = .ok (.getfield 114, 3) := by decide +kernel
theorem dX7_isUpright_9 : decode cX7_isUpright 9 = .ok (.if_icmp .ge 66, 3) := by decide +kernel
theorem dX7_isUpright_12 : decode cX7_isUpright 12 = .ok (.aload_n 0, 1) := by decide +kernel
theorem dX7_isUpright_13 : decode cX7_isUpright 13 = .ok (.getfield 37, 3) := by decide +kernel
theorem dX7_isUpright_16 : decode cX7_isUpright 16 = .ok (.iload 5, 2) := by decide +kernel
theorem dX7_isUpright_18 : decode cX7_isUpright 18 = .ok (.iaload, 1) := by decide +kernel
theorem dX7_isUpright_19 : decode cX7_isUpright 19 = .ok (.iload_n 1, 1) := by decide +kernel
theorem dX7_isUpright_20 : decode cX7_isUpright 20 = .ok (.if_icmp .ne 49, 3) := by decide +kernel
theorem dX7_isUpright_23 : decode cX7_isUpright 23 = .ok (.aload_n 0, 1) := by decide +kernel
theorem dX7_isUpright_24 : decode cX7_isUpright 24 = .ok (.getfield 40, 3) := by decide +kernel
theorem dX7_isUpright_27 : decode cX7_isUpright 27 = .ok (.iload 5, 2) := by decide +kernel
theorem dX7_isUpright_29 : decode cX7_isUpright 29 = .ok (.iaload, 1) := by decide +kernel
theorem dX7_isUpright_30 : decode cX7_isUpright 30 = .ok (.ifCond .ne 39, 3) := by decide +kernel
theorem dX7_isUpright_33 : decode cX7_isUpright 33 = .ok (.aload_n 0, 1) := by decide +kernel
theorem dX7_isUpright_34 : decode cX7_isUpright 34 = .ok (.getfield 43, 3) := by decide +kernel
theorem dX7_isUpright_37 : decode cX7_isUpright 37 = .ok (.iload 5, 2) := by decide +kernel
theorem dX7_isUpright_39 : decode cX7_isUpright 39 = .ok (.iaload, 1) := by decide +kernel
theorem dX7_isUpright_40 : decode cX7_isUpright 40 = .ok (.iload_n 2, 1) := by decide +kernel
theorem dX7_isUpright_41 : decode cX7_isUpright 41 = .ok (.if_icmp .ne 28, 3) := by decide +kernel
theorem dX7_isUpright_44 : decode cX7_isUpright 44 = .ok (.aload_n 0, 1) := by decide +kernel
theorem dX7_isUpright_45 : decode cX7_isUpright 45 = .ok (.getfield 46, 3) := by decide +kernel
theorem dX7_isUpright_48 : decode cX7_isUpright 48 = .ok (.iload 5, 2) := by decide +kernel
theorem dX7_isUpright_50 : decode cX7_isUpright 50 = .ok (.iaload, 1) := by decide +kernel
theorem dX7_isUpright_51 : decode cX7_isUpright 51 = .ok (.iload 4, 2) := by decide +kernel
theorem dX7_isUpright_53 : decode cX7_isUpright 53 = .ok (.if_icmp .gt 16, 3) := by decide +kernel
theorem dX7_isUpright_56 : decode cX7_isUpright 56 = .ok (.aload_n 0, 1) := by decide +kernel
theorem dX7_isUpright_57 : decode cX7_isUpright 57 = .ok (.getfield 49, 3) := by decide +kernel
theorem dX7_isUpright_60 : decode cX7_isUpright 60 = .ok (.iload 5, 2) := by decide +kernel
theorem dX7_isUpright_62 : decode cX7_isUpright 62 = .ok (.iaload, 1) := by decide +kernel
theorem dX7_isUpright_63 : decode cX7_isUpright 63 = .ok (.iload_n 3, 1) := by decide +kernel
theorem dX7_isUpright_64 : decode cX7_isUpright 64 = .ok (.if_icmp .lt 5, 3) := by decide +kernel
theorem dX7_isUpright_67 : decode cX7_isUpright 67 = .ok (.iconst 1, 1) := by decide +kernel
theorem dX7_isUpright_68 : decode cX7_isUpright 68 = .ok (.ireturn, 1) := by decide +kernel
theorem dX7_isUpright_69 : decode cX7_isUpright 69 = .ok (.iinc 5 1, 3) := by decide +kernel
theorem dX7_isUpright_72 : decode cX7_isUpright 72 = .ok (.goto (-69), 3) := by decide +kernel
theorem dX7_isUpright_75 : decode cX7_isUpright 75 = .ok (.iconst 0, 1) := by decide +kernel
theorem dX7_isUpright_76 : decode cX7_isUpright 76 = .ok (.ireturn, 1) := by decide +kernel
theorem dX7_reachesAcross_0 : decode cX7_reachesAcross 0 = .ok (.aload_n 0, 1) := by decide +kernel
theorem dX7_reachesAcross_1 : decode cX7_reachesAcross 1 = .ok (.getfield 25, 3) := by decide +kernel
theorem dX7_reachesAcross_4 : decode cX7_reachesAcross 4 = .ok (.iload_n 1, 1) := by decide +kernel
theorem dX7_reachesAcross_5 : decode cX7_reachesAcross 5 = .ok (.iaload, 1) := by decide +kernel
theorem dX7_reachesAcross_6 : decode cX7_reachesAcross 6 = .ok (.bipush 29, 2) := by decide +kernel
theorem dX7_reachesAcross_8 : decode cX7_reachesAcross 8 = .ok (.if_icmp .eq 22, 3) := by decide +kernel
theorem dX7_reachesAcross_11 : decode cX7_reachesAcross 11 = .ok (.iload_n 2, 1) := by decide +kernel
theorem dX7_reachesAcross_12 : decode cX7_reachesAcross 12 = .ok (.aload_n 0, 1) := by decide +kernel
theorem dX7_reachesAcross_13 : decode cX7_reachesAcross 13 = .ok (.getfield 16, 3) := by decide +kernel
theorem dX7_reachesAcross_16 : decode cX7_reachesAcross 16 = .ok (.iload_n 1, 1) := by decide +kernel
theorem dX7_reachesAcross_17 : decode cX7_reachesAcross 17 = .ok (.iaload, 1) := by decide +kernel
theorem dX7_reachesAcross_18 : decode cX7_reachesAcross 18 = .ok (.aload_n 0, 1) := by decide +kernel
theorem dX7_reachesAcross_19 : decode cX7_reachesAcross 19 = .ok (.getfield 19, 3) := by decide +kernel
theorem dX7_reachesAcross_22 : decode cX7_reachesAcross 22 = .ok (.iload_n 1, 1) := by decide +kernel
theorem dX7_reachesAcross_23 : decode cX7_reachesAcross 23 = .ok (.iaload, 1) := by decide +kernel
theorem dX7_reachesAcross_24 : decode cX7_reachesAcross 24 = .ok (.invokestatic 102, 3) := by decide +kernel
theorem dX7_reachesAcross_27 : decode cX7_reachesAcross 27 = .ok (.ifCond .ne 5, 3) := by decide +kernel
theorem dX7_reachesAcross_30 : decode cX7_reachesAcross 30 = .ok (.iconst 0, 1) := by decide +kernel
theorem dX7_reachesAcross_31 : decode cX7_reachesAcross 31 = .ok (.ireturn, 1) := by decide +kernel
theorem dX7_reachesAcross_32 : decode cX7_reachesAcross 32 = .ok (.aload_n 0, 1) := by decide +kernel
theorem dX7_reachesAcross_33 : decode cX7_reachesAcross 33 = .ok (.getfield 16, 3) := by decide +kernel
theorem dX7_reachesAcross_36 : decode cX7_reachesAcross 36 = .ok (.iload_n 1, 1) := by decide +kernel
theorem dX7_reachesAcross_37 : decode cX7_reachesAcross 37 = .ok (.iaload, 1) := by decide +kernel
theorem dX7_reachesAcross_38 : decode cX7_reachesAcross 38 = .ok (.iconst 1, 1) := by decide +kernel
theorem dX7_reachesAcross_39 : decode cX7_reachesAcross 39 = .ok (.iadd, 1) := by decide +kernel
theorem dX7_reachesAcross_40 : decode cX7_reachesAcross 40 = .ok (.istore_n 3, 1) := by decide +kernel
theorem dX7_reachesAcross_41 : decode cX7_reachesAcross 41 = .ok (.iload_n 3, 1) := by decide +kernel
theorem dX7_reachesAcross_42 : decode cX7_reachesAcross 42 = .ok (.iload_n 2, 1) := by decide +kernel
theorem dX7_reachesAcross_43 : decode cX7_reachesAcross 43 = .ok (.if_icmp .gt 41, 3) := by decide +kernel
theorem dX7_reachesAcross_46 : decode cX7_reachesAcross 46 = .ok (.aload_n 0, 1) := by decide +kernel
theorem dX7_reachesAcross_47 : decode cX7_reachesAcross 47 = .ok (.aload_n 0, 1) := by decide +kernel
theorem dX7_reachesAcross_48 : decode cX7_reachesAcross 48 = .ok (.getfield 7, 3) := by decide +kernel
theorem dX7_reachesAcross_51 : decode cX7_reachesAcross 51 = .ok (.iload_n 1, 1) := by decide +kernel
theorem dX7_reachesAcross_52 : decode cX7_reachesAcross 52 = .ok (.iaload, 1) := by decide +kernel
theorem dX7_reachesAcross_53 : decode cX7_reachesAcross 53 = .ok (.iload_n 3, 1) := by decide +kernel
theorem dX7_reachesAcross_54 : decode cX7_reachesAcross 54 = .ok (.aload_n 0, 1) := by decide +kernel
theorem dX7_reachesAcross_55 : decode cX7_reachesAcross 55 = .ok (.getfield 25, 3) := by decide +kernel
theorem dX7_reachesAcross_58 : decode cX7_reachesAcross 58 = .ok (.iload_n 1, 1) := by decide +kernel
theorem dX7_reachesAcross_59 : decode cX7_reachesAcross 59 = .ok (.iaload, 1) := by decide +kernel
theorem dX7_reachesAcross_60 : decode cX7_reachesAcross 60 = .ok (.iconst 1, 1) := by decide +kernel
theorem dX7_reachesAcross_61 : decode cX7_reachesAcross 61 = .ok (.iadd, 1) := by decide +kernel
theorem dX7_reachesAcross_62 : decode cX7_reachesAcross 62 = .ok (.aload_n 0, 1) := by decide +kernel
theorem dX7_reachesAcross_63 : decode cX7_reachesAcross 63 = .ok (.getfield 25, 3) := by decide +kernel
theorem dX7_reachesAcross_66 : decode cX7_reachesAcross 66 = .ok (.iload_n 1, 1) := by decide +kernel
theorem dX7_reachesAcross_67 : decode cX7_reachesAcross 67 = .ok (.iaload, 1) := by decide +kernel
theorem dX7_reachesAcross_68 : decode cX7_reachesAcross 68 = .ok (.iconst 1, 1) := by decide +kernel
theorem dX7_reachesAcross_69 : decode cX7_reachesAcross 69 = .ok (.iadd, 1) := by decide +kernel
theorem dX7_reachesAcross_70 : decode cX7_reachesAcross 70 = .ok (.invokevirtual 117, 3) := by decide +kernel
theorem dX7_reachesAcross_73 : decode cX7_reachesAcross 73 = .ok (.ifCond .eq 5, 3) := by decide +kernel
theorem dX7_reachesAcross_76 : decode cX7_reachesAcross 76 = .ok (.iconst 0, 1) := by decide +kernel
theorem dX7_reachesAcross_77 : decode cX7_reachesAcross 77 = .ok (.ireturn, 1) := by decide +kernel
theorem dX7_reachesAcross_78 : decode cX7_reachesAcross 78 = .ok (.iinc 3 1, 3) := by decide +kernel
theorem dX7_reachesAcross_81 : decode cX7_reachesAcross 81 = .ok (.goto (-40), 3) := by decide +kernel
theorem dX7_reachesAcross_84 : decode cX7_reachesAcross 84 = .ok (.iconst 1, 1) := by decide +kernel
theorem dX7_reachesAcross_85 : decode cX7_reachesAcross 85 = .ok (.ireturn, 1) := by decide +kernel
theorem dX7_lastRow_0 : decode cX7_lastRow 0 = .ok (.aload_n 0, 1) := by decide +kernel
theorem dX7_lastRow_1 : decode cX7_lastRow 1 = .ok (.iload_n 1, 1) := by decide +kernel
theorem dX7_lastRow_2 : decode cX7_lastRow 2 = .ok (.iload_n 2, 1) := by decide +kernel
theorem dX7_lastRow_3 : decode cX7_lastRow 3 = .ok (.invokevirtual 121, 3) := by decide +kernel
theorem dX7_lastRow_6 : decode cX7_lastRow 6 = .ok (.ifCond .ne 6, 3) := by decide +kernel
theorem dX7_lastRow_9 : decode cX7_lastRow 9 = .ok (.bipush (-9), 2) := by decide +kernel
theorem dX7_lastRow_11 : decode cX7_lastRow 11 = .ok (.ireturn, 1) := by decide +kernel
theorem dX7_lastRow_12 : decode cX7_lastRow 12 = .ok (.aload_n 0, 1) := by decide +kernel
theorem dX7_lastRow_13 : decode cX7_lastRow 13 = .ok (.getfield 25, 3) := by decide +kernel
theorem dX7_lastRow_16 : decode cX7_lastRow 16 = .ok (.iload_n 1, 1) := by decide +kernel
theorem dX7_lastRow_17 : decode cX7_lastRow 17 = .ok (.iaload, 1) := by decide +kernel
theorem dX7_lastRow_18 : decode cX7_lastRow 18 = .ok (.istore_n 3, 1) := by decide +kernel
theorem dX7_lastRow_19 : decode cX7_lastRow 19 = .ok (.bipush 29, 2) := by decide +kernel
theorem dX7_lastRow_21 : decode cX7_lastRow 21 = .ok (.istore 4, 2) := by decide +kernel
theorem dX7_lastRow_23 : decode cX7_lastRow 23 = .ok (.iconst 0, 1) := by decide +kernel
theorem dX7_lastRow_24 : decode cX7_lastRow 24 = .ok (.istore 5, 2) := by decide +kernel
theorem dX7_lastRow_26 : decode cX7_lastRow 26 = .ok (.iload 5, 2) := by decide +kernel
theorem dX7_lastRow_28 : decode cX7_lastRow 28 = .ok (.aload_n 0, 1) := by decide +kernel
theorem dX7_lastRow_29 : decode cX7_lastRow 29 = .ok (.getfield 98, 3) := by decide +kernel
theorem dX7_lastRow_32 : decode cX7_lastRow 32 = .ok (.if_icmp .ge 109, 3) := by decide +kernel
theorem dX7_lastRow_35 : decode cX7_lastRow 35 = .ok (.aload_n 0, 1) := by decide +kernel
theorem dX7_lastRow_36 : decode cX7_lastRow 36 = .ok (.getfield 7, 3) := by decide +kernel
theorem dX7_lastRow_39 : decode cX7_lastRow 39 = .ok (.iload 5, 2) := by decide +kernel
theorem dX7_lastRow_41 : decode cX7_lastRow 41 = .ok (.iaload, 1) := by decide +kernel
theorem dX7_lastRow_42 : decode cX7_lastRow 42 = .ok (.aload_n 0, 1) := by decide +kernel
theorem dX7_lastRow_43 : decode cX7_lastRow 43 = .ok (.getfield 7, 3) := by decide +kernel
theorem dX7_lastRow_46 : decode cX7_lastRow 46 = .ok (.iload_n 1, 1) := by decide +kernel
theorem dX7_lastRow_47 : decode cX7_lastRow 47 = .ok (.iaload, 1) := by decide +kernel
theorem dX7_lastRow_48 : decode cX7_lastRow 48 = .ok (.if_icmp .ne 49, 3) := by decide +kernel
theorem dX7_lastRow_51 : decode cX7_lastRow 51 = .ok (.aload_n 0, 1) := by decide +kernel
theorem dX7_lastRow_52 : decode cX7_lastRow 52 = .ok (.getfield 13, 3) := by decide +kernel
theorem dX7_lastRow_55 : decode cX7_lastRow 55 = .ok (.iload 5, 2) := by decide +kernel
theorem dX7_lastRow_57 : decode cX7_lastRow 57 = .ok (.iaload, 1) := by decide +kernel
theorem dX7_lastRow_58 : decode cX7_lastRow 58 = .ok (.ifCond .ne 39, 3) := by decide +kernel
theorem dX7_lastRow_61 : decode cX7_lastRow 61 = .ok (.iload_n 2, 1) := by decide +kernel
theorem dX7_lastRow_62 : decode cX7_lastRow 62 = .ok (.aload_n 0, 1) := by decide +kernel
theorem dX7_lastRow_63 : decode cX7_lastRow 63 = .ok (.getfield 16, 3) := by decide +kernel
theorem dX7_lastRow_66 : decode cX7_lastRow 66 = .ok (.iload 5, 2) := by decide +kernel
theorem dX7_lastRow_68 : decode cX7_lastRow 68 = .ok (.iaload, 1) := by decide +kernel
theorem dX7_lastRow_69 : decode cX7_lastRow 69 = .ok (.aload_n 0, 1) := by decide +kernel
theorem dX7_lastRow_70 : decode cX7_lastRow 70 = .ok (.getfield 19, 3) := by decide +kernel
theorem dX7_lastRow_73 : decode cX7_lastRow 73 = .ok (.iload 5, 2) := by decide +kernel
theorem dX7_lastRow_75 : decode cX7_lastRow 75 = .ok (.iaload, 1) := by decide +kernel
theorem dX7_lastRow_76 : decode cX7_lastRow 76 = .ok (.invokestatic 102, 3) := by decide +kernel
theorem dX7_lastRow_79 : decode cX7_lastRow 79 = .ok (.ifCond .eq 18, 3) := by decide +kernel
theorem dX7_lastRow_82 : decode cX7_lastRow 82 = .ok (.aload_n 0, 1) := by decide +kernel
theorem dX7_lastRow_83 : decode cX7_lastRow 83 = .ok (.getfield 22, 3) := by decide +kernel
theorem dX7_lastRow_86 : decode cX7_lastRow 86 = .ok (.iload 5, 2) := by decide +kernel
theorem dX7_lastRow_88 : decode cX7_lastRow 88 = .ok (.iaload, 1) := by decide +kernel
theorem dX7_lastRow_89 : decode cX7_lastRow 89 = .ok (.iload_n 3, 1) := by decide +kernel
theorem dX7_lastRow_90 : decode cX7_lastRow 90 = .ok (.if_icmp .le 7, 3) := by decide +kernel
theorem dX7_lastRow_93 : decode cX7_lastRow 93 = .ok (.iconst 1, 1) := by decide +kernel
theorem dX7_lastRow_94 : decode cX7_lastRow 94 = .ok (.goto 4, 3) := by decide +kernel
theorem dX7_lastRow_97 : decode cX7_lastRow 97 = .ok (.iconst 0, 1) := by decide +kernel
theorem dX7_lastRow_98 : decode cX7_lastRow 98 = .ok (.istore 6, 2) := by decide +kernel
theorem dX7_lastRow_100 : decode cX7_lastRow 100 = .ok (.iload 6, 2) := by decide +kernel
theorem dX7_lastRow_102 : decode cX7_lastRow 102 = .ok (.ifCond .eq 29, 3) := by decide +kernel
theorem dX7_lastRow_105 : decode cX7_lastRow 105 = .ok (.aload_n 0, 1) := by decide +kernel
theorem dX7_lastRow_106 : decode cX7_lastRow 106 = .ok (.getfield 22, 3) := by decide +kernel
theorem dX7_lastRow_109 : decode cX7_lastRow 109 = .ok (.iload 5, 2) := by decide +kernel
theorem dX7_lastRow_111 : decode cX7_lastRow 111 = .ok (.iaload, 1) := by decide +kernel
theorem dX7_lastRow_112 : decode cX7_lastRow 112 = .ok (.iconst 1, 1) := by decide +kernel
theorem dX7_lastRow_113 : decode cX7_lastRow 113 = .ok (.isub, 1) := by decide +kernel
theorem dX7_lastRow_114 : decode cX7_lastRow 114 = .ok (.iload 4, 2) := by decide +kernel
theorem dX7_lastRow_116 : decode cX7_lastRow 116 = .ok (.if_icmp .ge 15, 3) := by decide +kernel
theorem dX7_lastRow_119 : decode cX7_lastRow 119 = .ok (.aload_n 0, 1) := by decide +kernel
theorem dX7_lastRow_120 : decode cX7_lastRow 120 = .ok (.getfield 22, 3) := by decide +kernel
theorem dX7_lastRow_123 : decode cX7_lastRow 123 = .ok (.iload 5, 2) := by decide +kernel
theorem dX7_lastRow_125 : decode cX7_lastRow 125 = .ok (.iaload, 1) := by decide +kernel
theorem dX7_lastRow_126 : decode cX7_lastRow 126 = .ok (.iconst 1, 1) := by decide +kernel
theorem dX7_lastRow_127 : decode cX7_lastRow 127 = .ok (.isub, 1) := by decide +kernel
theorem dX7_lastRow_128 : decode cX7_lastRow 128 = .ok (.goto 5, 3) := by decide +kernel
theorem dX7_lastRow_131 : decode cX7_lastRow 131 = .ok (.iload 4, 2) := by decide +kernel
theorem dX7_lastRow_133 : decode cX7_lastRow 133 = .ok (.istore 4, 2) := by decide +kernel
theorem dX7_lastRow_135 : decode cX7_lastRow 135 = .ok (.iinc 5 1, 3) := by decide +kernel
theorem dX7_lastRow_138 : decode cX7_lastRow 138 = .ok (.goto (-112), 3) := by decide +kernel
theorem dX7_lastRow_141 : decode cX7_lastRow 141 = .ok (.iconst 0, 1) := by decide +kernel
theorem dX7_lastRow_142 : decode cX7_lastRow 142 = .ok (.istore 5, 2) := by decide +kernel
theorem dX7_lastRow_144 : decode cX7_lastRow 144 = .ok (.iload 5, 2) := by decide +kernel
theorem dX7_lastRow_146 : decode cX7_lastRow 146 = .ok (.aload_n 0, 1) := by decide +kernel
theorem dX7_lastRow_147 : decode cX7_lastRow 147 = .ok (.getfield 114, 3) := by decide +kernel
theorem dX7_lastRow_150 : decode cX7_lastRow 150 = .ok (.if_icmp .ge 110, 3) := by decide +kernel
theorem dX7_lastRow_153 : decode cX7_lastRow 153 = .ok (.aload_n 0, 1) := by decide +kernel
theorem dX7_lastRow_154 : decode cX7_lastRow 154 = .ok (.getfield 37, 3) := by decide +kernel
theorem dX7_lastRow_157 : decode cX7_lastRow 157 = .ok (.iload 5, 2) := by decide +kernel
theorem dX7_lastRow_159 : decode cX7_lastRow 159 = .ok (.iaload, 1) := by decide +kernel
theorem dX7_lastRow_160 : decode cX7_lastRow 160 = .ok (.aload_n 0, 1) := by decide +kernel
theorem dX7_lastRow_161 : decode cX7_lastRow 161 = .ok (.getfield 7, 3) := by decide +kernel
theorem dX7_lastRow_164 : decode cX7_lastRow 164 = .ok (.iload_n 1, 1) := by decide +kernel
theorem dX7_lastRow_165 : decode cX7_lastRow 165 = .ok (.iaload, 1) := by decide +kernel
theorem dX7_lastRow_166 : decode cX7_lastRow 166 = .ok (.if_icmp .ne 50, 3) := by decide +kernel
theorem dX7_lastRow_169 : decode cX7_lastRow 169 = .ok (.aload_n 0, 1) := by decide +kernel
theorem dX7_lastRow_170 : decode cX7_lastRow 170 = .ok (.getfield 40, 3) := by decide +kernel
theorem dX7_lastRow_173 : decode cX7_lastRow 173 = .ok (.iload 5, 2) := by decide +kernel
theorem dX7_lastRow_175 : decode cX7_lastRow 175 = .ok (.iaload, 1) := by decide +kernel
theorem dX7_lastRow_176 : decode cX7_lastRow 176 = .ok (.iconst 1, 1) := by decide +kernel
theorem dX7_lastRow_177 : decode cX7_lastRow 177 = .ok (.if_icmp .ne 39, 3) := by decide +kernel
theorem dX7_lastRow_180 : decode cX7_lastRow 180 = .ok (.iload_n 2, 1) := by decide +kernel
theorem dX7_lastRow_181 : decode cX7_lastRow 181 = .ok (.aload_n 0, 1) := by decide +kernel
theorem dX7_lastRow_182 : decode cX7_lastRow 182 = .ok (.getfield 46, 3) := by decide +kernel
theorem dX7_lastRow_185 : decode cX7_lastRow 185 = .ok (.iload 5, 2) := by decide +kernel
theorem dX7_lastRow_187 : decode cX7_lastRow 187 = .ok (.iaload, 1) := by decide +kernel
theorem dX7_lastRow_188 : decode cX7_lastRow 188 = .ok (.aload_n 0, 1) := by decide +kernel
theorem dX7_lastRow_189 : decode cX7_lastRow 189 = .ok (.getfield 49, 3) := by decide +kernel
theorem dX7_lastRow_192 : decode cX7_lastRow 192 = .ok (.iload 5, 2) := by decide +kernel
theorem dX7_lastRow_194 : decode cX7_lastRow 194 = .ok (.iaload, 1) := by decide +kernel
theorem dX7_lastRow_195 : decode cX7_lastRow 195 = .ok (.invokestatic 102, 3) := by decide +kernel
theorem dX7_lastRow_198 : decode cX7_lastRow 198 = .ok (.ifCond .eq 18, 3) := by decide +kernel
theorem dX7_lastRow_201 : decode cX7_lastRow 201 = .ok (.aload_n 0, 1) := by decide +kernel
theorem dX7_lastRow_202 : decode cX7_lastRow 202 = .ok (.getfield 43, 3) := by decide +kernel
theorem dX7_lastRow_205 : decode cX7_lastRow 205 = .ok (.iload 5, 2) := by decide +kernel
theorem dX7_lastRow_207 : decode cX7_lastRow 207 = .ok (.iaload, 1) := by decide +kernel
theorem dX7_lastRow_208 : decode cX7_lastRow 208 = .ok (.iload_n 3, 1) := by decide +kernel
theorem dX7_lastRow_209 : decode cX7_lastRow 209 = .ok (.if_icmp .le 7, 3) := by decide +kernel
theorem dX7_lastRow_212 : decode cX7_lastRow 212 = .ok (.iconst 1, 1) := by decide +kernel
theorem dX7_lastRow_213 : decode cX7_lastRow 213 = .ok (.goto 4, 3) := by decide +kernel
theorem dX7_lastRow_216 : decode cX7_lastRow 216 = .ok (.iconst 0, 1) := by decide +kernel
theorem dX7_lastRow_217 : decode cX7_lastRow 217 = .ok (.istore 6, 2) := by decide +kernel
theorem dX7_lastRow_219 : decode cX7_lastRow 219 = .ok (.iload 6, 2) := by decide +kernel
theorem dX7_lastRow_221 : decode cX7_lastRow 221 = .ok (.ifCond .eq 29, 3) := by decide +kernel
theorem dX7_lastRow_224 : decode cX7_lastRow 224 = .ok (.aload_n 0, 1) := by decide +kernel
theorem dX7_lastRow_225 : decode cX7_lastRow 225 = .ok (.getfield 43, 3) := by decide +kernel
theorem dX7_lastRow_228 : decode cX7_lastRow 228 = .ok (.iload 5, 2) := by decide +kernel
theorem dX7_lastRow_230 : decode cX7_lastRow 230 = .ok (.iaload, 1) := by decide +kernel
theorem dX7_lastRow_231 : decode cX7_lastRow 231 = .ok (.iconst 1, 1) := by decide +kernel
theorem dX7_lastRow_232 : decode cX7_lastRow 232 = .ok (.isub, 1) := by decide +kernel
theorem dX7_lastRow_233 : decode cX7_lastRow 233 = .ok (.iload 4, 2) := by decide +kernel
theorem dX7_lastRow_235 : decode cX7_lastRow 235 = .ok (.if_icmp .ge 15, 3) := by decide +kernel
theorem dX7_lastRow_238 : decode cX7_lastRow 238 = .ok (.aload_n 0, 1) := by decide +kernel
theorem dX7_lastRow_239 : decode cX7_lastRow 239 = .ok (.getfield 43, 3) := by decide +kernel
theorem dX7_lastRow_242 : decode cX7_lastRow 242 = .ok (.iload 5, 2) := by decide +kernel
theorem dX7_lastRow_244 : decode cX7_lastRow 244 = .ok (.iaload, 1) := by decide +kernel
theorem dX7_lastRow_245 : decode cX7_lastRow 245 = .ok (.iconst 1, 1) := by decide +kernel
theorem dX7_lastRow_246 : decode cX7_lastRow 246 = .ok (.isub, 1) := by decide +kernel
theorem dX7_lastRow_247 : decode cX7_lastRow 247 = .ok (.goto 5, 3) := by decide +kernel
theorem dX7_lastRow_250 : decode cX7_lastRow 250 = .ok (.iload 4, 2) := by decide +kernel
theorem dX7_lastRow_252 : decode cX7_lastRow 252 = .ok (.istore 4, 2) := by decide +kernel
theorem dX7_lastRow_254 : decode cX7_lastRow 254 = .ok (.iinc 5 1, 3) := by decide +kernel
theorem dX7_lastRow_257 : decode cX7_lastRow 257 = .ok (.goto (-113), 3) := by decide +kernel
theorem dX7_lastRow_260 : decode cX7_lastRow 260 = .ok (.iload 4, 2) := by decide +kernel
theorem dX7_lastRow_262 : decode cX7_lastRow 262 = .ok (.iload_n 3, 1) := by decide +kernel
theorem dX7_lastRow_263 : decode cX7_lastRow 263 = .ok (.if_icmp .le 8, 3) := by decide +kernel
theorem dX7_lastRow_266 : decode cX7_lastRow 266 = .ok (.iload 4, 2) := by decide +kernel
theorem dX7_lastRow_268 : decode cX7_lastRow 268 = .ok (.goto 5, 3) := by decide +kernel
theorem dX7_lastRow_271 : decode cX7_lastRow 271 = .ok (.bipush (-9), 2) := by decide +kernel
theorem dX7_lastRow_273 : decode cX7_lastRow 273 = .ok (.ireturn, 1) := by decide +kernel
theorem dX7_headOver_0 : decode cX7_headOver 0 = .ok (.iconst 0, 1) := by decide +kernel
theorem dX7_headOver_1 : decode cX7_headOver 1 = .ok (.istore_n 2, 1) := by decide +kernel
theorem dX7_headOver_2 : decode cX7_headOver 2 = .ok (.iload_n 2, 1) := by decide +kernel
theorem dX7_headOver_3 : decode cX7_headOver 3 = .ok (.aload_n 0, 1) := by decide +kernel
theorem dX7_headOver_4 : decode cX7_headOver 4 = .ok (.getfield 98, 3) := by decide +kernel
theorem dX7_headOver_7 : decode cX7_headOver 7 = .ok (.if_icmp .ge 89, 3) := by decide +kernel
theorem dX7_headOver_10 : decode cX7_headOver 10 = .ok (.aload_n 0, 1) := by decide +kernel
theorem dX7_headOver_11 : decode cX7_headOver 11 = .ok (.getfield 13, 3) := by decide +kernel
theorem dX7_headOver_14 : decode cX7_headOver 14 = .ok (.iload_n 2, 1) := by decide +kernel
theorem dX7_headOver_15 : decode cX7_headOver 15 = .ok (.iaload, 1) := by decide +kernel
theorem dX7_headOver_16 : decode cX7_headOver 16 = .ok (.ifCond .ne 46, 3) := by decide +kernel
theorem dX7_headOver_19 : decode cX7_headOver 19 = .ok (.aload_n 0, 1) := by decide +kernel
theorem dX7_headOver_20 : decode cX7_headOver 20 = .ok (.getfield 7, 3) := by decide +kernel
theorem dX7_headOver_23 : decode cX7_headOver 23 = .ok (.iload_n 2, 1) := by decide +kernel
theorem dX7_headOver_24 : decode cX7_headOver 24 = .ok (.iaload, 1) := by decide +kernel
theorem dX7_headOver_25 : decode cX7_headOver 25 = .ok (.aload_n 0, 1) := by decide +kernel
theorem dX7_headOver_26 : decode cX7_headOver 26 = .ok (.getfield 7, 3) := by decide +kernel
theorem dX7_headOver_29 : decode cX7_headOver 29 = .ok (.iload_n 1, 1) := by decide +kernel
theorem dX7_headOver_30 : decode cX7_headOver 30 = .ok (.iaload, 1) := by decide +kernel
theorem dX7_headOver_31 : decode cX7_headOver 31 = .ok (.if_icmp .ne 31, 3) := by decide +kernel
theorem dX7_headOver_34 : decode cX7_headOver 34 = .ok (.aload_n 0, 1) := by decide +kernel
theorem dX7_headOver_35 : decode cX7_headOver 35 = .ok (.getfield 22, 3) := by decide +kernel
theorem dX7_headOver_38 : decode cX7_headOver 38 = .ok (.iload_n 1, 1) := by decide +kernel
theorem dX7_headOver_39 : decode cX7_headOver 39 = .ok (.iaload, 1) := by decide +kernel
theorem dX7_headOver_40 : decode cX7_headOver 40 = .ok (.aload_n 0, 1) := by decide +kernel
theorem dX7_headOver_41 : decode cX7_headOver 41 = .ok (.getfield 25, 3) := by decide +kernel
theorem dX7_headOver_44 : decode cX7_headOver 44 = .ok (.iload_n 2, 1) := by decide +kernel
theorem dX7_headOver_45 : decode cX7_headOver 45 = .ok (.iaload, 1) := by decide +kernel
theorem dX7_headOver_46 : decode cX7_headOver 46 = .ok (.if_icmp .le 16, 3) := by decide +kernel
theorem dX7_headOver_49 : decode cX7_headOver 49 = .ok (.aload_n 0, 1) := by decide +kernel
theorem dX7_headOver_50 : decode cX7_headOver 50 = .ok (.getfield 13, 3) := by decide +kernel
theorem dX7_headOver_53 : decode cX7_headOver 53 = .ok (.iload_n 1, 1) := by decide +kernel
theorem dX7_headOver_54 : decode cX7_headOver 54 = .ok (.iaload, 1) := by decide +kernel
theorem dX7_headOver_55 : decode cX7_headOver 55 = .ok (.ifCond .eq 7, 3) := by decide +kernel
theorem dX7_headOver_58 : decode cX7_headOver 58 = .ok (.iconst 1, 1) := by decide +kernel
theorem dX7_headOver_59 : decode cX7_headOver 59 = .ok (.goto 4, 3) := by decide +kernel
theorem dX7_headOver_62 : decode cX7_headOver 62 = .ok (.iconst 0, 1) := by decide +kernel
theorem dX7_headOver_63 : decode cX7_headOver 63 = .ok (.istore_n 3, 1) := by decide +kernel
theorem dX7_headOver_64 : decode cX7_headOver 64 = .ok (.iload_n 3, 1) := by decide +kernel
theorem dX7_headOver_65 : decode cX7_headOver 65 = .ok (.ifCond .eq 25, 3) := by decide +kernel
theorem dX7_headOver_68 : decode cX7_headOver 68 = .ok (.aload_n 0, 1) := by decide +kernel
theorem dX7_headOver_69 : decode cX7_headOver 69 = .ok (.iload_n 2, 1) := by decide +kernel
theorem dX7_headOver_70 : decode cX7_headOver 70 = .ok (.aload_n 0, 1) := by decide +kernel
theorem dX7_headOver_71 : decode cX7_headOver 71 = .ok (.getfield 16, 3) := by decide +kernel
theorem dX7_headOver_74 : decode cX7_headOver 74 = .ok (.iload_n 1, 1) := by decide +kernel
theorem dX7_headOver_75 : decode cX7_headOver 75 = .ok (.iaload, 1) := by decide +kernel
theorem dX7_headOver_76 : decode cX7_headOver 76 = .ok (.invokevirtual 125, 3) := by decide +kernel
theorem dX7_headOver_79 : decode cX7_headOver 79 = .ok (.aload_n 0, 1) := by decide +kernel
theorem dX7_headOver_80 : decode cX7_headOver 80 = .ok (.getfield 22, 3) := by decide +kernel
theorem dX7_headOver_83 : decode cX7_headOver 83 = .ok (.iload_n 1, 1) := by decide +kernel
theorem dX7_headOver_84 : decode cX7_headOver 84 = .ok (.iaload, 1) := by decide +kernel
theorem dX7_headOver_85 : decode cX7_headOver 85 = .ok (.if_icmp .lt 5, 3) := by decide +kernel
theorem dX7_headOver_88 : decode cX7_headOver 88 = .ok (.iload_n 2, 1) := by decide +kernel
theorem dX7_headOver_89 : decode cX7_headOver 89 = .ok (.ireturn, 1) := by decide +kernel
theorem dX7_headOver_90 : decode cX7_headOver 90 = .ok (.iinc 2 1, 3) := by decide +kernel
theorem dX7_headOver_93 : decode cX7_headOver 93 = .ok (.goto (-91), 3) := by decide +kernel
theorem dX7_headOver_96 : decode cX7_headOver 96 = .ok (.bipush (-9), 2) := by decide +kernel
theorem dX7_headOver_98 : decode cX7_headOver 98 = .ok (.ireturn, 1) := by decide +kernel
theorem dX7_comesBehind_0 : decode cX7_comesBehind 0 = .ok (.aload_n 0, 1) := by decide +kernel
theorem dX7_comesBehind_1 : decode cX7_comesBehind 1 = .ok (.getfield 64, 3) := by decide +kernel
theorem dX7_comesBehind_4 : decode cX7_comesBehind 4 = .ok (.bipush 24, 2) := by decide +kernel
theorem dX7_comesBehind_6 : decode cX7_comesBehind 6 = .ok (.iload_n 1, 1) := by decide +kernel
theorem dX7_comesBehind_7 : decode cX7_comesBehind 7 = .ok (.imul, 1) := by decide +kernel
end
section
theorem dX7_comesBehind_8 : decode cX7_comesBehind 8 = .ok (.aload_n 0, 1) := by decide +kernel
theorem dX7_comesBehind_9 : decode cX7_comesBehind 9 = .ok (.getfield 61, 3) := by decide +kernel
theorem dX7_comesBehind_12 : decode cX7_comesBehind 12 = .ok (.iload_n 1, 1) := by decide +kernel
theorem dX7_comesBehind_13 : decode cX7_comesBehind 13 = .ok (.iaload, 1) := by decide +kernel
theorem dX7_comesBehind_14 : decode cX7_comesBehind 14 = .ok (.iadd, 1) := by decide +kernel
theorem dX7_comesBehind_15 : decode cX7_comesBehind 15 = .ok (.iload_n 2, 1) := by decide +kernel
theorem dX7_comesBehind_16 : decode cX7_comesBehind 16 = .ok (.iastore, 1) := by decide +kernel
theorem dX7_comesBehind_17 : decode cX7_comesBehind 17 = .ok (.aload_n 0, 1) := by decide +kernel
theorem dX7_comesBehind_18 : decode cX7_comesBehind 18 = .ok (.getfield 61, 3) := by decide +kernel
theorem dX7_comesBehind_21 : decode cX7_comesBehind 21 = .ok (.iload_n 1, 1) := by decide +kernel
theorem dX7_comesBehind_22 : decode cX7_comesBehind 22 = .ok (.dup2, 1) := by decide +kernel
theorem dX7_comesBehind_23 : decode cX7_comesBehind 23 = .ok (.iaload, 1) := by decide +kernel
theorem dX7_comesBehind_24 : decode cX7_comesBehind 24 = .ok (.iconst 1, 1) := by decide +kernel
theorem dX7_comesBehind_25 : decode cX7_comesBehind 25 = .ok (.iadd, 1) := by decide +kernel
theorem dX7_comesBehind_26 : decode cX7_comesBehind 26 = .ok (.iastore, 1) := by decide +kernel
theorem dX7_comesBehind_27 : decode cX7_comesBehind 27 = .ok (.return_, 1) := by decide +kernel
theorem dX7_isAhead_0 : decode cX7_isAhead 0 = .ok (.aload_n 0, 1) := by decide +kernel
theorem dX7_isAhead_1 : decode cX7_isAhead 1 = .ok (.getfield 16, 3) := by decide +kernel
theorem dX7_isAhead_4 : decode cX7_isAhead 4 = .ok (.iload_n 1, 1) := by decide +kernel
theorem dX7_isAhead_5 : decode cX7_isAhead 5 = .ok (.iaload, 1) := by decide +kernel
theorem dX7_isAhead_6 : decode cX7_isAhead 6 = .ok (.aload_n 0, 1) := by decide +kernel
theorem dX7_isAhead_7 : decode cX7_isAhead 7 = .ok (.getfield 16, 3) := by decide +kernel
theorem dX7_isAhead_10 : decode cX7_isAhead 10 = .ok (.iload_n 2, 1) := by decide +kernel
theorem dX7_isAhead_11 : decode cX7_isAhead 11 = .ok (.iaload, 1) := by decide +kernel
theorem dX7_isAhead_12 : decode cX7_isAhead 12 = .ok (.if_icmp .eq 26, 3) := by decide +kernel
theorem dX7_isAhead_15 : decode cX7_isAhead 15 = .ok (.aload_n 0, 1) := by decide +kernel
theorem dX7_isAhead_16 : decode cX7_isAhead 16 = .ok (.getfield 16, 3) := by decide +kernel
theorem dX7_isAhead_19 : decode cX7_isAhead 19 = .ok (.iload_n 1, 1) := by decide +kernel
theorem dX7_isAhead_20 : decode cX7_isAhead 20 = .ok (.iaload, 1) := by decide +kernel
theorem dX7_isAhead_21 : decode cX7_isAhead 21 = .ok (.aload_n 0, 1) := by decide +kernel
theorem dX7_isAhead_22 : decode cX7_isAhead 22 = .ok (.getfield 16, 3) := by decide +kernel
theorem dX7_isAhead_25 : decode cX7_isAhead 25 = .ok (.iload_n 2, 1) := by decide +kernel
theorem dX7_isAhead_26 : decode cX7_isAhead 26 = .ok (.iaload, 1) := by decide +kernel
theorem dX7_isAhead_27 : decode cX7_isAhead 27 = .ok (.if_icmp .ge 7, 3) := by decide +kernel
theorem dX7_isAhead_30 : decode cX7_isAhead 30 = .ok (.iconst 1, 1) := by decide +kernel
theorem dX7_isAhead_31 : decode cX7_isAhead 31 = .ok (.goto 27, 3) := by decide +kernel
theorem dX7_isAhead_34 : decode cX7_isAhead 34 = .ok (.iconst 0, 1) := by decide +kernel
theorem dX7_isAhead_35 : decode cX7_isAhead 35 = .ok (.goto 23, 3) := by decide +kernel
theorem dX7_isAhead_38 : decode cX7_isAhead 38 = .ok (.aload_n 0, 1) := by decide +kernel
theorem dX7_isAhead_39 : decode cX7_isAhead 39 = .ok (.getfield 22, 3) := by decide +kernel
theorem dX7_isAhead_42 : decode cX7_isAhead 42 = .ok (.iload_n 1, 1) := by decide +kernel
theorem dX7_isAhead_43 : decode cX7_isAhead 43 = .ok (.iaload, 1) := by decide +kernel
theorem dX7_isAhead_44 : decode cX7_isAhead 44 = .ok (.aload_n 0, 1) := by decide +kernel
theorem dX7_isAhead_45 : decode cX7_isAhead 45 = .ok (.getfield 22, 3) := by decide +kernel
theorem dX7_isAhead_48 : decode cX7_isAhead 48 = .ok (.iload_n 2, 1) := by decide +kernel
theorem dX7_isAhead_49 : decode cX7_isAhead 49 = .ok (.iaload, 1) := by decide +kernel
theorem dX7_isAhead_50 : decode cX7_isAhead 50 = .ok (.if_icmp .ge 7, 3) := by decide +kernel
theorem dX7_isAhead_53 : decode cX7_isAhead 53 = .ok (.iconst 1, 1) := by decide +kernel
theorem dX7_isAhead_54 : decode cX7_isAhead 54 = .ok (.goto 4, 3) := by decide +kernel
theorem dX7_isAhead_57 : decode cX7_isAhead 57 = .ok (.iconst 0, 1) := by decide +kernel
theorem dX7_isAhead_58 : decode cX7_isAhead 58 = .ok (.ireturn, 1) := by decide +kernel
theorem dX7_comesUnder_0 : decode cX7_comesUnder 0 = .ok (.aload_n 0, 1) := by decide +kernel
theorem dX7_comesUnder_1 : decode cX7_comesUnder 1 = .ok (.iload_n 1, 1) := by decide +kernel
theorem dX7_comesUnder_2 : decode cX7_comesUnder 2 = .ok (.iload_n 2, 1) := by decide +kernel
theorem dX7_comesUnder_3 : decode cX7_comesUnder 3 = .ok (.invokevirtual 129, 3) := by decide +kernel
theorem dX7_comesUnder_6 : decode cX7_comesUnder 6 = .ok (.aload_n 0, 1) := by decide +kernel
theorem dX7_comesUnder_7 : decode cX7_comesUnder 7 = .ok (.getfield 61, 3) := by decide +kernel
theorem dX7_comesUnder_10 : decode cX7_comesUnder 10 = .ok (.iload_n 1, 1) := by decide +kernel
theorem dX7_comesUnder_11 : decode cX7_comesUnder 11 = .ok (.iaload, 1) := by decide +kernel
theorem dX7_comesUnder_12 : decode cX7_comesUnder 12 = .ok (.iconst 1, 1) := by decide +kernel
theorem dX7_comesUnder_13 : decode cX7_comesUnder 13 = .ok (.isub, 1) := by decide +kernel
theorem dX7_comesUnder_14 : decode cX7_comesUnder 14 = .ok (.istore_n 3, 1) := by decide +kernel
theorem dX7_comesUnder_15 : decode cX7_comesUnder 15 = .ok (.iload_n 3, 1) := by decide +kernel
theorem dX7_comesUnder_16 : decode cX7_comesUnder 16 = .ok (.ifCond .le 68, 3) := by decide +kernel
theorem dX7_comesUnder_19 : decode cX7_comesUnder 19 = .ok (.aload_n 0, 1) := by decide +kernel
theorem dX7_comesUnder_20 : decode cX7_comesUnder 20 = .ok (.iload_n 2, 1) := by decide +kernel
theorem dX7_comesUnder_21 : decode cX7_comesUnder 21 = .ok (.aload_n 0, 1) := by decide +kernel
theorem dX7_comesUnder_22 : decode cX7_comesUnder 22 = .ok (.getfield 64, 3) := by decide +kernel
theorem dX7_comesUnder_25 : decode cX7_comesUnder 25 = .ok (.bipush 24, 2) := by decide +kernel
theorem dX7_comesUnder_27 : decode cX7_comesUnder 27 = .ok (.iload_n 1, 1) := by decide +kernel
theorem dX7_comesUnder_28 : decode cX7_comesUnder 28 = .ok (.imul, 1) := by decide +kernel
theorem dX7_comesUnder_29 : decode cX7_comesUnder 29 = .ok (.iload_n 3, 1) := by decide +kernel
theorem dX7_comesUnder_30 : decode cX7_comesUnder 30 = .ok (.iadd, 1) := by decide +kernel
theorem dX7_comesUnder_31 : decode cX7_comesUnder 31 = .ok (.iconst 1, 1) := by decide +kernel
theorem dX7_comesUnder_32 : decode cX7_comesUnder 32 = .ok (.isub, 1) := by decide +kernel
theorem dX7_comesUnder_33 : decode cX7_comesUnder 33 = .ok (.iaload, 1) := by decide +kernel
theorem dX7_comesUnder_34 : decode cX7_comesUnder 34 = .ok (.invokevirtual 133, 3) := by decide +kernel
theorem dX7_comesUnder_37 : decode cX7_comesUnder 37 = .ok (.ifCond .eq 47, 3) := by decide +kernel
theorem dX7_comesUnder_40 : decode cX7_comesUnder 40 = .ok (.aload_n 0, 1) := by decide +kernel
theorem dX7_comesUnder_41 : decode cX7_comesUnder 41 = .ok (.getfield 64, 3) := by decide +kernel
theorem dX7_comesUnder_44 : decode cX7_comesUnder 44 = .ok (.bipush 24, 2) := by decide +kernel
theorem dX7_comesUnder_46 : decode cX7_comesUnder 46 = .ok (.iload_n 1, 1) := by decide +kernel
theorem dX7_comesUnder_47 : decode cX7_comesUnder 47 = .ok (.imul, 1) := by decide +kernel
theorem dX7_comesUnder_48 : decode cX7_comesUnder 48 = .ok (.iload_n 3, 1) := by decide +kernel
theorem dX7_comesUnder_49 : decode cX7_comesUnder 49 = .ok (.iadd, 1) := by decide +kernel
theorem dX7_comesUnder_50 : decode cX7_comesUnder 50 = .ok (.aload_n 0, 1) := by decide +kernel
theorem dX7_comesUnder_51 : decode cX7_comesUnder 51 = .ok (.getfield 64, 3) := by decide +kernel
theorem dX7_comesUnder_54 : decode cX7_comesUnder 54 = .ok (.bipush 24, 2) := by decide +kernel
theorem dX7_comesUnder_56 : decode cX7_comesUnder 56 = .ok (.iload_n 1, 1) := by decide +kernel
theorem dX7_comesUnder_57 : decode cX7_comesUnder 57 = .ok (.imul, 1) := by decide +kernel
theorem dX7_comesUnder_58 : decode cX7_comesUnder 58 = .ok (.iload_n 3, 1) := by decide +kernel
theorem dX7_comesUnder_59 : decode cX7_comesUnder 59 = .ok (.iadd, 1) := by decide +kernel
theorem dX7_comesUnder_60 : decode cX7_comesUnder 60 = .ok (.iconst 1, 1) := by decide +kernel
theorem dX7_comesUnder_61 : decode cX7_comesUnder 61 = .ok (.isub, 1) := by decide +kernel
theorem dX7_comesUnder_62 : decode cX7_comesUnder 62 = .ok (.iaload, 1) := by decide +kernel
theorem dX7_comesUnder_63 : decode cX7_comesUnder 63 = .ok (.iastore, 1) := by decide +kernel
theorem dX7_comesUnder_64 : decode cX7_comesUnder 64 = .ok (.aload_n 0, 1) := by decide +kernel
theorem dX7_comesUnder_65 : decode cX7_comesUnder 65 = .ok (.getfield 64, 3) := by decide +kernel
theorem dX7_comesUnder_68 : decode cX7_comesUnder 68 = .ok (.bipush 24, 2) := by decide +kernel
theorem dX7_comesUnder_70 : decode cX7_comesUnder 70 = .ok (.iload_n 1, 1) := by decide +kernel
theorem dX7_comesUnder_71 : decode cX7_comesUnder 71 = .ok (.imul, 1) := by decide +kernel
theorem dX7_comesUnder_72 : decode cX7_comesUnder 72 = .ok (.iload_n 3, 1) := by decide +kernel
theorem dX7_comesUnder_73 : decode cX7_comesUnder 73 = .ok (.iadd, 1) := by decide +kernel
theorem dX7_comesUnder_74 : decode cX7_comesUnder 74 = .ok (.iconst 1, 1) := by decide +kernel
theorem dX7_comesUnder_75 : decode cX7_comesUnder 75 = .ok (.isub, 1) := by decide +kernel
theorem dX7_comesUnder_76 : decode cX7_comesUnder 76 = .ok (.iload_n 2, 1) := by decide +kernel
theorem dX7_comesUnder_77 : decode cX7_comesUnder 77 = .ok (.iastore, 1) := by decide +kernel
theorem dX7_comesUnder_78 : decode cX7_comesUnder 78 = .ok (.iinc 3 (-1), 3) := by decide +kernel
theorem dX7_comesUnder_81 : decode cX7_comesUnder 81 = .ok (.goto (-66), 3) := by decide +kernel
theorem dX7_comesUnder_84 : decode cX7_comesUnder 84 = .ok (.return_, 1) := by decide +kernel
theorem dX7_takes_0 : decode cX7_takes 0 = .ok (.aload_n 0, 1) := by decide +kernel
theorem dX7_takes_1 : decode cX7_takes 1 = .ok (.getfield 13, 3) := by decide +kernel
theorem dX7_takes_4 : decode cX7_takes 4 = .ok (.iload_n 1, 1) := by decide +kernel
theorem dX7_takes_5 : decode cX7_takes 5 = .ok (.iaload, 1) := by decide +kernel
theorem dX7_takes_6 : decode cX7_takes 6 = .ok (.iconst 1, 1) := by decide +kernel
theorem dX7_takes_7 : decode cX7_takes 7 = .ok (.if_icmp .ne 46, 3) := by decide +kernel
theorem dX7_takes_10 : decode cX7_takes 10 = .ok (.aload_n 0, 1) := by decide +kernel
theorem dX7_takes_11 : decode cX7_takes 11 = .ok (.getfield 55, 3) := by decide +kernel
theorem dX7_takes_14 : decode cX7_takes 14 = .ok (.iload_n 1, 1) := by decide +kernel
theorem dX7_takes_15 : decode cX7_takes 15 = .ok (.iaload, 1) := by decide +kernel
theorem dX7_takes_16 : decode cX7_takes 16 = .ok (.bipush (-9), 2) := by decide +kernel
theorem dX7_takes_18 : decode cX7_takes 18 = .ok (.if_icmp .eq 35, 3) := by decide +kernel
theorem dX7_takes_21 : decode cX7_takes 21 = .ok (.aload_n 0, 1) := by decide +kernel
theorem dX7_takes_22 : decode cX7_takes 22 = .ok (.getfield 7, 3) := by decide +kernel
theorem dX7_takes_25 : decode cX7_takes 25 = .ok (.iload_n 1, 1) := by decide +kernel
theorem dX7_takes_26 : decode cX7_takes 26 = .ok (.iaload, 1) := by decide +kernel
theorem dX7_takes_27 : decode cX7_takes 27 = .ok (.aload_n 0, 1) := by decide +kernel
theorem dX7_takes_28 : decode cX7_takes 28 = .ok (.getfield 7, 3) := by decide +kernel
theorem dX7_takes_31 : decode cX7_takes 31 = .ok (.iload_n 2, 1) := by decide +kernel
theorem dX7_takes_32 : decode cX7_takes 32 = .ok (.iaload, 1) := by decide +kernel
theorem dX7_takes_33 : decode cX7_takes 33 = .ok (.if_icmp .ne 20, 3) := by decide +kernel
theorem dX7_takes_36 : decode cX7_takes 36 = .ok (.aload_n 0, 1) := by decide +kernel
theorem dX7_takes_37 : decode cX7_takes 37 = .ok (.getfield 19, 3) := by decide +kernel
theorem dX7_takes_40 : decode cX7_takes 40 = .ok (.iload_n 1, 1) := by decide +kernel
theorem dX7_takes_41 : decode cX7_takes 41 = .ok (.iaload, 1) := by decide +kernel
theorem dX7_takes_42 : decode cX7_takes 42 = .ok (.aload_n 0, 1) := by decide +kernel
theorem dX7_takes_43 : decode cX7_takes 43 = .ok (.getfield 16, 3) := by decide +kernel
theorem dX7_takes_46 : decode cX7_takes 46 = .ok (.iload_n 2, 1) := by decide +kernel
theorem dX7_takes_47 : decode cX7_takes 47 = .ok (.iaload, 1) := by decide +kernel
theorem dX7_takes_48 : decode cX7_takes 48 = .ok (.iconst 1, 1) := by decide +kernel
theorem dX7_takes_49 : decode cX7_takes 49 = .ok (.isub, 1) := by decide +kernel
theorem dX7_takes_50 : decode cX7_takes 50 = .ok (.if_icmp .eq 5, 3) := by decide +kernel
theorem dX7_takes_53 : decode cX7_takes 53 = .ok (.iconst 0, 1) := by decide +kernel
theorem dX7_takes_54 : decode cX7_takes 54 = .ok (.ireturn, 1) := by decide +kernel
theorem dX7_takes_55 : decode cX7_takes 55 = .ok (.aload_n 0, 1) := by decide +kernel
theorem dX7_takes_56 : decode cX7_takes 56 = .ok (.getfield 22, 3) := by decide +kernel
theorem dX7_takes_59 : decode cX7_takes 59 = .ok (.iload_n 2, 1) := by decide +kernel
theorem dX7_takes_60 : decode cX7_takes 60 = .ok (.iaload, 1) := by decide +kernel
theorem dX7_takes_61 : decode cX7_takes 61 = .ok (.aload_n 0, 1) := by decide +kernel
theorem dX7_takes_62 : decode cX7_takes 62 = .ok (.getfield 22, 3) := by decide +kernel
theorem dX7_takes_65 : decode cX7_takes 65 = .ok (.iload_n 1, 1) := by decide +kernel
theorem dX7_takes_66 : decode cX7_takes 66 = .ok (.iaload, 1) := by decide +kernel
theorem dX7_takes_67 : decode cX7_takes 67 = .ok (.if_icmp .le 12, 3) := by decide +kernel
theorem dX7_takes_70 : decode cX7_takes 70 = .ok (.aload_n 0, 1) := by decide +kernel
theorem dX7_takes_71 : decode cX7_takes 71 = .ok (.getfield 22, 3) := by decide +kernel
theorem dX7_takes_74 : decode cX7_takes 74 = .ok (.iload_n 2, 1) := by decide +kernel
theorem dX7_takes_75 : decode cX7_takes 75 = .ok (.iaload, 1) := by decide +kernel
theorem dX7_takes_76 : decode cX7_takes 76 = .ok (.goto 9, 3) := by decide +kernel
theorem dX7_takes_79 : decode cX7_takes 79 = .ok (.aload_n 0, 1) := by decide +kernel
theorem dX7_takes_80 : decode cX7_takes 80 = .ok (.getfield 22, 3) := by decide +kernel
theorem dX7_takes_83 : decode cX7_takes 83 = .ok (.iload_n 1, 1) := by decide +kernel
theorem dX7_takes_84 : decode cX7_takes 84 = .ok (.iaload, 1) := by decide +kernel
theorem dX7_takes_85 : decode cX7_takes 85 = .ok (.istore_n 3, 1) := by decide +kernel
theorem dX7_takes_86 : decode cX7_takes 86 = .ok (.aload_n 0, 1) := by decide +kernel
theorem dX7_takes_87 : decode cX7_takes 87 = .ok (.getfield 25, 3) := by decide +kernel
theorem dX7_takes_90 : decode cX7_takes 90 = .ok (.iload_n 2, 1) := by decide +kernel
theorem dX7_takes_91 : decode cX7_takes 91 = .ok (.iaload, 1) := by decide +kernel
theorem dX7_takes_92 : decode cX7_takes 92 = .ok (.aload_n 0, 1) := by decide +kernel
theorem dX7_takes_93 : decode cX7_takes 93 = .ok (.getfield 25, 3) := by decide +kernel
theorem dX7_takes_96 : decode cX7_takes 96 = .ok (.iload_n 1, 1) := by decide +kernel
theorem dX7_takes_97 : decode cX7_takes 97 = .ok (.iaload, 1) := by decide +kernel
theorem dX7_takes_98 : decode cX7_takes 98 = .ok (.if_icmp .ge 12, 3) := by decide +kernel
theorem dX7_takes_101 : decode cX7_takes 101 = .ok (.aload_n 0, 1) := by decide +kernel
theorem dX7_takes_102 : decode cX7_takes 102 = .ok (.getfield 25, 3) := by decide +kernel
theorem dX7_takes_105 : decode cX7_takes 105 = .ok (.iload_n 2, 1) := by decide +kernel
theorem dX7_takes_106 : decode cX7_takes 106 = .ok (.iaload, 1) := by decide +kernel
theorem dX7_takes_107 : decode cX7_takes 107 = .ok (.goto 9, 3) := by decide +kernel
theorem dX7_takes_110 : decode cX7_takes 110 = .ok (.aload_n 0, 1) := by decide +kernel
theorem dX7_takes_111 : decode cX7_takes 111 = .ok (.getfield 25, 3) := by decide +kernel
theorem dX7_takes_114 : decode cX7_takes 114 = .ok (.iload_n 1, 1) := by decide +kernel
theorem dX7_takes_115 : decode cX7_takes 115 = .ok (.iaload, 1) := by decide +kernel
theorem dX7_takes_116 : decode cX7_takes 116 = .ok (.istore 4, 2) := by decide +kernel
theorem dX7_takes_118 : decode cX7_takes 118 = .ok (.iload_n 3, 1) := by decide +kernel
theorem dX7_takes_119 : decode cX7_takes 119 = .ok (.iload 4, 2) := by decide +kernel
theorem dX7_takes_121 : decode cX7_takes 121 = .ok (.if_icmp .gt 29, 3) := by decide +kernel
theorem dX7_takes_124 : decode cX7_takes 124 = .ok (.aload_n 0, 1) := by decide +kernel
theorem dX7_takes_125 : decode cX7_takes 125 = .ok (.aload_n 0, 1) := by decide +kernel
theorem dX7_takes_126 : decode cX7_takes 126 = .ok (.getfield 7, 3) := by decide +kernel
theorem dX7_takes_129 : decode cX7_takes 129 = .ok (.iload_n 2, 1) := by decide +kernel
theorem dX7_takes_130 : decode cX7_takes 130 = .ok (.iaload, 1) := by decide +kernel
theorem dX7_takes_131 : decode cX7_takes 131 = .ok (.aload_n 0, 1) := by decide +kernel
theorem dX7_takes_132 : decode cX7_takes 132 = .ok (.getfield 16, 3) := by decide +kernel
theorem dX7_takes_135 : decode cX7_takes 135 = .ok (.iload_n 2, 1) := by decide +kernel
theorem dX7_takes_136 : decode cX7_takes 136 = .ok (.iaload, 1) := by decide +kernel
theorem dX7_takes_137 : decode cX7_takes 137 = .ok (.iload_n 3, 1) := by decide +kernel
theorem dX7_takes_138 : decode cX7_takes 138 = .ok (.iload 4, 2) := by decide +kernel
theorem dX7_takes_140 : decode cX7_takes 140 = .ok (.invokevirtual 117, 3) := by decide +kernel
theorem dX7_takes_143 : decode cX7_takes 143 = .ok (.ifCond .ne 7, 3) := by decide +kernel
theorem dX7_takes_146 : decode cX7_takes 146 = .ok (.iconst 1, 1) := by decide +kernel
theorem dX7_takes_147 : decode cX7_takes 147 = .ok (.goto 4, 3) := by decide +kernel
theorem dX7_takes_150 : decode cX7_takes 150 = .ok (.iconst 0, 1) := by decide +kernel
theorem dX7_takes_151 : decode cX7_takes 151 = .ok (.ireturn, 1) := by decide +kernel
theorem dX7_takerNow_0 : decode cX7_takerNow 0 = .ok (.bipush (-9), 2) := by decide +kernel
theorem dX7_takerNow_2 : decode cX7_takerNow 2 = .ok (.istore_n 2, 1) := by decide +kernel
theorem dX7_takerNow_3 : decode cX7_takerNow 3 = .ok (.iconst 0, 1) := by decide +kernel
theorem dX7_takerNow_4 : decode cX7_takerNow 4 = .ok (.istore_n 3, 1) := by decide +kernel
theorem dX7_takerNow_5 : decode cX7_takerNow 5 = .ok (.iload_n 3, 1) := by decide +kernel
theorem dX7_takerNow_6 : decode cX7_takerNow 6 = .ok (.aload_n 0, 1) := by decide +kernel
theorem dX7_takerNow_7 : decode cX7_takerNow 7 = .ok (.getfield 98, 3) := by decide +kernel
theorem dX7_takerNow_10 : decode cX7_takerNow 10 = .ok (.if_icmp .ge 45, 3) := by decide +kernel
theorem dX7_takerNow_13 : decode cX7_takerNow 13 = .ok (.aload_n 0, 1) := by decide +kernel
theorem dX7_takerNow_14 : decode cX7_takerNow 14 = .ok (.iload_n 3, 1) := by decide +kernel
theorem dX7_takerNow_15 : decode cX7_takerNow 15 = .ok (.iload_n 1, 1) := by decide +kernel
theorem dX7_takerNow_16 : decode cX7_takerNow 16 = .ok (.invokevirtual 136, 3) := by decide +kernel
theorem dX7_takerNow_19 : decode cX7_takerNow 19 = .ok (.ifCond .eq 28, 3) := by decide +kernel
theorem dX7_takerNow_22 : decode cX7_takerNow 22 = .ok (.iload_n 2, 1) := by decide +kernel
theorem dX7_takerNow_23 : decode cX7_takerNow 23 = .ok (.bipush (-9), 2) := by decide +kernel
theorem dX7_takerNow_25 : decode cX7_takerNow 25 = .ok (.if_icmp .eq 18, 3) := by decide +kernel
theorem dX7_takerNow_28 : decode cX7_takerNow 28 = .ok (.aload_n 0, 1) := by decide +kernel
theorem dX7_takerNow_29 : decode cX7_takerNow 29 = .ok (.getfield 22, 3) := by decide +kernel
theorem dX7_takerNow_32 : decode cX7_takerNow 32 = .ok (.iload_n 3, 1) := by decide +kernel
theorem dX7_takerNow_33 : decode cX7_takerNow 33 = .ok (.iaload, 1) := by decide +kernel
theorem dX7_takerNow_34 : decode cX7_takerNow 34 = .ok (.aload_n 0, 1) := by decide +kernel
theorem dX7_takerNow_35 : decode cX7_takerNow 35 = .ok (.getfield 22, 3) := by decide +kernel
theorem dX7_takerNow_38 : decode cX7_takerNow 38 = .ok (.iload_n 2, 1) := by decide +kernel
theorem dX7_takerNow_39 : decode cX7_takerNow 39 = .ok (.iaload, 1) := by decide +kernel
theorem dX7_takerNow_40 : decode cX7_takerNow 40 = .ok (.if_icmp .ge 7, 3) := by decide +kernel
theorem dX7_takerNow_43 : decode cX7_takerNow 43 = .ok (.iload_n 3, 1) := by decide +kernel
theorem dX7_takerNow_44 : decode cX7_takerNow 44 = .ok (.goto 4, 3) := by decide +kernel
theorem dX7_takerNow_47 : decode cX7_takerNow 47 = .ok (.iload_n 2, 1) := by decide +kernel
theorem dX7_takerNow_48 : decode cX7_takerNow 48 = .ok (.istore_n 2, 1) := by decide +kernel
theorem dX7_takerNow_49 : decode cX7_takerNow 49 = .ok (.iinc 3 1, 3) := by decide +kernel
theorem dX7_takerNow_52 : decode cX7_takerNow 52 = .ok (.goto (-47), 3) := by decide +kernel
theorem dX7_takerNow_55 : decode cX7_takerNow 55 = .ok (.iload_n 2, 1) := by decide +kernel
theorem dX7_takerNow_56 : decode cX7_takerNow 56 = .ok (.ireturn, 1) := by decide +kernel
theorem dX7_joins_0 : decode cX7_joins 0 = .ok (.iconst 0, 1) := by decide +kernel
theorem dX7_joins_1 : decode cX7_joins 1 = .ok (.istore_n 1, 1) := by decide +kernel
theorem dX7_joins_2 : decode cX7_joins 2 = .ok (.iload_n 1, 1) := by decide +kernel
theorem dX7_joins_3 : decode cX7_joins 3 = .ok (.aload_n 0, 1) := by decide +kernel
theorem dX7_joins_4 : decode cX7_joins 4 = .ok (.getfield 98, 3) := by decide +kernel
theorem dX7_joins_7 : decode cX7_joins 7 = .ok (.if_icmp .ge 74, 3) := by decide +kernel
theorem dX7_joins_10 : decode cX7_joins 10 = .ok (.aload_n 0, 1) := by decide +kernel
theorem dX7_joins_11 : decode cX7_joins 11 = .ok (.getfield 13, 3) := by decide +kernel
theorem dX7_joins_14 : decode cX7_joins 14 = .ok (.iload_n 1, 1) := by decide +kernel
theorem dX7_joins_15 : decode cX7_joins 15 = .ok (.iaload, 1) := by decide +kernel
theorem dX7_joins_16 : decode cX7_joins 16 = .ok (.iconst 1, 1) := by decide +kernel
theorem dX7_joins_17 : decode cX7_joins 17 = .ok (.if_icmp .ne 58, 3) := by decide +kernel
theorem dX7_joins_20 : decode cX7_joins 20 = .ok (.aload_n 0, 1) := by decide +kernel
theorem dX7_joins_21 : decode cX7_joins 21 = .ok (.getfield 55, 3) := by decide +kernel
theorem dX7_joins_24 : decode cX7_joins 24 = .ok (.iload_n 1, 1) := by decide +kernel
theorem dX7_joins_25 : decode cX7_joins 25 = .ok (.iaload, 1) := by decide +kernel
theorem dX7_joins_26 : decode cX7_joins 26 = .ok (.bipush (-9), 2) := by decide +kernel
theorem dX7_joins_28 : decode cX7_joins 28 = .ok (.if_icmp .ne 47, 3) := by decide +kernel
theorem dX7_joins_31 : decode cX7_joins 31 = .ok (.aload_n 0, 1) := by decide +kernel
theorem dX7_joins_32 : decode cX7_joins 32 = .ok (.iload_n 1, 1) := by decide +kernel
theorem dX7_joins_33 : decode cX7_joins 33 = .ok (.invokevirtual 139, 3) := by decide +kernel
theorem dX7_joins_36 : decode cX7_joins 36 = .ok (.istore_n 2, 1) := by decide +kernel
theorem dX7_joins_37 : decode cX7_joins 37 = .ok (.iload_n 2, 1) := by decide +kernel
theorem dX7_joins_38 : decode cX7_joins 38 = .ok (.bipush (-9), 2) := by decide +kernel
theorem dX7_joins_40 : decode cX7_joins 40 = .ok (.if_icmp .eq 35, 3) := by decide +kernel
theorem dX7_joins_43 : decode cX7_joins 43 = .ok (.aload_n 0, 1) := by decide +kernel
theorem dX7_joins_44 : decode cX7_joins 44 = .ok (.getfield 58, 3) := by decide +kernel
theorem dX7_joins_47 : decode cX7_joins 47 = .ok (.iload_n 1, 1) := by decide +kernel
theorem dX7_joins_48 : decode cX7_joins 48 = .ok (.iload_n 2, 1) := by decide +kernel
theorem dX7_joins_49 : decode cX7_joins 49 = .ok (.iastore, 1) := by decide +kernel
theorem dX7_joins_50 : decode cX7_joins 50 = .ok (.aload_n 0, 1) := by decide +kernel
theorem dX7_joins_51 : decode cX7_joins 51 = .ok (.getfield 55, 3) := by decide +kernel
theorem dX7_joins_54 : decode cX7_joins 54 = .ok (.iload_n 1, 1) := by decide +kernel
theorem dX7_joins_55 : decode cX7_joins 55 = .ok (.aload_n 0, 1) := by decide +kernel
theorem dX7_joins_56 : decode cX7_joins 56 = .ok (.getfield 55, 3) := by decide +kernel
theorem dX7_joins_59 : decode cX7_joins 59 = .ok (.iload_n 2, 1) := by decide +kernel
theorem dX7_joins_60 : decode cX7_joins 60 = .ok (.iaload, 1) := by decide +kernel
theorem dX7_joins_61 : decode cX7_joins 61 = .ok (.iastore, 1) := by decide +kernel
theorem dX7_joins_62 : decode cX7_joins 62 = .ok (.aload_n 0, 1) := by decide +kernel
theorem dX7_joins_63 : decode cX7_joins 63 = .ok (.aload_n 0, 1) := by decide +kernel
theorem dX7_joins_64 : decode cX7_joins 64 = .ok (.getfield 55, 3) := by decide +kernel
theorem dX7_joins_67 : decode cX7_joins 67 = .ok (.iload_n 2, 1) := by decide +kernel
theorem dX7_joins_68 : decode cX7_joins 68 = .ok (.iaload, 1) := by decide +kernel
theorem dX7_joins_69 : decode cX7_joins 69 = .ok (.iload_n 1, 1) := by decide +kernel
theorem dX7_joins_70 : decode cX7_joins 70 = .ok (.invokevirtual 129, 3) := by decide +kernel
theorem dX7_joins_73 : decode cX7_joins 73 = .ok (.iconst 1, 1) := by decide +kernel
theorem dX7_joins_74 : decode cX7_joins 74 = .ok (.ireturn, 1) := by decide +kernel
theorem dX7_joins_75 : decode cX7_joins 75 = .ok (.iinc 1 1, 3) := by decide +kernel
theorem dX7_joins_78 : decode cX7_joins 78 = .ok (.goto (-76), 3) := by decide +kernel
theorem dX7_joins_81 : decode cX7_joins 81 = .ok (.iconst 0, 1) := by decide +kernel
theorem dX7_joins_82 : decode cX7_joins 82 = .ok (.ireturn, 1) := by decide +kernel
theorem dX7_findStories_0 : decode cX7_findStories 0 = .ok (.iconst 0, 1) := by decide +kernel
theorem dX7_findStories_1 : decode cX7_findStories 1 = .ok (.istore_n 1, 1) := by decide +kernel
theorem dX7_findStories_2 : decode cX7_findStories 2 = .ok (.iload_n 1, 1) := by decide +kernel
theorem dX7_findStories_3 : decode cX7_findStories 3 = .ok (.aload_n 0, 1) := by decide +kernel
theorem dX7_findStories_4 : decode cX7_findStories 4 = .ok (.getfield 98, 3) := by decide +kernel
theorem dX7_findStories_7 : decode cX7_findStories 7 = .ok (.if_icmp .ge 62, 3) := by decide +kernel
theorem dX7_findStories_10 : decode cX7_findStories 10 = .ok (.aload_n 0, 1) := by decide +kernel
theorem dX7_findStories_11 : decode cX7_findStories 11 = .ok (.getfield 61, 3) := by decide +kernel
theorem dX7_findStories_14 : decode cX7_findStories 14 = .ok (.iload_n 1, 1) := by decide +kernel
theorem dX7_findStories_15 : decode cX7_findStories 15 = .ok (.iconst 0, 1) := by decide +kernel
theorem dX7_findStories_16 : decode cX7_findStories 16 = .ok (.iastore, 1) := by decide +kernel
theorem dX7_findStories_17 : decode cX7_findStories 17 = .ok (.aload_n 0, 1) := by decide +kernel
theorem dX7_findStories_18 : decode cX7_findStories 18 = .ok (.getfield 58, 3) := by decide +kernel
theorem dX7_findStories_21 : decode cX7_findStories 21 = .ok (.iload_n 1, 1) := by decide +kernel
theorem dX7_findStories_22 : decode cX7_findStories 22 = .ok (.bipush (-9), 2) := by decide +kernel
theorem dX7_findStories_24 : decode cX7_findStories 24 = .ok (.iastore, 1) := by decide +kernel
theorem dX7_findStories_25 : decode cX7_findStories 25 = .ok (.aload_n 0, 1) := by decide +kernel
theorem dX7_findStories_26 : decode cX7_findStories 26 = .ok (.getfield 52, 3) := by decide +kernel
theorem dX7_findStories_29 : decode cX7_findStories 29 = .ok (.iload_n 1, 1) := by decide +kernel
theorem dX7_findStories_30 : decode cX7_findStories 30 = .ok (.aload_n 0, 1) := by decide +kernel
theorem dX7_findStories_31 : decode cX7_findStories 31 = .ok (.iload_n 1, 1) := by decide +kernel
theorem dX7_findStories_32 : decode cX7_findStories 32 = .ok (.invokevirtual 143, 3) := by decide +kernel
theorem dX7_findStories_35 : decode cX7_findStories 35 = .ok (.iastore, 1) := by decide +kernel
theorem dX7_findStories_36 : decode cX7_findStories 36 = .ok (.aload_n 0, 1) := by decide +kernel
theorem dX7_findStories_37 : decode cX7_findStories 37 = .ok (.getfield 55, 3) := by decide +kernel
theorem dX7_findStories_40 : decode cX7_findStories 40 = .ok (.iload_n 1, 1) := by decide +kernel
theorem dX7_findStories_41 : decode cX7_findStories 41 = .ok (.aload_n 0, 1) := by decide +kernel
theorem dX7_findStories_42 : decode cX7_findStories 42 = .ok (.getfield 13, 3) := by decide +kernel
theorem dX7_findStories_45 : decode cX7_findStories 45 = .ok (.iload_n 1, 1) := by decide +kernel
theorem dX7_findStories_46 : decode cX7_findStories 46 = .ok (.iaload, 1) := by decide +kernel
theorem dX7_findStories_47 : decode cX7_findStories 47 = .ok (.iconst 1, 1) := by decide +kernel
theorem dX7_findStories_48 : decode cX7_findStories 48 = .ok (.if_icmp .ne 12, 3) := by decide +kernel
theorem dX7_findStories_51 : decode cX7_findStories 51 = .ok (.aload_n 0, 1) := by decide +kernel
theorem dX7_findStories_52 : decode cX7_findStories 52 = .ok (.getfield 52, 3) := by decide +kernel
theorem dX7_findStories_55 : decode cX7_findStories 55 = .ok (.iload_n 1, 1) := by decide +kernel
theorem dX7_findStories_56 : decode cX7_findStories 56 = .ok (.iaload, 1) := by decide +kernel
theorem dX7_findStories_57 : decode cX7_findStories 57 = .ok (.goto 5, 3) := by decide +kernel
theorem dX7_findStories_60 : decode cX7_findStories 60 = .ok (.bipush (-9), 2) := by decide +kernel
theorem dX7_findStories_62 : decode cX7_findStories 62 = .ok (.iastore, 1) := by decide +kernel
theorem dX7_findStories_63 : decode cX7_findStories 63 = .ok (.iinc 1 1, 3) := by decide +kernel
theorem dX7_findStories_66 : decode cX7_findStories 66 = .ok (.goto (-64), 3) := by decide +kernel
theorem dX7_findStories_69 : decode cX7_findStories 69 = .ok (.iconst 0, 1) := by decide +kernel
theorem dX7_findStories_70 : decode cX7_findStories 70 = .ok (.istore_n 1, 1) := by decide +kernel
theorem dX7_findStories_71 : decode cX7_findStories 71 = .ok (.iload_n 1, 1) := by decide +kernel
theorem dX7_findStories_72 : decode cX7_findStories 72 = .ok (.aload_n 0, 1) := by decide +kernel
theorem dX7_findStories_73 : decode cX7_findStories 73 = .ok (.getfield 98, 3) := by decide +kernel
theorem dX7_findStories_76 : decode cX7_findStories 76 = .ok (.if_icmp .ge 31, 3) := by decide +kernel
theorem dX7_findStories_79 : decode cX7_findStories 79 = .ok (.aload_n 0, 1) := by decide +kernel
theorem dX7_findStories_80 : decode cX7_findStories 80 = .ok (.getfield 55, 3) := by decide +kernel
theorem dX7_findStories_83 : decode cX7_findStories 83 = .ok (.iload_n 1, 1) := by decide +kernel
theorem dX7_findStories_84 : decode cX7_findStories 84 = .ok (.iaload, 1) := by decide +kernel
theorem dX7_findStories_85 : decode cX7_findStories 85 = .ok (.bipush (-9), 2) := by decide +kernel
theorem dX7_findStories_87 : decode cX7_findStories 87 = .ok (.if_icmp .eq 14, 3) := by decide +kernel
theorem dX7_findStories_90 : decode cX7_findStories 90 = .ok (.aload_n 0, 1) := by decide +kernel
theorem dX7_findStories_91 : decode cX7_findStories 91 = .ok (.aload_n 0, 1) := by decide +kernel
theorem dX7_findStories_92 : decode cX7_findStories 92 = .ok (.getfield 55, 3) := by decide +kernel
theorem dX7_findStories_95 : decode cX7_findStories 95 = .ok (.iload_n 1, 1) := by decide +kernel
theorem dX7_findStories_96 : decode cX7_findStories 96 = .ok (.iaload, 1) := by decide +kernel
theorem dX7_findStories_97 : decode cX7_findStories 97 = .ok (.iload_n 1, 1) := by decide +kernel
theorem dX7_findStories_98 : decode cX7_findStories 98 = .ok (.invokevirtual 146, 3) := by decide +kernel
theorem dX7_findStories_101 : decode cX7_findStories 101 = .ok (.iinc 1 1, 3) := by decide +kernel
theorem dX7_findStories_104 : decode cX7_findStories 104 = .ok (.goto (-33), 3) := by decide +kernel
theorem dX7_findStories_107 : decode cX7_findStories 107 = .ok (.iconst 1, 1) := by decide +kernel
theorem dX7_findStories_108 : decode cX7_findStories 108 = .ok (.istore_n 1, 1) := by decide +kernel
theorem dX7_findStories_109 : decode cX7_findStories 109 = .ok (.iload_n 1, 1) := by decide +kernel
theorem dX7_findStories_110 : decode cX7_findStories 110 = .ok (.ifCond .eq 11, 3) := by decide +kernel
theorem dX7_findStories_113 : decode cX7_findStories 113 = .ok (.aload_n 0, 1) := by decide +kernel
theorem dX7_findStories_114 : decode cX7_findStories 114 = .ok (.invokevirtual 149, 3) := by decide +kernel
theorem dX7_findStories_117 : decode cX7_findStories 117 = .ok (.istore_n 1, 1) := by decide +kernel
theorem dX7_findStories_118 : decode cX7_findStories 118 = .ok (.goto (-9), 3) := by decide +kernel
theorem dX7_findStories_121 : decode cX7_findStories 121 = .ok (.aload_n 0, 1) := by decide +kernel
theorem dX7_findStories_122 : decode cX7_findStories 122 = .ok (.iconst 0, 1) := by decide +kernel
theorem dX7_findStories_123 : decode cX7_findStories 123 = .ok (.putfield 153, 3) := by decide +kernel
theorem dX7_findStories_126 : decode cX7_findStories 126 = .ok (.iconst 0, 1) := by decide +kernel
theorem dX7_findStories_127 : decode cX7_findStories 127 = .ok (.istore_n 2, 1) := by decide +kernel
theorem dX7_findStories_128 : decode cX7_findStories 128 = .ok (.iload_n 2, 1) := by decide +kernel
theorem dX7_findStories_129 : decode cX7_findStories 129 = .ok (.aload_n 0, 1) := by decide +kernel
theorem dX7_findStories_130 : decode cX7_findStories 130 = .ok (.getfield 98, 3) := by decide +kernel
theorem dX7_findStories_133 : decode cX7_findStories 133 = .ok (.if_icmp .ge 89, 3) := by decide +kernel
theorem dX7_findStories_136 : decode cX7_findStories 136 = .ok (.aload_n 0, 1) := by decide +kernel
theorem dX7_findStories_137 : decode cX7_findStories 137 = .ok (.getfield 13, 3) := by decide +kernel
theorem dX7_findStories_140 : decode cX7_findStories 140 = .ok (.iload_n 2, 1) := by decide +kernel
theorem dX7_findStories_141 : decode cX7_findStories 141 = .ok (.iaload, 1) := by decide +kernel
theorem dX7_findStories_142 : decode cX7_findStories 142 = .ok (.iconst 1, 1) := by decide +kernel
theorem dX7_findStories_143 : decode cX7_findStories 143 = .ok (.if_icmp .ne 18, 3) := by decide +kernel
theorem dX7_findStories_146 : decode cX7_findStories 146 = .ok (.aload_n 0, 1) := by decide +kernel
theorem dX7_findStories_147 : decode cX7_findStories 147 = .ok (.getfield 55, 3) := by decide +kernel
theorem dX7_findStories_150 : decode cX7_findStories 150 = .ok (.iload_n 2, 1) := by decide +kernel
theorem dX7_findStories_151 : decode cX7_findStories 151 = .ok (.iaload, 1) := by decide +kernel
theorem dX7_findStories_152 : decode cX7_findStories 152 = .ok (.bipush (-9), 2) := by decide +kernel
theorem dX7_findStories_154 : decode cX7_findStories 154 = .ok (.if_icmp .ne 7, 3) := by decide +kernel
theorem dX7_findStories_157 : decode cX7_findStories 157 = .ok (.iconst 1, 1) := by decide +kernel
theorem dX7_findStories_158 : decode cX7_findStories 158 = .ok (.goto 4, 3) := by decide +kernel
theorem dX7_findStories_161 : decode cX7_findStories 161 = .ok (.iconst 0, 1) := by decide +kernel
theorem dX7_findStories_162 : decode cX7_findStories 162 = .ok (.istore_n 3, 1) := by decide +kernel
theorem dX7_findStories_163 : decode cX7_findStories 163 = .ok (.iload_n 3, 1) := by decide +kernel
theorem dX7_findStories_164 : decode cX7_findStories 164 = .ok (.ifCond .eq 9, 3) := by decide +kernel
theorem dX7_findStories_167 : decode cX7_findStories 167 = .ok (.aload_n 0, 1) := by decide +kernel
theorem dX7_findStories_168 : decode cX7_findStories 168 = .ok (.iload_n 2, 1) := by decide +kernel
theorem dX7_findStories_169 : decode cX7_findStories 169 = .ok (.iload_n 2, 1) := by decide +kernel
theorem dX7_findStories_170 : decode cX7_findStories 170 = .ok (.invokevirtual 129, 3) := by decide +kernel
theorem dX7_findStories_173 : decode cX7_findStories 173 = .ok (.iload_n 3, 1) := by decide +kernel
theorem dX7_findStories_174 : decode cX7_findStories 174 = .ok (.ifCond .ne 12, 3) := by decide +kernel
theorem dX7_findStories_177 : decode cX7_findStories 177 = .ok (.aload_n 0, 1) := by decide +kernel
theorem dX7_findStories_178 : decode cX7_findStories 178 = .ok (.getfield 13, 3) := by decide +kernel
theorem dX7_findStories_181 : decode cX7_findStories 181 = .ok (.iload_n 2, 1) := by decide +kernel
theorem dX7_findStories_182 : decode cX7_findStories 182 = .ok (.iaload, 1) := by decide +kernel
theorem dX7_findStories_183 : decode cX7_findStories 183 = .ok (.ifCond .ne 33, 3) := by decide +kernel
theorem dX7_findStories_186 : decode cX7_findStories 186 = .ok (.aload_n 0, 1) := by decide +kernel
theorem dX7_findStories_187 : decode cX7_findStories 187 = .ok (.getfield 67, 3) := by decide +kernel
theorem dX7_findStories_190 : decode cX7_findStories 190 = .ok (.aload_n 0, 1) := by decide +kernel
theorem dX7_findStories_191 : decode cX7_findStories 191 = .ok (.getfield 153, 3) := by decide +kernel
theorem dX7_findStories_194 : decode cX7_findStories 194 = .ok (.iload_n 2, 1) := by decide +kernel
theorem dX7_findStories_195 : decode cX7_findStories 195 = .ok (.iastore, 1) := by decide +kernel
theorem dX7_findStories_196 : decode cX7_findStories 196 = .ok (.aload_n 0, 1) := by decide +kernel
theorem dX7_findStories_197 : decode cX7_findStories 197 = .ok (.getfield 70, 3) := by decide +kernel
theorem dX7_findStories_200 : decode cX7_findStories 200 = .ok (.iload_n 2, 1) := by decide +kernel
theorem dX7_findStories_201 : decode cX7_findStories 201 = .ok (.aload_n 0, 1) := by decide +kernel
theorem dX7_findStories_202 : decode cX7_findStories 202 = .ok (.getfield 153, 3) := by decide +kernel
theorem dX7_findStories_205 : decode cX7_findStories 205 = .ok (.iastore, 1) := by decide +kernel
theorem dX7_findStories_206 : decode cX7_findStories 206 = .ok (.aload_n 0, 1) := by decide +kernel
theorem dX7_findStories_207 : decode cX7_findStories 207 = .ok (.dup, 1) := by decide +kernel
theorem dX7_findStories_208 : decode cX7_findStories 208 = .ok (.getfield 153, 3) := by decide +kernel
theorem dX7_findStories_211 : decode cX7_findStories 211 = .ok (.iconst 1, 1) := by decide +kernel
theorem dX7_findStories_212 : decode cX7_findStories 212 = .ok (.iadd, 1) := by decide +kernel
theorem dX7_findStories_213 : decode cX7_findStories 213 = .ok (.putfield 153, 3) := by decide +kernel
theorem dX7_findStories_216 : decode cX7_findStories 216 = .ok (.iinc 2 1, 3) := by decide +kernel
theorem dX7_findStories_219 : decode cX7_findStories 219 = .ok (.goto (-91), 3) := by decide +kernel
theorem dX7_findStories_222 : decode cX7_findStories 222 = .ok (.iconst 0, 1) := by decide +kernel
theorem dX7_findStories_223 : decode cX7_findStories 223 = .ok (.istore_n 2, 1) := by decide +kernel
theorem dX7_findStories_224 : decode cX7_findStories 224 = .ok (.iload_n 2, 1) := by decide +kernel
theorem dX7_findStories_225 : decode cX7_findStories 225 = .ok (.aload_n 0, 1) := by decide +kernel
theorem dX7_findStories_226 : decode cX7_findStories 226 = .ok (.getfield 98, 3) := by decide +kernel
theorem dX7_findStories_229 : decode cX7_findStories 229 = .ok (.if_icmp .ge 92, 3) := by decide +kernel
theorem dX7_findStories_232 : decode cX7_findStories 232 = .ok (.aload_n 0, 1) := by decide +kernel
theorem dX7_findStories_233 : decode cX7_findStories 233 = .ok (.getfield 13, 3) := by decide +kernel
theorem dX7_findStories_236 : decode cX7_findStories 236 = .ok (.iload_n 2, 1) := by decide +kernel
theorem dX7_findStories_237 : decode cX7_findStories 237 = .ok (.iaload, 1) := by decide +kernel
theorem dX7_findStories_238 : decode cX7_findStories 238 = .ok (.iconst 1, 1) := by decide +kernel
theorem dX7_findStories_239 : decode cX7_findStories 239 = .ok (.if_icmp .ne 12, 3) := by decide +kernel
theorem dX7_findStories_242 : decode cX7_findStories 242 = .ok (.aload_n 0, 1) := by decide +kernel
theorem dX7_findStories_243 : decode cX7_findStories 243 = .ok (.getfield 55, 3) := by decide +kernel
theorem dX7_findStories_246 : decode cX7_findStories 246 = .ok (.iload_n 2, 1) := by decide +kernel
theorem dX7_findStories_247 : decode cX7_findStories 247 = .ok (.iaload, 1) := by decide +kernel
theorem dX7_findStories_248 : decode cX7_findStories 248 = .ok (.goto 24, 3) := by decide +kernel
theorem dX7_findStories_251 : decode cX7_findStories 251 = .ok (.aload_n 0, 1) := by decide +kernel
theorem dX7_findStories_252 : decode cX7_findStories 252 = .ok (.getfield 13, 3) := by decide +kernel
theorem dX7_findStories_255 : decode cX7_findStories 255 = .ok (.iload_n 2, 1) := by decide +kernel
theorem dX7_findStories_256 : decode cX7_findStories 256 = .ok (.iaload, 1) := by decide +kernel
theorem dX7_findStories_257 : decode cX7_findStories 257 = .ok (.iconst 2, 1) := by decide +kernel
theorem dX7_findStories_258 : decode cX7_findStories 258 = .ok (.if_icmp .ne 12, 3) := by decide +kernel
theorem dX7_findStories_261 : decode cX7_findStories 261 = .ok (.aload_n 0, 1) := by decide +kernel
theorem dX7_findStories_262 : decode cX7_findStories 262 = .ok (.getfield 52, 3) := by decide +kernel
theorem dX7_findStories_265 : decode cX7_findStories 265 = .ok (.iload_n 2, 1) := by decide +kernel
theorem dX7_findStories_266 : decode cX7_findStories 266 = .ok (.iaload, 1) := by decide +kernel
theorem dX7_findStories_267 : decode cX7_findStories 267 = .ok (.goto 5, 3) := by decide +kernel
theorem dX7_findStories_270 : decode cX7_findStories 270 = .ok (.bipush (-9), 2) := by decide +kernel
theorem dX7_findStories_272 : decode cX7_findStories 272 = .ok (.istore_n 3, 1) := by decide +kernel
theorem dX7_findStories_273 : decode cX7_findStories 273 = .ok (.aload_n 0, 1) := by decide +kernel
theorem dX7_findStories_274 : decode cX7_findStories 274 = .ok (.getfield 70, 3) := by decide +kernel
theorem dX7_findStories_277 : decode cX7_findStories 277 = .ok (.iload_n 2, 1) := by decide +kernel
theorem dX7_findStories_278 : decode cX7_findStories 278 = .ok (.iload_n 3, 1) := by decide +kernel
theorem dX7_findStories_279 : decode cX7_findStories 279 = .ok (.bipush (-9), 2) := by decide +kernel
theorem dX7_findStories_281 : decode cX7_findStories 281 = .ok (.if_icmp .eq 12, 3) := by decide +kernel
theorem dX7_findStories_284 : decode cX7_findStories 284 = .ok (.aload_n 0, 1) := by decide +kernel
theorem dX7_findStories_285 : decode cX7_findStories 285 = .ok (.getfield 70, 3) := by decide +kernel
theorem dX7_findStories_288 : decode cX7_findStories 288 = .ok (.iload_n 3, 1) := by decide +kernel
theorem dX7_findStories_289 : decode cX7_findStories 289 = .ok (.iaload, 1) := by decide +kernel
theorem dX7_findStories_290 : decode cX7_findStories 290 = .ok (.goto 24, 3) := by decide +kernel
theorem dX7_findStories_293 : decode cX7_findStories 293 = .ok (.aload_n 0, 1) := by decide +kernel
theorem dX7_findStories_294 : decode cX7_findStories 294 = .ok (.getfield 13, 3) := by decide +kernel
theorem dX7_findStories_297 : decode cX7_findStories 297 = .ok (.iload_n 2, 1) := by decide +kernel
theorem dX7_findStories_298 : decode cX7_findStories 298 = .ok (.iaload, 1) := by decide +kernel
theorem dX7_findStories_299 : decode cX7_findStories 299 = .ok (.iconst 2, 1) := by decide +kernel
theorem dX7_findStories_300 : decode cX7_findStories 300 = .ok (.if_icmp .ne 8, 3) := by decide +kernel
theorem dX7_findStories_303 : decode cX7_findStories 303 = .ok (.bipush (-9), 2) := by decide +kernel
theorem dX7_findStories_305 : decode cX7_findStories 305 = .ok (.goto 9, 3) := by decide +kernel
theorem dX7_findStories_308 : decode cX7_findStories 308 = .ok (.aload_n 0, 1) := by decide +kernel
theorem dX7_findStories_309 : decode cX7_findStories 309 = .ok (.getfield 70, 3) := by decide +kernel
theorem dX7_findStories_312 : decode cX7_findStories 312 = .ok (.iload_n 2, 1) := by decide +kernel
theorem dX7_findStories_313 : decode cX7_findStories 313 = .ok (.iaload, 1) := by decide +kernel
theorem dX7_findStories_314 : decode cX7_findStories 314 = .ok (.iastore, 1) := by decide +kernel
theorem dX7_findStories_315 : decode cX7_findStories 315 = .ok (.iinc 2 1, 3) := by decide +kernel
theorem dX7_findStories_318 : decode cX7_findStories 318 = .ok (.goto (-94), 3) := by decide +kernel
theorem dX7_findStories_321 : decode cX7_findStories 321 = .ok (.return_, 1) := by decide +kernel
theorem dX7_reach_0 : decode cX7_reach 0 = .ok (.aload_n 0, 1) := by decide +kernel
theorem dX7_reach_1 : decode cX7_reach 1 = .ok (.iload_n 1, 1) := by decide +kernel
theorem dX7_reach_2 : decode cX7_reach 2 = .ok (.invokevirtual 156, 3) := by decide +kernel
theorem dX7_reach_5 : decode cX7_reach 5 = .ok (.ifCond .ne 5, 3) := by decide +kernel
theorem dX7_reach_8 : decode cX7_reach 8 = .ok (.iconst (-1), 1) := by decide +kernel
theorem dX7_reach_9 : decode cX7_reach 9 = .ok (.ireturn, 1) := by decide +kernel
theorem dX7_reach_10 : decode cX7_reach 10 = .ok (.iload_n 2, 1) := by decide +kernel
theorem dX7_reach_11 : decode cX7_reach 11 = .ok (.iconst 0, 1) := by decide +kernel
theorem dX7_reach_12 : decode cX7_reach 12 = .ok (.bipush 7, 2) := by decide +kernel
theorem dX7_reach_14 : decode cX7_reach 14 = .ok (.invokestatic 102, 3) := by decide +kernel
theorem dX7_reach_17 : decode cX7_reach 17 = .ok (.ifCond .eq 12, 3) := by decide +kernel
theorem dX7_reach_20 : decode cX7_reach 20 = .ok (.aload_n 0, 1) := by decide +kernel
theorem dX7_reach_21 : decode cX7_reach 21 = .ok (.iload_n 1, 1) := by decide +kernel
theorem dX7_reach_22 : decode cX7_reach 22 = .ok (.iload_n 2, 1) := by decide +kernel
theorem dX7_reach_23 : decode cX7_reach 23 = .ok (.invokevirtual 125, 3) := by decide +kernel
theorem dX7_reach_26 : decode cX7_reach 26 = .ok (.goto 5, 3) := by decide +kernel
theorem dX7_reach_29 : decode cX7_reach 29 = .ok (.bipush (-2), 2) := by decide +kernel
theorem dX7_reach_31 : decode cX7_reach 31 = .ok (.ireturn, 1) := by decide +kernel
theorem dX7_under_0 : decode cX7_under 0 = .ok (.aload_n 0, 1) := by decide +kernel
theorem dX7_under_1 : decode cX7_under 1 = .ok (.iload_n 1, 1) := by decide +kernel
theorem dX7_under_2 : decode cX7_under 2 = .ok (.invokevirtual 110, 3) := by decide +kernel
theorem dX7_under_5 : decode cX7_under 5 = .ok (.ifCond .ne 5, 3) := by decide +kernel
theorem dX7_under_8 : decode cX7_under 8 = .ok (.iconst (-1), 1) := by decide +kernel
theorem dX7_under_9 : decode cX7_under 9 = .ok (.ireturn, 1) := by decide +kernel
theorem dX7_under_10 : decode cX7_under 10 = .ok (.aload_n 0, 1) := by decide +kernel
theorem dX7_under_11 : decode cX7_under 11 = .ok (.getfield 13, 3) := by decide +kernel
theorem dX7_under_14 : decode cX7_under 14 = .ok (.iload_n 1, 1) := by decide +kernel
theorem dX7_under_15 : decode cX7_under 15 = .ok (.iaload, 1) := by decide +kernel
theorem dX7_under_16 : decode cX7_under 16 = .ok (.ifCond .ne 8, 3) := by decide +kernel
theorem dX7_under_19 : decode cX7_under 19 = .ok (.bipush (-3), 2) := by decide +kernel
theorem dX7_under_21 : decode cX7_under 21 = .ok (.goto 8, 3) := by decide +kernel
theorem dX7_under_24 : decode cX7_under 24 = .ok (.aload_n 0, 1) := by decide +kernel
theorem dX7_under_25 : decode cX7_under 25 = .ok (.iload_n 1, 1) := by decide +kernel
theorem dX7_under_26 : decode cX7_under 26 = .ok (.invokevirtual 143, 3) := by decide +kernel
theorem dX7_under_29 : decode cX7_under 29 = .ok (.ireturn, 1) := by decide +kernel
theorem dX7_story_0 : decode cX7_story 0 = .ok (.aload_n 0, 1) := by decide +kernel
theorem dX7_story_1 : decode cX7_story 1 = .ok (.iload_n 1, 1) := by decide +kernel
theorem dX7_story_2 : decode cX7_story 2 = .ok (.invokevirtual 110, 3) := by decide +kernel
theorem dX7_story_5 : decode cX7_story 5 = .ok (.ifCond .ne 5, 3) := by decide +kernel
theorem dX7_story_8 : decode cX7_story 8 = .ok (.iconst (-1), 1) := by decide +kernel
theorem dX7_story_9 : decode cX7_story 9 = .ok (.ireturn, 1) := by decide +kernel
theorem dX7_story_10 : decode cX7_story 10 = .ok (.aload_n 0, 1) := by decide +kernel
theorem dX7_story_11 : decode cX7_story 11 = .ok (.invokevirtual 159, 3) := by decide +kernel
theorem dX7_story_14 : decode cX7_story 14 = .ok (.aload_n 0, 1) := by decide +kernel
theorem dX7_story_15 : decode cX7_story 15 = .ok (.getfield 70, 3) := by decide +kernel
theorem dX7_story_18 : decode cX7_story 18 = .ok (.iload_n 1, 1) := by decide +kernel
theorem dX7_story_19 : decode cX7_story 19 = .ok (.iaload, 1) := by decide +kernel
theorem dX7_story_20 : decode cX7_story 20 = .ok (.ireturn, 1) := by decide +kernel
theorem dX7_takenBy_0 : decode cX7_takenBy 0 = .ok (.aload_n 0, 1) := by decide +kernel
theorem dX7_takenBy_1 : decode cX7_takenBy 1 = .ok (.iload_n 1, 1) := by decide +kernel
theorem dX7_takenBy_2 : decode cX7_takenBy 2 = .ok (.invokevirtual 110, 3) := by decide +kernel
theorem dX7_takenBy_5 : decode cX7_takenBy 5 = .ok (.ifCond .ne 5, 3) := by decide +kernel
theorem dX7_takenBy_8 : decode cX7_takenBy 8 = .ok (.iconst (-1), 1) := by decide +kernel
theorem dX7_takenBy_9 : decode cX7_takenBy 9 = .ok (.ireturn, 1) := by decide +kernel
theorem dX7_takenBy_10 : decode cX7_takenBy 10 = .ok (.aload_n 0, 1) := by decide +kernel
theorem dX7_takenBy_11 : decode cX7_takenBy 11 = .ok (.getfield 13, 3) := by decide +kernel
theorem dX7_takenBy_14 : decode cX7_takenBy 14 = .ok (.iload_n 1, 1) := by decide +kernel
theorem dX7_takenBy_15 : decode cX7_takenBy 15 = .ok (.iaload, 1) := by decide +kernel
theorem dX7_takenBy_16 : decode cX7_takenBy 16 = .ok (.iconst 1, 1) := by decide +kernel
theorem dX7_takenBy_17 : decode cX7_takenBy 17 = .ok (.if_icmp .eq 6, 3) := by decide +kernel
theorem dX7_takenBy_20 : decode cX7_takenBy 20 = .ok (.bipush (-3), 2) := by decide +kernel
theorem dX7_takenBy_22 : decode cX7_takenBy 22 = .ok (.ireturn, 1) := by decide +kernel
theorem dX7_takenBy_23 : decode cX7_takenBy 23 = .ok (.aload_n 0, 1) := by decide +kernel
theorem dX7_takenBy_24 : decode cX7_takenBy 24 = .ok (.invokevirtual 159, 3) := by decide +kernel
theorem dX7_takenBy_27 : decode cX7_takenBy 27 = .ok (.aload_n 0, 1) := by decide +kernel
theorem dX7_takenBy_28 : decode cX7_takenBy 28 = .ok (.getfield 58, 3) := by decide +kernel
theorem dX7_takenBy_31 : decode cX7_takenBy 31 = .ok (.iload_n 1, 1) := by decide +kernel
theorem dX7_takenBy_32 : decode cX7_takenBy 32 = .ok (.iaload, 1) := by decide +kernel
theorem dX7_takenBy_33 : decode cX7_takenBy 33 = .ok (.ireturn, 1) := by decide +kernel
theorem dX7_mark_0 : decode cX7_mark 0 = .ok (.aload_n 0, 1) := by decide +kernel
theorem dX7_mark_1 : decode cX7_mark 1 = .ok (.iload_n 1, 1) := by decide +kernel
theorem dX7_mark_2 : decode cX7_mark 2 = .ok (.invokevirtual 110, 3) := by decide +kernel
theorem dX7_mark_5 : decode cX7_mark 5 = .ok (.ifCond .ne 5, 3) := by decide +kernel
theorem dX7_mark_8 : decode cX7_mark 8 = .ok (.iconst (-1), 1) := by decide +kernel
theorem dX7_mark_9 : decode cX7_mark 9 = .ok (.ireturn, 1) := by decide +kernel
theorem dX7_mark_10 : decode cX7_mark 10 = .ok (.iload_n 2, 1) := by decide +kernel
theorem dX7_mark_11 : decode cX7_mark 11 = .ok (.iconst 0, 1) := by decide +kernel
theorem dX7_mark_12 : decode cX7_mark 12 = .ok (.iconst 1, 1) := by decide +kernel
theorem dX7_mark_13 : decode cX7_mark 13 = .ok (.invokestatic 102, 3) := by decide +kernel
theorem dX7_mark_16 : decode cX7_mark 16 = .ok (.ifCond .eq 23, 3) := by decide +kernel
theorem dX7_mark_19 : decode cX7_mark 19 = .ok (.iload_n 3, 1) := by decide +kernel
theorem dX7_mark_20 : decode cX7_mark 20 = .ok (.iconst 0, 1) := by decide +kernel
theorem dX7_mark_21 : decode cX7_mark 21 = .ok (.iconst 3, 1) := by decide +kernel
theorem dX7_mark_22 : decode cX7_mark 22 = .ok (.invokestatic 102, 3) := by decide +kernel
theorem dX7_mark_25 : decode cX7_mark 25 = .ok (.ifCond .eq 14, 3) := by decide +kernel
theorem dX7_mark_28 : decode cX7_mark 28 = .ok (.iload 4, 2) := by decide +kernel
theorem dX7_mark_30 : decode cX7_mark 30 = .ok (.iconst 0, 1) := by decide +kernel
theorem dX7_mark_31 : decode cX7_mark 31 = .ok (.bipush 99, 2) := by decide +kernel
theorem dX7_mark_33 : decode cX7_mark 33 = .ok (.invokestatic 102, 3) := by decide +kernel
theorem dX7_mark_36 : decode cX7_mark 36 = .ok (.ifCond .ne 6, 3) := by decide +kernel
theorem dX7_mark_39 : decode cX7_mark 39 = .ok (.bipush (-2), 2) := by decide +kernel
theorem dX7_mark_41 : decode cX7_mark 41 = .ok (.ireturn, 1) := by decide +kernel
theorem dX7_mark_42 : decode cX7_mark 42 = .ok (.aload_n 0, 1) := by decide +kernel
theorem dX7_mark_43 : decode cX7_mark 43 = .ok (.getfield 13, 3) := by decide +kernel
theorem dX7_mark_46 : decode cX7_mark 46 = .ok (.iload_n 1, 1) := by decide +kernel
theorem dX7_mark_47 : decode cX7_mark 47 = .ok (.iaload, 1) := by decide +kernel
theorem dX7_mark_48 : decode cX7_mark 48 = .ok (.iconst 2, 1) := by decide +kernel
theorem dX7_mark_49 : decode cX7_mark 49 = .ok (.if_icmp .eq 16, 3) := by decide +kernel
theorem dX7_mark_52 : decode cX7_mark 52 = .ok (.iload_n 2, 1) := by decide +kernel
theorem dX7_mark_53 : decode cX7_mark 53 = .ok (.ifCond .ne 15, 3) := by decide +kernel
theorem dX7_mark_56 : decode cX7_mark 56 = .ok (.aload_n 0, 1) := by decide +kernel
theorem dX7_mark_57 : decode cX7_mark 57 = .ok (.getfield 13, 3) := by decide +kernel
theorem dX7_mark_60 : decode cX7_mark 60 = .ok (.iload_n 1, 1) := by decide +kernel
theorem dX7_mark_61 : decode cX7_mark 61 = .ok (.iaload, 1) := by decide +kernel
theorem dX7_mark_62 : decode cX7_mark 62 = .ok (.ifCond .ne 6, 3) := by decide +kernel
theorem dX7_mark_65 : decode cX7_mark 65 = .ok (.bipush (-3), 2) := by decide +kernel
theorem dX7_mark_67 : decode cX7_mark 67 = .ok (.ireturn, 1) := by decide +kernel
theorem dX7_mark_68 : decode cX7_mark 68 = .ok (.aload_n 0, 1) := by decide +kernel
theorem dX7_mark_69 : decode cX7_mark 69 = .ok (.getfield 31, 3) := by decide +kernel
theorem dX7_mark_72 : decode cX7_mark 72 = .ok (.iconst 2, 1) := by decide +kernel
theorem dX7_mark_73 : decode cX7_mark 73 = .ok (.iload_n 1, 1) := by decide +kernel
theorem dX7_mark_74 : decode cX7_mark 74 = .ok (.imul, 1) := by decide +kernel
theorem dX7_mark_75 : decode cX7_mark 75 = .ok (.iload_n 2, 1) := by decide +kernel
theorem dX7_mark_76 : decode cX7_mark 76 = .ok (.iadd, 1) := by decide +kernel
theorem dX7_mark_77 : decode cX7_mark 77 = .ok (.iaload, 1) := by decide +kernel
theorem dX7_mark_78 : decode cX7_mark 78 = .ok (.bipush (-9), 2) := by decide +kernel
theorem dX7_mark_80 : decode cX7_mark 80 = .ok (.if_icmp .ne 7, 3) := by decide +kernel
theorem dX7_mark_83 : decode cX7_mark 83 = .ok (.iconst 0, 1) := by decide +kernel
theorem dX7_mark_84 : decode cX7_mark 84 = .ok (.goto 4, 3) := by decide +kernel
theorem dX7_mark_87 : decode cX7_mark 87 = .ok (.iconst 1, 1) := by decide +kernel
theorem dX7_mark_88 : decode cX7_mark 88 = .ok (.istore 5, 2) := by decide +kernel
theorem dX7_mark_90 : decode cX7_mark 90 = .ok (.aload_n 0, 1) := by decide +kernel
theorem dX7_mark_91 : decode cX7_mark 91 = .ok (.getfield 31, 3) := by decide +kernel
theorem dX7_mark_94 : decode cX7_mark 94 = .ok (.iconst 2, 1) := by decide +kernel
theorem dX7_mark_95 : decode cX7_mark 95 = .ok (.iload_n 1, 1) := by decide +kernel
theorem dX7_mark_96 : decode cX7_mark 96 = .ok (.imul, 1) := by decide +kernel
theorem dX7_mark_97 : decode cX7_mark 97 = .ok (.iload_n 2, 1) := by decide +kernel
theorem dX7_mark_98 : decode cX7_mark 98 = .ok (.iadd, 1) := by decide +kernel
theorem dX7_mark_99 : decode cX7_mark 99 = .ok (.iload_n 3, 1) := by decide +kernel
theorem dX7_mark_100 : decode cX7_mark 100 = .ok (.iastore, 1) := by decide +kernel
theorem dX7_mark_101 : decode cX7_mark 101 = .ok (.aload_n 0, 1) := by decide +kernel
theorem dX7_mark_102 : decode cX7_mark 102 = .ok (.getfield 34, 3) := by decide +kernel
theorem dX7_mark_105 : decode cX7_mark 105 = .ok (.iconst 2, 1) := by decide +kernel
theorem dX7_mark_106 : decode cX7_mark 106 = .ok (.iload_n 1, 1) := by decide +kernel
theorem dX7_mark_107 : decode cX7_mark 107 = .ok (.imul, 1) := by decide +kernel
theorem dX7_mark_108 : decode cX7_mark 108 = .ok (.iload_n 2, 1) := by decide +kernel
theorem dX7_mark_109 : decode cX7_mark 109 = .ok (.iadd, 1) := by decide +kernel
theorem dX7_mark_110 : decode cX7_mark 110 = .ok (.iload 4, 2) := by decide +kernel
theorem dX7_mark_112 : decode cX7_mark 112 = .ok (.iastore, 1) := by decide +kernel
theorem dX7_mark_113 : decode cX7_mark 113 = .ok (.iload 5, 2) := by decide +kernel
theorem dX7_mark_115 : decode cX7_mark 115 = .ok (.ireturn, 1) := by decide +kernel
theorem dX7_unmark_0 : decode cX7_unmark 0 = .ok (.aload_n 0, 1) := by decide +kernel
theorem dX7_unmark_1 : decode cX7_unmark 1 = .ok (.iload_n 1, 1) := by decide +kernel
theorem dX7_unmark_2 : decode cX7_unmark 2 = .ok (.invokevirtual 110, 3) := by decide +kernel
theorem dX7_unmark_5 : decode cX7_unmark 5 = .ok (.ifCond .ne 5, 3) := by decide +kernel
theorem dX7_unmark_8 : decode cX7_unmark 8 = .ok (.iconst (-1), 1) := by decide +kernel
theorem dX7_unmark_9 : decode cX7_unmark 9 = .ok (.ireturn, 1) := by decide +kernel
theorem dX7_unmark_10 : decode cX7_unmark 10 = .ok (.iload_n 2, 1) := by decide +kernel
theorem dX7_unmark_11 : decode cX7_unmark 11 = .ok (.iconst 0, 1) := by decide +kernel
theorem dX7_unmark_12 : decode cX7_unmark 12 = .ok (.iconst 1, 1) := by decide +kernel
theorem dX7_unmark_13 : decode cX7_unmark 13 = .ok (.invokestatic 102, 3) := by decide +kernel
theorem dX7_unmark_16 : decode cX7_unmark 16 = .ok (.ifCond .ne 6, 3) := by decide +kernel
theorem dX7_unmark_19 : decode cX7_unmark 19 = .ok (.bipush (-2), 2) := by decide +kernel
theorem dX7_unmark_21 : decode cX7_unmark 21 = .ok (.ireturn, 1) := by decide +kernel
theorem dX7_unmark_22 : decode cX7_unmark 22 = .ok (.aload_n 0, 1) := by decide +kernel
theorem dX7_unmark_23 : decode cX7_unmark 23 = .ok (.getfield 31, 3) := by decide +kernel
theorem dX7_unmark_26 : decode cX7_unmark 26 = .ok (.iconst 2, 1) := by decide +kernel
theorem dX7_unmark_27 : decode cX7_unmark 27 = .ok (.iload_n 1, 1) := by decide +kernel
theorem dX7_unmark_28 : decode cX7_unmark 28 = .ok (.imul, 1) := by decide +kernel
theorem dX7_unmark_29 : decode cX7_unmark 29 = .ok (.iload_n 2, 1) := by decide +kernel
theorem dX7_unmark_30 : decode cX7_unmark 30 = .ok (.iadd, 1) := by decide +kernel
theorem dX7_unmark_31 : decode cX7_unmark 31 = .ok (.iaload, 1) := by decide +kernel
theorem dX7_unmark_32 : decode cX7_unmark 32 = .ok (.bipush (-9), 2) := by decide +kernel
theorem dX7_unmark_34 : decode cX7_unmark 34 = .ok (.if_icmp .ne 7, 3) := by decide +kernel
theorem dX7_unmark_37 : decode cX7_unmark 37 = .ok (.iconst 0, 1) := by decide +kernel
theorem dX7_unmark_38 : decode cX7_unmark 38 = .ok (.goto 4, 3) := by decide +kernel
theorem dX7_unmark_41 : decode cX7_unmark 41 = .ok (.iconst 1, 1) := by decide +kernel
theorem dX7_unmark_42 : decode cX7_unmark 42 = .ok (.istore_n 3, 1) := by decide +kernel
theorem dX7_unmark_43 : decode cX7_unmark 43 = .ok (.aload_n 0, 1) := by decide +kernel
theorem dX7_unmark_44 : decode cX7_unmark 44 = .ok (.getfield 31, 3) := by decide +kernel
theorem dX7_unmark_47 : decode cX7_unmark 47 = .ok (.iconst 2, 1) := by decide +kernel
theorem dX7_unmark_48 : decode cX7_unmark 48 = .ok (.iload_n 1, 1) := by decide +kernel
theorem dX7_unmark_49 : decode cX7_unmark 49 = .ok (.imul, 1) := by decide +kernel
theorem dX7_unmark_50 : decode cX7_unmark 50 = .ok (.iload_n 2, 1) := by decide +kernel
theorem dX7_unmark_51 : decode cX7_unmark 51 = .ok (.iadd, 1) := by decide +kernel
theorem dX7_unmark_52 : decode cX7_unmark 52 = .ok (.bipush (-9), 2) := by decide +kernel
theorem dX7_unmark_54 : decode cX7_unmark 54 = .ok (.iastore, 1) := by decide +kernel
theorem dX7_unmark_55 : decode cX7_unmark 55 = .ok (.iload_n 3, 1) := by decide +kernel
theorem dX7_unmark_56 : decode cX7_unmark 56 = .ok (.ireturn, 1) := by decide +kernel
theorem dX7_ofMark_0 : decode cX7_ofMark 0 = .ok (.aload_n 0, 1) := by decide +kernel
theorem dX7_ofMark_1 : decode cX7_ofMark 1 = .ok (.iload_n 1, 1) := by decide +kernel
theorem dX7_ofMark_2 : decode cX7_ofMark 2 = .ok (.invokevirtual 110, 3) := by decide +kernel
theorem dX7_ofMark_5 : decode cX7_ofMark 5 = .ok (.ifCond .ne 5, 3) := by decide +kernel
theorem dX7_ofMark_8 : decode cX7_ofMark 8 = .ok (.iconst (-1), 1) := by decide +kernel
theorem dX7_ofMark_9 : decode cX7_ofMark 9 = .ok (.ireturn, 1) := by decide +kernel
theorem dX7_ofMark_10 : decode cX7_ofMark 10 = .ok (.iload_n 2, 1) := by decide +kernel
theorem dX7_ofMark_11 : decode cX7_ofMark 11 = .ok (.iconst 0, 1) := by decide +kernel
theorem dX7_ofMark_12 : decode cX7_ofMark 12 = .ok (.iconst 1, 1) := by decide +kernel
theorem dX7_ofMark_13 : decode cX7_ofMark 13 = .ok (.invokestatic 102, 3) := by decide +kernel
theorem dX7_ofMark_16 : decode cX7_ofMark 16 = .ok (.ifCond .eq 12, 3) := by decide +kernel
theorem dX7_ofMark_19 : decode cX7_ofMark 19 = .ok (.iload_n 3, 1) := by decide +kernel
theorem dX7_ofMark_20 : decode cX7_ofMark 20 = .ok (.iconst 0, 1) := by decide +kernel
theorem dX7_ofMark_21 : decode cX7_ofMark 21 = .ok (.iconst 1, 1) := by decide +kernel
theorem dX7_ofMark_22 : decode cX7_ofMark 22 = .ok (.invokestatic 102, 3) := by decide +kernel
theorem dX7_ofMark_25 : decode cX7_ofMark 25 = .ok (.ifCond .ne 6, 3) := by decide +kernel
theorem dX7_ofMark_28 : decode cX7_ofMark 28 = .ok (.bipush (-2), 2) := by decide +kernel
theorem dX7_ofMark_30 : decode cX7_ofMark 30 = .ok (.ireturn, 1) := by decide +kernel
theorem dX7_ofMark_31 : decode cX7_ofMark 31 = .ok (.aload_n 0, 1) := by decide +kernel
theorem dX7_ofMark_32 : decode cX7_ofMark 32 = .ok (.getfield 31, 3) := by decide +kernel
theorem dX7_ofMark_35 : decode cX7_ofMark 35 = .ok (.iconst 2, 1) := by decide +kernel
theorem dX7_ofMark_36 : decode cX7_ofMark 36 = .ok (.iload_n 1, 1) := by decide +kernel
theorem dX7_ofMark_37 : decode cX7_ofMark 37 = .ok (.imul, 1) := by decide +kernel
theorem dX7_ofMark_38 : decode cX7_ofMark 38 = .ok (.iload_n 2, 1) := by decide +kernel
theorem dX7_ofMark_39 : decode cX7_ofMark 39 = .ok (.iadd, 1) := by decide +kernel
theorem dX7_ofMark_40 : decode cX7_ofMark 40 = .ok (.iaload, 1) := by decide +kernel
theorem dX7_ofMark_41 : decode cX7_ofMark 41 = .ok (.istore 4, 2) := by decide +kernel
theorem dX7_ofMark_43 : decode cX7_ofMark 43 = .ok (.iload 4, 2) := by decide +kernel
theorem dX7_ofMark_45 : decode cX7_ofMark 45 = .ok (.bipush (-9), 2) := by decide +kernel
theorem dX7_ofMark_47 : decode cX7_ofMark 47 = .ok (.if_icmp .eq 7, 3) := by decide +kernel
theorem dX7_ofMark_50 : decode cX7_ofMark 50 = .ok (.iload_n 3, 1) := by decide +kernel
theorem dX7_ofMark_51 : decode cX7_ofMark 51 = .ok (.ifCond .ne 8, 3) := by decide +kernel
theorem dX7_ofMark_54 : decode cX7_ofMark 54 = .ok (.iload 4, 2) := by decide +kernel
theorem dX7_ofMark_56 : decode cX7_ofMark 56 = .ok (.goto 13, 3) := by decide +kernel
theorem dX7_ofMark_59 : decode cX7_ofMark 59 = .ok (.aload_n 0, 1) := by decide +kernel
theorem dX7_ofMark_60 : decode cX7_ofMark 60 = .ok (.getfield 34, 3) := by decide +kernel
theorem dX7_ofMark_63 : decode cX7_ofMark 63 = .ok (.iconst 2, 1) := by decide +kernel
theorem dX7_ofMark_64 : decode cX7_ofMark 64 = .ok (.iload_n 1, 1) := by decide +kernel
theorem dX7_ofMark_65 : decode cX7_ofMark 65 = .ok (.imul, 1) := by decide +kernel
theorem dX7_ofMark_66 : decode cX7_ofMark 66 = .ok (.iload_n 2, 1) := by decide +kernel
theorem dX7_ofMark_67 : decode cX7_ofMark 67 = .ok (.iadd, 1) := by decide +kernel
theorem dX7_ofMark_68 : decode cX7_ofMark 68 = .ok (.iaload, 1) := by decide +kernel
theorem dX7_ofMark_69 : decode cX7_ofMark 69 = .ok (.ireturn, 1) := by decide +kernel
theorem dX7_onwardOf_0 : decode cX7_onwardOf 0 = .ok (.bipush (-9), 2) := by decide +kernel
theorem dX7_onwardOf_2 : decode cX7_onwardOf 2 = .ok (.istore_n 2, 1) := by decide +kernel
theorem dX7_onwardOf_3 : decode cX7_onwardOf 3 = .ok (.aload_n 0, 1) := by decide +kernel
theorem dX7_onwardOf_4 : decode cX7_onwardOf 4 = .ok (.getfield 67, 3) := by decide +kernel
theorem dX7_onwardOf_7 : decode cX7_onwardOf 7 = .ok (.iload_n 1, 1) := by decide +kernel
theorem dX7_onwardOf_8 : decode cX7_onwardOf 8 = .ok (.iaload, 1) := by decide +kernel
theorem dX7_onwardOf_9 : decode cX7_onwardOf 9 = .ok (.istore_n 3, 1) := by decide +kernel
theorem dX7_onwardOf_10 : decode cX7_onwardOf 10 = .ok (.iconst 0, 1) := by decide +kernel
theorem dX7_onwardOf_11 : decode cX7_onwardOf 11 = .ok (.istore 4, 2) := by decide +kernel
theorem dX7_onwardOf_13 : decode cX7_onwardOf 13 = .ok (.iload 4, 2) := by decide +kernel
theorem dX7_onwardOf_15 : decode cX7_onwardOf 15 = .ok (.aload_n 0, 1) := by decide +kernel
theorem dX7_onwardOf_16 : decode cX7_onwardOf 16 = .ok (.getfield 61, 3) := by decide +kernel
theorem dX7_onwardOf_19 : decode cX7_onwardOf 19 = .ok (.iload_n 3, 1) := by decide +kernel
theorem dX7_onwardOf_20 : decode cX7_onwardOf 20 = .ok (.iaload, 1) := by decide +kernel
theorem dX7_onwardOf_21 : decode cX7_onwardOf 21 = .ok (.if_icmp .ge 44, 3) := by decide +kernel
theorem dX7_onwardOf_24 : decode cX7_onwardOf 24 = .ok (.aload_n 0, 1) := by decide +kernel
theorem dX7_onwardOf_25 : decode cX7_onwardOf 25 = .ok (.getfield 64, 3) := by decide +kernel
theorem dX7_onwardOf_28 : decode cX7_onwardOf 28 = .ok (.bipush 24, 2) := by decide +kernel
theorem dX7_onwardOf_30 : decode cX7_onwardOf 30 = .ok (.iload_n 3, 1) := by decide +kernel
theorem dX7_onwardOf_31 : decode cX7_onwardOf 31 = .ok (.imul, 1) := by decide +kernel
theorem dX7_onwardOf_32 : decode cX7_onwardOf 32 = .ok (.iload 4, 2) := by decide +kernel
theorem dX7_onwardOf_34 : decode cX7_onwardOf 34 = .ok (.iadd, 1) := by decide +kernel
theorem dX7_onwardOf_35 : decode cX7_onwardOf 35 = .ok (.iaload, 1) := by decide +kernel
theorem dX7_onwardOf_36 : decode cX7_onwardOf 36 = .ok (.istore 5, 2) := by decide +kernel
theorem dX7_onwardOf_38 : decode cX7_onwardOf 38 = .ok (.aload_n 0, 1) := by decide +kernel
theorem dX7_onwardOf_39 : decode cX7_onwardOf 39 = .ok (.getfield 31, 3) := by decide +kernel
theorem dX7_onwardOf_42 : decode cX7_onwardOf 42 = .ok (.iconst 2, 1) := by decide +kernel
theorem dX7_onwardOf_43 : decode cX7_onwardOf 43 = .ok (.iload 5, 2) := by decide +kernel
theorem dX7_onwardOf_45 : decode cX7_onwardOf 45 = .ok (.imul, 1) := by decide +kernel
theorem dX7_onwardOf_46 : decode cX7_onwardOf 46 = .ok (.iaload, 1) := by decide +kernel
theorem dX7_onwardOf_47 : decode cX7_onwardOf 47 = .ok (.bipush (-9), 2) := by decide +kernel
theorem dX7_onwardOf_49 : decode cX7_onwardOf 49 = .ok (.if_icmp .ne 7, 3) := by decide +kernel
theorem dX7_onwardOf_52 : decode cX7_onwardOf 52 = .ok (.iload_n 2, 1) := by decide +kernel
theorem dX7_onwardOf_53 : decode cX7_onwardOf 53 = .ok (.goto 5, 3) := by decide +kernel
theorem dX7_onwardOf_56 : decode cX7_onwardOf 56 = .ok (.iload 5, 2) := by decide +kernel
theorem dX7_onwardOf_58 : decode cX7_onwardOf 58 = .ok (.istore_n 2, 1) := by decide +kernel
theorem dX7_onwardOf_59 : decode cX7_onwardOf 59 = .ok (.iinc 4 1, 3) := by decide +kernel
theorem dX7_onwardOf_62 : decode cX7_onwardOf 62 = .ok (.goto (-49), 3) := by decide +kernel
theorem dX7_onwardOf_65 : decode cX7_onwardOf 65 = .ok (.iload_n 2, 1) := by decide +kernel
theorem dX7_onwardOf_66 : decode cX7_onwardOf 66 = .ok (.ireturn, 1) := by decide +kernel
theorem dX7_aimBy_0 : decode cX7_aimBy 0 = .ok (.iconst 0, 1) := by decide +kernel
theorem dX7_aimBy_1 : decode cX7_aimBy 1 = .ok (.istore_n 2, 1) := by decide +kernel
theorem dX7_aimBy_2 : decode cX7_aimBy 2 = .ok (.iload_n 2, 1) := by decide +kernel
theorem dX7_aimBy_3 : decode cX7_aimBy 3 = .ok (.aload_n 0, 1) := by decide +kernel
theorem dX7_aimBy_4 : decode cX7_aimBy 4 = .ok (.getfield 98, 3) := by decide +kernel
theorem dX7_aimBy_7 : decode cX7_aimBy 7 = .ok (.if_icmp .ge 93, 3) := by decide +kernel
theorem dX7_aimBy_10 : decode cX7_aimBy 10 = .ok (.aload_n 0, 1) := by decide +kernel
theorem dX7_aimBy_11 : decode cX7_aimBy 11 = .ok (.getfield 13, 3) := by decide +kernel
theorem dX7_aimBy_14 : decode cX7_aimBy 14 = .ok (.iload_n 2, 1) := by decide +kernel
theorem dX7_aimBy_15 : decode cX7_aimBy 15 = .ok (.iaload, 1) := by decide +kernel
theorem dX7_aimBy_16 : decode cX7_aimBy 16 = .ok (.iconst 2, 1) := by decide +kernel
theorem dX7_aimBy_17 : decode cX7_aimBy 17 = .ok (.if_icmp .eq 43, 3) := by decide +kernel
theorem dX7_aimBy_20 : decode cX7_aimBy 20 = .ok (.aload_n 0, 1) := by decide +kernel
theorem dX7_aimBy_21 : decode cX7_aimBy 21 = .ok (.getfield 7, 3) := by decide +kernel
theorem dX7_aimBy_24 : decode cX7_aimBy 24 = .ok (.iload_n 2, 1) := by decide +kernel
theorem dX7_aimBy_25 : decode cX7_aimBy 25 = .ok (.iaload, 1) := by decide +kernel
theorem dX7_aimBy_26 : decode cX7_aimBy 26 = .ok (.aload_n 0, 1) := by decide +kernel
theorem dX7_aimBy_27 : decode cX7_aimBy 27 = .ok (.getfield 31, 3) := by decide +kernel
theorem dX7_aimBy_30 : decode cX7_aimBy 30 = .ok (.iconst 2, 1) := by decide +kernel
theorem dX7_aimBy_31 : decode cX7_aimBy 31 = .ok (.iload_n 1, 1) := by decide +kernel
theorem dX7_aimBy_32 : decode cX7_aimBy 32 = .ok (.imul, 1) := by decide +kernel
theorem dX7_aimBy_33 : decode cX7_aimBy 33 = .ok (.iaload, 1) := by decide +kernel
theorem dX7_aimBy_34 : decode cX7_aimBy 34 = .ok (.if_icmp .ne 26, 3) := by decide +kernel
theorem dX7_aimBy_37 : decode cX7_aimBy 37 = .ok (.aload_n 0, 1) := by decide +kernel
theorem dX7_aimBy_38 : decode cX7_aimBy 38 = .ok (.getfield 31, 3) := by decide +kernel
theorem dX7_aimBy_41 : decode cX7_aimBy 41 = .ok (.iconst 2, 1) := by decide +kernel
theorem dX7_aimBy_42 : decode cX7_aimBy 42 = .ok (.iload_n 2, 1) := by decide +kernel
theorem dX7_aimBy_43 : decode cX7_aimBy 43 = .ok (.imul, 1) := by decide +kernel
theorem dX7_aimBy_44 : decode cX7_aimBy 44 = .ok (.iconst 1, 1) := by decide +kernel
theorem dX7_aimBy_45 : decode cX7_aimBy 45 = .ok (.iadd, 1) := by decide +kernel
theorem dX7_aimBy_46 : decode cX7_aimBy 46 = .ok (.iaload, 1) := by decide +kernel
theorem dX7_aimBy_47 : decode cX7_aimBy 47 = .ok (.aload_n 0, 1) := by decide +kernel
theorem dX7_aimBy_48 : decode cX7_aimBy 48 = .ok (.getfield 7, 3) := by decide +kernel
theorem dX7_aimBy_51 : decode cX7_aimBy 51 = .ok (.iload_n 1, 1) := by decide +kernel
theorem dX7_aimBy_52 : decode cX7_aimBy 52 = .ok (.iaload, 1) := by decide +kernel
theorem dX7_aimBy_53 : decode cX7_aimBy 53 = .ok (.if_icmp .ne 7, 3) := by decide +kernel
theorem dX7_aimBy_56 : decode cX7_aimBy 56 = .ok (.iconst 1, 1) := by decide +kernel
theorem dX7_aimBy_57 : decode cX7_aimBy 57 = .ok (.goto 4, 3) := by decide +kernel
theorem dX7_aimBy_60 : decode cX7_aimBy 60 = .ok (.iconst 0, 1) := by decide +kernel
theorem dX7_aimBy_61 : decode cX7_aimBy 61 = .ok (.istore_n 3, 1) := by decide +kernel
theorem dX7_aimBy_62 : decode cX7_aimBy 62 = .ok (.iload_n 3, 1) := by decide +kernel
theorem dX7_aimBy_63 : decode cX7_aimBy 63 = .ok (.ifCond .eq 31, 3) := by decide +kernel
theorem dX7_aimBy_66 : decode cX7_aimBy 66 = .ok (.aload_n 0, 1) := by decide +kernel
theorem dX7_aimBy_67 : decode cX7_aimBy 67 = .ok (.getfield 34, 3) := by decide +kernel
theorem dX7_aimBy_70 : decode cX7_aimBy 70 = .ok (.iconst 2, 1) := by decide +kernel
theorem dX7_aimBy_71 : decode cX7_aimBy 71 = .ok (.iload_n 2, 1) := by decide +kernel
theorem dX7_aimBy_72 : decode cX7_aimBy 72 = .ok (.imul, 1) := by decide +kernel
theorem dX7_aimBy_73 : decode cX7_aimBy 73 = .ok (.iconst 1, 1) := by decide +kernel
theorem dX7_aimBy_74 : decode cX7_aimBy 74 = .ok (.iadd, 1) := by decide +kernel
theorem dX7_aimBy_75 : decode cX7_aimBy 75 = .ok (.iaload, 1) := by decide +kernel
theorem dX7_aimBy_76 : decode cX7_aimBy 76 = .ok (.aload_n 0, 1) := by decide +kernel
theorem dX7_aimBy_77 : decode cX7_aimBy 77 = .ok (.getfield 34, 3) := by decide +kernel
theorem dX7_aimBy_80 : decode cX7_aimBy 80 = .ok (.iconst 2, 1) := by decide +kernel
theorem dX7_aimBy_81 : decode cX7_aimBy 81 = .ok (.iload_n 1, 1) := by decide +kernel
theorem dX7_aimBy_82 : decode cX7_aimBy 82 = .ok (.imul, 1) := by decide +kernel
theorem dX7_aimBy_83 : decode cX7_aimBy 83 = .ok (.iaload, 1) := by decide +kernel
theorem dX7_aimBy_84 : decode cX7_aimBy 84 = .ok (.if_icmp .ne 10, 3) := by decide +kernel
theorem dX7_aimBy_87 : decode cX7_aimBy 87 = .ok (.aload_n 0, 1) := by decide +kernel
theorem dX7_aimBy_88 : decode cX7_aimBy 88 = .ok (.getfield 70, 3) := by decide +kernel
theorem dX7_aimBy_91 : decode cX7_aimBy 91 = .ok (.iload_n 2, 1) := by decide +kernel
theorem dX7_aimBy_92 : decode cX7_aimBy 92 = .ok (.iaload, 1) := by decide +kernel
theorem dX7_aimBy_93 : decode cX7_aimBy 93 = .ok (.ireturn, 1) := by decide +kernel
theorem dX7_aimBy_94 : decode cX7_aimBy 94 = .ok (.iinc 2 1, 3) := by decide +kernel
theorem dX7_aimBy_97 : decode cX7_aimBy 97 = .ok (.goto (-95), 3) := by decide +kernel
theorem dX7_aimBy_100 : decode cX7_aimBy 100 = .ok (.bipush (-9), 2) := by decide +kernel
theorem dX7_aimBy_102 : decode cX7_aimBy 102 = .ok (.ireturn, 1) := by decide +kernel
theorem dX7_lays_0 : decode cX7_lays 0 = .ok (.aload_n 0, 1) := by decide +kernel
theorem dX7_lays_1 : decode cX7_lays 1 = .ok (.getfield 86, 3) := by decide +kernel
theorem dX7_lays_4 : decode cX7_lays 4 = .ok (.aload_n 0, 1) := by decide +kernel
theorem dX7_lays_5 : decode cX7_lays 5 = .ok (.getfield 162, 3) := by decide +kernel
theorem dX7_lays_8 : decode cX7_lays 8 = .ok (.aload_n 0, 1) := by decide +kernel
theorem dX7_lays_9 : decode cX7_lays 9 = .ok (.getfield 165, 3) := by decide +kernel
theorem dX7_lays_12 : decode cX7_lays 12 = .ok (.iastore, 1) := by decide +kernel
theorem dX7_lays_13 : decode cX7_lays 13 = .ok (.aload_n 0, 1) := by decide +kernel
theorem dX7_lays_14 : decode cX7_lays 14 = .ok (.getfield 89, 3) := by decide +kernel
theorem dX7_lays_17 : decode cX7_lays 17 = .ok (.aload_n 0, 1) := by decide +kernel
theorem dX7_lays_18 : decode cX7_lays 18 = .ok (.getfield 162, 3) := by decide +kernel
theorem dX7_lays_21 : decode cX7_lays 21 = .ok (.iload_n 2, 1) := by decide +kernel
theorem dX7_lays_22 : decode cX7_lays 22 = .ok (.bastore, 1) := by decide +kernel
theorem dX7_lays_23 : decode cX7_lays 23 = .ok (.iload_n 1, 1) := by decide +kernel
theorem dX7_lays_24 : decode cX7_lays 24 = .ok (.istore_n 3, 1) := by decide +kernel
theorem dX7_lays_25 : decode cX7_lays 25 = .ok (.iload_n 3, 1) := by decide +kernel
theorem dX7_lays_26 : decode cX7_lays 26 = .ok (.bipush (-9), 2) := by decide +kernel
theorem dX7_lays_28 : decode cX7_lays 28 = .ok (.if_icmp .eq 54, 3) := by decide +kernel
theorem dX7_lays_31 : decode cX7_lays 31 = .ok (.aload_n 0, 1) := by decide +kernel
theorem dX7_lays_32 : decode cX7_lays 32 = .ok (.getfield 95, 3) := by decide +kernel
theorem dX7_lays_35 : decode cX7_lays 35 = .ok (.iload_n 3, 1) := by decide +kernel
theorem dX7_lays_36 : decode cX7_lays 36 = .ok (.iaload, 1) := by decide +kernel
theorem dX7_lays_37 : decode cX7_lays 37 = .ok (.bipush (-9), 2) := by decide +kernel
theorem dX7_lays_39 : decode cX7_lays 39 = .ok (.if_icmp .ne 43, 3) := by decide +kernel
theorem dX7_lays_42 : decode cX7_lays 42 = .ok (.aload_n 0, 1) := by decide +kernel
theorem dX7_lays_43 : decode cX7_lays 43 = .ok (.getfield 95, 3) := by decide +kernel
theorem dX7_lays_46 : decode cX7_lays 46 = .ok (.iload_n 3, 1) := by decide +kernel
theorem dX7_lays_47 : decode cX7_lays 47 = .ok (.aload_n 0, 1) := by decide +kernel
theorem dX7_lays_48 : decode cX7_lays 48 = .ok (.getfield 162, 3) := by decide +kernel
theorem dX7_lays_51 : decode cX7_lays 51 = .ok (.iastore, 1) := by decide +kernel
theorem dX7_lays_52 : decode cX7_lays 52 = .ok (.aload_n 0, 1) := by decide +kernel
theorem dX7_lays_53 : decode cX7_lays 53 = .ok (.getfield 92, 3) := by decide +kernel
theorem dX7_lays_56 : decode cX7_lays 56 = .ok (.aload_n 0, 1) := by decide +kernel
theorem dX7_lays_57 : decode cX7_lays 57 = .ok (.getfield 165, 3) := by decide +kernel
theorem dX7_lays_60 : decode cX7_lays 60 = .ok (.iload_n 3, 1) := by decide +kernel
theorem dX7_lays_61 : decode cX7_lays 61 = .ok (.iastore, 1) := by decide +kernel
theorem dX7_lays_62 : decode cX7_lays 62 = .ok (.aload_n 0, 1) := by decide +kernel
theorem dX7_lays_63 : decode cX7_lays 63 = .ok (.dup, 1) := by decide +kernel
theorem dX7_lays_64 : decode cX7_lays 64 = .ok (.getfield 165, 3) := by decide +kernel
theorem dX7_lays_67 : decode cX7_lays 67 = .ok (.iconst 1, 1) := by decide +kernel
theorem dX7_lays_68 : decode cX7_lays 68 = .ok (.iadd, 1) := by decide +kernel
theorem dX7_lays_69 : decode cX7_lays 69 = .ok (.putfield 165, 3) := by decide +kernel
theorem dX7_lays_72 : decode cX7_lays 72 = .ok (.aload_n 0, 1) := by decide +kernel
theorem dX7_lays_73 : decode cX7_lays 73 = .ok (.getfield 80, 3) := by decide +kernel
theorem dX7_lays_76 : decode cX7_lays 76 = .ok (.iload_n 3, 1) := by decide +kernel
theorem dX7_lays_77 : decode cX7_lays 77 = .ok (.iaload, 1) := by decide +kernel
theorem dX7_lays_78 : decode cX7_lays 78 = .ok (.istore_n 3, 1) := by decide +kernel
theorem dX7_lays_79 : decode cX7_lays 79 = .ok (.goto (-54), 3) := by decide +kernel
theorem dX7_lays_82 : decode cX7_lays 82 = .ok (.aload_n 0, 1) := by decide +kernel
theorem dX7_lays_83 : decode cX7_lays 83 = .ok (.dup, 1) := by decide +kernel
theorem dX7_lays_84 : decode cX7_lays 84 = .ok (.getfield 162, 3) := by decide +kernel
theorem dX7_lays_87 : decode cX7_lays 87 = .ok (.iconst 1, 1) := by decide +kernel
theorem dX7_lays_88 : decode cX7_lays 88 = .ok (.iadd, 1) := by decide +kernel
theorem dX7_lays_89 : decode cX7_lays 89 = .ok (.putfield 162, 3) := by decide +kernel
theorem dX7_lays_92 : decode cX7_lays 92 = .ok (.aload_n 0, 1) := by decide +kernel
theorem dX7_lays_93 : decode cX7_lays 93 = .ok (.getfield 86, 3) := by decide +kernel
theorem dX7_lays_96 : decode cX7_lays 96 = .ok (.aload_n 0, 1) := by decide +kernel
theorem dX7_lays_97 : decode cX7_lays 97 = .ok (.getfield 162, 3) := by decide +kernel
theorem dX7_lays_100 : decode cX7_lays 100 = .ok (.aload_n 0, 1) := by decide +kernel
theorem dX7_lays_101 : decode cX7_lays 101 = .ok (.getfield 165, 3) := by decide +kernel
theorem dX7_lays_104 : decode cX7_lays 104 = .ok (.iastore, 1) := by decide +kernel
theorem dX7_lays_105 : decode cX7_lays 105 = .ok (.return_, 1) := by decide +kernel
theorem dX7_findArticles_0 : decode cX7_findArticles 0 = .ok (.aload_n 0, 1) := by decide +kernel
theorem dX7_findArticles_1 : decode cX7_findArticles 1 = .ok (.invokevirtual 159, 3) := by decide +kernel
theorem dX7_findArticles_4 : decode cX7_findArticles 4 = .ok (.iconst 0, 1) := by decide +kernel
theorem dX7_findArticles_5 : decode cX7_findArticles 5 = .ok (.istore_n 1, 1) := by decide +kernel
theorem dX7_findArticles_6 : decode cX7_findArticles 6 = .ok (.iload_n 1, 1) := by decide +kernel
theorem dX7_findArticles_7 : decode cX7_findArticles 7 = .ok (.aload_n 0, 1) := by decide +kernel
theorem dX7_findArticles_8 : decode cX7_findArticles 8 = .ok (.getfield 153, 3) := by decide +kernel
theorem dX7_findArticles_11 : decode cX7_findArticles 11 = .ok (.if_icmp .ge 78, 3) := by decide +kernel
theorem dX7_findArticles_14 : decode cX7_findArticles 14 = .ok (.aload_n 0, 1) := by decide +kernel
theorem dX7_findArticles_15 : decode cX7_findArticles 15 = .ok (.iload_n 1, 1) := by decide +kernel
theorem dX7_findArticles_16 : decode cX7_findArticles 16 = .ok (.invokevirtual 168, 3) := by decide +kernel
theorem dX7_findArticles_19 : decode cX7_findArticles 19 = .ok (.istore_n 2, 1) := by decide +kernel
theorem dX7_findArticles_20 : decode cX7_findArticles 20 = .ok (.aload_n 0, 1) := by decide +kernel
theorem dX7_findArticles_21 : decode cX7_findArticles 21 = .ok (.getfield 73, 3) := by decide +kernel
theorem dX7_findArticles_24 : decode cX7_findArticles 24 = .ok (.iload_n 1, 1) := by decide +kernel
theorem dX7_findArticles_25 : decode cX7_findArticles 25 = .ok (.iload_n 2, 1) := by decide +kernel
theorem dX7_findArticles_26 : decode cX7_findArticles 26 = .ok (.bipush (-9), 2) := by decide +kernel
theorem dX7_findArticles_28 : decode cX7_findArticles 28 = .ok (.if_icmp .eq 7, 3) := by decide +kernel
theorem dX7_findArticles_31 : decode cX7_findArticles 31 = .ok (.iconst 1, 1) := by decide +kernel
theorem dX7_findArticles_32 : decode cX7_findArticles 32 = .ok (.goto 4, 3) := by decide +kernel
theorem dX7_findArticles_35 : decode cX7_findArticles 35 = .ok (.iconst 0, 1) := by decide +kernel
theorem dX7_findArticles_36 : decode cX7_findArticles 36 = .ok (.bastore, 1) := by decide +kernel
theorem dX7_findArticles_37 : decode cX7_findArticles 37 = .ok (.aload_n 0, 1) := by decide +kernel
theorem dX7_findArticles_38 : decode cX7_findArticles 38 = .ok (.getfield 77, 3) := by decide +kernel
theorem dX7_findArticles_41 : decode cX7_findArticles 41 = .ok (.iload_n 1, 1) := by decide +kernel
theorem dX7_findArticles_42 : decode cX7_findArticles 42 = .ok (.iload_n 2, 1) := by decide +kernel
theorem dX7_findArticles_43 : decode cX7_findArticles 43 = .ok (.bipush (-9), 2) := by decide +kernel
theorem dX7_findArticles_45 : decode cX7_findArticles 45 = .ok (.if_icmp .ne 8, 3) := by decide +kernel
theorem dX7_findArticles_48 : decode cX7_findArticles 48 = .ok (.bipush (-9), 2) := by decide +kernel
theorem dX7_findArticles_50 : decode cX7_findArticles 50 = .ok (.goto 8, 3) := by decide +kernel
theorem dX7_findArticles_53 : decode cX7_findArticles 53 = .ok (.aload_n 0, 1) := by decide +kernel
theorem dX7_findArticles_54 : decode cX7_findArticles 54 = .ok (.iload_n 2, 1) := by decide +kernel
theorem dX7_findArticles_55 : decode cX7_findArticles 55 = .ok (.invokevirtual 171, 3) := by decide +kernel
theorem dX7_findArticles_58 : decode cX7_findArticles 58 = .ok (.iastore, 1) := by decide +kernel
theorem dX7_findArticles_59 : decode cX7_findArticles 59 = .ok (.aload_n 0, 1) := by decide +kernel
theorem dX7_findArticles_60 : decode cX7_findArticles 60 = .ok (.getfield 80, 3) := by decide +kernel
theorem dX7_findArticles_63 : decode cX7_findArticles 63 = .ok (.iload_n 1, 1) := by decide +kernel
theorem dX7_findArticles_64 : decode cX7_findArticles 64 = .ok (.bipush (-9), 2) := by decide +kernel
theorem dX7_findArticles_66 : decode cX7_findArticles 66 = .ok (.iastore, 1) := by decide +kernel
theorem dX7_findArticles_67 : decode cX7_findArticles 67 = .ok (.aload_n 0, 1) := by decide +kernel
theorem dX7_findArticles_68 : decode cX7_findArticles 68 = .ok (.getfield 83, 3) := by decide +kernel
theorem dX7_findArticles_71 : decode cX7_findArticles 71 = .ok (.iload_n 1, 1) := by decide +kernel
theorem dX7_findArticles_72 : decode cX7_findArticles 72 = .ok (.bipush (-9), 2) := by decide +kernel
theorem dX7_findArticles_74 : decode cX7_findArticles 74 = .ok (.iastore, 1) := by decide +kernel
theorem dX7_findArticles_75 : decode cX7_findArticles 75 = .ok (.aload_n 0, 1) := by decide +kernel
theorem dX7_findArticles_76 : decode cX7_findArticles 76 = .ok (.getfield 95, 3) := by decide +kernel
theorem dX7_findArticles_79 : decode cX7_findArticles 79 = .ok (.iload_n 1, 1) := by decide +kernel
theorem dX7_findArticles_80 : decode cX7_findArticles 80 = .ok (.bipush (-9), 2) := by decide +kernel
theorem dX7_findArticles_82 : decode cX7_findArticles 82 = .ok (.iastore, 1) := by decide +kernel
theorem dX7_findArticles_83 : decode cX7_findArticles 83 = .ok (.iinc 1 1, 3) := by decide +kernel
theorem dX7_findArticles_86 : decode cX7_findArticles 86 = .ok (.goto (-80), 3) := by decide +kernel
theorem dX7_findArticles_89 : decode cX7_findArticles 89 = .ok (.iconst 0, 1) := by decide +kernel
theorem dX7_findArticles_90 : decode cX7_findArticles 90 = .ok (.istore_n 1, 1) := by decide +kernel
theorem dX7_findArticles_91 : decode cX7_findArticles 91 = .ok (.iload_n 1, 1) := by decide +kernel
theorem dX7_findArticles_92 : decode cX7_findArticles 92 = .ok (.aload_n 0, 1) := by decide +kernel
theorem dX7_findArticles_93 : decode cX7_findArticles 93 = .ok (.getfield 153, 3) := by decide +kernel
theorem dX7_findArticles_96 : decode cX7_findArticles 96 = .ok (.if_icmp .ge 52, 3) := by decide +kernel
theorem dX7_findArticles_99 : decode cX7_findArticles 99 = .ok (.aload_n 0, 1) := by decide +kernel
theorem dX7_findArticles_100 : decode cX7_findArticles 100 = .ok (.getfield 77, 3) := by decide +kernel
theorem dX7_findArticles_103 : decode cX7_findArticles 103 = .ok (.iload_n 1, 1) := by decide +kernel
theorem dX7_findArticles_104 : decode cX7_findArticles 104 = .ok (.iaload, 1) := by decide +kernel
theorem dX7_findArticles_105 : decode cX7_findArticles 105 = .ok (.istore_n 2, 1) := by decide +kernel
theorem dX7_findArticles_106 : decode cX7_findArticles 106 = .ok (.iload_n 2, 1) := by decide +kernel
theorem dX7_findArticles_107 : decode cX7_findArticles 107 = .ok (.bipush (-9), 2) := by decide +kernel
theorem dX7_findArticles_109 : decode cX7_findArticles 109 = .ok (.if_icmp .eq 33, 3) := by decide +kernel
theorem dX7_findArticles_112 : decode cX7_findArticles 112 = .ok (.iload_n 2, 1) := by decide +kernel
theorem dX7_findArticles_113 : decode cX7_findArticles 113 = .ok (.iload_n 1, 1) := by decide +kernel
theorem dX7_findArticles_114 : decode cX7_findArticles 114 = .ok (.if_icmp .eq 28, 3) := by decide +kernel
theorem dX7_findArticles_117 : decode cX7_findArticles 117 = .ok (.aload_n 0, 1) := by decide +kernel
theorem dX7_findArticles_118 : decode cX7_findArticles 118 = .ok (.getfield 83, 3) := by decide +kernel
theorem dX7_findArticles_121 : decode cX7_findArticles 121 = .ok (.iload_n 2, 1) := by decide +kernel
theorem dX7_findArticles_122 : decode cX7_findArticles 122 = .ok (.iaload, 1) := by decide +kernel
theorem dX7_findArticles_123 : decode cX7_findArticles 123 = .ok (.bipush (-9), 2) := by decide +kernel
theorem dX7_findArticles_125 : decode cX7_findArticles 125 = .ok (.if_icmp .ne 17, 3) := by decide +kernel
theorem dX7_findArticles_128 : decode cX7_findArticles 128 = .ok (.aload_n 0, 1) := by decide +kernel
theorem dX7_findArticles_129 : decode cX7_findArticles 129 = .ok (.getfield 83, 3) := by decide +kernel
theorem dX7_findArticles_132 : decode cX7_findArticles 132 = .ok (.iload_n 2, 1) := by decide +kernel
theorem dX7_findArticles_133 : decode cX7_findArticles 133 = .ok (.iload_n 1, 1) := by decide +kernel
theorem dX7_findArticles_134 : decode cX7_findArticles 134 = .ok (.iastore, 1) := by decide +kernel
theorem dX7_findArticles_135 : decode cX7_findArticles 135 = .ok (.aload_n 0, 1) := by decide +kernel
theorem dX7_findArticles_136 : decode cX7_findArticles 136 = .ok (.getfield 80, 3) := by decide +kernel
theorem dX7_findArticles_139 : decode cX7_findArticles 139 = .ok (.iload_n 1, 1) := by decide +kernel
theorem dX7_findArticles_140 : decode cX7_findArticles 140 = .ok (.iload_n 2, 1) := by decide +kernel
theorem dX7_findArticles_141 : decode cX7_findArticles 141 = .ok (.iastore, 1) := by decide +kernel
theorem dX7_findArticles_142 : decode cX7_findArticles 142 = .ok (.iinc 1 1, 3) := by decide +kernel
theorem dX7_findArticles_145 : decode cX7_findArticles 145 = .ok (.goto (-54), 3) := by decide +kernel
theorem dX7_findArticles_148 : decode cX7_findArticles 148 = .ok (.aload_n 0, 1) := by decide +kernel
theorem dX7_findArticles_149 : decode cX7_findArticles 149 = .ok (.iconst 0, 1) := by decide +kernel
theorem dX7_findArticles_150 : decode cX7_findArticles 150 = .ok (.putfield 162, 3) := by decide +kernel
theorem dX7_findArticles_153 : decode cX7_findArticles 153 = .ok (.aload_n 0, 1) := by decide +kernel
theorem dX7_findArticles_154 : decode cX7_findArticles 154 = .ok (.iconst 0, 1) := by decide +kernel
theorem dX7_findArticles_155 : decode cX7_findArticles 155 = .ok (.putfield 165, 3) := by decide +kernel
theorem dX7_findArticles_158 : decode cX7_findArticles 158 = .ok (.iconst 0, 1) := by decide +kernel
theorem dX7_findArticles_159 : decode cX7_findArticles 159 = .ok (.istore_n 1, 1) := by decide +kernel
theorem dX7_findArticles_160 : decode cX7_findArticles 160 = .ok (.iload_n 1, 1) := by decide +kernel
theorem dX7_findArticles_161 : decode cX7_findArticles 161 = .ok (.aload_n 0, 1) := by decide +kernel
theorem dX7_findArticles_162 : decode cX7_findArticles 162 = .ok (.getfield 153, 3) := by decide +kernel
theorem dX7_findArticles_165 : decode cX7_findArticles 165 = .ok (.if_icmp .ge 26, 3) := by decide +kernel
theorem dX7_findArticles_168 : decode cX7_findArticles 168 = .ok (.aload_n 0, 1) := by decide +kernel
theorem dX7_findArticles_169 : decode cX7_findArticles 169 = .ok (.getfield 83, 3) := by decide +kernel
theorem dX7_findArticles_172 : decode cX7_findArticles 172 = .ok (.iload_n 1, 1) := by decide +kernel
theorem dX7_findArticles_173 : decode cX7_findArticles 173 = .ok (.iaload, 1) := by decide +kernel
theorem dX7_findArticles_174 : decode cX7_findArticles 174 = .ok (.bipush (-9), 2) := by decide +kernel
theorem dX7_findArticles_176 : decode cX7_findArticles 176 = .ok (.if_icmp .ne 9, 3) := by decide +kernel
theorem dX7_findArticles_179 : decode cX7_findArticles 179 = .ok (.aload_n 0, 1) := by decide +kernel
theorem dX7_findArticles_180 : decode cX7_findArticles 180 = .ok (.iload_n 1, 1) := by decide +kernel
theorem dX7_findArticles_181 : decode cX7_findArticles 181 = .ok (.iconst 0, 1) := by decide +kernel
theorem dX7_findArticles_182 : decode cX7_findArticles 182 = .ok (.invokevirtual 174, 3) := by decide +kernel
theorem dX7_findArticles_185 : decode cX7_findArticles 185 = .ok (.iinc 1 1, 3) := by decide +kernel
theorem dX7_findArticles_188 : decode cX7_findArticles 188 = .ok (.goto (-28), 3) := by decide +kernel
theorem dX7_findArticles_191 : decode cX7_findArticles 191 = .ok (.iconst 0, 1) := by decide +kernel
theorem dX7_findArticles_192 : decode cX7_findArticles 192 = .ok (.istore_n 1, 1) := by decide +kernel
theorem dX7_findArticles_193 : decode cX7_findArticles 193 = .ok (.iload_n 1, 1) := by decide +kernel
theorem dX7_findArticles_194 : decode cX7_findArticles 194 = .ok (.aload_n 0, 1) := by decide +kernel
theorem dX7_findArticles_195 : decode cX7_findArticles 195 = .ok (.getfield 153, 3) := by decide +kernel
theorem dX7_findArticles_198 : decode cX7_findArticles 198 = .ok (.if_icmp .ge 26, 3) := by decide +kernel
theorem dX7_findArticles_201 : decode cX7_findArticles 201 = .ok (.aload_n 0, 1) := by decide +kernel
theorem dX7_findArticles_202 : decode cX7_findArticles 202 = .ok (.getfield 95, 3) := by decide +kernel
theorem dX7_findArticles_205 : decode cX7_findArticles 205 = .ok (.iload_n 1, 1) := by decide +kernel
theorem dX7_findArticles_206 : decode cX7_findArticles 206 = .ok (.iaload, 1) := by decide +kernel
theorem dX7_findArticles_207 : decode cX7_findArticles 207 = .ok (.bipush (-9), 2) := by decide +kernel
theorem dX7_findArticles_209 : decode cX7_findArticles 209 = .ok (.if_icmp .ne 9, 3) := by decide +kernel
theorem dX7_findArticles_212 : decode cX7_findArticles 212 = .ok (.aload_n 0, 1) := by decide +kernel
theorem dX7_findArticles_213 : decode cX7_findArticles 213 = .ok (.iload_n 1, 1) := by decide +kernel
theorem dX7_findArticles_214 : decode cX7_findArticles 214 = .ok (.iconst 1, 1) := by decide +kernel
theorem dX7_findArticles_215 : decode cX7_findArticles 215 = .ok (.invokevirtual 174, 3) := by decide +kernel
theorem dX7_findArticles_218 : decode cX7_findArticles 218 = .ok (.iinc 1 1, 3) := by decide +kernel
theorem dX7_findArticles_221 : decode cX7_findArticles 221 = .ok (.goto (-28), 3) := by decide +kernel
theorem dX7_findArticles_224 : decode cX7_findArticles 224 = .ok (.return_, 1) := by decide +kernel
theorem dX7_isBroken_0 : decode cX7_isBroken 0 = .ok (.aload_n 0, 1) := by decide +kernel
theorem dX7_isBroken_1 : decode cX7_isBroken 1 = .ok (.getfield 73, 3) := by decide +kernel
theorem dX7_isBroken_4 : decode cX7_isBroken 4 = .ok (.iload_n 1, 1) := by decide +kernel
theorem dX7_isBroken_5 : decode cX7_isBroken 5 = .ok (.baload, 1) := by decide +kernel
theorem dX7_isBroken_6 : decode cX7_isBroken 6 = .ok (.ifCond .eq 18, 3) := by decide +kernel
theorem dX7_isBroken_9 : decode cX7_isBroken 9 = .ok (.aload_n 0, 1) := by decide +kernel
theorem dX7_isBroken_10 : decode cX7_isBroken 10 = .ok (.getfield 80, 3) := by decide +kernel
theorem dX7_isBroken_13 : decode cX7_isBroken 13 = .ok (.iload_n 1, 1) := by decide +kernel
theorem dX7_isBroken_14 : decode cX7_isBroken 14 = .ok (.iaload, 1) := by decide +kernel
theorem dX7_isBroken_15 : decode cX7_isBroken 15 = .ok (.bipush (-9), 2) := by decide +kernel
theorem dX7_isBroken_17 : decode cX7_isBroken 17 = .ok (.if_icmp .ne 7, 3) := by decide +kernel
theorem dX7_isBroken_20 : decode cX7_isBroken 20 = .ok (.iconst 1, 1) := by decide +kernel
theorem dX7_isBroken_21 : decode cX7_isBroken 21 = .ok (.goto 4, 3) := by decide +kernel
theorem dX7_isBroken_24 : decode cX7_isBroken 24 = .ok (.iconst 0, 1) := by decide +kernel
theorem dX7_isBroken_25 : decode cX7_isBroken 25 = .ok (.ireturn, 1) := by decide +kernel
theorem dX7_wordsIn_0 : decode cX7_wordsIn 0 = .ok (.aload_n 0, 1) := by decide +kernel
theorem dX7_wordsIn_1 : decode cX7_wordsIn 1 = .ok (.getfield 67, 3) := by decide +kernel
theorem dX7_wordsIn_4 : decode cX7_wordsIn 4 = .ok (.iload_n 1, 1) := by decide +kernel
theorem dX7_wordsIn_5 : decode cX7_wordsIn 5 = .ok (.iaload, 1) := by decide +kernel
theorem dX7_wordsIn_6 : decode cX7_wordsIn 6 = .ok (.istore_n 2, 1) := by decide +kernel
theorem dX7_wordsIn_7 : decode cX7_wordsIn 7 = .ok (.iconst 0, 1) := by decide +kernel
theorem dX7_wordsIn_8 : decode cX7_wordsIn 8 = .ok (.istore_n 3, 1) := by decide +kernel
theorem dX7_wordsIn_9 : decode cX7_wordsIn 9 = .ok (.iconst 0, 1) := by decide +kernel
theorem dX7_wordsIn_10 : decode cX7_wordsIn 10 = .ok (.istore 4, 2) := by decide +kernel
theorem dX7_wordsIn_12 : decode cX7_wordsIn 12 = .ok (.iload 4, 2) := by decide +kernel
theorem dX7_wordsIn_14 : decode cX7_wordsIn 14 = .ok (.aload_n 0, 1) := by decide +kernel
theorem dX7_wordsIn_15 : decode cX7_wordsIn 15 = .ok (.getfield 61, 3) := by decide +kernel
theorem dX7_wordsIn_18 : decode cX7_wordsIn 18 = .ok (.iload_n 2, 1) := by decide +kernel
theorem dX7_wordsIn_19 : decode cX7_wordsIn 19 = .ok (.iaload, 1) := by decide +kernel
theorem dX7_wordsIn_20 : decode cX7_wordsIn 20 = .ok (.if_icmp .ge 29, 3) := by decide +kernel
theorem dX7_wordsIn_23 : decode cX7_wordsIn 23 = .ok (.iload_n 3, 1) := by decide +kernel
theorem dX7_wordsIn_24 : decode cX7_wordsIn 24 = .ok (.aload_n 0, 1) := by decide +kernel
theorem dX7_wordsIn_25 : decode cX7_wordsIn 25 = .ok (.getfield 28, 3) := by decide +kernel
theorem dX7_wordsIn_28 : decode cX7_wordsIn 28 = .ok (.aload_n 0, 1) := by decide +kernel
theorem dX7_wordsIn_29 : decode cX7_wordsIn 29 = .ok (.getfield 64, 3) := by decide +kernel
theorem dX7_wordsIn_32 : decode cX7_wordsIn 32 = .ok (.bipush 24, 2) := by decide +kernel
theorem dX7_wordsIn_34 : decode cX7_wordsIn 34 = .ok (.iload_n 2, 1) := by decide +kernel
theorem dX7_wordsIn_35 : decode cX7_wordsIn 35 = .ok (.imul, 1) := by decide +kernel
theorem dX7_wordsIn_36 : decode cX7_wordsIn 36 = .ok (.iload 4, 2) := by decide +kernel
theorem dX7_wordsIn_38 : decode cX7_wordsIn 38 = .ok (.iadd, 1) := by decide +kernel
theorem dX7_wordsIn_39 : decode cX7_wordsIn 39 = .ok (.iaload, 1) := by decide +kernel
theorem dX7_wordsIn_40 : decode cX7_wordsIn 40 = .ok (.iaload, 1) := by decide +kernel
theorem dX7_wordsIn_41 : decode cX7_wordsIn 41 = .ok (.iadd, 1) := by decide +kernel
theorem dX7_wordsIn_42 : decode cX7_wordsIn 42 = .ok (.istore_n 3, 1) := by decide +kernel
theorem dX7_wordsIn_43 : decode cX7_wordsIn 43 = .ok (.iinc 4 1, 3) := by decide +kernel
theorem dX7_wordsIn_46 : decode cX7_wordsIn 46 = .ok (.goto (-34), 3) := by decide +kernel
theorem dX7_wordsIn_49 : decode cX7_wordsIn 49 = .ok (.iload_n 3, 1) := by decide +kernel
theorem dX7_wordsIn_50 : decode cX7_wordsIn 50 = .ok (.ireturn, 1) := by decide +kernel
theorem dX7_manyIn_0 : decode cX7_manyIn 0 = .ok (.iconst 0, 1) := by decide +kernel
theorem dX7_manyIn_1 : decode cX7_manyIn 1 = .ok (.istore_n 3, 1) := by decide +kernel
theorem dX7_manyIn_2 : decode cX7_manyIn 2 = .ok (.iconst 0, 1) := by decide +kernel
theorem dX7_manyIn_3 : decode cX7_manyIn 3 = .ok (.istore 4, 2) := by decide +kernel
theorem dX7_manyIn_5 : decode cX7_manyIn 5 = .ok (.iload 4, 2) := by decide +kernel
theorem dX7_manyIn_7 : decode cX7_manyIn 7 = .ok (.aload_n 0, 1) := by decide +kernel
theorem dX7_manyIn_8 : decode cX7_manyIn 8 = .ok (.getfield 98, 3) := by decide +kernel
theorem dX7_manyIn_11 : decode cX7_manyIn 11 = .ok (.if_icmp .ge 75, 3) := by decide +kernel
theorem dX7_manyIn_14 : decode cX7_manyIn 14 = .ok (.iload_n 2, 1) := by decide +kernel
theorem dX7_manyIn_15 : decode cX7_manyIn 15 = .ok (.ifCond .eq 22, 3) := by decide +kernel
theorem dX7_manyIn_18 : decode cX7_manyIn 18 = .ok (.aload_n 0, 1) := by decide +kernel
theorem dX7_manyIn_19 : decode cX7_manyIn 19 = .ok (.getfield 13, 3) := by decide +kernel
theorem dX7_manyIn_22 : decode cX7_manyIn 22 = .ok (.iload 4, 2) := by decide +kernel
theorem dX7_manyIn_24 : decode cX7_manyIn 24 = .ok (.iaload, 1) := by decide +kernel
theorem dX7_manyIn_25 : decode cX7_manyIn 25 = .ok (.iconst 2, 1) := by decide +kernel
theorem dX7_manyIn_26 : decode cX7_manyIn 26 = .ok (.if_icmp .ne 7, 3) := by decide +kernel
theorem dX7_manyIn_29 : decode cX7_manyIn 29 = .ok (.iconst 1, 1) := by decide +kernel
theorem dX7_manyIn_30 : decode cX7_manyIn 30 = .ok (.goto 24, 3) := by decide +kernel
theorem dX7_manyIn_33 : decode cX7_manyIn 33 = .ok (.iconst 0, 1) := by decide +kernel
theorem dX7_manyIn_34 : decode cX7_manyIn 34 = .ok (.goto 20, 3) := by decide +kernel
theorem dX7_manyIn_37 : decode cX7_manyIn 37 = .ok (.aload_n 0, 1) := by decide +kernel
theorem dX7_manyIn_38 : decode cX7_manyIn 38 = .ok (.getfield 58, 3) := by decide +kernel
theorem dX7_manyIn_41 : decode cX7_manyIn 41 = .ok (.iload 4, 2) := by decide +kernel
theorem dX7_manyIn_43 : decode cX7_manyIn 43 = .ok (.iaload, 1) := by decide +kernel
theorem dX7_manyIn_44 : decode cX7_manyIn 44 = .ok (.bipush (-9), 2) := by decide +kernel
theorem dX7_manyIn_46 : decode cX7_manyIn 46 = .ok (.if_icmp .eq 7, 3) := by decide +kernel
theorem dX7_manyIn_49 : decode cX7_manyIn 49 = .ok (.iconst 1, 1) := by decide +kernel
theorem dX7_manyIn_50 : decode cX7_manyIn 50 = .ok (.goto 4, 3) := by decide +kernel
theorem dX7_manyIn_53 : decode cX7_manyIn 53 = .ok (.iconst 0, 1) := by decide +kernel
theorem dX7_manyIn_54 : decode cX7_manyIn 54 = .ok (.istore 5, 2) := by decide +kernel
theorem dX7_manyIn_56 : decode cX7_manyIn 56 = .ok (.iload_n 3, 1) := by decide +kernel
theorem dX7_manyIn_57 : decode cX7_manyIn 57 = .ok (.iload 5, 2) := by decide +kernel
theorem dX7_manyIn_59 : decode cX7_manyIn 59 = .ok (.ifCond .eq 18, 3) := by decide +kernel
theorem dX7_manyIn_62 : decode cX7_manyIn 62 = .ok (.aload_n 0, 1) := by decide +kernel
theorem dX7_manyIn_63 : decode cX7_manyIn 63 = .ok (.getfield 70, 3) := by decide +kernel
theorem dX7_manyIn_66 : decode cX7_manyIn 66 = .ok (.iload 4, 2) := by decide +kernel
theorem dX7_manyIn_68 : decode cX7_manyIn 68 = .ok (.iaload, 1) := by decide +kernel
theorem dX7_manyIn_69 : decode cX7_manyIn 69 = .ok (.iload_n 1, 1) := by decide +kernel
theorem dX7_manyIn_70 : decode cX7_manyIn 70 = .ok (.if_icmp .ne 7, 3) := by decide +kernel
theorem dX7_manyIn_73 : decode cX7_manyIn 73 = .ok (.iconst 1, 1) := by decide +kernel
theorem dX7_manyIn_74 : decode cX7_manyIn 74 = .ok (.goto 4, 3) := by decide +kernel
theorem dX7_manyIn_77 : decode cX7_manyIn 77 = .ok (.iconst 0, 1) := by decide +kernel
theorem dX7_manyIn_78 : decode cX7_manyIn 78 = .ok (.iadd, 1) := by decide +kernel
theorem dX7_manyIn_79 : decode cX7_manyIn 79 = .ok (.istore_n 3, 1) := by decide +kernel
theorem dX7_manyIn_80 : decode cX7_manyIn 80 = .ok (.iinc 4 1, 3) := by decide +kernel
theorem dX7_manyIn_83 : decode cX7_manyIn 83 = .ok (.goto (-78), 3) := by decide +kernel
theorem dX7_manyIn_86 : decode cX7_manyIn 86 = .ok (.iload_n 3, 1) := by decide +kernel
theorem dX7_manyIn_87 : decode cX7_manyIn 87 = .ok (.ireturn, 1) := by decide +kernel
theorem dX7_isStory_0 : decode cX7_isStory 0 = .ok (.aload_n 0, 1) := by decide +kernel
theorem dX7_isStory_1 : decode cX7_isStory 1 = .ok (.invokevirtual 178, 3) := by decide +kernel
theorem dX7_isStory_4 : decode cX7_isStory 4 = .ok (.iload_n 1, 1) := by decide +kernel
theorem dX7_isStory_5 : decode cX7_isStory 5 = .ok (.iconst 0, 1) := by decide +kernel
theorem dX7_isStory_6 : decode cX7_isStory 6 = .ok (.aload_n 0, 1) := by decide +kernel
theorem dX7_isStory_7 : decode cX7_isStory 7 = .ok (.getfield 153, 3) := by decide +kernel
theorem dX7_isStory_10 : decode cX7_isStory 10 = .ok (.iconst 1, 1) := by decide +kernel
theorem dX7_isStory_11 : decode cX7_isStory 11 = .ok (.isub, 1) := by decide +kernel
theorem dX7_isStory_12 : decode cX7_isStory 12 = .ok (.invokestatic 102, 3) := by decide +kernel
theorem dX7_isStory_15 : decode cX7_isStory 15 = .ok (.ireturn, 1) := by decide +kernel
theorem dX7_ofStory_0 : decode cX7_ofStory 0 = .ok (.aload_n 0, 1) := by decide +kernel
theorem dX7_ofStory_1 : decode cX7_ofStory 1 = .ok (.iload_n 1, 1) := by decide +kernel
theorem dX7_ofStory_2 : decode cX7_ofStory 2 = .ok (.invokevirtual 181, 3) := by decide +kernel
theorem dX7_ofStory_5 : decode cX7_ofStory 5 = .ok (.ifCond .ne 5, 3) := by decide +kernel
theorem dX7_ofStory_8 : decode cX7_ofStory 8 = .ok (.iconst (-1), 1) := by decide +kernel
theorem dX7_ofStory_9 : decode cX7_ofStory 9 = .ok (.ireturn, 1) := by decide +kernel
theorem dX7_ofStory_10 : decode cX7_ofStory 10 = .ok (.aload_n 0, 1) := by decide +kernel
theorem dX7_ofStory_11 : decode cX7_ofStory 11 = .ok (.getfield 67, 3) := by decide +kernel
theorem dX7_ofStory_14 : decode cX7_ofStory 14 = .ok (.iload_n 1, 1) := by decide +kernel
theorem dX7_ofStory_15 : decode cX7_ofStory 15 = .ok (.iaload, 1) := by decide +kernel
theorem dX7_ofStory_16 : decode cX7_ofStory 16 = .ok (.istore_n 3, 1) := by decide +kernel
theorem dX7_ofStory_17 : decode cX7_ofStory 17 = .ok (.iload_n 2, 1) := by decide +kernel
theorem dX7_ofStory_18 : decode cX7_ofStory 18 = .ok (.tableswitch 128 0 8 #[50, 66, 73, 79, 86, 93, 100, 107, 114], 50) := by decide +kernel
theorem dX7_ofStory_68 : decode cX7_ofStory 68 = .ok (.aload_n 0, 1) := by decide +kernel
theorem dX7_ofStory_69 : decode cX7_ofStory 69 = .ok (.getfield 13, 3) := by decide +kernel
theorem dX7_ofStory_72 : decode cX7_ofStory 72 = .ok (.iload_n 3, 1) := by decide +kernel
theorem dX7_ofStory_73 : decode cX7_ofStory 73 = .ok (.iaload, 1) := by decide +kernel
theorem dX7_ofStory_74 : decode cX7_ofStory 74 = .ok (.ifCond .ne 7, 3) := by decide +kernel
theorem dX7_ofStory_77 : decode cX7_ofStory 77 = .ok (.iload_n 3, 1) := by decide +kernel
theorem dX7_ofStory_78 : decode cX7_ofStory 78 = .ok (.goto 5, 3) := by decide +kernel
theorem dX7_ofStory_81 : decode cX7_ofStory 81 = .ok (.bipush (-9), 2) := by decide +kernel
theorem dX7_ofStory_83 : decode cX7_ofStory 83 = .ok (.ireturn, 1) := by decide +kernel
theorem dX7_ofStory_84 : decode cX7_ofStory 84 = .ok (.aload_n 0, 1) := by decide +kernel
theorem dX7_ofStory_85 : decode cX7_ofStory 85 = .ok (.getfield 61, 3) := by decide +kernel
theorem dX7_ofStory_88 : decode cX7_ofStory 88 = .ok (.iload_n 3, 1) := by decide +kernel
theorem dX7_ofStory_89 : decode cX7_ofStory 89 = .ok (.iaload, 1) := by decide +kernel
theorem dX7_ofStory_90 : decode cX7_ofStory 90 = .ok (.ireturn, 1) := by decide +kernel
theorem dX7_ofStory_91 : decode cX7_ofStory 91 = .ok (.aload_n 0, 1) := by decide +kernel
theorem dX7_ofStory_92 : decode cX7_ofStory 92 = .ok (.iload_n 1, 1) := by decide +kernel
theorem dX7_ofStory_93 : decode cX7_ofStory 93 = .ok (.invokevirtual 184, 3) := by decide +kernel
theorem dX7_ofStory_96 : decode cX7_ofStory 96 = .ok (.ireturn, 1) := by decide +kernel
theorem dX7_ofStory_97 : decode cX7_ofStory 97 = .ok (.aload_n 0, 1) := by decide +kernel
theorem dX7_ofStory_98 : decode cX7_ofStory 98 = .ok (.iload_n 1, 1) := by decide +kernel
theorem dX7_ofStory_99 : decode cX7_ofStory 99 = .ok (.iconst 1, 1) := by decide +kernel
theorem dX7_ofStory_100 : decode cX7_ofStory 100 = .ok (.invokevirtual 187, 3) := by decide +kernel
theorem dX7_ofStory_103 : decode cX7_ofStory 103 = .ok (.ireturn, 1) := by decide +kernel
theorem dX7_ofStory_104 : decode cX7_ofStory 104 = .ok (.aload_n 0, 1) := by decide +kernel
theorem dX7_ofStory_105 : decode cX7_ofStory 105 = .ok (.iload_n 1, 1) := by decide +kernel
theorem dX7_ofStory_106 : decode cX7_ofStory 106 = .ok (.iconst 0, 1) := by decide +kernel
theorem dX7_ofStory_107 : decode cX7_ofStory 107 = .ok (.invokevirtual 187, 3) := by decide +kernel
theorem dX7_ofStory_110 : decode cX7_ofStory 110 = .ok (.ireturn, 1) := by decide +kernel
theorem dX7_ofStory_111 : decode cX7_ofStory 111 = .ok (.aload_n 0, 1) := by decide +kernel
theorem dX7_ofStory_112 : decode cX7_ofStory 112 = .ok (.getfield 80, 3) := by decide +kernel
theorem dX7_ofStory_115 : decode cX7_ofStory 115 = .ok (.iload_n 1, 1) := by decide +kernel
theorem dX7_ofStory_116 : decode cX7_ofStory 116 = .ok (.iaload, 1) := by decide +kernel
theorem dX7_ofStory_117 : decode cX7_ofStory 117 = .ok (.ireturn, 1) := by decide +kernel
theorem dX7_ofStory_118 : decode cX7_ofStory 118 = .ok (.aload_n 0, 1) := by decide +kernel
theorem dX7_ofStory_119 : decode cX7_ofStory 119 = .ok (.getfield 83, 3) := by decide +kernel
theorem dX7_ofStory_122 : decode cX7_ofStory 122 = .ok (.iload_n 1, 1) := by decide +kernel
theorem dX7_ofStory_123 : decode cX7_ofStory 123 = .ok (.iaload, 1) := by decide +kernel
theorem dX7_ofStory_124 : decode cX7_ofStory 124 = .ok (.ireturn, 1) := by decide +kernel
theorem dX7_ofStory_125 : decode cX7_ofStory 125 = .ok (.aload_n 0, 1) := by decide +kernel
theorem dX7_ofStory_126 : decode cX7_ofStory 126 = .ok (.getfield 95, 3) := by decide +kernel
theorem dX7_ofStory_129 : decode cX7_ofStory 129 = .ok (.iload_n 1, 1) := by decide +kernel
theorem dX7_ofStory_130 : decode cX7_ofStory 130 = .ok (.iaload, 1) := by decide +kernel
theorem dX7_ofStory_131 : decode cX7_ofStory 131 = .ok (.ireturn, 1) := by decide +kernel
theorem dX7_ofStory_132 : decode cX7_ofStory 132 = .ok (.aload_n 0, 1) := by decide +kernel
theorem dX7_ofStory_133 : decode cX7_ofStory 133 = .ok (.iload_n 1, 1) := by decide +kernel
theorem dX7_ofStory_134 : decode cX7_ofStory 134 = .ok (.invokevirtual 191, 3) := by decide +kernel
theorem dX7_ofStory_137 : decode cX7_ofStory 137 = .ok (.ifCond .eq 7, 3) := by decide +kernel
theorem dX7_ofStory_140 : decode cX7_ofStory 140 = .ok (.iconst 1, 1) := by decide +kernel
theorem dX7_ofStory_141 : decode cX7_ofStory 141 = .ok (.goto 4, 3) := by decide +kernel
theorem dX7_ofStory_144 : decode cX7_ofStory 144 = .ok (.iconst 0, 1) := by decide +kernel
theorem dX7_ofStory_145 : decode cX7_ofStory 145 = .ok (.ireturn, 1) := by decide +kernel
theorem dX7_ofStory_146 : decode cX7_ofStory 146 = .ok (.bipush (-2), 2) := by decide +kernel
theorem dX7_ofStory_148 : decode cX7_ofStory 148 = .ok (.ireturn, 1) := by decide +kernel
theorem dX7_text_0 : decode cX7_text 0 = .ok (.aload_n 0, 1) := by decide +kernel
theorem dX7_text_1 : decode cX7_text 1 = .ok (.iload_n 1, 1) := by decide +kernel
theorem dX7_text_2 : decode cX7_text 2 = .ok (.invokevirtual 181, 3) := by decide +kernel
theorem dX7_text_5 : decode cX7_text 5 = .ok (.ifCond .ne 5, 3) := by decide +kernel
theorem dX7_text_8 : decode cX7_text 8 = .ok (.iconst (-1), 1) := by decide +kernel
theorem dX7_text_9 : decode cX7_text 9 = .ok (.ireturn, 1) := by decide +kernel
theorem dX7_text_10 : decode cX7_text 10 = .ok (.iload_n 2, 1) := by decide +kernel
theorem dX7_text_11 : decode cX7_text 11 = .ok (.iconst 0, 1) := by decide +kernel
theorem dX7_text_12 : decode cX7_text 12 = .ok (.bipush 23, 2) := by decide +kernel
theorem dX7_text_14 : decode cX7_text 14 = .ok (.invokestatic 102, 3) := by decide +kernel
theorem dX7_text_17 : decode cX7_text 17 = .ok (.ifCond .ne 6, 3) := by decide +kernel
theorem dX7_text_20 : decode cX7_text 20 = .ok (.bipush (-2), 2) := by decide +kernel
theorem dX7_text_22 : decode cX7_text 22 = .ok (.ireturn, 1) := by decide +kernel
theorem dX7_text_23 : decode cX7_text 23 = .ok (.aload_n 0, 1) := by decide +kernel
theorem dX7_text_24 : decode cX7_text 24 = .ok (.getfield 67, 3) := by decide +kernel
theorem dX7_text_27 : decode cX7_text 27 = .ok (.iload_n 1, 1) := by decide +kernel
theorem dX7_text_28 : decode cX7_text 28 = .ok (.iaload, 1) := by decide +kernel
theorem dX7_text_29 : decode cX7_text 29 = .ok (.istore_n 3, 1) := by decide +kernel
theorem dX7_text_30 : decode cX7_text 30 = .ok (.iload_n 2, 1) := by decide +kernel
theorem dX7_text_31 : decode cX7_text 31 = .ok (.aload_n 0, 1) := by decide +kernel
theorem dX7_text_32 : decode cX7_text 32 = .ok (.getfield 61, 3) := by decide +kernel
theorem dX7_text_35 : decode cX7_text 35 = .ok (.iload_n 3, 1) := by decide +kernel
theorem dX7_text_36 : decode cX7_text 36 = .ok (.iaload, 1) := by decide +kernel
theorem dX7_text_37 : decode cX7_text 37 = .ok (.if_icmp .ge 17, 3) := by decide +kernel
theorem dX7_text_40 : decode cX7_text 40 = .ok (.aload_n 0, 1) := by decide +kernel
theorem dX7_text_41 : decode cX7_text 41 = .ok (.getfield 64, 3) := by decide +kernel
theorem dX7_text_44 : decode cX7_text 44 = .ok (.bipush 24, 2) := by decide +kernel
theorem dX7_text_46 : decode cX7_text 46 = .ok (.iload_n 3, 1) := by decide +kernel
theorem dX7_text_47 : decode cX7_text 47 = .ok (.imul, 1) := by decide +kernel
theorem dX7_text_48 : decode cX7_text 48 = .ok (.iload_n 2, 1) := by decide +kernel
theorem dX7_text_49 : decode cX7_text 49 = .ok (.iadd, 1) := by decide +kernel
theorem dX7_text_50 : decode cX7_text 50 = .ok (.iaload, 1) := by decide +kernel
theorem dX7_text_51 : decode cX7_text 51 = .ok (.goto 5, 3) := by decide +kernel
theorem dX7_text_54 : decode cX7_text 54 = .ok (.bipush (-9), 2) := by decide +kernel
theorem dX7_text_56 : decode cX7_text 56 = .ok (.ireturn, 1) := by decide +kernel
theorem dX7_isArticle_0 : decode cX7_isArticle 0 = .ok (.aload_n 0, 1) := by decide +kernel
theorem dX7_isArticle_1 : decode cX7_isArticle 1 = .ok (.invokevirtual 178, 3) := by decide +kernel
theorem dX7_isArticle_4 : decode cX7_isArticle 4 = .ok (.iload_n 1, 1) := by decide +kernel
theorem dX7_isArticle_5 : decode cX7_isArticle 5 = .ok (.iconst 0, 1) := by decide +kernel
theorem dX7_isArticle_6 : decode cX7_isArticle 6 = .ok (.aload_n 0, 1) := by decide +kernel
theorem dX7_isArticle_7 : decode cX7_isArticle 7 = .ok (.getfield 162, 3) := by decide +kernel
theorem dX7_isArticle_10 : decode cX7_isArticle 10 = .ok (.iconst 1, 1) := by decide +kernel
theorem dX7_isArticle_11 : decode cX7_isArticle 11 = .ok (.isub, 1) := by decide +kernel
theorem dX7_isArticle_12 : decode cX7_isArticle 12 = .ok (.invokestatic 102, 3) := by decide +kernel
theorem dX7_isArticle_15 : decode cX7_isArticle 15 = .ok (.ireturn, 1) := by decide +kernel
theorem dX7_sumOf_0 : decode cX7_sumOf 0 = .ok (.iconst 0, 1) := by decide +kernel
theorem dX7_sumOf_1 : decode cX7_sumOf 1 = .ok (.istore_n 3, 1) := by decide +kernel
theorem dX7_sumOf_2 : decode cX7_sumOf 2 = .ok (.aload_n 0, 1) := by decide +kernel
theorem dX7_sumOf_3 : decode cX7_sumOf 3 = .ok (.getfield 86, 3) := by decide +kernel
theorem dX7_sumOf_6 : decode cX7_sumOf 6 = .ok (.iload_n 1, 1) := by decide +kernel
theorem dX7_sumOf_7 : decode cX7_sumOf 7 = .ok (.iaload, 1) := by decide +kernel
theorem dX7_sumOf_8 : decode cX7_sumOf 8 = .ok (.istore 4, 2) := by decide +kernel
theorem dX7_sumOf_10 : decode cX7_sumOf 10 = .ok (.iload 4, 2) := by decide +kernel
theorem dX7_sumOf_12 : decode cX7_sumOf 12 = .ok (.aload_n 0, 1) := by decide +kernel
theorem dX7_sumOf_13 : decode cX7_sumOf 13 = .ok (.getfield 86, 3) := by decide +kernel
theorem dX7_sumOf_16 : decode cX7_sumOf 16 = .ok (.iload_n 1, 1) := by decide +kernel
theorem dX7_sumOf_17 : decode cX7_sumOf 17 = .ok (.iconst 1, 1) := by decide +kernel
theorem dX7_sumOf_18 : decode cX7_sumOf 18 = .ok (.iadd, 1) := by decide +kernel
theorem dX7_sumOf_19 : decode cX7_sumOf 19 = .ok (.iaload, 1) := by decide +kernel
theorem dX7_sumOf_20 : decode cX7_sumOf 20 = .ok (.if_icmp .ge 47, 3) := by decide +kernel
theorem dX7_sumOf_23 : decode cX7_sumOf 23 = .ok (.iload_n 3, 1) := by decide +kernel
theorem dX7_sumOf_24 : decode cX7_sumOf 24 = .ok (.iload_n 2, 1) := by decide +kernel
theorem dX7_sumOf_25 : decode cX7_sumOf 25 = .ok (.ifCond .eq 17, 3) := by decide +kernel
theorem dX7_sumOf_28 : decode cX7_sumOf 28 = .ok (.aload_n 0, 1) := by decide +kernel
theorem dX7_sumOf_29 : decode cX7_sumOf 29 = .ok (.aload_n 0, 1) := by decide +kernel
theorem dX7_sumOf_30 : decode cX7_sumOf 30 = .ok (.getfield 92, 3) := by decide +kernel
theorem dX7_sumOf_33 : decode cX7_sumOf 33 = .ok (.iload 4, 2) := by decide +kernel
theorem dX7_sumOf_35 : decode cX7_sumOf 35 = .ok (.iaload, 1) := by decide +kernel
theorem dX7_sumOf_36 : decode cX7_sumOf 36 = .ok (.invokevirtual 184, 3) := by decide +kernel
theorem dX7_sumOf_39 : decode cX7_sumOf 39 = .ok (.goto 20, 3) := by decide +kernel
theorem dX7_sumOf_42 : decode cX7_sumOf 42 = .ok (.aload_n 0, 1) := by decide +kernel
theorem dX7_sumOf_43 : decode cX7_sumOf 43 = .ok (.getfield 61, 3) := by decide +kernel
theorem dX7_sumOf_46 : decode cX7_sumOf 46 = .ok (.aload_n 0, 1) := by decide +kernel
theorem dX7_sumOf_47 : decode cX7_sumOf 47 = .ok (.getfield 67, 3) := by decide +kernel
theorem dX7_sumOf_50 : decode cX7_sumOf 50 = .ok (.aload_n 0, 1) := by decide +kernel
theorem dX7_sumOf_51 : decode cX7_sumOf 51 = .ok (.getfield 92, 3) := by decide +kernel
theorem dX7_sumOf_54 : decode cX7_sumOf 54 = .ok (.iload 4, 2) := by decide +kernel
theorem dX7_sumOf_56 : decode cX7_sumOf 56 = .ok (.iaload, 1) := by decide +kernel
theorem dX7_sumOf_57 : decode cX7_sumOf 57 = .ok (.iaload, 1) := by decide +kernel
theorem dX7_sumOf_58 : decode cX7_sumOf 58 = .ok (.iaload, 1) := by decide +kernel
theorem dX7_sumOf_59 : decode cX7_sumOf 59 = .ok (.iadd, 1) := by decide +kernel
theorem dX7_sumOf_60 : decode cX7_sumOf 60 = .ok (.istore_n 3, 1) := by decide +kernel
theorem dX7_sumOf_61 : decode cX7_sumOf 61 = .ok (.iinc 4 1, 3) := by decide +kernel
theorem dX7_sumOf_64 : decode cX7_sumOf 64 = .ok (.goto (-54), 3) := by decide +kernel
theorem dX7_sumOf_67 : decode cX7_sumOf 67 = .ok (.iload_n 3, 1) := by decide +kernel
theorem dX7_sumOf_68 : decode cX7_sumOf 68 = .ok (.ireturn, 1) := by decide +kernel
theorem dX7_pagesOf_0 : decode cX7_pagesOf 0 = .ok (.iconst 0, 1) := by decide +kernel
theorem dX7_pagesOf_1 : decode cX7_pagesOf 1 = .ok (.istore_n 2, 1) := by decide +kernel
theorem dX7_pagesOf_2 : decode cX7_pagesOf 2 = .ok (.iconst 0, 1) := by decide +kernel
theorem dX7_pagesOf_3 : decode cX7_pagesOf 3 = .ok (.istore_n 3, 1) := by decide +kernel
theorem dX7_pagesOf_4 : decode cX7_pagesOf 4 = .ok (.iload_n 3, 1) := by decide +kernel
theorem dX7_pagesOf_5 : decode cX7_pagesOf 5 = .ok (.aload_n 0, 1) := by decide +kernel
theorem dX7_pagesOf_6 : decode cX7_pagesOf 6 = .ok (.getfield 98, 3) := by decide +kernel
theorem dX7_pagesOf_9 : decode cX7_pagesOf 9 = .ok (.if_icmp .ge 61, 3) := by decide +kernel
theorem dX7_pagesOf_12 : decode cX7_pagesOf 12 = .ok (.aload_n 0, 1) := by decide +kernel
theorem dX7_pagesOf_13 : decode cX7_pagesOf 13 = .ok (.getfield 13, 3) := by decide +kernel
theorem dX7_pagesOf_16 : decode cX7_pagesOf 16 = .ok (.iload_n 3, 1) := by decide +kernel
theorem dX7_pagesOf_17 : decode cX7_pagesOf 17 = .ok (.iaload, 1) := by decide +kernel
theorem dX7_pagesOf_18 : decode cX7_pagesOf 18 = .ok (.iconst 2, 1) := by decide +kernel
theorem dX7_pagesOf_19 : decode cX7_pagesOf 19 = .ok (.if_icmp .eq 22, 3) := by decide +kernel
theorem dX7_pagesOf_22 : decode cX7_pagesOf 22 = .ok (.aload_n 0, 1) := by decide +kernel
theorem dX7_pagesOf_23 : decode cX7_pagesOf 23 = .ok (.getfield 95, 3) := by decide +kernel
theorem dX7_pagesOf_26 : decode cX7_pagesOf 26 = .ok (.aload_n 0, 1) := by decide +kernel
theorem dX7_pagesOf_27 : decode cX7_pagesOf 27 = .ok (.getfield 70, 3) := by decide +kernel
theorem dX7_pagesOf_30 : decode cX7_pagesOf 30 = .ok (.iload_n 3, 1) := by decide +kernel
theorem dX7_pagesOf_31 : decode cX7_pagesOf 31 = .ok (.iaload, 1) := by decide +kernel
theorem dX7_pagesOf_32 : decode cX7_pagesOf 32 = .ok (.iaload, 1) := by decide +kernel
theorem dX7_pagesOf_33 : decode cX7_pagesOf 33 = .ok (.iload_n 1, 1) := by decide +kernel
theorem dX7_pagesOf_34 : decode cX7_pagesOf 34 = .ok (.if_icmp .ne 7, 3) := by decide +kernel
theorem dX7_pagesOf_37 : decode cX7_pagesOf 37 = .ok (.iconst 1, 1) := by decide +kernel
theorem dX7_pagesOf_38 : decode cX7_pagesOf 38 = .ok (.goto 4, 3) := by decide +kernel
theorem dX7_pagesOf_41 : decode cX7_pagesOf 41 = .ok (.iconst 0, 1) := by decide +kernel
theorem dX7_pagesOf_42 : decode cX7_pagesOf 42 = .ok (.istore 4, 2) := by decide +kernel
theorem dX7_pagesOf_44 : decode cX7_pagesOf 44 = .ok (.iload_n 2, 1) := by decide +kernel
theorem dX7_pagesOf_45 : decode cX7_pagesOf 45 = .ok (.iload 4, 2) := by decide +kernel
theorem dX7_pagesOf_47 : decode cX7_pagesOf 47 = .ok (.ifCond .eq 14, 3) := by decide +kernel
theorem dX7_pagesOf_50 : decode cX7_pagesOf 50 = .ok (.iconst 1, 1) := by decide +kernel
theorem dX7_pagesOf_51 : decode cX7_pagesOf 51 = .ok (.aload_n 0, 1) := by decide +kernel
theorem dX7_pagesOf_52 : decode cX7_pagesOf 52 = .ok (.getfield 7, 3) := by decide +kernel
theorem dX7_pagesOf_55 : decode cX7_pagesOf 55 = .ok (.iload_n 3, 1) := by decide +kernel
theorem dX7_pagesOf_56 : decode cX7_pagesOf 56 = .ok (.iaload, 1) := by decide +kernel
theorem dX7_pagesOf_57 : decode cX7_pagesOf 57 = .ok (.ishl, 1) := by decide +kernel
theorem dX7_pagesOf_58 : decode cX7_pagesOf 58 = .ok (.goto 4, 3) := by decide +kernel
theorem dX7_pagesOf_61 : decode cX7_pagesOf 61 = .ok (.iconst 0, 1) := by decide +kernel
theorem dX7_pagesOf_62 : decode cX7_pagesOf 62 = .ok (.ior, 1) := by decide +kernel
theorem dX7_pagesOf_63 : decode cX7_pagesOf 63 = .ok (.istore_n 2, 1) := by decide +kernel
theorem dX7_pagesOf_64 : decode cX7_pagesOf 64 = .ok (.iinc 3 1, 3) := by decide +kernel
theorem dX7_pagesOf_67 : decode cX7_pagesOf 67 = .ok (.goto (-63), 3) := by decide +kernel
theorem dX7_pagesOf_70 : decode cX7_pagesOf 70 = .ok (.iload_n 2, 1) := by decide +kernel
theorem dX7_pagesOf_71 : decode cX7_pagesOf 71 = .ok (.ireturn, 1) := by decide +kernel
theorem dX7_ofArticle_0 : decode cX7_ofArticle 0 = .ok (.aload_n 0, 1) := by decide +kernel
theorem dX7_ofArticle_1 : decode cX7_ofArticle 1 = .ok (.iload_n 1, 1) := by decide +kernel
theorem dX7_ofArticle_2 : decode cX7_ofArticle 2 = .ok (.invokevirtual 194, 3) := by decide +kernel
theorem dX7_ofArticle_5 : decode cX7_ofArticle 5 = .ok (.ifCond .ne 5, 3) := by decide +kernel
theorem dX7_ofArticle_8 : decode cX7_ofArticle 8 = .ok (.iconst (-1), 1) := by decide +kernel
theorem dX7_ofArticle_9 : decode cX7_ofArticle 9 = .ok (.ireturn, 1) := by decide +kernel
theorem dX7_ofArticle_10 : decode cX7_ofArticle 10 = .ok (.iload_n 2, 1) := by decide +kernel
theorem dX7_ofArticle_11 : decode cX7_ofArticle 11 = .ok (.tableswitch 132 0 6 #[41, 53, 69, 76, 83, 89, 104], 41) := by decide +kernel
end
section
theorem dX7_ofArticle_52 : decode cX7_ofArticle 52 = .ok (.aload_n 0, 1) := by decide +kernel
theorem dX7_ofArticle_53 : decode cX7_ofArticle 53 = .ok (.getfield 92, 3) := by decide +kernel
theorem dX7_ofArticle_56 : decode cX7_ofArticle 56 = .ok (.aload_n 0, 1) := by decide +kernel
theorem dX7_ofArticle_57 : decode cX7_ofArticle 57 = .ok (.getfield 86, 3) := by decide +kernel
theorem dX7_ofArticle_60 : decode cX7_ofArticle 60 = .ok (.iload_n 1, 1) := by decide +kernel
theorem dX7_ofArticle_61 : decode cX7_ofArticle 61 = .ok (.iaload, 1) := by decide +kernel
theorem dX7_ofArticle_62 : decode cX7_ofArticle 62 = .ok (.iaload, 1) := by decide +kernel
theorem dX7_ofArticle_63 : decode cX7_ofArticle 63 = .ok (.ireturn, 1) := by decide +kernel
theorem dX7_ofArticle_64 : decode cX7_ofArticle 64 = .ok (.aload_n 0, 1) := by decide +kernel
theorem dX7_ofArticle_65 : decode cX7_ofArticle 65 = .ok (.getfield 86, 3) := by decide +kernel
theorem dX7_ofArticle_68 : decode cX7_ofArticle 68 = .ok (.iload_n 1, 1) := by decide +kernel
theorem dX7_ofArticle_69 : decode cX7_ofArticle 69 = .ok (.iconst 1, 1) := by decide +kernel
theorem dX7_ofArticle_70 : decode cX7_ofArticle 70 = .ok (.iadd, 1) := by decide +kernel
theorem dX7_ofArticle_71 : decode cX7_ofArticle 71 = .ok (.iaload, 1) := by decide +kernel
theorem dX7_ofArticle_72 : decode cX7_ofArticle 72 = .ok (.aload_n 0, 1) := by decide +kernel
theorem dX7_ofArticle_73 : decode cX7_ofArticle 73 = .ok (.getfield 86, 3) := by decide +kernel
theorem dX7_ofArticle_76 : decode cX7_ofArticle 76 = .ok (.iload_n 1, 1) := by decide +kernel
theorem dX7_ofArticle_77 : decode cX7_ofArticle 77 = .ok (.iaload, 1) := by decide +kernel
theorem dX7_ofArticle_78 : decode cX7_ofArticle 78 = .ok (.isub, 1) := by decide +kernel
theorem dX7_ofArticle_79 : decode cX7_ofArticle 79 = .ok (.ireturn, 1) := by decide +kernel
theorem dX7_ofArticle_80 : decode cX7_ofArticle 80 = .ok (.aload_n 0, 1) := by decide +kernel
theorem dX7_ofArticle_81 : decode cX7_ofArticle 81 = .ok (.iload_n 1, 1) := by decide +kernel
theorem dX7_ofArticle_82 : decode cX7_ofArticle 82 = .ok (.iconst 0, 1) := by decide +kernel
theorem dX7_ofArticle_83 : decode cX7_ofArticle 83 = .ok (.invokevirtual 197, 3) := by decide +kernel
theorem dX7_ofArticle_86 : decode cX7_ofArticle 86 = .ok (.ireturn, 1) := by decide +kernel
theorem dX7_ofArticle_87 : decode cX7_ofArticle 87 = .ok (.aload_n 0, 1) := by decide +kernel
theorem dX7_ofArticle_88 : decode cX7_ofArticle 88 = .ok (.iload_n 1, 1) := by decide +kernel
theorem dX7_ofArticle_89 : decode cX7_ofArticle 89 = .ok (.iconst 1, 1) := by decide +kernel
theorem dX7_ofArticle_90 : decode cX7_ofArticle 90 = .ok (.invokevirtual 197, 3) := by decide +kernel
theorem dX7_ofArticle_93 : decode cX7_ofArticle 93 = .ok (.ireturn, 1) := by decide +kernel
theorem dX7_ofArticle_94 : decode cX7_ofArticle 94 = .ok (.aload_n 0, 1) := by decide +kernel
theorem dX7_ofArticle_95 : decode cX7_ofArticle 95 = .ok (.iload_n 1, 1) := by decide +kernel
theorem dX7_ofArticle_96 : decode cX7_ofArticle 96 = .ok (.invokevirtual 200, 3) := by decide +kernel
theorem dX7_ofArticle_99 : decode cX7_ofArticle 99 = .ok (.ireturn, 1) := by decide +kernel
theorem dX7_ofArticle_100 : decode cX7_ofArticle 100 = .ok (.aload_n 0, 1) := by decide +kernel
theorem dX7_ofArticle_101 : decode cX7_ofArticle 101 = .ok (.getfield 89, 3) := by decide +kernel
theorem dX7_ofArticle_104 : decode cX7_ofArticle 104 = .ok (.iload_n 1, 1) := by decide +kernel
theorem dX7_ofArticle_105 : decode cX7_ofArticle 105 = .ok (.baload, 1) := by decide +kernel
theorem dX7_ofArticle_106 : decode cX7_ofArticle 106 = .ok (.ifCond .eq 7, 3) := by decide +kernel
theorem dX7_ofArticle_109 : decode cX7_ofArticle 109 = .ok (.iconst 1, 1) := by decide +kernel
theorem dX7_ofArticle_110 : decode cX7_ofArticle 110 = .ok (.goto 4, 3) := by decide +kernel
theorem dX7_ofArticle_113 : decode cX7_ofArticle 113 = .ok (.iconst 0, 1) := by decide +kernel
theorem dX7_ofArticle_114 : decode cX7_ofArticle 114 = .ok (.ireturn, 1) := by decide +kernel
theorem dX7_ofArticle_115 : decode cX7_ofArticle 115 = .ok (.aload_n 0, 1) := by decide +kernel
theorem dX7_ofArticle_116 : decode cX7_ofArticle 116 = .ok (.aload_n 0, 1) := by decide +kernel
theorem dX7_ofArticle_117 : decode cX7_ofArticle 117 = .ok (.getfield 92, 3) := by decide +kernel
theorem dX7_ofArticle_120 : decode cX7_ofArticle 120 = .ok (.aload_n 0, 1) := by decide +kernel
theorem dX7_ofArticle_121 : decode cX7_ofArticle 121 = .ok (.getfield 86, 3) := by decide +kernel
theorem dX7_ofArticle_124 : decode cX7_ofArticle 124 = .ok (.iload_n 1, 1) := by decide +kernel
theorem dX7_ofArticle_125 : decode cX7_ofArticle 125 = .ok (.iconst 1, 1) := by decide +kernel
theorem dX7_ofArticle_126 : decode cX7_ofArticle 126 = .ok (.iadd, 1) := by decide +kernel
theorem dX7_ofArticle_127 : decode cX7_ofArticle 127 = .ok (.iaload, 1) := by decide +kernel
theorem dX7_ofArticle_128 : decode cX7_ofArticle 128 = .ok (.iconst 1, 1) := by decide +kernel
theorem dX7_ofArticle_129 : decode cX7_ofArticle 129 = .ok (.isub, 1) := by decide +kernel
theorem dX7_ofArticle_130 : decode cX7_ofArticle 130 = .ok (.iaload, 1) := by decide +kernel
theorem dX7_ofArticle_131 : decode cX7_ofArticle 131 = .ok (.invokevirtual 191, 3) := by decide +kernel
theorem dX7_ofArticle_134 : decode cX7_ofArticle 134 = .ok (.ifCond .eq 7, 3) := by decide +kernel
theorem dX7_ofArticle_137 : decode cX7_ofArticle 137 = .ok (.iconst 1, 1) := by decide +kernel
theorem dX7_ofArticle_138 : decode cX7_ofArticle 138 = .ok (.goto 4, 3) := by decide +kernel
theorem dX7_ofArticle_141 : decode cX7_ofArticle 141 = .ok (.iconst 0, 1) := by decide +kernel
theorem dX7_ofArticle_142 : decode cX7_ofArticle 142 = .ok (.ireturn, 1) := by decide +kernel
theorem dX7_ofArticle_143 : decode cX7_ofArticle 143 = .ok (.bipush (-2), 2) := by decide +kernel
theorem dX7_ofArticle_145 : decode cX7_ofArticle 145 = .ok (.ireturn, 1) := by decide +kernel
theorem dX7_read_0 : decode cX7_read 0 = .ok (.aload_n 0, 1) := by decide +kernel
theorem dX7_read_1 : decode cX7_read 1 = .ok (.iload_n 1, 1) := by decide +kernel
theorem dX7_read_2 : decode cX7_read 2 = .ok (.invokevirtual 194, 3) := by decide +kernel
theorem dX7_read_5 : decode cX7_read 5 = .ok (.ifCond .ne 5, 3) := by decide +kernel
theorem dX7_read_8 : decode cX7_read 8 = .ok (.iconst (-1), 1) := by decide +kernel
theorem dX7_read_9 : decode cX7_read 9 = .ok (.ireturn, 1) := by decide +kernel
theorem dX7_read_10 : decode cX7_read 10 = .ok (.iload_n 2, 1) := by decide +kernel
theorem dX7_read_11 : decode cX7_read 11 = .ok (.iconst 0, 1) := by decide +kernel
theorem dX7_read_12 : decode cX7_read 12 = .ok (.bipush 23, 2) := by decide +kernel
theorem dX7_read_14 : decode cX7_read 14 = .ok (.invokestatic 102, 3) := by decide +kernel
theorem dX7_read_17 : decode cX7_read 17 = .ok (.ifCond .ne 6, 3) := by decide +kernel
theorem dX7_read_20 : decode cX7_read 20 = .ok (.bipush (-2), 2) := by decide +kernel
theorem dX7_read_22 : decode cX7_read 22 = .ok (.ireturn, 1) := by decide +kernel
theorem dX7_read_23 : decode cX7_read 23 = .ok (.iload_n 2, 1) := by decide +kernel
theorem dX7_read_24 : decode cX7_read 24 = .ok (.istore_n 3, 1) := by decide +kernel
theorem dX7_read_25 : decode cX7_read 25 = .ok (.aload_n 0, 1) := by decide +kernel
theorem dX7_read_26 : decode cX7_read 26 = .ok (.getfield 86, 3) := by decide +kernel
theorem dX7_read_29 : decode cX7_read 29 = .ok (.iload_n 1, 1) := by decide +kernel
theorem dX7_read_30 : decode cX7_read 30 = .ok (.iaload, 1) := by decide +kernel
theorem dX7_read_31 : decode cX7_read 31 = .ok (.istore 4, 2) := by decide +kernel
theorem dX7_read_33 : decode cX7_read 33 = .ok (.iload 4, 2) := by decide +kernel
theorem dX7_read_35 : decode cX7_read 35 = .ok (.aload_n 0, 1) := by decide +kernel
theorem dX7_read_36 : decode cX7_read 36 = .ok (.getfield 86, 3) := by decide +kernel
theorem dX7_read_39 : decode cX7_read 39 = .ok (.iload_n 1, 1) := by decide +kernel
theorem dX7_read_40 : decode cX7_read 40 = .ok (.iconst 1, 1) := by decide +kernel
theorem dX7_read_41 : decode cX7_read 41 = .ok (.iadd, 1) := by decide +kernel
theorem dX7_read_42 : decode cX7_read 42 = .ok (.iaload, 1) := by decide +kernel
theorem dX7_read_43 : decode cX7_read 43 = .ok (.if_icmp .ge 88, 3) := by decide +kernel
theorem dX7_read_46 : decode cX7_read 46 = .ok (.aload_n 0, 1) := by decide +kernel
theorem dX7_read_47 : decode cX7_read 47 = .ok (.getfield 67, 3) := by decide +kernel
theorem dX7_read_50 : decode cX7_read 50 = .ok (.aload_n 0, 1) := by decide +kernel
theorem dX7_read_51 : decode cX7_read 51 = .ok (.getfield 92, 3) := by decide +kernel
theorem dX7_read_54 : decode cX7_read 54 = .ok (.iload 4, 2) := by decide +kernel
theorem dX7_read_56 : decode cX7_read 56 = .ok (.iaload, 1) := by decide +kernel
theorem dX7_read_57 : decode cX7_read 57 = .ok (.iaload, 1) := by decide +kernel
theorem dX7_read_58 : decode cX7_read 58 = .ok (.istore 5, 2) := by decide +kernel
theorem dX7_read_60 : decode cX7_read 60 = .ok (.aload_n 0, 1) := by decide +kernel
theorem dX7_read_61 : decode cX7_read 61 = .ok (.getfield 13, 3) := by decide +kernel
theorem dX7_read_64 : decode cX7_read 64 = .ok (.iload 5, 2) := by decide +kernel
theorem dX7_read_66 : decode cX7_read 66 = .ok (.iaload, 1) := by decide +kernel
theorem dX7_read_67 : decode cX7_read 67 = .ok (.ifCond .ne 7, 3) := by decide +kernel
theorem dX7_read_70 : decode cX7_read 70 = .ok (.iconst 1, 1) := by decide +kernel
theorem dX7_read_71 : decode cX7_read 71 = .ok (.goto 4, 3) := by decide +kernel
theorem dX7_read_74 : decode cX7_read 74 = .ok (.iconst 0, 1) := by decide +kernel
theorem dX7_read_75 : decode cX7_read 75 = .ok (.istore 6, 2) := by decide +kernel
theorem dX7_read_77 : decode cX7_read 77 = .ok (.iload_n 3, 1) := by decide +kernel
theorem dX7_read_78 : decode cX7_read 78 = .ok (.iload 6, 2) := by decide +kernel
theorem dX7_read_80 : decode cX7_read 80 = .ok (.if_icmp .ge 6, 3) := by decide +kernel
theorem dX7_read_83 : decode cX7_read 83 = .ok (.iload 5, 2) := by decide +kernel
theorem dX7_read_85 : decode cX7_read 85 = .ok (.ireturn, 1) := by decide +kernel
theorem dX7_read_86 : decode cX7_read 86 = .ok (.iload_n 3, 1) := by decide +kernel
theorem dX7_read_87 : decode cX7_read 87 = .ok (.iload 6, 2) := by decide +kernel
theorem dX7_read_89 : decode cX7_read 89 = .ok (.isub, 1) := by decide +kernel
theorem dX7_read_90 : decode cX7_read 90 = .ok (.istore_n 3, 1) := by decide +kernel
theorem dX7_read_91 : decode cX7_read 91 = .ok (.iload_n 3, 1) := by decide +kernel
theorem dX7_read_92 : decode cX7_read 92 = .ok (.aload_n 0, 1) := by decide +kernel
theorem dX7_read_93 : decode cX7_read 93 = .ok (.getfield 61, 3) := by decide +kernel
theorem dX7_read_96 : decode cX7_read 96 = .ok (.iload 5, 2) := by decide +kernel
theorem dX7_read_98 : decode cX7_read 98 = .ok (.iaload, 1) := by decide +kernel
theorem dX7_read_99 : decode cX7_read 99 = .ok (.if_icmp .ge 16, 3) := by decide +kernel
theorem dX7_read_102 : decode cX7_read 102 = .ok (.aload_n 0, 1) := by decide +kernel
theorem dX7_read_103 : decode cX7_read 103 = .ok (.getfield 64, 3) := by decide +kernel
theorem dX7_read_106 : decode cX7_read 106 = .ok (.bipush 24, 2) := by decide +kernel
theorem dX7_read_108 : decode cX7_read 108 = .ok (.iload 5, 2) := by decide +kernel
theorem dX7_read_110 : decode cX7_read 110 = .ok (.imul, 1) := by decide +kernel
theorem dX7_read_111 : decode cX7_read 111 = .ok (.iload_n 3, 1) := by decide +kernel
theorem dX7_read_112 : decode cX7_read 112 = .ok (.iadd, 1) := by decide +kernel
theorem dX7_read_113 : decode cX7_read 113 = .ok (.iaload, 1) := by decide +kernel
theorem dX7_read_114 : decode cX7_read 114 = .ok (.ireturn, 1) := by decide +kernel
theorem dX7_read_115 : decode cX7_read 115 = .ok (.iload_n 3, 1) := by decide +kernel
theorem dX7_read_116 : decode cX7_read 116 = .ok (.aload_n 0, 1) := by decide +kernel
theorem dX7_read_117 : decode cX7_read 117 = .ok (.getfield 61, 3) := by decide +kernel
theorem dX7_read_120 : decode cX7_read 120 = .ok (.iload 5, 2) := by decide +kernel
theorem dX7_read_122 : decode cX7_read 122 = .ok (.iaload, 1) := by decide +kernel
theorem dX7_read_123 : decode cX7_read 123 = .ok (.isub, 1) := by decide +kernel
theorem dX7_read_124 : decode cX7_read 124 = .ok (.istore_n 3, 1) := by decide +kernel
theorem dX7_read_125 : decode cX7_read 125 = .ok (.iinc 4 1, 3) := by decide +kernel
theorem dX7_read_128 : decode cX7_read 128 = .ok (.goto (-95), 3) := by decide +kernel
theorem dX7_read_131 : decode cX7_read 131 = .ok (.bipush (-9), 2) := by decide +kernel
theorem dX7_read_133 : decode cX7_read 133 = .ok (.ireturn, 1) := by decide +kernel
theorem dX7_manyOfKind_0 : decode cX7_manyOfKind 0 = .ok (.iconst 0, 1) := by decide +kernel
theorem dX7_manyOfKind_1 : decode cX7_manyOfKind 1 = .ok (.istore_n 2, 1) := by decide +kernel
theorem dX7_manyOfKind_2 : decode cX7_manyOfKind 2 = .ok (.iconst 0, 1) := by decide +kernel
theorem dX7_manyOfKind_3 : decode cX7_manyOfKind 3 = .ok (.istore_n 3, 1) := by decide +kernel
theorem dX7_manyOfKind_4 : decode cX7_manyOfKind 4 = .ok (.iload_n 3, 1) := by decide +kernel
theorem dX7_manyOfKind_5 : decode cX7_manyOfKind 5 = .ok (.aload_n 0, 1) := by decide +kernel
theorem dX7_manyOfKind_6 : decode cX7_manyOfKind 6 = .ok (.getfield 98, 3) := by decide +kernel
theorem dX7_manyOfKind_9 : decode cX7_manyOfKind 9 = .ok (.if_icmp .ge 27, 3) := by decide +kernel
theorem dX7_manyOfKind_12 : decode cX7_manyOfKind 12 = .ok (.iload_n 2, 1) := by decide +kernel
theorem dX7_manyOfKind_13 : decode cX7_manyOfKind 13 = .ok (.aload_n 0, 1) := by decide +kernel
theorem dX7_manyOfKind_14 : decode cX7_manyOfKind 14 = .ok (.getfield 13, 3) := by decide +kernel
theorem dX7_manyOfKind_17 : decode cX7_manyOfKind 17 = .ok (.iload_n 3, 1) := by decide +kernel
theorem dX7_manyOfKind_18 : decode cX7_manyOfKind 18 = .ok (.iaload, 1) := by decide +kernel
theorem dX7_manyOfKind_19 : decode cX7_manyOfKind 19 = .ok (.iload_n 1, 1) := by decide +kernel
theorem dX7_manyOfKind_20 : decode cX7_manyOfKind 20 = .ok (.if_icmp .ne 7, 3) := by decide +kernel
theorem dX7_manyOfKind_23 : decode cX7_manyOfKind 23 = .ok (.iconst 1, 1) := by decide +kernel
theorem dX7_manyOfKind_24 : decode cX7_manyOfKind 24 = .ok (.goto 4, 3) := by decide +kernel
theorem dX7_manyOfKind_27 : decode cX7_manyOfKind 27 = .ok (.iconst 0, 1) := by decide +kernel
theorem dX7_manyOfKind_28 : decode cX7_manyOfKind 28 = .ok (.iadd, 1) := by decide +kernel
theorem dX7_manyOfKind_29 : decode cX7_manyOfKind 29 = .ok (.istore_n 2, 1) := by decide +kernel
theorem dX7_manyOfKind_30 : decode cX7_manyOfKind 30 = .ok (.iinc 3 1, 3) := by decide +kernel
theorem dX7_manyOfKind_33 : decode cX7_manyOfKind 33 = .ok (.goto (-29), 3) := by decide +kernel
theorem dX7_manyOfKind_36 : decode cX7_manyOfKind 36 = .ok (.iload_n 2, 1) := by decide +kernel
theorem dX7_manyOfKind_37 : decode cX7_manyOfKind 37 = .ok (.ireturn, 1) := by decide +kernel
theorem dX7_manyTexts_0 : decode cX7_manyTexts 0 = .ok (.iconst 0, 1) := by decide +kernel
theorem dX7_manyTexts_1 : decode cX7_manyTexts 1 = .ok (.istore_n 2, 1) := by decide +kernel
theorem dX7_manyTexts_2 : decode cX7_manyTexts 2 = .ok (.iconst 0, 1) := by decide +kernel
theorem dX7_manyTexts_3 : decode cX7_manyTexts 3 = .ok (.istore_n 3, 1) := by decide +kernel
theorem dX7_manyTexts_4 : decode cX7_manyTexts 4 = .ok (.iload_n 3, 1) := by decide +kernel
theorem dX7_manyTexts_5 : decode cX7_manyTexts 5 = .ok (.aload_n 0, 1) := by decide +kernel
theorem dX7_manyTexts_6 : decode cX7_manyTexts 6 = .ok (.getfield 98, 3) := by decide +kernel
theorem dX7_manyTexts_9 : decode cX7_manyTexts 9 = .ok (.if_icmp .ge 68, 3) := by decide +kernel
theorem dX7_manyTexts_12 : decode cX7_manyTexts 12 = .ok (.aload_n 0, 1) := by decide +kernel
theorem dX7_manyTexts_13 : decode cX7_manyTexts 13 = .ok (.getfield 13, 3) := by decide +kernel
theorem dX7_manyTexts_16 : decode cX7_manyTexts 16 = .ok (.iload_n 3, 1) := by decide +kernel
theorem dX7_manyTexts_17 : decode cX7_manyTexts 17 = .ok (.iaload, 1) := by decide +kernel
theorem dX7_manyTexts_18 : decode cX7_manyTexts 18 = .ok (.iconst 1, 1) := by decide +kernel
theorem dX7_manyTexts_19 : decode cX7_manyTexts 19 = .ok (.if_icmp .ne 36, 3) := by decide +kernel
theorem dX7_manyTexts_22 : decode cX7_manyTexts 22 = .ok (.iload_n 1, 1) := by decide +kernel
theorem dX7_manyTexts_23 : decode cX7_manyTexts 23 = .ok (.ifCond .eq 17, 3) := by decide +kernel
theorem dX7_manyTexts_26 : decode cX7_manyTexts 26 = .ok (.aload_n 0, 1) := by decide +kernel
theorem dX7_manyTexts_27 : decode cX7_manyTexts 27 = .ok (.getfield 58, 3) := by decide +kernel
theorem dX7_manyTexts_30 : decode cX7_manyTexts 30 = .ok (.iload_n 3, 1) := by decide +kernel
theorem dX7_manyTexts_31 : decode cX7_manyTexts 31 = .ok (.iaload, 1) := by decide +kernel
theorem dX7_manyTexts_32 : decode cX7_manyTexts 32 = .ok (.bipush (-9), 2) := by decide +kernel
theorem dX7_manyTexts_34 : decode cX7_manyTexts 34 = .ok (.if_icmp .eq 21, 3) := by decide +kernel
theorem dX7_manyTexts_37 : decode cX7_manyTexts 37 = .ok (.goto 14, 3) := by decide +kernel
theorem dX7_manyTexts_40 : decode cX7_manyTexts 40 = .ok (.aload_n 0, 1) := by decide +kernel
theorem dX7_manyTexts_41 : decode cX7_manyTexts 41 = .ok (.getfield 55, 3) := by decide +kernel
theorem dX7_manyTexts_44 : decode cX7_manyTexts 44 = .ok (.iload_n 3, 1) := by decide +kernel
theorem dX7_manyTexts_45 : decode cX7_manyTexts 45 = .ok (.iaload, 1) := by decide +kernel
theorem dX7_manyTexts_46 : decode cX7_manyTexts 46 = .ok (.bipush (-9), 2) := by decide +kernel
theorem dX7_manyTexts_48 : decode cX7_manyTexts 48 = .ok (.if_icmp .ne 7, 3) := by decide +kernel
theorem dX7_manyTexts_51 : decode cX7_manyTexts 51 = .ok (.iconst 1, 1) := by decide +kernel
theorem dX7_manyTexts_52 : decode cX7_manyTexts 52 = .ok (.goto 4, 3) := by decide +kernel
theorem dX7_manyTexts_55 : decode cX7_manyTexts 55 = .ok (.iconst 0, 1) := by decide +kernel
theorem dX7_manyTexts_56 : decode cX7_manyTexts 56 = .ok (.istore 4, 2) := by decide +kernel
theorem dX7_manyTexts_58 : decode cX7_manyTexts 58 = .ok (.iload_n 2, 1) := by decide +kernel
theorem dX7_manyTexts_59 : decode cX7_manyTexts 59 = .ok (.iload 4, 2) := by decide +kernel
theorem dX7_manyTexts_61 : decode cX7_manyTexts 61 = .ok (.ifCond .eq 7, 3) := by decide +kernel
theorem dX7_manyTexts_64 : decode cX7_manyTexts 64 = .ok (.iconst 1, 1) := by decide +kernel
theorem dX7_manyTexts_65 : decode cX7_manyTexts 65 = .ok (.goto 4, 3) := by decide +kernel
theorem dX7_manyTexts_68 : decode cX7_manyTexts 68 = .ok (.iconst 0, 1) := by decide +kernel
theorem dX7_manyTexts_69 : decode cX7_manyTexts 69 = .ok (.iadd, 1) := by decide +kernel
theorem dX7_manyTexts_70 : decode cX7_manyTexts 70 = .ok (.istore_n 2, 1) := by decide +kernel
theorem dX7_manyTexts_71 : decode cX7_manyTexts 71 = .ok (.iinc 3 1, 3) := by decide +kernel
theorem dX7_manyTexts_74 : decode cX7_manyTexts 74 = .ok (.goto (-70), 3) := by decide +kernel
theorem dX7_manyTexts_77 : decode cX7_manyTexts 77 = .ok (.iload_n 2, 1) := by decide +kernel
theorem dX7_manyTexts_78 : decode cX7_manyTexts 78 = .ok (.ireturn, 1) := by decide +kernel
theorem dX7_manyRings_0 : decode cX7_manyRings 0 = .ok (.iconst 0, 1) := by decide +kernel
theorem dX7_manyRings_1 : decode cX7_manyRings 1 = .ok (.istore_n 1, 1) := by decide +kernel
theorem dX7_manyRings_2 : decode cX7_manyRings 2 = .ok (.iconst 0, 1) := by decide +kernel
theorem dX7_manyRings_3 : decode cX7_manyRings 3 = .ok (.istore_n 2, 1) := by decide +kernel
theorem dX7_manyRings_4 : decode cX7_manyRings 4 = .ok (.iload_n 2, 1) := by decide +kernel
theorem dX7_manyRings_5 : decode cX7_manyRings 5 = .ok (.aload_n 0, 1) := by decide +kernel
theorem dX7_manyRings_6 : decode cX7_manyRings 6 = .ok (.getfield 162, 3) := by decide +kernel
theorem dX7_manyRings_9 : decode cX7_manyRings 9 = .ok (.if_icmp .ge 26, 3) := by decide +kernel
theorem dX7_manyRings_12 : decode cX7_manyRings 12 = .ok (.iload_n 1, 1) := by decide +kernel
theorem dX7_manyRings_13 : decode cX7_manyRings 13 = .ok (.aload_n 0, 1) := by decide +kernel
theorem dX7_manyRings_14 : decode cX7_manyRings 14 = .ok (.getfield 89, 3) := by decide +kernel
theorem dX7_manyRings_17 : decode cX7_manyRings 17 = .ok (.iload_n 2, 1) := by decide +kernel
theorem dX7_manyRings_18 : decode cX7_manyRings 18 = .ok (.baload, 1) := by decide +kernel
theorem dX7_manyRings_19 : decode cX7_manyRings 19 = .ok (.ifCond .eq 7, 3) := by decide +kernel
theorem dX7_manyRings_22 : decode cX7_manyRings 22 = .ok (.iconst 1, 1) := by decide +kernel
theorem dX7_manyRings_23 : decode cX7_manyRings 23 = .ok (.goto 4, 3) := by decide +kernel
theorem dX7_manyRings_26 : decode cX7_manyRings 26 = .ok (.iconst 0, 1) := by decide +kernel
theorem dX7_manyRings_27 : decode cX7_manyRings 27 = .ok (.iadd, 1) := by decide +kernel
theorem dX7_manyRings_28 : decode cX7_manyRings 28 = .ok (.istore_n 1, 1) := by decide +kernel
theorem dX7_manyRings_29 : decode cX7_manyRings 29 = .ok (.iinc 2 1, 3) := by decide +kernel
theorem dX7_manyRings_32 : decode cX7_manyRings 32 = .ok (.goto (-28), 3) := by decide +kernel
theorem dX7_manyRings_35 : decode cX7_manyRings 35 = .ok (.iload_n 1, 1) := by decide +kernel
theorem dX7_manyRings_36 : decode cX7_manyRings 36 = .ok (.ireturn, 1) := by decide +kernel
theorem dX7_manyBroken_0 : decode cX7_manyBroken 0 = .ok (.iconst 0, 1) := by decide +kernel
theorem dX7_manyBroken_1 : decode cX7_manyBroken 1 = .ok (.istore_n 1, 1) := by decide +kernel
theorem dX7_manyBroken_2 : decode cX7_manyBroken 2 = .ok (.iconst 0, 1) := by decide +kernel
theorem dX7_manyBroken_3 : decode cX7_manyBroken 3 = .ok (.istore_n 2, 1) := by decide +kernel
theorem dX7_manyBroken_4 : decode cX7_manyBroken 4 = .ok (.iload_n 2, 1) := by decide +kernel
theorem dX7_manyBroken_5 : decode cX7_manyBroken 5 = .ok (.aload_n 0, 1) := by decide +kernel
theorem dX7_manyBroken_6 : decode cX7_manyBroken 6 = .ok (.getfield 153, 3) := by decide +kernel
theorem dX7_manyBroken_9 : decode cX7_manyBroken 9 = .ok (.if_icmp .ge 25, 3) := by decide +kernel
theorem dX7_manyBroken_12 : decode cX7_manyBroken 12 = .ok (.iload_n 1, 1) := by decide +kernel
theorem dX7_manyBroken_13 : decode cX7_manyBroken 13 = .ok (.aload_n 0, 1) := by decide +kernel
theorem dX7_manyBroken_14 : decode cX7_manyBroken 14 = .ok (.iload_n 2, 1) := by decide +kernel
theorem dX7_manyBroken_15 : decode cX7_manyBroken 15 = .ok (.invokevirtual 191, 3) := by decide +kernel
theorem dX7_manyBroken_18 : decode cX7_manyBroken 18 = .ok (.ifCond .eq 7, 3) := by decide +kernel
theorem dX7_manyBroken_21 : decode cX7_manyBroken 21 = .ok (.iconst 1, 1) := by decide +kernel
theorem dX7_manyBroken_22 : decode cX7_manyBroken 22 = .ok (.goto 4, 3) := by decide +kernel
theorem dX7_manyBroken_25 : decode cX7_manyBroken 25 = .ok (.iconst 0, 1) := by decide +kernel
theorem dX7_manyBroken_26 : decode cX7_manyBroken 26 = .ok (.iadd, 1) := by decide +kernel
theorem dX7_manyBroken_27 : decode cX7_manyBroken 27 = .ok (.istore_n 1, 1) := by decide +kernel
theorem dX7_manyBroken_28 : decode cX7_manyBroken 28 = .ok (.iinc 2 1, 3) := by decide +kernel
theorem dX7_manyBroken_31 : decode cX7_manyBroken 31 = .ok (.goto (-27), 3) := by decide +kernel
theorem dX7_manyBroken_34 : decode cX7_manyBroken 34 = .ok (.iload_n 1, 1) := by decide +kernel
theorem dX7_manyBroken_35 : decode cX7_manyBroken 35 = .ok (.ireturn, 1) := by decide +kernel
theorem dX7_manyIdle_0 : decode cX7_manyIdle 0 = .ok (.iconst 0, 1) := by decide +kernel
theorem dX7_manyIdle_1 : decode cX7_manyIdle 1 = .ok (.istore_n 1, 1) := by decide +kernel
theorem dX7_manyIdle_2 : decode cX7_manyIdle 2 = .ok (.iconst 0, 1) := by decide +kernel
theorem dX7_manyIdle_3 : decode cX7_manyIdle 3 = .ok (.istore_n 2, 1) := by decide +kernel
theorem dX7_manyIdle_4 : decode cX7_manyIdle 4 = .ok (.iload_n 2, 1) := by decide +kernel
theorem dX7_manyIdle_5 : decode cX7_manyIdle 5 = .ok (.aload_n 0, 1) := by decide +kernel
theorem dX7_manyIdle_6 : decode cX7_manyIdle 6 = .ok (.getfield 98, 3) := by decide +kernel
theorem dX7_manyIdle_9 : decode cX7_manyIdle 9 = .ok (.if_icmp .ge 68, 3) := by decide +kernel
theorem dX7_manyIdle_12 : decode cX7_manyIdle 12 = .ok (.aload_n 0, 1) := by decide +kernel
theorem dX7_manyIdle_13 : decode cX7_manyIdle 13 = .ok (.getfield 13, 3) := by decide +kernel
theorem dX7_manyIdle_16 : decode cX7_manyIdle 16 = .ok (.iload_n 2, 1) := by decide +kernel
theorem dX7_manyIdle_17 : decode cX7_manyIdle 17 = .ok (.iaload, 1) := by decide +kernel
theorem dX7_manyIdle_18 : decode cX7_manyIdle 18 = .ok (.iconst 2, 1) := by decide +kernel
theorem dX7_manyIdle_19 : decode cX7_manyIdle 19 = .ok (.if_icmp .eq 38, 3) := by decide +kernel
theorem dX7_manyIdle_22 : decode cX7_manyIdle 22 = .ok (.aload_n 0, 1) := by decide +kernel
theorem dX7_manyIdle_23 : decode cX7_manyIdle 23 = .ok (.getfield 31, 3) := by decide +kernel
theorem dX7_manyIdle_26 : decode cX7_manyIdle 26 = .ok (.iconst 2, 1) := by decide +kernel
theorem dX7_manyIdle_27 : decode cX7_manyIdle 27 = .ok (.iload_n 2, 1) := by decide +kernel
theorem dX7_manyIdle_28 : decode cX7_manyIdle 28 = .ok (.imul, 1) := by decide +kernel
theorem dX7_manyIdle_29 : decode cX7_manyIdle 29 = .ok (.iconst 1, 1) := by decide +kernel
theorem dX7_manyIdle_30 : decode cX7_manyIdle 30 = .ok (.iadd, 1) := by decide +kernel
theorem dX7_manyIdle_31 : decode cX7_manyIdle 31 = .ok (.iaload, 1) := by decide +kernel
theorem dX7_manyIdle_32 : decode cX7_manyIdle 32 = .ok (.bipush (-9), 2) := by decide +kernel
theorem dX7_manyIdle_34 : decode cX7_manyIdle 34 = .ok (.if_icmp .eq 23, 3) := by decide +kernel
theorem dX7_manyIdle_37 : decode cX7_manyIdle 37 = .ok (.aload_n 0, 1) := by decide +kernel
theorem dX7_manyIdle_38 : decode cX7_manyIdle 38 = .ok (.getfield 83, 3) := by decide +kernel
theorem dX7_manyIdle_41 : decode cX7_manyIdle 41 = .ok (.aload_n 0, 1) := by decide +kernel
theorem dX7_manyIdle_42 : decode cX7_manyIdle 42 = .ok (.getfield 70, 3) := by decide +kernel
theorem dX7_manyIdle_45 : decode cX7_manyIdle 45 = .ok (.iload_n 2, 1) := by decide +kernel
theorem dX7_manyIdle_46 : decode cX7_manyIdle 46 = .ok (.iaload, 1) := by decide +kernel
theorem dX7_manyIdle_47 : decode cX7_manyIdle 47 = .ok (.iaload, 1) := by decide +kernel
theorem dX7_manyIdle_48 : decode cX7_manyIdle 48 = .ok (.bipush (-9), 2) := by decide +kernel
theorem dX7_manyIdle_50 : decode cX7_manyIdle 50 = .ok (.if_icmp .ne 7, 3) := by decide +kernel
theorem dX7_manyIdle_53 : decode cX7_manyIdle 53 = .ok (.iconst 1, 1) := by decide +kernel
theorem dX7_manyIdle_54 : decode cX7_manyIdle 54 = .ok (.goto 4, 3) := by decide +kernel
theorem dX7_manyIdle_57 : decode cX7_manyIdle 57 = .ok (.iconst 0, 1) := by decide +kernel
theorem dX7_manyIdle_58 : decode cX7_manyIdle 58 = .ok (.istore_n 3, 1) := by decide +kernel
theorem dX7_manyIdle_59 : decode cX7_manyIdle 59 = .ok (.iload_n 1, 1) := by decide +kernel
theorem dX7_manyIdle_60 : decode cX7_manyIdle 60 = .ok (.iload_n 3, 1) := by decide +kernel
theorem dX7_manyIdle_61 : decode cX7_manyIdle 61 = .ok (.ifCond .eq 7, 3) := by decide +kernel
theorem dX7_manyIdle_64 : decode cX7_manyIdle 64 = .ok (.iconst 1, 1) := by decide +kernel
theorem dX7_manyIdle_65 : decode cX7_manyIdle 65 = .ok (.goto 4, 3) := by decide +kernel
theorem dX7_manyIdle_68 : decode cX7_manyIdle 68 = .ok (.iconst 0, 1) := by decide +kernel
theorem dX7_manyIdle_69 : decode cX7_manyIdle 69 = .ok (.iadd, 1) := by decide +kernel
theorem dX7_manyIdle_70 : decode cX7_manyIdle 70 = .ok (.istore_n 1, 1) := by decide +kernel
theorem dX7_manyIdle_71 : decode cX7_manyIdle 71 = .ok (.iinc 2 1, 3) := by decide +kernel
theorem dX7_manyIdle_74 : decode cX7_manyIdle 74 = .ok (.goto (-70), 3) := by decide +kernel
theorem dX7_manyIdle_77 : decode cX7_manyIdle 77 = .ok (.iload_n 1, 1) := by decide +kernel
theorem dX7_manyIdle_78 : decode cX7_manyIdle 78 = .ok (.ireturn, 1) := by decide +kernel
theorem dX7_manyLost_0 : decode cX7_manyLost 0 = .ok (.iconst 0, 1) := by decide +kernel
theorem dX7_manyLost_1 : decode cX7_manyLost 1 = .ok (.istore_n 1, 1) := by decide +kernel
theorem dX7_manyLost_2 : decode cX7_manyLost 2 = .ok (.iconst 0, 1) := by decide +kernel
theorem dX7_manyLost_3 : decode cX7_manyLost 3 = .ok (.istore_n 2, 1) := by decide +kernel
theorem dX7_manyLost_4 : decode cX7_manyLost 4 = .ok (.iload_n 2, 1) := by decide +kernel
theorem dX7_manyLost_5 : decode cX7_manyLost 5 = .ok (.aload_n 0, 1) := by decide +kernel
theorem dX7_manyLost_6 : decode cX7_manyLost 6 = .ok (.getfield 98, 3) := by decide +kernel
theorem dX7_manyLost_9 : decode cX7_manyLost 9 = .ok (.if_icmp .ge 38, 3) := by decide +kernel
theorem dX7_manyLost_12 : decode cX7_manyLost 12 = .ok (.iload_n 1, 1) := by decide +kernel
theorem dX7_manyLost_13 : decode cX7_manyLost 13 = .ok (.aload_n 0, 1) := by decide +kernel
theorem dX7_manyLost_14 : decode cX7_manyLost 14 = .ok (.getfield 13, 3) := by decide +kernel
theorem dX7_manyLost_17 : decode cX7_manyLost 17 = .ok (.iload_n 2, 1) := by decide +kernel
theorem dX7_manyLost_18 : decode cX7_manyLost 18 = .ok (.iaload, 1) := by decide +kernel
theorem dX7_manyLost_19 : decode cX7_manyLost 19 = .ok (.iconst 2, 1) := by decide +kernel
theorem dX7_manyLost_20 : decode cX7_manyLost 20 = .ok (.if_icmp .ne 18, 3) := by decide +kernel
theorem dX7_manyLost_23 : decode cX7_manyLost 23 = .ok (.aload_n 0, 1) := by decide +kernel
theorem dX7_manyLost_24 : decode cX7_manyLost 24 = .ok (.getfield 52, 3) := by decide +kernel
theorem dX7_manyLost_27 : decode cX7_manyLost 27 = .ok (.iload_n 2, 1) := by decide +kernel
theorem dX7_manyLost_28 : decode cX7_manyLost 28 = .ok (.iaload, 1) := by decide +kernel
theorem dX7_manyLost_29 : decode cX7_manyLost 29 = .ok (.bipush (-9), 2) := by decide +kernel
theorem dX7_manyLost_31 : decode cX7_manyLost 31 = .ok (.if_icmp .ne 7, 3) := by decide +kernel
theorem dX7_manyLost_34 : decode cX7_manyLost 34 = .ok (.iconst 1, 1) := by decide +kernel
theorem dX7_manyLost_35 : decode cX7_manyLost 35 = .ok (.goto 4, 3) := by decide +kernel
theorem dX7_manyLost_38 : decode cX7_manyLost 38 = .ok (.iconst 0, 1) := by decide +kernel
theorem dX7_manyLost_39 : decode cX7_manyLost 39 = .ok (.iadd, 1) := by decide +kernel
theorem dX7_manyLost_40 : decode cX7_manyLost 40 = .ok (.istore_n 1, 1) := by decide +kernel
theorem dX7_manyLost_41 : decode cX7_manyLost 41 = .ok (.iinc 2 1, 3) := by decide +kernel
theorem dX7_manyLost_44 : decode cX7_manyLost 44 = .ok (.goto (-40), 3) := by decide +kernel
theorem dX7_manyLost_47 : decode cX7_manyLost 47 = .ok (.iload_n 1, 1) := by decide +kernel
theorem dX7_manyLost_48 : decode cX7_manyLost 48 = .ok (.ireturn, 1) := by decide +kernel
theorem dX7_many_0 : decode cX7_many 0 = .ok (.aload_n 0, 1) := by decide +kernel
theorem dX7_many_1 : decode cX7_many 1 = .ok (.invokevirtual 178, 3) := by decide +kernel
theorem dX7_many_4 : decode cX7_many 4 = .ok (.iload_n 1, 1) := by decide +kernel
theorem dX7_many_5 : decode cX7_many 5 = .ok (.tableswitch 127 0 11 #[63, 68, 73, 79, 85, 90, 96, 102, 107, 112, 117, 122], 63) := by decide +kernel
theorem dX7_many_68 : decode cX7_many 68 = .ok (.aload_n 0, 1) := by decide +kernel
theorem dX7_many_69 : decode cX7_many 69 = .ok (.getfield 98, 3) := by decide +kernel
theorem dX7_many_72 : decode cX7_many 72 = .ok (.ireturn, 1) := by decide +kernel
theorem dX7_many_73 : decode cX7_many 73 = .ok (.aload_n 0, 1) := by decide +kernel
theorem dX7_many_74 : decode cX7_many 74 = .ok (.getfield 114, 3) := by decide +kernel
theorem dX7_many_77 : decode cX7_many 77 = .ok (.ireturn, 1) := by decide +kernel
theorem dX7_many_78 : decode cX7_many 78 = .ok (.aload_n 0, 1) := by decide +kernel
theorem dX7_many_79 : decode cX7_many 79 = .ok (.iconst 0, 1) := by decide +kernel
theorem dX7_many_80 : decode cX7_many 80 = .ok (.invokevirtual 203, 3) := by decide +kernel
theorem dX7_many_83 : decode cX7_many 83 = .ok (.ireturn, 1) := by decide +kernel
theorem dX7_many_84 : decode cX7_many 84 = .ok (.aload_n 0, 1) := by decide +kernel
theorem dX7_many_85 : decode cX7_many 85 = .ok (.iconst 1, 1) := by decide +kernel
theorem dX7_many_86 : decode cX7_many 86 = .ok (.invokevirtual 203, 3) := by decide +kernel
theorem dX7_many_89 : decode cX7_many 89 = .ok (.ireturn, 1) := by decide +kernel
theorem dX7_many_90 : decode cX7_many 90 = .ok (.aload_n 0, 1) := by decide +kernel
theorem dX7_many_91 : decode cX7_many 91 = .ok (.getfield 153, 3) := by decide +kernel
theorem dX7_many_94 : decode cX7_many 94 = .ok (.ireturn, 1) := by decide +kernel
theorem dX7_many_95 : decode cX7_many 95 = .ok (.aload_n 0, 1) := by decide +kernel
theorem dX7_many_96 : decode cX7_many 96 = .ok (.iconst 1, 1) := by decide +kernel
theorem dX7_many_97 : decode cX7_many 97 = .ok (.invokevirtual 206, 3) := by decide +kernel
theorem dX7_many_100 : decode cX7_many 100 = .ok (.ireturn, 1) := by decide +kernel
theorem dX7_many_101 : decode cX7_many 101 = .ok (.aload_n 0, 1) := by decide +kernel
theorem dX7_many_102 : decode cX7_many 102 = .ok (.iconst 0, 1) := by decide +kernel
theorem dX7_many_103 : decode cX7_many 103 = .ok (.invokevirtual 206, 3) := by decide +kernel
theorem dX7_many_106 : decode cX7_many 106 = .ok (.ireturn, 1) := by decide +kernel
theorem dX7_many_107 : decode cX7_many 107 = .ok (.aload_n 0, 1) := by decide +kernel
theorem dX7_many_108 : decode cX7_many 108 = .ok (.getfield 162, 3) := by decide +kernel
theorem dX7_many_111 : decode cX7_many 111 = .ok (.ireturn, 1) := by decide +kernel
theorem dX7_many_112 : decode cX7_many 112 = .ok (.aload_n 0, 1) := by decide +kernel
theorem dX7_many_113 : decode cX7_many 113 = .ok (.invokevirtual 210, 3) := by decide +kernel
theorem dX7_many_116 : decode cX7_many 116 = .ok (.ireturn, 1) := by decide +kernel
theorem dX7_many_117 : decode cX7_many 117 = .ok (.aload_n 0, 1) := by decide +kernel
theorem dX7_many_118 : decode cX7_many 118 = .ok (.invokevirtual 214, 3) := by decide +kernel
theorem dX7_many_121 : decode cX7_many 121 = .ok (.ireturn, 1) := by decide +kernel
theorem dX7_many_122 : decode cX7_many 122 = .ok (.aload_n 0, 1) := by decide +kernel
theorem dX7_many_123 : decode cX7_many 123 = .ok (.invokevirtual 217, 3) := by decide +kernel
theorem dX7_many_126 : decode cX7_many 126 = .ok (.ireturn, 1) := by decide +kernel
theorem dX7_many_127 : decode cX7_many 127 = .ok (.aload_n 0, 1) := by decide +kernel
theorem dX7_many_128 : decode cX7_many 128 = .ok (.invokevirtual 220, 3) := by decide +kernel
theorem dX7_many_131 : decode cX7_many 131 = .ok (.ireturn, 1) := by decide +kernel
theorem dX7_many_132 : decode cX7_many 132 = .ok (.bipush (-2), 2) := by decide +kernel
theorem dX7_many_134 : decode cX7_many 134 = .ok (.ireturn, 1) := by decide +kernel
theorem dJ9_max_7cf53_0 : decode cJ9_max_7cf53 0 = .ok (.iload_n 0, 1) := by decide +kernel
theorem dJ9_max_7cf53_1 : decode cJ9_max_7cf53 1 = .ok (.iload_n 1, 1) := by decide +kernel
theorem dJ9_max_7cf53_2 : decode cJ9_max_7cf53 2 = .ok (.if_icmp .lt 7, 3) := by decide +kernel
theorem dJ9_max_7cf53_5 : decode cJ9_max_7cf53 5 = .ok (.iload_n 0, 1) := by decide +kernel
theorem dJ9_max_7cf53_6 : decode cJ9_max_7cf53 6 = .ok (.goto 4, 3) := by decide +kernel
theorem dJ9_max_7cf53_9 : decode cJ9_max_7cf53 9 = .ok (.iload_n 1, 1) := by decide +kernel
theorem dJ9_max_7cf53_10 : decode cJ9_max_7cf53 10 = .ok (.ireturn, 1) := by decide +kernel
theorem dJ9_min_7cf53_0 : decode cJ9_min_7cf53 0 = .ok (.iload_n 0, 1) := by decide +kernel
theorem dJ9_min_7cf53_1 : decode cJ9_min_7cf53 1 = .ok (.iload_n 1, 1) := by decide +kernel
theorem dJ9_min_7cf53_2 : decode cJ9_min_7cf53 2 = .ok (.if_icmp .gt 7, 3) := by decide +kernel
theorem dJ9_min_7cf53_5 : decode cJ9_min_7cf53 5 = .ok (.iload_n 0, 1) := by decide +kernel
theorem dJ9_min_7cf53_6 : decode cJ9_min_7cf53 6 = .ok (.goto 4, 3) := by decide +kernel
theorem dJ9_min_7cf53_9 : decode cJ9_min_7cf53 9 = .ok (.iload_n 1, 1) := by decide +kernel
theorem dJ9_min_7cf53_10 : decode cJ9_min_7cf53 10 = .ok (.ireturn, 1) := by decide +kernel
theorem dL_law_0 : decode cL_law 0 = .ok (.new 7, 3) := by decide +kernel
theorem dL_law_3 : decode cL_law 3 = .ok (.dup, 1) := by decide +kernel
theorem dL_law_4 : decode cL_law 4 = .ok (.invokespecial 9, 3) := by decide +kernel
theorem dL_law_7 : decode cL_law 7 = .ok (.astore_n 1, 1) := by decide +kernel
theorem dL_law_8 : decode cL_law 8 = .ok (.new 10, 3) := by decide +kernel
theorem dL_law_11 : decode cL_law 11 = .ok (.dup, 1) := by decide +kernel
theorem dL_law_12 : decode cL_law 12 = .ok (.invokespecial 12, 3) := by decide +kernel
theorem dL_law_15 : decode cL_law 15 = .ok (.astore_n 2, 1) := by decide +kernel
theorem dL_law_16 : decode cL_law 16 = .ok (.iconst 0, 1) := by decide +kernel
theorem dL_law_17 : decode cL_law 17 = .ok (.istore_n 3, 1) := by decide +kernel
theorem dL_law_18 : decode cL_law 18 = .ok (.iload_n 3, 1) := by decide +kernel
theorem dL_law_19 : decode cL_law 19 = .ok (.aload_n 0, 1) := by decide +kernel
theorem dL_law_20 : decode cL_law 20 = .ok (.arraylength, 1) := by decide +kernel
theorem dL_law_21 : decode cL_law 21 = .ok (.bipush 7, 2) := by decide +kernel
theorem dL_law_23 : decode cL_law 23 = .ok (.isub, 1) := by decide +kernel
theorem dL_law_24 : decode cL_law 24 = .ok (.if_icmp .gt 836, 3) := by decide +kernel
theorem dL_law_27 : decode cL_law 27 = .ok (.aload_n 0, 1) := by decide +kernel
theorem dL_law_28 : decode cL_law 28 = .ok (.iload_n 3, 1) := by decide +kernel
theorem dL_law_29 : decode cL_law 29 = .ok (.iaload, 1) := by decide +kernel
theorem dL_law_30 : decode cL_law 30 = .ok (.bipush 31, 2) := by decide +kernel
theorem dL_law_32 : decode cL_law 32 = .ok (.iand, 1) := by decide +kernel
theorem dL_law_33 : decode cL_law 33 = .ok (.tableswitch 821 0 21 #[103, 178, 211, 274, 287, 300, 313, 326, 359, 392, 435, 468, 491, 514, 537, 570, 603, 656, 689, 732, 765, 798], 103) := by decide +kernel
theorem dL_law_136 : decode cL_law 136 = .ok (.aload_n 1, 1) := by decide +kernel
theorem dL_law_137 : decode cL_law 137 = .ok (.aload_n 0, 1) := by decide +kernel
theorem dL_law_138 : decode cL_law 138 = .ok (.iload_n 3, 1) := by decide +kernel
theorem dL_law_139 : decode cL_law 139 = .ok (.iconst 1, 1) := by decide +kernel
theorem dL_law_140 : decode cL_law 140 = .ok (.iadd, 1) := by decide +kernel
theorem dL_law_141 : decode cL_law 141 = .ok (.iaload, 1) := by decide +kernel
theorem dL_law_142 : decode cL_law 142 = .ok (.aload_n 0, 1) := by decide +kernel
theorem dL_law_143 : decode cL_law 143 = .ok (.iload_n 3, 1) := by decide +kernel
theorem dL_law_144 : decode cL_law 144 = .ok (.iconst 2, 1) := by decide +kernel
theorem dL_law_145 : decode cL_law 145 = .ok (.iadd, 1) := by decide +kernel
theorem dL_law_146 : decode cL_law 146 = .ok (.iaload, 1) := by decide +kernel
theorem dL_law_147 : decode cL_law 147 = .ok (.aload_n 0, 1) := by decide +kernel
theorem dL_law_148 : decode cL_law 148 = .ok (.iload_n 3, 1) := by decide +kernel
theorem dL_law_149 : decode cL_law 149 = .ok (.iconst 3, 1) := by decide +kernel
theorem dL_law_150 : decode cL_law 150 = .ok (.iadd, 1) := by decide +kernel
theorem dL_law_151 : decode cL_law 151 = .ok (.iaload, 1) := by decide +kernel
theorem dL_law_152 : decode cL_law 152 = .ok (.aload_n 0, 1) := by decide +kernel
theorem dL_law_153 : decode cL_law 153 = .ok (.iload_n 3, 1) := by decide +kernel
theorem dL_law_154 : decode cL_law 154 = .ok (.iconst 4, 1) := by decide +kernel
theorem dL_law_155 : decode cL_law 155 = .ok (.iadd, 1) := by decide +kernel
theorem dL_law_156 : decode cL_law 156 = .ok (.iaload, 1) := by decide +kernel
theorem dL_law_157 : decode cL_law 157 = .ok (.aload_n 0, 1) := by decide +kernel
theorem dL_law_158 : decode cL_law 158 = .ok (.iload_n 3, 1) := by decide +kernel
theorem dL_law_159 : decode cL_law 159 = .ok (.iconst 5, 1) := by decide +kernel
theorem dL_law_160 : decode cL_law 160 = .ok (.iadd, 1) := by decide +kernel
theorem dL_law_161 : decode cL_law 161 = .ok (.iaload, 1) := by decide +kernel
theorem dL_law_162 : decode cL_law 162 = .ok (.aload_n 0, 1) := by decide +kernel
theorem dL_law_163 : decode cL_law 163 = .ok (.iload_n 3, 1) := by decide +kernel
theorem dL_law_164 : decode cL_law 164 = .ok (.bipush 6, 2) := by decide +kernel
theorem dL_law_166 : decode cL_law 166 = .ok (.iadd, 1) := by decide +kernel
theorem dL_law_167 : decode cL_law 167 = .ok (.iaload, 1) := by decide +kernel
theorem dL_law_168 : decode cL_law 168 = .ok (.invokevirtual 13, 3) := by decide +kernel
theorem dL_law_171 : decode cL_law 171 = .ok (.aload_n 2, 1) := by decide +kernel
theorem dL_law_172 : decode cL_law 172 = .ok (.aload_n 0, 1) := by decide +kernel
theorem dL_law_173 : decode cL_law 173 = .ok (.iload_n 3, 1) := by decide +kernel
theorem dL_law_174 : decode cL_law 174 = .ok (.iconst 1, 1) := by decide +kernel
theorem dL_law_175 : decode cL_law 175 = .ok (.iadd, 1) := by decide +kernel
theorem dL_law_176 : decode cL_law 176 = .ok (.iaload, 1) := by decide +kernel
theorem dL_law_177 : decode cL_law 177 = .ok (.aload_n 0, 1) := by decide +kernel
theorem dL_law_178 : decode cL_law 178 = .ok (.iload_n 3, 1) := by decide +kernel
theorem dL_law_179 : decode cL_law 179 = .ok (.iconst 2, 1) := by decide +kernel
theorem dL_law_180 : decode cL_law 180 = .ok (.iadd, 1) := by decide +kernel
theorem dL_law_181 : decode cL_law 181 = .ok (.iaload, 1) := by decide +kernel
theorem dL_law_182 : decode cL_law 182 = .ok (.aload_n 0, 1) := by decide +kernel
theorem dL_law_183 : decode cL_law 183 = .ok (.iload_n 3, 1) := by decide +kernel
theorem dL_law_184 : decode cL_law 184 = .ok (.iconst 3, 1) := by decide +kernel
theorem dL_law_185 : decode cL_law 185 = .ok (.iadd, 1) := by decide +kernel
theorem dL_law_186 : decode cL_law 186 = .ok (.iaload, 1) := by decide +kernel
theorem dL_law_187 : decode cL_law 187 = .ok (.aload_n 0, 1) := by decide +kernel
theorem dL_law_188 : decode cL_law 188 = .ok (.iload_n 3, 1) := by decide +kernel
theorem dL_law_189 : decode cL_law 189 = .ok (.iconst 4, 1) := by decide +kernel
theorem dL_law_190 : decode cL_law 190 = .ok (.iadd, 1) := by decide +kernel
theorem dL_law_191 : decode cL_law 191 = .ok (.iaload, 1) := by decide +kernel
theorem dL_law_192 : decode cL_law 192 = .ok (.aload_n 0, 1) := by decide +kernel
theorem dL_law_193 : decode cL_law 193 = .ok (.iload_n 3, 1) := by decide +kernel
theorem dL_law_194 : decode cL_law 194 = .ok (.iconst 5, 1) := by decide +kernel
theorem dL_law_195 : decode cL_law 195 = .ok (.iadd, 1) := by decide +kernel
theorem dL_law_196 : decode cL_law 196 = .ok (.iaload, 1) := by decide +kernel
theorem dL_law_197 : decode cL_law 197 = .ok (.aload_n 0, 1) := by decide +kernel
theorem dL_law_198 : decode cL_law 198 = .ok (.iload_n 3, 1) := by decide +kernel
theorem dL_law_199 : decode cL_law 199 = .ok (.bipush 6, 2) := by decide +kernel
theorem dL_law_201 : decode cL_law 201 = .ok (.iadd, 1) := by decide +kernel
theorem dL_law_202 : decode cL_law 202 = .ok (.iaload, 1) := by decide +kernel
theorem dL_law_203 : decode cL_law 203 = .ok (.invokevirtual 17, 3) := by decide +kernel
theorem dL_law_206 : decode cL_law 206 = .ok (.if_icmp .eq 648, 3) := by decide +kernel
theorem dL_law_209 : decode cL_law 209 = .ok (.iconst 0, 1) := by decide +kernel
theorem dL_law_210 : decode cL_law 210 = .ok (.ireturn, 1) := by decide +kernel
theorem dL_law_211 : decode cL_law 211 = .ok (.aload_n 1, 1) := by decide +kernel
theorem dL_law_212 : decode cL_law 212 = .ok (.aload_n 0, 1) := by decide +kernel
theorem dL_law_213 : decode cL_law 213 = .ok (.iload_n 3, 1) := by decide +kernel
theorem dL_law_214 : decode cL_law 214 = .ok (.iconst 1, 1) := by decide +kernel
theorem dL_law_215 : decode cL_law 215 = .ok (.iadd, 1) := by decide +kernel
theorem dL_law_216 : decode cL_law 216 = .ok (.iaload, 1) := by decide +kernel
theorem dL_law_217 : decode cL_law 217 = .ok (.aload_n 0, 1) := by decide +kernel
theorem dL_law_218 : decode cL_law 218 = .ok (.iload_n 3, 1) := by decide +kernel
theorem dL_law_219 : decode cL_law 219 = .ok (.iconst 2, 1) := by decide +kernel
theorem dL_law_220 : decode cL_law 220 = .ok (.iadd, 1) := by decide +kernel
theorem dL_law_221 : decode cL_law 221 = .ok (.iaload, 1) := by decide +kernel
theorem dL_law_222 : decode cL_law 222 = .ok (.invokevirtual 18, 3) := by decide +kernel
theorem dL_law_225 : decode cL_law 225 = .ok (.aload_n 2, 1) := by decide +kernel
theorem dL_law_226 : decode cL_law 226 = .ok (.aload_n 0, 1) := by decide +kernel
theorem dL_law_227 : decode cL_law 227 = .ok (.iload_n 3, 1) := by decide +kernel
theorem dL_law_228 : decode cL_law 228 = .ok (.iconst 1, 1) := by decide +kernel
theorem dL_law_229 : decode cL_law 229 = .ok (.iadd, 1) := by decide +kernel
theorem dL_law_230 : decode cL_law 230 = .ok (.iaload, 1) := by decide +kernel
theorem dL_law_231 : decode cL_law 231 = .ok (.aload_n 0, 1) := by decide +kernel
theorem dL_law_232 : decode cL_law 232 = .ok (.iload_n 3, 1) := by decide +kernel
theorem dL_law_233 : decode cL_law 233 = .ok (.iconst 2, 1) := by decide +kernel
theorem dL_law_234 : decode cL_law 234 = .ok (.iadd, 1) := by decide +kernel
theorem dL_law_235 : decode cL_law 235 = .ok (.iaload, 1) := by decide +kernel
theorem dL_law_236 : decode cL_law 236 = .ok (.invokevirtual 22, 3) := by decide +kernel
theorem dL_law_239 : decode cL_law 239 = .ok (.if_icmp .eq 615, 3) := by decide +kernel
theorem dL_law_242 : decode cL_law 242 = .ok (.iconst 0, 1) := by decide +kernel
theorem dL_law_243 : decode cL_law 243 = .ok (.ireturn, 1) := by decide +kernel
theorem dL_law_244 : decode cL_law 244 = .ok (.aload_n 1, 1) := by decide +kernel
theorem dL_law_245 : decode cL_law 245 = .ok (.aload_n 0, 1) := by decide +kernel
theorem dL_law_246 : decode cL_law 246 = .ok (.iload_n 3, 1) := by decide +kernel
theorem dL_law_247 : decode cL_law 247 = .ok (.iconst 1, 1) := by decide +kernel
theorem dL_law_248 : decode cL_law 248 = .ok (.iadd, 1) := by decide +kernel
theorem dL_law_249 : decode cL_law 249 = .ok (.iaload, 1) := by decide +kernel
theorem dL_law_250 : decode cL_law 250 = .ok (.aload_n 0, 1) := by decide +kernel
theorem dL_law_251 : decode cL_law 251 = .ok (.iload_n 3, 1) := by decide +kernel
theorem dL_law_252 : decode cL_law 252 = .ok (.iconst 2, 1) := by decide +kernel
theorem dL_law_253 : decode cL_law 253 = .ok (.iadd, 1) := by decide +kernel
theorem dL_law_254 : decode cL_law 254 = .ok (.iaload, 1) := by decide +kernel
theorem dL_law_255 : decode cL_law 255 = .ok (.aload_n 0, 1) := by decide +kernel
theorem dL_law_256 : decode cL_law 256 = .ok (.iload_n 3, 1) := by decide +kernel
theorem dL_law_257 : decode cL_law 257 = .ok (.iconst 3, 1) := by decide +kernel
theorem dL_law_258 : decode cL_law 258 = .ok (.iadd, 1) := by decide +kernel
theorem dL_law_259 : decode cL_law 259 = .ok (.iaload, 1) := by decide +kernel
theorem dL_law_260 : decode cL_law 260 = .ok (.aload_n 0, 1) := by decide +kernel
theorem dL_law_261 : decode cL_law 261 = .ok (.iload_n 3, 1) := by decide +kernel
theorem dL_law_262 : decode cL_law 262 = .ok (.iconst 4, 1) := by decide +kernel
theorem dL_law_263 : decode cL_law 263 = .ok (.iadd, 1) := by decide +kernel
theorem dL_law_264 : decode cL_law 264 = .ok (.iaload, 1) := by decide +kernel
theorem dL_law_265 : decode cL_law 265 = .ok (.aload_n 0, 1) := by decide +kernel
theorem dL_law_266 : decode cL_law 266 = .ok (.iload_n 3, 1) := by decide +kernel
theorem dL_law_267 : decode cL_law 267 = .ok (.iconst 5, 1) := by decide +kernel
theorem dL_law_268 : decode cL_law 268 = .ok (.iadd, 1) := by decide +kernel
theorem dL_law_269 : decode cL_law 269 = .ok (.iaload, 1) := by decide +kernel
theorem dL_law_270 : decode cL_law 270 = .ok (.invokevirtual 23, 3) := by decide +kernel
theorem dL_law_273 : decode cL_law 273 = .ok (.aload_n 2, 1) := by decide +kernel
theorem dL_law_274 : decode cL_law 274 = .ok (.aload_n 0, 1) := by decide +kernel
theorem dL_law_275 : decode cL_law 275 = .ok (.iload_n 3, 1) := by decide +kernel
theorem dL_law_276 : decode cL_law 276 = .ok (.iconst 1, 1) := by decide +kernel
theorem dL_law_277 : decode cL_law 277 = .ok (.iadd, 1) := by decide +kernel
theorem dL_law_278 : decode cL_law 278 = .ok (.iaload, 1) := by decide +kernel
theorem dL_law_279 : decode cL_law 279 = .ok (.aload_n 0, 1) := by decide +kernel
theorem dL_law_280 : decode cL_law 280 = .ok (.iload_n 3, 1) := by decide +kernel
theorem dL_law_281 : decode cL_law 281 = .ok (.iconst 2, 1) := by decide +kernel
theorem dL_law_282 : decode cL_law 282 = .ok (.iadd, 1) := by decide +kernel
theorem dL_law_283 : decode cL_law 283 = .ok (.iaload, 1) := by decide +kernel
theorem dL_law_284 : decode cL_law 284 = .ok (.aload_n 0, 1) := by decide +kernel
theorem dL_law_285 : decode cL_law 285 = .ok (.iload_n 3, 1) := by decide +kernel
theorem dL_law_286 : decode cL_law 286 = .ok (.iconst 3, 1) := by decide +kernel
theorem dL_law_287 : decode cL_law 287 = .ok (.iadd, 1) := by decide +kernel
theorem dL_law_288 : decode cL_law 288 = .ok (.iaload, 1) := by decide +kernel
theorem dL_law_289 : decode cL_law 289 = .ok (.aload_n 0, 1) := by decide +kernel
theorem dL_law_290 : decode cL_law 290 = .ok (.iload_n 3, 1) := by decide +kernel
theorem dL_law_291 : decode cL_law 291 = .ok (.iconst 4, 1) := by decide +kernel
theorem dL_law_292 : decode cL_law 292 = .ok (.iadd, 1) := by decide +kernel
theorem dL_law_293 : decode cL_law 293 = .ok (.iaload, 1) := by decide +kernel
theorem dL_law_294 : decode cL_law 294 = .ok (.aload_n 0, 1) := by decide +kernel
theorem dL_law_295 : decode cL_law 295 = .ok (.iload_n 3, 1) := by decide +kernel
theorem dL_law_296 : decode cL_law 296 = .ok (.iconst 5, 1) := by decide +kernel
theorem dL_law_297 : decode cL_law 297 = .ok (.iadd, 1) := by decide +kernel
theorem dL_law_298 : decode cL_law 298 = .ok (.iaload, 1) := by decide +kernel
theorem dL_law_299 : decode cL_law 299 = .ok (.invokevirtual 27, 3) := by decide +kernel
theorem dL_law_302 : decode cL_law 302 = .ok (.if_icmp .eq 552, 3) := by decide +kernel
theorem dL_law_305 : decode cL_law 305 = .ok (.iconst 0, 1) := by decide +kernel
theorem dL_law_306 : decode cL_law 306 = .ok (.ireturn, 1) := by decide +kernel
theorem dL_law_307 : decode cL_law 307 = .ok (.aload_n 1, 1) := by decide +kernel
theorem dL_law_308 : decode cL_law 308 = .ok (.invokevirtual 28, 3) := by decide +kernel
theorem dL_law_311 : decode cL_law 311 = .ok (.aload_n 2, 1) := by decide +kernel
theorem dL_law_312 : decode cL_law 312 = .ok (.invokevirtual 32, 3) := by decide +kernel
theorem dL_law_315 : decode cL_law 315 = .ok (.if_icmp .eq 539, 3) := by decide +kernel
theorem dL_law_318 : decode cL_law 318 = .ok (.iconst 0, 1) := by decide +kernel
theorem dL_law_319 : decode cL_law 319 = .ok (.ireturn, 1) := by decide +kernel
theorem dL_law_320 : decode cL_law 320 = .ok (.aload_n 1, 1) := by decide +kernel
theorem dL_law_321 : decode cL_law 321 = .ok (.invokevirtual 33, 3) := by decide +kernel
theorem dL_law_324 : decode cL_law 324 = .ok (.aload_n 2, 1) := by decide +kernel
theorem dL_law_325 : decode cL_law 325 = .ok (.invokevirtual 36, 3) := by decide +kernel
theorem dL_law_328 : decode cL_law 328 = .ok (.if_icmp .eq 526, 3) := by decide +kernel
theorem dL_law_331 : decode cL_law 331 = .ok (.iconst 0, 1) := by decide +kernel
theorem dL_law_332 : decode cL_law 332 = .ok (.ireturn, 1) := by decide +kernel
theorem dL_law_333 : decode cL_law 333 = .ok (.aload_n 1, 1) := by decide +kernel
theorem dL_law_334 : decode cL_law 334 = .ok (.invokevirtual 37, 3) := by decide +kernel
theorem dL_law_337 : decode cL_law 337 = .ok (.aload_n 2, 1) := by decide +kernel
theorem dL_law_338 : decode cL_law 338 = .ok (.invokevirtual 40, 3) := by decide +kernel
theorem dL_law_341 : decode cL_law 341 = .ok (.if_icmp .eq 513, 3) := by decide +kernel
theorem dL_law_344 : decode cL_law 344 = .ok (.iconst 0, 1) := by decide +kernel
theorem dL_law_345 : decode cL_law 345 = .ok (.ireturn, 1) := by decide +kernel
theorem dL_law_346 : decode cL_law 346 = .ok (.aload_n 1, 1) := by decide +kernel
theorem dL_law_347 : decode cL_law 347 = .ok (.invokevirtual 41, 3) := by decide +kernel
theorem dL_law_350 : decode cL_law 350 = .ok (.aload_n 2, 1) := by decide +kernel
theorem dL_law_351 : decode cL_law 351 = .ok (.invokevirtual 44, 3) := by decide +kernel
theorem dL_law_354 : decode cL_law 354 = .ok (.if_icmp .eq 500, 3) := by decide +kernel
theorem dL_law_357 : decode cL_law 357 = .ok (.iconst 0, 1) := by decide +kernel
theorem dL_law_358 : decode cL_law 358 = .ok (.ireturn, 1) := by decide +kernel
theorem dL_law_359 : decode cL_law 359 = .ok (.aload_n 1, 1) := by decide +kernel
theorem dL_law_360 : decode cL_law 360 = .ok (.aload_n 0, 1) := by decide +kernel
theorem dL_law_361 : decode cL_law 361 = .ok (.iload_n 3, 1) := by decide +kernel
theorem dL_law_362 : decode cL_law 362 = .ok (.iconst 1, 1) := by decide +kernel
theorem dL_law_363 : decode cL_law 363 = .ok (.iadd, 1) := by decide +kernel
theorem dL_law_364 : decode cL_law 364 = .ok (.iaload, 1) := by decide +kernel
theorem dL_law_365 : decode cL_law 365 = .ok (.aload_n 0, 1) := by decide +kernel
theorem dL_law_366 : decode cL_law 366 = .ok (.iload_n 3, 1) := by decide +kernel
theorem dL_law_367 : decode cL_law 367 = .ok (.iconst 2, 1) := by decide +kernel
theorem dL_law_368 : decode cL_law 368 = .ok (.iadd, 1) := by decide +kernel
theorem dL_law_369 : decode cL_law 369 = .ok (.iaload, 1) := by decide +kernel
theorem dL_law_370 : decode cL_law 370 = .ok (.invokevirtual 45, 3) := by decide +kernel
theorem dL_law_373 : decode cL_law 373 = .ok (.aload_n 2, 1) := by decide +kernel
theorem dL_law_374 : decode cL_law 374 = .ok (.aload_n 0, 1) := by decide +kernel
theorem dL_law_375 : decode cL_law 375 = .ok (.iload_n 3, 1) := by decide +kernel
theorem dL_law_376 : decode cL_law 376 = .ok (.iconst 1, 1) := by decide +kernel
theorem dL_law_377 : decode cL_law 377 = .ok (.iadd, 1) := by decide +kernel
theorem dL_law_378 : decode cL_law 378 = .ok (.iaload, 1) := by decide +kernel
theorem dL_law_379 : decode cL_law 379 = .ok (.aload_n 0, 1) := by decide +kernel
theorem dL_law_380 : decode cL_law 380 = .ok (.iload_n 3, 1) := by decide +kernel
theorem dL_law_381 : decode cL_law 381 = .ok (.iconst 2, 1) := by decide +kernel
theorem dL_law_382 : decode cL_law 382 = .ok (.iadd, 1) := by decide +kernel
theorem dL_law_383 : decode cL_law 383 = .ok (.iaload, 1) := by decide +kernel
theorem dL_law_384 : decode cL_law 384 = .ok (.invokevirtual 48, 3) := by decide +kernel
theorem dL_law_387 : decode cL_law 387 = .ok (.if_icmp .eq 467, 3) := by decide +kernel
theorem dL_law_390 : decode cL_law 390 = .ok (.iconst 0, 1) := by decide +kernel
theorem dL_law_391 : decode cL_law 391 = .ok (.ireturn, 1) := by decide +kernel
theorem dL_law_392 : decode cL_law 392 = .ok (.aload_n 1, 1) := by decide +kernel
theorem dL_law_393 : decode cL_law 393 = .ok (.aload_n 0, 1) := by decide +kernel
theorem dL_law_394 : decode cL_law 394 = .ok (.iload_n 3, 1) := by decide +kernel
theorem dL_law_395 : decode cL_law 395 = .ok (.iconst 1, 1) := by decide +kernel
theorem dL_law_396 : decode cL_law 396 = .ok (.iadd, 1) := by decide +kernel
theorem dL_law_397 : decode cL_law 397 = .ok (.iaload, 1) := by decide +kernel
theorem dL_law_398 : decode cL_law 398 = .ok (.aload_n 0, 1) := by decide +kernel
theorem dL_law_399 : decode cL_law 399 = .ok (.iload_n 3, 1) := by decide +kernel
theorem dL_law_400 : decode cL_law 400 = .ok (.iconst 2, 1) := by decide +kernel
theorem dL_law_401 : decode cL_law 401 = .ok (.iadd, 1) := by decide +kernel
theorem dL_law_402 : decode cL_law 402 = .ok (.iaload, 1) := by decide +kernel
theorem dL_law_403 : decode cL_law 403 = .ok (.invokevirtual 49, 3) := by decide +kernel
theorem dL_law_406 : decode cL_law 406 = .ok (.aload_n 2, 1) := by decide +kernel
theorem dL_law_407 : decode cL_law 407 = .ok (.aload_n 0, 1) := by decide +kernel
theorem dL_law_408 : decode cL_law 408 = .ok (.iload_n 3, 1) := by decide +kernel
theorem dL_law_409 : decode cL_law 409 = .ok (.iconst 1, 1) := by decide +kernel
theorem dL_law_410 : decode cL_law 410 = .ok (.iadd, 1) := by decide +kernel
theorem dL_law_411 : decode cL_law 411 = .ok (.iaload, 1) := by decide +kernel
theorem dL_law_412 : decode cL_law 412 = .ok (.aload_n 0, 1) := by decide +kernel
theorem dL_law_413 : decode cL_law 413 = .ok (.iload_n 3, 1) := by decide +kernel
theorem dL_law_414 : decode cL_law 414 = .ok (.iconst 2, 1) := by decide +kernel
theorem dL_law_415 : decode cL_law 415 = .ok (.iadd, 1) := by decide +kernel
theorem dL_law_416 : decode cL_law 416 = .ok (.iaload, 1) := by decide +kernel
theorem dL_law_417 : decode cL_law 417 = .ok (.invokevirtual 52, 3) := by decide +kernel
theorem dL_law_420 : decode cL_law 420 = .ok (.if_icmp .eq 434, 3) := by decide +kernel
theorem dL_law_423 : decode cL_law 423 = .ok (.iconst 0, 1) := by decide +kernel
theorem dL_law_424 : decode cL_law 424 = .ok (.ireturn, 1) := by decide +kernel
theorem dL_law_425 : decode cL_law 425 = .ok (.aload_n 1, 1) := by decide +kernel
theorem dL_law_426 : decode cL_law 426 = .ok (.aload_n 0, 1) := by decide +kernel
theorem dL_law_427 : decode cL_law 427 = .ok (.iload_n 3, 1) := by decide +kernel
theorem dL_law_428 : decode cL_law 428 = .ok (.iconst 1, 1) := by decide +kernel
theorem dL_law_429 : decode cL_law 429 = .ok (.iadd, 1) := by decide +kernel
theorem dL_law_430 : decode cL_law 430 = .ok (.iaload, 1) := by decide +kernel
theorem dL_law_431 : decode cL_law 431 = .ok (.aload_n 0, 1) := by decide +kernel
theorem dL_law_432 : decode cL_law 432 = .ok (.iload_n 3, 1) := by decide +kernel
theorem dL_law_433 : decode cL_law 433 = .ok (.iconst 2, 1) := by decide +kernel
theorem dL_law_434 : decode cL_law 434 = .ok (.iadd, 1) := by decide +kernel
theorem dL_law_435 : decode cL_law 435 = .ok (.iaload, 1) := by decide +kernel
theorem dL_law_436 : decode cL_law 436 = .ok (.aload_n 0, 1) := by decide +kernel
theorem dL_law_437 : decode cL_law 437 = .ok (.iload_n 3, 1) := by decide +kernel
theorem dL_law_438 : decode cL_law 438 = .ok (.iconst 3, 1) := by decide +kernel
theorem dL_law_439 : decode cL_law 439 = .ok (.iadd, 1) := by decide +kernel
theorem dL_law_440 : decode cL_law 440 = .ok (.iaload, 1) := by decide +kernel
theorem dL_law_441 : decode cL_law 441 = .ok (.invokevirtual 53, 3) := by decide +kernel
theorem dL_law_444 : decode cL_law 444 = .ok (.aload_n 2, 1) := by decide +kernel
theorem dL_law_445 : decode cL_law 445 = .ok (.aload_n 0, 1) := by decide +kernel
theorem dL_law_446 : decode cL_law 446 = .ok (.iload_n 3, 1) := by decide +kernel
theorem dL_law_447 : decode cL_law 447 = .ok (.iconst 1, 1) := by decide +kernel
theorem dL_law_448 : decode cL_law 448 = .ok (.iadd, 1) := by decide +kernel
theorem dL_law_449 : decode cL_law 449 = .ok (.iaload, 1) := by decide +kernel
theorem dL_law_450 : decode cL_law 450 = .ok (.aload_n 0, 1) := by decide +kernel
theorem dL_law_451 : decode cL_law 451 = .ok (.iload_n 3, 1) := by decide +kernel
theorem dL_law_452 : decode cL_law 452 = .ok (.iconst 2, 1) := by decide +kernel
theorem dL_law_453 : decode cL_law 453 = .ok (.iadd, 1) := by decide +kernel
theorem dL_law_454 : decode cL_law 454 = .ok (.iaload, 1) := by decide +kernel
theorem dL_law_455 : decode cL_law 455 = .ok (.aload_n 0, 1) := by decide +kernel
theorem dL_law_456 : decode cL_law 456 = .ok (.iload_n 3, 1) := by decide +kernel
theorem dL_law_457 : decode cL_law 457 = .ok (.iconst 3, 1) := by decide +kernel
theorem dL_law_458 : decode cL_law 458 = .ok (.iadd, 1) := by decide +kernel
theorem dL_law_459 : decode cL_law 459 = .ok (.iaload, 1) := by decide +kernel
theorem dL_law_460 : decode cL_law 460 = .ok (.invokevirtual 57, 3) := by decide +kernel
theorem dL_law_463 : decode cL_law 463 = .ok (.if_icmp .eq 391, 3) := by decide +kernel
theorem dL_law_466 : decode cL_law 466 = .ok (.iconst 0, 1) := by decide +kernel
theorem dL_law_467 : decode cL_law 467 = .ok (.ireturn, 1) := by decide +kernel
theorem dL_law_468 : decode cL_law 468 = .ok (.aload_n 1, 1) := by decide +kernel
theorem dL_law_469 : decode cL_law 469 = .ok (.aload_n 0, 1) := by decide +kernel
theorem dL_law_470 : decode cL_law 470 = .ok (.iload_n 3, 1) := by decide +kernel
theorem dL_law_471 : decode cL_law 471 = .ok (.iconst 1, 1) := by decide +kernel
theorem dL_law_472 : decode cL_law 472 = .ok (.iadd, 1) := by decide +kernel
theorem dL_law_473 : decode cL_law 473 = .ok (.iaload, 1) := by decide +kernel
theorem dL_law_474 : decode cL_law 474 = .ok (.aload_n 0, 1) := by decide +kernel
theorem dL_law_475 : decode cL_law 475 = .ok (.iload_n 3, 1) := by decide +kernel
theorem dL_law_476 : decode cL_law 476 = .ok (.iconst 2, 1) := by decide +kernel
theorem dL_law_477 : decode cL_law 477 = .ok (.iadd, 1) := by decide +kernel
theorem dL_law_478 : decode cL_law 478 = .ok (.iaload, 1) := by decide +kernel
theorem dL_law_479 : decode cL_law 479 = .ok (.invokevirtual 58, 3) := by decide +kernel
theorem dL_law_482 : decode cL_law 482 = .ok (.aload_n 2, 1) := by decide +kernel
theorem dL_law_483 : decode cL_law 483 = .ok (.aload_n 0, 1) := by decide +kernel
theorem dL_law_484 : decode cL_law 484 = .ok (.iload_n 3, 1) := by decide +kernel
theorem dL_law_485 : decode cL_law 485 = .ok (.iconst 1, 1) := by decide +kernel
theorem dL_law_486 : decode cL_law 486 = .ok (.iadd, 1) := by decide +kernel
theorem dL_law_487 : decode cL_law 487 = .ok (.iaload, 1) := by decide +kernel
theorem dL_law_488 : decode cL_law 488 = .ok (.aload_n 0, 1) := by decide +kernel
theorem dL_law_489 : decode cL_law 489 = .ok (.iload_n 3, 1) := by decide +kernel
theorem dL_law_490 : decode cL_law 490 = .ok (.iconst 2, 1) := by decide +kernel
theorem dL_law_491 : decode cL_law 491 = .ok (.iadd, 1) := by decide +kernel
theorem dL_law_492 : decode cL_law 492 = .ok (.iaload, 1) := by decide +kernel
theorem dL_law_493 : decode cL_law 493 = .ok (.invokevirtual 61, 3) := by decide +kernel
theorem dL_law_496 : decode cL_law 496 = .ok (.if_icmp .eq 358, 3) := by decide +kernel
theorem dL_law_499 : decode cL_law 499 = .ok (.iconst 0, 1) := by decide +kernel
theorem dL_law_500 : decode cL_law 500 = .ok (.ireturn, 1) := by decide +kernel
theorem dL_law_501 : decode cL_law 501 = .ok (.aload_n 1, 1) := by decide +kernel
theorem dL_law_502 : decode cL_law 502 = .ok (.aload_n 0, 1) := by decide +kernel
theorem dL_law_503 : decode cL_law 503 = .ok (.iload_n 3, 1) := by decide +kernel
theorem dL_law_504 : decode cL_law 504 = .ok (.iconst 1, 1) := by decide +kernel
theorem dL_law_505 : decode cL_law 505 = .ok (.iadd, 1) := by decide +kernel
theorem dL_law_506 : decode cL_law 506 = .ok (.iaload, 1) := by decide +kernel
theorem dL_law_507 : decode cL_law 507 = .ok (.invokevirtual 62, 3) := by decide +kernel
theorem dL_law_510 : decode cL_law 510 = .ok (.aload_n 2, 1) := by decide +kernel
theorem dL_law_511 : decode cL_law 511 = .ok (.aload_n 0, 1) := by decide +kernel
theorem dL_law_512 : decode cL_law 512 = .ok (.iload_n 3, 1) := by decide +kernel
theorem dL_law_513 : decode cL_law 513 = .ok (.iconst 1, 1) := by decide +kernel
theorem dL_law_514 : decode cL_law 514 = .ok (.iadd, 1) := by decide +kernel
theorem dL_law_515 : decode cL_law 515 = .ok (.iaload, 1) := by decide +kernel
theorem dL_law_516 : decode cL_law 516 = .ok (.invokevirtual 66, 3) := by decide +kernel
theorem dL_law_519 : decode cL_law 519 = .ok (.if_icmp .eq 335, 3) := by decide +kernel
theorem dL_law_522 : decode cL_law 522 = .ok (.iconst 0, 1) := by decide +kernel
theorem dL_law_523 : decode cL_law 523 = .ok (.ireturn, 1) := by decide +kernel
theorem dL_law_524 : decode cL_law 524 = .ok (.aload_n 1, 1) := by decide +kernel
theorem dL_law_525 : decode cL_law 525 = .ok (.aload_n 0, 1) := by decide +kernel
theorem dL_law_526 : decode cL_law 526 = .ok (.iload_n 3, 1) := by decide +kernel
theorem dL_law_527 : decode cL_law 527 = .ok (.iconst 1, 1) := by decide +kernel
theorem dL_law_528 : decode cL_law 528 = .ok (.iadd, 1) := by decide +kernel
theorem dL_law_529 : decode cL_law 529 = .ok (.iaload, 1) := by decide +kernel
theorem dL_law_530 : decode cL_law 530 = .ok (.invokevirtual 67, 3) := by decide +kernel
theorem dL_law_533 : decode cL_law 533 = .ok (.aload_n 2, 1) := by decide +kernel
theorem dL_law_534 : decode cL_law 534 = .ok (.aload_n 0, 1) := by decide +kernel
theorem dL_law_535 : decode cL_law 535 = .ok (.iload_n 3, 1) := by decide +kernel
theorem dL_law_536 : decode cL_law 536 = .ok (.iconst 1, 1) := by decide +kernel
theorem dL_law_537 : decode cL_law 537 = .ok (.iadd, 1) := by decide +kernel
theorem dL_law_538 : decode cL_law 538 = .ok (.iaload, 1) := by decide +kernel
theorem dL_law_539 : decode cL_law 539 = .ok (.invokevirtual 70, 3) := by decide +kernel
theorem dL_law_542 : decode cL_law 542 = .ok (.if_icmp .eq 312, 3) := by decide +kernel
theorem dL_law_545 : decode cL_law 545 = .ok (.iconst 0, 1) := by decide +kernel
theorem dL_law_546 : decode cL_law 546 = .ok (.ireturn, 1) := by decide +kernel
theorem dL_law_547 : decode cL_law 547 = .ok (.aload_n 1, 1) := by decide +kernel
theorem dL_law_548 : decode cL_law 548 = .ok (.aload_n 0, 1) := by decide +kernel
theorem dL_law_549 : decode cL_law 549 = .ok (.iload_n 3, 1) := by decide +kernel
theorem dL_law_550 : decode cL_law 550 = .ok (.iconst 1, 1) := by decide +kernel
theorem dL_law_551 : decode cL_law 551 = .ok (.iadd, 1) := by decide +kernel
theorem dL_law_552 : decode cL_law 552 = .ok (.iaload, 1) := by decide +kernel
theorem dL_law_553 : decode cL_law 553 = .ok (.invokevirtual 71, 3) := by decide +kernel
theorem dL_law_556 : decode cL_law 556 = .ok (.aload_n 2, 1) := by decide +kernel
theorem dL_law_557 : decode cL_law 557 = .ok (.aload_n 0, 1) := by decide +kernel
theorem dL_law_558 : decode cL_law 558 = .ok (.iload_n 3, 1) := by decide +kernel
theorem dL_law_559 : decode cL_law 559 = .ok (.iconst 1, 1) := by decide +kernel
theorem dL_law_560 : decode cL_law 560 = .ok (.iadd, 1) := by decide +kernel
theorem dL_law_561 : decode cL_law 561 = .ok (.iaload, 1) := by decide +kernel
theorem dL_law_562 : decode cL_law 562 = .ok (.invokevirtual 74, 3) := by decide +kernel
theorem dL_law_565 : decode cL_law 565 = .ok (.if_icmp .eq 289, 3) := by decide +kernel
theorem dL_law_568 : decode cL_law 568 = .ok (.iconst 0, 1) := by decide +kernel
theorem dL_law_569 : decode cL_law 569 = .ok (.ireturn, 1) := by decide +kernel
theorem dL_law_570 : decode cL_law 570 = .ok (.aload_n 1, 1) := by decide +kernel
theorem dL_law_571 : decode cL_law 571 = .ok (.aload_n 0, 1) := by decide +kernel
theorem dL_law_572 : decode cL_law 572 = .ok (.iload_n 3, 1) := by decide +kernel
theorem dL_law_573 : decode cL_law 573 = .ok (.iconst 1, 1) := by decide +kernel
theorem dL_law_574 : decode cL_law 574 = .ok (.iadd, 1) := by decide +kernel
theorem dL_law_575 : decode cL_law 575 = .ok (.iaload, 1) := by decide +kernel
theorem dL_law_576 : decode cL_law 576 = .ok (.aload_n 0, 1) := by decide +kernel
theorem dL_law_577 : decode cL_law 577 = .ok (.iload_n 3, 1) := by decide +kernel
theorem dL_law_578 : decode cL_law 578 = .ok (.iconst 2, 1) := by decide +kernel
theorem dL_law_579 : decode cL_law 579 = .ok (.iadd, 1) := by decide +kernel
theorem dL_law_580 : decode cL_law 580 = .ok (.iaload, 1) := by decide +kernel
theorem dL_law_581 : decode cL_law 581 = .ok (.invokevirtual 75, 3) := by decide +kernel
theorem dL_law_584 : decode cL_law 584 = .ok (.aload_n 2, 1) := by decide +kernel
theorem dL_law_585 : decode cL_law 585 = .ok (.aload_n 0, 1) := by decide +kernel
theorem dL_law_586 : decode cL_law 586 = .ok (.iload_n 3, 1) := by decide +kernel
theorem dL_law_587 : decode cL_law 587 = .ok (.iconst 1, 1) := by decide +kernel
theorem dL_law_588 : decode cL_law 588 = .ok (.iadd, 1) := by decide +kernel
theorem dL_law_589 : decode cL_law 589 = .ok (.iaload, 1) := by decide +kernel
theorem dL_law_590 : decode cL_law 590 = .ok (.aload_n 0, 1) := by decide +kernel
theorem dL_law_591 : decode cL_law 591 = .ok (.iload_n 3, 1) := by decide +kernel
theorem dL_law_592 : decode cL_law 592 = .ok (.iconst 2, 1) := by decide +kernel
theorem dL_law_593 : decode cL_law 593 = .ok (.iadd, 1) := by decide +kernel
theorem dL_law_594 : decode cL_law 594 = .ok (.iaload, 1) := by decide +kernel
theorem dL_law_595 : decode cL_law 595 = .ok (.invokevirtual 78, 3) := by decide +kernel
theorem dL_law_598 : decode cL_law 598 = .ok (.if_icmp .eq 256, 3) := by decide +kernel
theorem dL_law_601 : decode cL_law 601 = .ok (.iconst 0, 1) := by decide +kernel
theorem dL_law_602 : decode cL_law 602 = .ok (.ireturn, 1) := by decide +kernel
theorem dL_law_603 : decode cL_law 603 = .ok (.aload_n 1, 1) := by decide +kernel
theorem dL_law_604 : decode cL_law 604 = .ok (.aload_n 0, 1) := by decide +kernel
theorem dL_law_605 : decode cL_law 605 = .ok (.iload_n 3, 1) := by decide +kernel
theorem dL_law_606 : decode cL_law 606 = .ok (.iconst 1, 1) := by decide +kernel
theorem dL_law_607 : decode cL_law 607 = .ok (.iadd, 1) := by decide +kernel
theorem dL_law_608 : decode cL_law 608 = .ok (.iaload, 1) := by decide +kernel
theorem dL_law_609 : decode cL_law 609 = .ok (.aload_n 0, 1) := by decide +kernel
theorem dL_law_610 : decode cL_law 610 = .ok (.iload_n 3, 1) := by decide +kernel
theorem dL_law_611 : decode cL_law 611 = .ok (.iconst 2, 1) := by decide +kernel
theorem dL_law_612 : decode cL_law 612 = .ok (.iadd, 1) := by decide +kernel
theorem dL_law_613 : decode cL_law 613 = .ok (.iaload, 1) := by decide +kernel
theorem dL_law_614 : decode cL_law 614 = .ok (.invokevirtual 79, 3) := by decide +kernel
theorem dL_law_617 : decode cL_law 617 = .ok (.aload_n 2, 1) := by decide +kernel
theorem dL_law_618 : decode cL_law 618 = .ok (.aload_n 0, 1) := by decide +kernel
theorem dL_law_619 : decode cL_law 619 = .ok (.iload_n 3, 1) := by decide +kernel
theorem dL_law_620 : decode cL_law 620 = .ok (.iconst 1, 1) := by decide +kernel
theorem dL_law_621 : decode cL_law 621 = .ok (.iadd, 1) := by decide +kernel
theorem dL_law_622 : decode cL_law 622 = .ok (.iaload, 1) := by decide +kernel
theorem dL_law_623 : decode cL_law 623 = .ok (.aload_n 0, 1) := by decide +kernel
theorem dL_law_624 : decode cL_law 624 = .ok (.iload_n 3, 1) := by decide +kernel
theorem dL_law_625 : decode cL_law 625 = .ok (.iconst 2, 1) := by decide +kernel
theorem dL_law_626 : decode cL_law 626 = .ok (.iadd, 1) := by decide +kernel
theorem dL_law_627 : decode cL_law 627 = .ok (.iaload, 1) := by decide +kernel
theorem dL_law_628 : decode cL_law 628 = .ok (.invokevirtual 82, 3) := by decide +kernel
theorem dL_law_631 : decode cL_law 631 = .ok (.if_icmp .eq 223, 3) := by decide +kernel
theorem dL_law_634 : decode cL_law 634 = .ok (.iconst 0, 1) := by decide +kernel
theorem dL_law_635 : decode cL_law 635 = .ok (.ireturn, 1) := by decide +kernel
theorem dL_law_636 : decode cL_law 636 = .ok (.aload_n 1, 1) := by decide +kernel
theorem dL_law_637 : decode cL_law 637 = .ok (.aload_n 0, 1) := by decide +kernel
theorem dL_law_638 : decode cL_law 638 = .ok (.iload_n 3, 1) := by decide +kernel
theorem dL_law_639 : decode cL_law 639 = .ok (.iconst 1, 1) := by decide +kernel
theorem dL_law_640 : decode cL_law 640 = .ok (.iadd, 1) := by decide +kernel
theorem dL_law_641 : decode cL_law 641 = .ok (.iaload, 1) := by decide +kernel
theorem dL_law_642 : decode cL_law 642 = .ok (.aload_n 0, 1) := by decide +kernel
theorem dL_law_643 : decode cL_law 643 = .ok (.iload_n 3, 1) := by decide +kernel
theorem dL_law_644 : decode cL_law 644 = .ok (.iconst 2, 1) := by decide +kernel
theorem dL_law_645 : decode cL_law 645 = .ok (.iadd, 1) := by decide +kernel
theorem dL_law_646 : decode cL_law 646 = .ok (.iaload, 1) := by decide +kernel
theorem dL_law_647 : decode cL_law 647 = .ok (.aload_n 0, 1) := by decide +kernel
theorem dL_law_648 : decode cL_law 648 = .ok (.iload_n 3, 1) := by decide +kernel
theorem dL_law_649 : decode cL_law 649 = .ok (.iconst 3, 1) := by decide +kernel
theorem dL_law_650 : decode cL_law 650 = .ok (.iadd, 1) := by decide +kernel
theorem dL_law_651 : decode cL_law 651 = .ok (.iaload, 1) := by decide +kernel
theorem dL_law_652 : decode cL_law 652 = .ok (.aload_n 0, 1) := by decide +kernel
theorem dL_law_653 : decode cL_law 653 = .ok (.iload_n 3, 1) := by decide +kernel
theorem dL_law_654 : decode cL_law 654 = .ok (.iconst 4, 1) := by decide +kernel
theorem dL_law_655 : decode cL_law 655 = .ok (.iadd, 1) := by decide +kernel
theorem dL_law_656 : decode cL_law 656 = .ok (.iaload, 1) := by decide +kernel
theorem dL_law_657 : decode cL_law 657 = .ok (.invokevirtual 83, 3) := by decide +kernel
theorem dL_law_660 : decode cL_law 660 = .ok (.aload_n 2, 1) := by decide +kernel
theorem dL_law_661 : decode cL_law 661 = .ok (.aload_n 0, 1) := by decide +kernel
theorem dL_law_662 : decode cL_law 662 = .ok (.iload_n 3, 1) := by decide +kernel
theorem dL_law_663 : decode cL_law 663 = .ok (.iconst 1, 1) := by decide +kernel
theorem dL_law_664 : decode cL_law 664 = .ok (.iadd, 1) := by decide +kernel
theorem dL_law_665 : decode cL_law 665 = .ok (.iaload, 1) := by decide +kernel
theorem dL_law_666 : decode cL_law 666 = .ok (.aload_n 0, 1) := by decide +kernel
theorem dL_law_667 : decode cL_law 667 = .ok (.iload_n 3, 1) := by decide +kernel
theorem dL_law_668 : decode cL_law 668 = .ok (.iconst 2, 1) := by decide +kernel
theorem dL_law_669 : decode cL_law 669 = .ok (.iadd, 1) := by decide +kernel
theorem dL_law_670 : decode cL_law 670 = .ok (.iaload, 1) := by decide +kernel
theorem dL_law_671 : decode cL_law 671 = .ok (.aload_n 0, 1) := by decide +kernel
theorem dL_law_672 : decode cL_law 672 = .ok (.iload_n 3, 1) := by decide +kernel
theorem dL_law_673 : decode cL_law 673 = .ok (.iconst 3, 1) := by decide +kernel
theorem dL_law_674 : decode cL_law 674 = .ok (.iadd, 1) := by decide +kernel
theorem dL_law_675 : decode cL_law 675 = .ok (.iaload, 1) := by decide +kernel
theorem dL_law_676 : decode cL_law 676 = .ok (.aload_n 0, 1) := by decide +kernel
theorem dL_law_677 : decode cL_law 677 = .ok (.iload_n 3, 1) := by decide +kernel
theorem dL_law_678 : decode cL_law 678 = .ok (.iconst 4, 1) := by decide +kernel
theorem dL_law_679 : decode cL_law 679 = .ok (.iadd, 1) := by decide +kernel
theorem dL_law_680 : decode cL_law 680 = .ok (.iaload, 1) := by decide +kernel
theorem dL_law_681 : decode cL_law 681 = .ok (.invokevirtual 87, 3) := by decide +kernel
theorem dL_law_684 : decode cL_law 684 = .ok (.if_icmp .eq 170, 3) := by decide +kernel
theorem dL_law_687 : decode cL_law 687 = .ok (.iconst 0, 1) := by decide +kernel
theorem dL_law_688 : decode cL_law 688 = .ok (.ireturn, 1) := by decide +kernel
theorem dL_law_689 : decode cL_law 689 = .ok (.aload_n 1, 1) := by decide +kernel
theorem dL_law_690 : decode cL_law 690 = .ok (.aload_n 0, 1) := by decide +kernel
theorem dL_law_691 : decode cL_law 691 = .ok (.iload_n 3, 1) := by decide +kernel
theorem dL_law_692 : decode cL_law 692 = .ok (.iconst 1, 1) := by decide +kernel
theorem dL_law_693 : decode cL_law 693 = .ok (.iadd, 1) := by decide +kernel
theorem dL_law_694 : decode cL_law 694 = .ok (.iaload, 1) := by decide +kernel
theorem dL_law_695 : decode cL_law 695 = .ok (.aload_n 0, 1) := by decide +kernel
theorem dL_law_696 : decode cL_law 696 = .ok (.iload_n 3, 1) := by decide +kernel
theorem dL_law_697 : decode cL_law 697 = .ok (.iconst 2, 1) := by decide +kernel
theorem dL_law_698 : decode cL_law 698 = .ok (.iadd, 1) := by decide +kernel
theorem dL_law_699 : decode cL_law 699 = .ok (.iaload, 1) := by decide +kernel
theorem dL_law_700 : decode cL_law 700 = .ok (.invokevirtual 88, 3) := by decide +kernel
theorem dL_law_703 : decode cL_law 703 = .ok (.aload_n 2, 1) := by decide +kernel
theorem dL_law_704 : decode cL_law 704 = .ok (.aload_n 0, 1) := by decide +kernel
theorem dL_law_705 : decode cL_law 705 = .ok (.iload_n 3, 1) := by decide +kernel
theorem dL_law_706 : decode cL_law 706 = .ok (.iconst 1, 1) := by decide +kernel
theorem dL_law_707 : decode cL_law 707 = .ok (.iadd, 1) := by decide +kernel
theorem dL_law_708 : decode cL_law 708 = .ok (.iaload, 1) := by decide +kernel
theorem dL_law_709 : decode cL_law 709 = .ok (.aload_n 0, 1) := by decide +kernel
theorem dL_law_710 : decode cL_law 710 = .ok (.iload_n 3, 1) := by decide +kernel
theorem dL_law_711 : decode cL_law 711 = .ok (.iconst 2, 1) := by decide +kernel
theorem dL_law_712 : decode cL_law 712 = .ok (.iadd, 1) := by decide +kernel
theorem dL_law_713 : decode cL_law 713 = .ok (.iaload, 1) := by decide +kernel
theorem dL_law_714 : decode cL_law 714 = .ok (.invokevirtual 91, 3) := by decide +kernel
theorem dL_law_717 : decode cL_law 717 = .ok (.if_icmp .eq 137, 3) := by decide +kernel
theorem dL_law_720 : decode cL_law 720 = .ok (.iconst 0, 1) := by decide +kernel
theorem dL_law_721 : decode cL_law 721 = .ok (.ireturn, 1) := by decide +kernel
theorem dL_law_722 : decode cL_law 722 = .ok (.aload_n 1, 1) := by decide +kernel
theorem dL_law_723 : decode cL_law 723 = .ok (.aload_n 0, 1) := by decide +kernel
theorem dL_law_724 : decode cL_law 724 = .ok (.iload_n 3, 1) := by decide +kernel
theorem dL_law_725 : decode cL_law 725 = .ok (.iconst 1, 1) := by decide +kernel
theorem dL_law_726 : decode cL_law 726 = .ok (.iadd, 1) := by decide +kernel
theorem dL_law_727 : decode cL_law 727 = .ok (.iaload, 1) := by decide +kernel
theorem dL_law_728 : decode cL_law 728 = .ok (.aload_n 0, 1) := by decide +kernel
theorem dL_law_729 : decode cL_law 729 = .ok (.iload_n 3, 1) := by decide +kernel
theorem dL_law_730 : decode cL_law 730 = .ok (.iconst 2, 1) := by decide +kernel
theorem dL_law_731 : decode cL_law 731 = .ok (.iadd, 1) := by decide +kernel
theorem dL_law_732 : decode cL_law 732 = .ok (.iaload, 1) := by decide +kernel
theorem dL_law_733 : decode cL_law 733 = .ok (.aload_n 0, 1) := by decide +kernel
theorem dL_law_734 : decode cL_law 734 = .ok (.iload_n 3, 1) := by decide +kernel
theorem dL_law_735 : decode cL_law 735 = .ok (.iconst 3, 1) := by decide +kernel
theorem dL_law_736 : decode cL_law 736 = .ok (.iadd, 1) := by decide +kernel
theorem dL_law_737 : decode cL_law 737 = .ok (.iaload, 1) := by decide +kernel
theorem dL_law_738 : decode cL_law 738 = .ok (.invokevirtual 92, 3) := by decide +kernel
theorem dL_law_741 : decode cL_law 741 = .ok (.aload_n 2, 1) := by decide +kernel
theorem dL_law_742 : decode cL_law 742 = .ok (.aload_n 0, 1) := by decide +kernel
theorem dL_law_743 : decode cL_law 743 = .ok (.iload_n 3, 1) := by decide +kernel
theorem dL_law_744 : decode cL_law 744 = .ok (.iconst 1, 1) := by decide +kernel
theorem dL_law_745 : decode cL_law 745 = .ok (.iadd, 1) := by decide +kernel
theorem dL_law_746 : decode cL_law 746 = .ok (.iaload, 1) := by decide +kernel
theorem dL_law_747 : decode cL_law 747 = .ok (.aload_n 0, 1) := by decide +kernel
theorem dL_law_748 : decode cL_law 748 = .ok (.iload_n 3, 1) := by decide +kernel
theorem dL_law_749 : decode cL_law 749 = .ok (.iconst 2, 1) := by decide +kernel
theorem dL_law_750 : decode cL_law 750 = .ok (.iadd, 1) := by decide +kernel
theorem dL_law_751 : decode cL_law 751 = .ok (.iaload, 1) := by decide +kernel
theorem dL_law_752 : decode cL_law 752 = .ok (.aload_n 0, 1) := by decide +kernel
theorem dL_law_753 : decode cL_law 753 = .ok (.iload_n 3, 1) := by decide +kernel
theorem dL_law_754 : decode cL_law 754 = .ok (.iconst 3, 1) := by decide +kernel
theorem dL_law_755 : decode cL_law 755 = .ok (.iadd, 1) := by decide +kernel
theorem dL_law_756 : decode cL_law 756 = .ok (.iaload, 1) := by decide +kernel
theorem dL_law_757 : decode cL_law 757 = .ok (.invokevirtual 95, 3) := by decide +kernel
theorem dL_law_760 : decode cL_law 760 = .ok (.if_icmp .eq 94, 3) := by decide +kernel
theorem dL_law_763 : decode cL_law 763 = .ok (.iconst 0, 1) := by decide +kernel
theorem dL_law_764 : decode cL_law 764 = .ok (.ireturn, 1) := by decide +kernel
theorem dL_law_765 : decode cL_law 765 = .ok (.aload_n 1, 1) := by decide +kernel
theorem dL_law_766 : decode cL_law 766 = .ok (.aload_n 0, 1) := by decide +kernel
theorem dL_law_767 : decode cL_law 767 = .ok (.iload_n 3, 1) := by decide +kernel
theorem dL_law_768 : decode cL_law 768 = .ok (.iconst 1, 1) := by decide +kernel
theorem dL_law_769 : decode cL_law 769 = .ok (.iadd, 1) := by decide +kernel
theorem dL_law_770 : decode cL_law 770 = .ok (.iaload, 1) := by decide +kernel
theorem dL_law_771 : decode cL_law 771 = .ok (.aload_n 0, 1) := by decide +kernel
theorem dL_law_772 : decode cL_law 772 = .ok (.iload_n 3, 1) := by decide +kernel
theorem dL_law_773 : decode cL_law 773 = .ok (.iconst 2, 1) := by decide +kernel
theorem dL_law_774 : decode cL_law 774 = .ok (.iadd, 1) := by decide +kernel
theorem dL_law_775 : decode cL_law 775 = .ok (.iaload, 1) := by decide +kernel
theorem dL_law_776 : decode cL_law 776 = .ok (.invokevirtual 96, 3) := by decide +kernel
theorem dL_law_779 : decode cL_law 779 = .ok (.aload_n 2, 1) := by decide +kernel
theorem dL_law_780 : decode cL_law 780 = .ok (.aload_n 0, 1) := by decide +kernel
theorem dL_law_781 : decode cL_law 781 = .ok (.iload_n 3, 1) := by decide +kernel
theorem dL_law_782 : decode cL_law 782 = .ok (.iconst 1, 1) := by decide +kernel
theorem dL_law_783 : decode cL_law 783 = .ok (.iadd, 1) := by decide +kernel
theorem dL_law_784 : decode cL_law 784 = .ok (.iaload, 1) := by decide +kernel
theorem dL_law_785 : decode cL_law 785 = .ok (.aload_n 0, 1) := by decide +kernel
theorem dL_law_786 : decode cL_law 786 = .ok (.iload_n 3, 1) := by decide +kernel
theorem dL_law_787 : decode cL_law 787 = .ok (.iconst 2, 1) := by decide +kernel
theorem dL_law_788 : decode cL_law 788 = .ok (.iadd, 1) := by decide +kernel
theorem dL_law_789 : decode cL_law 789 = .ok (.iaload, 1) := by decide +kernel
theorem dL_law_790 : decode cL_law 790 = .ok (.invokevirtual 99, 3) := by decide +kernel
theorem dL_law_793 : decode cL_law 793 = .ok (.if_icmp .eq 61, 3) := by decide +kernel
theorem dL_law_796 : decode cL_law 796 = .ok (.iconst 0, 1) := by decide +kernel
theorem dL_law_797 : decode cL_law 797 = .ok (.ireturn, 1) := by decide +kernel
theorem dL_law_798 : decode cL_law 798 = .ok (.aload_n 1, 1) := by decide +kernel
theorem dL_law_799 : decode cL_law 799 = .ok (.aload_n 0, 1) := by decide +kernel
theorem dL_law_800 : decode cL_law 800 = .ok (.iload_n 3, 1) := by decide +kernel
theorem dL_law_801 : decode cL_law 801 = .ok (.iconst 1, 1) := by decide +kernel
theorem dL_law_802 : decode cL_law 802 = .ok (.iadd, 1) := by decide +kernel
theorem dL_law_803 : decode cL_law 803 = .ok (.iaload, 1) := by decide +kernel
theorem dL_law_804 : decode cL_law 804 = .ok (.aload_n 0, 1) := by decide +kernel
theorem dL_law_805 : decode cL_law 805 = .ok (.iload_n 3, 1) := by decide +kernel
theorem dL_law_806 : decode cL_law 806 = .ok (.iconst 2, 1) := by decide +kernel
theorem dL_law_807 : decode cL_law 807 = .ok (.iadd, 1) := by decide +kernel
theorem dL_law_808 : decode cL_law 808 = .ok (.iaload, 1) := by decide +kernel
theorem dL_law_809 : decode cL_law 809 = .ok (.invokevirtual 100, 3) := by decide +kernel
theorem dL_law_812 : decode cL_law 812 = .ok (.aload_n 2, 1) := by decide +kernel
theorem dL_law_813 : decode cL_law 813 = .ok (.aload_n 0, 1) := by decide +kernel
theorem dL_law_814 : decode cL_law 814 = .ok (.iload_n 3, 1) := by decide +kernel
theorem dL_law_815 : decode cL_law 815 = .ok (.iconst 1, 1) := by decide +kernel
theorem dL_law_816 : decode cL_law 816 = .ok (.iadd, 1) := by decide +kernel
theorem dL_law_817 : decode cL_law 817 = .ok (.iaload, 1) := by decide +kernel
theorem dL_law_818 : decode cL_law 818 = .ok (.aload_n 0, 1) := by decide +kernel
theorem dL_law_819 : decode cL_law 819 = .ok (.iload_n 3, 1) := by decide +kernel
theorem dL_law_820 : decode cL_law 820 = .ok (.iconst 2, 1) := by decide +kernel
theorem dL_law_821 : decode cL_law 821 = .ok (.iadd, 1) := by decide +kernel
theorem dL_law_822 : decode cL_law 822 = .ok (.iaload, 1) := by decide +kernel
theorem dL_law_823 : decode cL_law 823 = .ok (.invokevirtual 103, 3) := by decide +kernel
theorem dL_law_826 : decode cL_law 826 = .ok (.if_icmp .eq 28, 3) := by decide +kernel
theorem dL_law_829 : decode cL_law 829 = .ok (.iconst 0, 1) := by decide +kernel
theorem dL_law_830 : decode cL_law 830 = .ok (.ireturn, 1) := by decide +kernel
theorem dL_law_831 : decode cL_law 831 = .ok (.aload_n 1, 1) := by decide +kernel
theorem dL_law_832 : decode cL_law 832 = .ok (.aload_n 0, 1) := by decide +kernel
theorem dL_law_833 : decode cL_law 833 = .ok (.iload_n 3, 1) := by decide +kernel
theorem dL_law_834 : decode cL_law 834 = .ok (.iconst 1, 1) := by decide +kernel
theorem dL_law_835 : decode cL_law 835 = .ok (.iadd, 1) := by decide +kernel
theorem dL_law_836 : decode cL_law 836 = .ok (.iaload, 1) := by decide +kernel
theorem dL_law_837 : decode cL_law 837 = .ok (.invokevirtual 104, 3) := by decide +kernel
theorem dL_law_840 : decode cL_law 840 = .ok (.aload_n 2, 1) := by decide +kernel
theorem dL_law_841 : decode cL_law 841 = .ok (.aload_n 0, 1) := by decide +kernel
theorem dL_law_842 : decode cL_law 842 = .ok (.iload_n 3, 1) := by decide +kernel
theorem dL_law_843 : decode cL_law 843 = .ok (.iconst 1, 1) := by decide +kernel
theorem dL_law_844 : decode cL_law 844 = .ok (.iadd, 1) := by decide +kernel
theorem dL_law_845 : decode cL_law 845 = .ok (.iaload, 1) := by decide +kernel
theorem dL_law_846 : decode cL_law 846 = .ok (.invokevirtual 107, 3) := by decide +kernel
theorem dL_law_849 : decode cL_law 849 = .ok (.if_icmp .eq 5, 3) := by decide +kernel
theorem dL_law_852 : decode cL_law 852 = .ok (.iconst 0, 1) := by decide +kernel
theorem dL_law_853 : decode cL_law 853 = .ok (.ireturn, 1) := by decide +kernel
theorem dL_law_854 : decode cL_law 854 = .ok (.iinc 3 7, 3) := by decide +kernel
theorem dL_law_857 : decode cL_law 857 = .ok (.goto (-839), 3) := by decide +kernel
theorem dL_law_860 : decode cL_law 860 = .ok (.iconst 1, 1) := by decide +kernel
theorem dL_law_861 : decode cL_law 861 = .ok (.ireturn, 1) := by decide +kernel
end
section
/-! The state of one side: cell by cell, index by index; what a pure function may ask of it. A guard that fails gives none. -/
abbrev St : Type := Nat → Nat → Int32
def ss (σ : St) (c k : Nat) (v : Int32) : St := fun c' => if c' = c then upd (σ c) k v else σ c'
def ld {α : Type} (σ : St) (c n : Nat) (i : Int32) (k : Int32 → Option α) : Option α := if i < 0 ∨ n ≤ i.toNatClampNeg then none else k (σ c i.toNatClampNeg)
def sd {α : Type} (σ : St) (c n : Nat) (i v : Int32) (k : St → Option α) : Option α := if i < 0 ∨ n ≤ i.toNatClampNeg then none else k (ss σ c i.toNatClampNeg v)
def lf {α : Type} (σ : St) (c j : Nat) (k : Int32 → Option α) : Option α := k (σ c j)
def sf {α : Type} (σ : St) (c j : Nat) (v : Int32) (k : St → Option α) : Option α := k (ss σ c j v)
def gb {α : Type} (b : Int32) (k : Option α) : Option α := if b = 0 ∨ b = 1 then k else none
def bi {α : Type} (o : Option Int32) (k : Int32 → Option α) : Option α := match o with
  | none => none
  | some r => k r
def bs {α : Type} (o : Option St) (k : St → Option α) : Option α := match o with
  | none => none
  | some r => k r
def bp {α : Type} (o : Option (Int32 × St)) (k : Int32 → St → Option α) : Option α := match o with
  | none => none
  | some r => k r.1 r.2
theorem ld_some {α : Type} {σ : St} {c n : Nat} {i : Int32} {k : Int32 → Option α} {o : α} (h : ld σ c n i k = some o) : vp_in i n ∧ ∃ x : Int32, x = σ c i.toNatClampNeg ∧ k x = some o := by
  unfold ld at h
  by_cases q : i < 0 ∨ n ≤ i.toNatClampNeg
  · rw [if_pos q] at h; cases h
  · rw [if_neg q] at h; exact ⟨q, _, rfl, h⟩
theorem sd_some {α : Type} {σ : St} {c n : Nat} {i v : Int32} {k : St → Option α} {o : α} (h : sd σ c n i v k = some o) : vp_in i n ∧ ∃ x : St, x = ss σ c i.toNatClampNeg v ∧ k x = some o := by
  unfold sd at h
  by_cases q : i < 0 ∨ n ≤ i.toNatClampNeg
  · rw [if_pos q] at h; cases h
  · rw [if_neg q] at h; exact ⟨q, _, rfl, h⟩
theorem lf_some {α : Type} {σ : St} {c j : Nat} {k : Int32 → Option α} {o : α} (h : lf σ c j k = some o) : ∃ x : Int32, x = σ c j ∧ k x = some o := ⟨_, rfl, h⟩
theorem sf_some {α : Type} {σ : St} {c j : Nat} {v : Int32} {k : St → Option α} {o : α} (h : sf σ c j v k = some o) : ∃ x : St, x = ss σ c j v ∧ k x = some o := ⟨_, rfl, h⟩
theorem gb_some {α : Type} {b : Int32} {k : Option α} {o : α} (h : gb b k = some o) : (b = 0 ∨ b = 1) ∧ k = some o := by
  unfold gb at h
  by_cases q : b = 0 ∨ b = 1
  · rw [if_pos q] at h; exact ⟨q, h⟩
  · rw [if_neg q] at h; cases h
theorem bi_some {α : Type} {o : Option Int32} {k : Int32 → Option α} {x : α} (h : bi o k = some x) : ∃ r : Int32, o = some r ∧ k r = some x := by
  cases o with
  | none => cases h
  | some r => exact ⟨r, rfl, h⟩
theorem bs_some {α : Type} {o : Option St} {k : St → Option α} {x : α} (h : bs o k = some x) : ∃ r : St, o = some r ∧ k r = some x := by
  cases o with
  | none => cases h
  | some r => exact ⟨r, rfl, h⟩
theorem bp_some {α : Type} {o : Option (Int32 × St)} {k : Int32 → St → Option α} {x : α} (h : bp o k = some x) : ∃ (r : Int32) (σ : St), o = some (r, σ) ∧ k r σ = some x := by
  cases o with
  | none => cases h
  | some r => exact ⟨r.1, r.2, rfl, h⟩
theorem if_t {α : Sort _} {c : Prop} [Decidable c] {a b o : α} (q : c) (h : (if c then a else b) = o) : a = o := by
  rw [if_pos q] at h; exact h
theorem if_f {α : Sort _} {c : Prop} [Decidable c] {a b o : α} (q : ¬ c) (h : (if c then a else b) = o) : b = o := by
  rw [if_neg q] at h; exact h
/-! addresses apart; the cells of one side -/
def nj (ad : Nat → Nat) (n : Nat) : Prop := ∀ i j, i < n → j < n → ad i = ad j → i = j
def aw (ad : Nat → Nat) (n : Nat) : Nat → Prop := fun q => ∃ j, j < n ∧ q = ad j
theorem wd_D {ad : Nat → Nat} {n : Nat} (hN : nj ad n) {ws : va_W} (h : ws.map (fun q => q.1) = (List.range n).map ad) : va_D (aw ad n) ws := by
  have at' : ∀ (k : Nat) (q : Nat × va_E), ws[k]? = some q → k < n ∧ q.1 = ad k := by
    intro k q hk
    have h1 : (ws.map (fun q => q.1))[k]? = some q.1 := by rw [List.getElem?_map, hk]; rfl
    rw [h, List.getElem?_map] at h1
    by_cases hn : k < n
    · rw [List.getElem?_range hn] at h1
      exact ⟨hn, (Option.some.inj h1).symm⟩
    · rw [List.getElem?_eq_none (by simpa using Nat.not_lt.mp hn)] at h1
      cases h1
  refine ⟨fun i j x y hx hy e => ?_, fun k q hk => ?_⟩
  · obtain ⟨h1, h2⟩ := at' i x hx
    obtain ⟨h3, h4⟩ := at' j y hy
    exact hN i j h1 h3 (by rw [← h2, ← h4]; exact e)
  · obtain ⟨h1, h2⟩ := at' k q hk
    exact ⟨k, h1, h2⟩
/-! what a method knows: the machine, its code, the words, its end -/
def cx (p : Program) (s : State) (m : MethodId) (meth : Method) (c : Code) (args : Array Value) (cc : ByteArray) (nL : Nat) (ret : Option FieldType) (own : String) (D : va_G) (tys : List (ClassId × FieldType)) : Prop :=
  p.tables.exec = Jvm.exec ∧ c.code = cc ∧ c.maxLocals = nL ∧ s.vm.findClass own = some m.cls ∧ (∀ w ∈ wsL_law, w.before args s = true) ∧ meth.sig.returnType = ret ∧ meth.locks = false ∧ va_K D vwCl tys s
def pw (D : va_G) (wd : St → va_W) (tys : List (ClassId × FieldType)) (σ : St) : State → Prop := fun U => va_P D vwCl (wd σ) U.heap ∧ va_K D vwCl tys U
abbrev qI (D : va_G) (wd : St → va_W) (A : Nat → Prop) (r : Int32) (σ : St) : Array Value → State → Outcome → State → Prop := va_Qi (fun (r2 : Int32) (_ : Unit) => r2 = r) (fun _ t => va_P D vwCl (wd σ) t.heap) A
abbrev qV (D : va_G) (wd : St → va_W) (A : Nat → Prop) (σ : St) : Array Value → State → Outcome → State → Prop := va_Qv (fun (_ : Unit) => True) (fun _ t => va_P D vwCl (wd σ) t.heap) A
theorem met_mk {l : Launch} {y : MethodName} {cc : ByteArray} {maxL : Nat} {ret : Option FieldType} {own : String} {rm : Room} {D : va_G} {wd : St → va_W} {tys : List (ClassId × FieldType)} {σ : St} {vs : List Value} {Qc : Array Value → State → Outcome → State → Prop} {A : Nat → Prop} (hy : plainName y.cls = true) (ho : y.cls = own) (hn : (lg_sl vs).length ≤ maxL)
    (body : ∀ (p : Program) (e : Env) (s : State) (m : MethodId) (below : List Frame) (meth : Method) (c : Code), cx p s m meth c vs.toArray cc maxL ret own D tys → va_P D vwCl (wd σ) s.heap → ∀ ls : Array Slot, lv_has ls maxL (lv_args 0 vs) → W p l e rm s m vs.toArray below meth c s.heap [] 0 0 (MQ below Qc vs.toArray s 0 0 A) (F0 m 0 ls [])) :
    Met l y (.code y cc maxL ret :: wsL_law) rm (va_Pc vs (pw D wd tys σ)) Qc 0 0 A := by
  refine Met.ofW (cc := cc) (maxL := maxL) (ret := ret) hy rfl ?_
  intro p e s m args below meth c s₁ B hml hv
  obtain ⟨rfl, hP, hK⟩ := hv
  have hts := atoms_spec (ws := .code y cc maxL ret :: wsL_law) B.pre
  have hown : s.vm.findClass own = some m.cls := by rw [← ho]; exact findClass_of_methodNamed B.named
  have hl := lv_entry vs (n := maxL) hn
  rw [lg_entry_eq]
  exact body p e s m below meth c ⟨B.exec, B.bytes, hml, hown, fun w h => hts w (List.mem_cons_of_mem _ h), B.returns, B.notSynchronized, hK⟩ hP _ hl
section BASE
variable {p : Program} {l : Launch} {e : Env} {R : Room} {s : State} {m : MethodId} {args : Array Value} {below : List Frame} {meth : Method} {c : Code} {D : va_G} {H : Heap} {locs : List Loc} {Q : State → Prop} {cc : ByteArray} {nL : Nat} {ret : Option FieldType} {own : String} {tys : List (ClassId × FieldType)} {wd : St → va_W} {A : Nat → Prop} {pc : Nat} {ls : Array Slot} {rest st0 : List Value}
theorem pw_blind {vs : List Value} {σ : St} : FrameBlind (va_Pc vs (pw D wd tys σ)) := fun a U g mk q => ⟨q.1, q.2.1, va_K.moved (u := U) (U := U.calling g mk a) (Vm.Alike.refl U.vm) q.2.2⟩
theorem pw_at {vs : List Value} {σ : St} (hK : va_K D vwCl tys s) (hP : va_P D vwCl (wd σ) H) : ∀ U : State, U.heap = H → s.WarmedH U.vm → va_Pc vs (pw D wd tys σ) vs.toArray U := fun U hU hW => ⟨rfl, by rw [hU]; exact hP, va_K.moved hW.alike hK⟩
theorem kVi {y : MethodName} {bytes : ByteArray} {maxL n index : Nat} {ret' : Option FieldType} {ws : List Cond} {rm : Room} {C : String} {b : Nat} {As : List Value} {lv : List (Nat × Value)} {σ σ' : St} {r : Int32} {q0 ci : Nat} {T : u_T} {N : Nat} {fs : List Value}
    (X : cx p s m meth c args cc nL ret own D tys) (hM : Met l y ws rm (va_Pc (.ref b :: As) (pw D wd tys σ)) (qI D wd A r σ') 0 0 A) (cw : CallW R s args own C index y bytes maxL ret' ws rm 0 0 n) (hc : vwCl[ci]? = some (C, T, N)) (he : (wd σ)[q0]? = some (b, .inr (ci, fs))) (hP : va_P D vwCl (wd σ) H) (hS : va_S A s.heap H locs) (hl : lv_has ls nL lv) (hn : As.length = n) (hst : st0 = As.reverse ++ .ref b :: rest) (hro : (rest.map fun v => v.category).sum ≤ 8) (hdg : decode cc pc = .ok (.invokevirtual index, 3))
    (kk : ∀ (H1 : Heap) (locs1 : List Loc), va_P D vwCl (wd σ') H1 → va_S A s.heap H1 locs1 → W p l e R s m args below meth c H1 locs1 0 0 Q (F0 m (pc + 3) ls (.int r :: rest))) : W p l e R s m args below meth c H locs 0 0 Q (F0 m pc ls st0) := by
  obtain ⟨hx, hb, hml, hown, hts, hr, hlk, hK⟩ := X
  refine va_calli (va_runV (As := As) (rest := rest) ⟨hx, hb, hml, hown, hts⟩ hM cw ⟨pw_blind, va_recv hK hP hc he, pw_at hK hP⟩ rfl hn hl.1 hst (lv_room hro) hdg ⟨Nat.zero_le _, Nat.zero_le _⟩) hS (fun q _ h => h) (fun q h => h) (fun r2 u t H1 locs1 ht hvm hw hB hz hk hS1 => ?_)
  have hw : r2 = r := hw
  subst hw
  exact kk H1 locs1 (by rw [← ht]; exact hB) hS1
theorem kVv {y : MethodName} {bytes : ByteArray} {maxL n index : Nat} {ret' : Option FieldType} {ws : List Cond} {rm : Room} {C : String} {b : Nat} {As : List Value} {lv : List (Nat × Value)} {σ σ' : St} {q0 ci : Nat} {T : u_T} {N : Nat} {fs : List Value}
    (X : cx p s m meth c args cc nL ret own D tys) (hM : Met l y ws rm (va_Pc (.ref b :: As) (pw D wd tys σ)) (qV D wd A σ') 0 0 A) (cw : CallW R s args own C index y bytes maxL ret' ws rm 0 0 n) (hc : vwCl[ci]? = some (C, T, N)) (he : (wd σ)[q0]? = some (b, .inr (ci, fs))) (hP : va_P D vwCl (wd σ) H) (hS : va_S A s.heap H locs) (hl : lv_has ls nL lv) (hn : As.length = n) (hst : st0 = As.reverse ++ .ref b :: rest) (hro : (rest.map fun v => v.category).sum ≤ 8) (hdg : decode cc pc = .ok (.invokevirtual index, 3))
    (kk : ∀ (H1 : Heap) (locs1 : List Loc), va_P D vwCl (wd σ') H1 → va_S A s.heap H1 locs1 → W p l e R s m args below meth c H1 locs1 0 0 Q (F0 m (pc + 3) ls rest)) : W p l e R s m args below meth c H locs 0 0 Q (F0 m pc ls st0) := by
  obtain ⟨hx, hb, hml, hown, hts, hr, hlk, hK⟩ := X
  refine va_callv (va_runV (As := As) (rest := rest) ⟨hx, hb, hml, hown, hts⟩ hM cw ⟨pw_blind, va_recv hK hP hc he, pw_at hK hP⟩ rfl hn hl.1 hst (lv_room hro) hdg ⟨Nat.zero_le _, Nat.zero_le _⟩) hS (fun q _ h => h) (fun q h => h) (fun u t H1 locs1 ht hvm hw hB hz hk hS1 => ?_)
  exact kk H1 locs1 (by rw [← ht]; exact hB) hS1
theorem kSi {y : MethodName} {bytes : ByteArray} {maxL n index : Nat} {ret' : Option FieldType} {ws : List Cond} {rm : Room} {As : List Value} {lv : List (Nat × Value)} {σ σ' : St} {r : Int32}
    (X : cx p s m meth c args cc nL ret own D tys) (hM : Met l y ws rm (va_Pc As (pw D wd tys σ)) (qI D wd A r σ') 0 0 A) (cw : CallB R s args own index y bytes maxL ret' ws rm 0 0 n ∧ (Cond.static y).before args s = true) (hP : va_P D vwCl (wd σ) H) (hS : va_S A s.heap H locs) (hl : lv_has ls nL lv) (hn : As.length = n) (hst : st0 = As.reverse ++ rest) (hro : (rest.map fun v => v.category).sum ≤ 8) (hdg : decode cc pc = .ok (.invokestatic index, 3))
    (kk : ∀ (H1 : Heap) (locs1 : List Loc), va_P D vwCl (wd σ') H1 → va_S A s.heap H1 locs1 → W p l e R s m args below meth c H1 locs1 0 0 Q (F0 m (pc + 3) ls (.int r :: rest))) : W p l e R s m args below meth c H locs 0 0 Q (F0 m pc ls st0) := by
  obtain ⟨hx, hb, hml, hown, hts, hr, hlk, hK⟩ := X
  refine va_calli (va_runS (As := As) (rest := rest) ⟨hx, hb, hml, hown, hts⟩ hM cw ⟨pw_blind, pw_at hK hP⟩ rfl hn hl.1 hst (lv_room hro) hdg ⟨Nat.zero_le _, Nat.zero_le _⟩) hS (fun q _ h => h) (fun q h => h) (fun r2 u t H1 locs1 ht hvm hw hB hz hk hS1 => ?_)
  have hw : r2 = r := hw
  subst hw
  exact kk H1 locs1 (by rw [← ht]; exact hB) hS1
/-! a method's end -/
theorem rI {r r0 : Int32} {σ : St} (X : cx p s m meth c args cc nL (some .int) own D tys) (hP : va_P D vwCl (wd σ) H) (hS : va_S A s.heap H locs) (h : some r0 = some r) (hdg : decode cc pc = .ok (.ireturn, 1)) : W p l e R s m args below meth c H locs 0 0 (MQ below (qI D wd A r σ) args s 0 0 A) (F0 m pc ls [.int r0]) := by
  obtain ⟨hx, hb, hml, hown, hts, hr, hlk, hK⟩ := X
  cases h
  exact W.iret (v := r) hx hb hr (fun t ht hW => ⟨⟨r, (), rfl, rfl, by have h9 := hP; rw [← ht] at h9; exact h9⟩, hS.F ht⟩) hS.2.2 hdg
theorem rZ {r r0 : Int32} {σ : St} (X : cx p s m meth c args cc nL (some .boolean) own D tys) (hP : va_P D vwCl (wd σ) H) (hS : va_S A s.heap H locs) (h : gb r0 (some r0) = some r) (hdg : decode cc pc = .ok (.ireturn, 1)) : W p l e R s m args below meth c H locs 0 0 (MQ below (qI D wd A r σ) args s 0 0 A) (F0 m pc ls [.int r0]) := by
  obtain ⟨hx, hb, hml, hown, hts, hr, hlk, hK⟩ := X
  obtain ⟨hz, h⟩ := gb_some h
  cases h
  exact W.zret (v := r) (ty := .boolean) hx hb hr (by rcases hz with rfl | rfl <;> rfl) (fun t ht hW => ⟨⟨r, (), rfl, rfl, by have h9 := hP; rw [← ht] at h9; exact h9⟩, hS.F ht⟩) hS.2.2 hdg
theorem rIe {r r0 : Int32} {σ σ' : St} (X : cx p s m meth c args cc nL (some .int) own D tys) (hP : va_P D vwCl (wd σ) H) (hS : va_S A s.heap H locs) (h : some (r0, σ) = some (r, σ')) (hdg : decode cc pc = .ok (.ireturn, 1)) : W p l e R s m args below meth c H locs 0 0 (MQ below (qI D wd A r σ') args s 0 0 A) (F0 m pc ls [.int r0]) := by
  cases h
  exact rI X hP hS rfl hdg
theorem rZe {r r0 : Int32} {σ σ' : St} (X : cx p s m meth c args cc nL (some .boolean) own D tys) (hP : va_P D vwCl (wd σ) H) (hS : va_S A s.heap H locs) (h : gb r0 (some (r0, σ)) = some (r, σ')) (hdg : decode cc pc = .ok (.ireturn, 1)) : W p l e R s m args below meth c H locs 0 0 (MQ below (qI D wd A r σ') args s 0 0 A) (F0 m pc ls [.int r0]) := by
  obtain ⟨hz, h⟩ := gb_some h
  cases h
  exact rZ X hP hS (by unfold gb; rw [if_pos hz]) hdg
theorem rVe {σ σ' : St} (X : cx p s m meth c args cc nL none own D tys) (hP : va_P D vwCl (wd σ) H) (hS : va_S A s.heap H locs) (h : some σ = some σ') (hdg : decode cc pc = .ok (.return_, 1)) : W p l e R s m args below meth c H locs 0 0 (MQ below (qV D wd A σ') args s 0 0 A) (F0 m pc ls []) := by
  obtain ⟨hx, hb, hml, hown, hts, hr, hlk, hK⟩ := X
  cases h
  exact W.vret hx hb hr (fun t ht hW => ⟨⟨(), rfl, trivial, by have h9 := hP; rw [← ht] at h9; exact h9⟩, hS.F ht⟩) hS.2.2 hdg
/-! arrays -/
theorem ldr {σ : St} {a q0 t0 n : Nat} {cA : ClassId} {i x : Int32} (X : cx p s m meth c args cc nL ret own D tys) (hP : va_P D vwCl (wd σ) H) (ha : (wd σ)[q0]? = some (a, .inl (cA, n, .inl (σ q0)))) (ht : tys[t0]? = some (cA, .int)) (hin : vp_in i n) (hv : x = σ q0 i.toNatClampNeg) (hdg : decode cc pc = .ok (.iaload, 1))
    (kk : W p l e R s m args below meth c H locs 0 0 Q (F0 m (pc + 1) ls (.int x :: rest))) : W p l e R s m args below meth c H locs 0 0 Q (F0 m pc ls (.int i :: .ref a :: rest)) := by
  subst hv
  exact va_iald X.1 X.2.1 X.2.2.2.2.2.2.2 hP q0 t0 ha ht hin hdg kk
theorem ldz {σ : St} {a q0 t0 n : Nat} {cA : ClassId} {i x : Int32} (X : cx p s m meth c args cc nL ret own D tys) (hP : va_P D vwCl (wd σ) H) (ha : (wd σ)[q0]? = some (a, .inl (cA, n, .inl (σ q0)))) (ht : tys[t0]? = some (cA, .boolean)) (hin : vp_in i n) (hv : x = σ q0 i.toNatClampNeg) (hdg : decode cc pc = .ok (.baload, 1))
    (kk : W p l e R s m args below meth c H locs 0 0 Q (F0 m (pc + 1) ls (.int x :: rest))) : W p l e R s m args below meth c H locs 0 0 Q (F0 m pc ls (.int i :: .ref a :: rest)) := by
  subst hv
  exact va_zald X.1 X.2.1 X.2.2.2.2.2.2.2 hP q0 t0 ha ht hin hdg kk
theorem str {σ σ1 : St} {a q0 t0 n : Nat} {cA : ClassId} {i x : Int32} (X : cx p s m meth c args cc nL ret own D tys) (hP : va_P D vwCl (wd σ) H) (hD : va_D A (wd σ)) (hS : va_S A s.heap H locs) (ha : (wd σ)[q0]? = some (a, .inl (cA, n, .inl (σ q0)))) (hs : (wd σ).set q0 (a, .inl (cA, n, .inl (upd (σ q0) i.toNatClampNeg x))) = wd (ss σ q0 i.toNatClampNeg x)) (ht : tys[t0]? = some (cA, .int)) (hin : vp_in i n) (hv : σ1 = ss σ q0 i.toNatClampNeg x) (hdg : decode cc pc = .ok (.iastore, 1))
    (kk : ∀ (H1 : Heap) (locs1 : List Loc), va_P D vwCl (wd σ1) H1 → va_S A s.heap H1 locs1 → W p l e R s m args below meth c H1 locs1 0 0 Q (F0 m (pc + 1) ls rest)) : W p l e R s m args below meth c H locs 0 0 Q (F0 m pc ls (.int x :: .int i :: .ref a :: rest)) := by
  subst hv
  refine va_iast X.1 X.2.1 X.2.2.2.2.2.2.2 hP hD hS q0 t0 ha ht hin hdg (fun H1 locs1 h1 h2 h3 => ?_)
  rw [hs] at h1
  exact kk H1 locs1 h1 h3
theorem stz {σ σ1 : St} {a q0 t0 n : Nat} {cA : ClassId} {i x : Int32} (X : cx p s m meth c args cc nL ret own D tys) (hP : va_P D vwCl (wd σ) H) (hD : va_D A (wd σ)) (hS : va_S A s.heap H locs) (ha : (wd σ)[q0]? = some (a, .inl (cA, n, .inl (σ q0)))) (hs : (wd σ).set q0 (a, .inl (cA, n, .inl (upd (σ q0) i.toNatClampNeg x))) = wd (ss σ q0 i.toNatClampNeg x)) (ht : tys[t0]? = some (cA, .boolean)) (hz : x = 0 ∨ x = 1) (hin : vp_in i n) (hv : σ1 = ss σ q0 i.toNatClampNeg x) (hdg : decode cc pc = .ok (.bastore, 1))
    (kk : ∀ (H1 : Heap) (locs1 : List Loc), va_P D vwCl (wd σ1) H1 → va_S A s.heap H1 locs1 → W p l e R s m args below meth c H1 locs1 0 0 Q (F0 m (pc + 1) ls rest)) : W p l e R s m args below meth c H locs 0 0 Q (F0 m pc ls (.int x :: .int i :: .ref a :: rest)) := by
  subst hv
  have hn : vp_nar .boolean x = x := by rcases hz with rfl | rfl <;> rfl
  refine va_zast X.1 X.2.1 X.2.2.2.2.2.2.2 hP hD hS q0 t0 ha ht hin hdg (fun H1 locs1 h1 h2 h3 => ?_)
  rw [hn, hs] at h1
  exact kk H1 locs1 h1 h3
/-! a switch from 0 on: none of its numbers -/
theorem sw_out {x : Int32} (n : Nat) (hn : n < 2 ^ 31) (h : ∀ j, j ≤ n → x ≠ nI j) : x.toInt < 0 ∨ (n : Int) < x.toInt := by
  by_cases h0 : x < 0
  · exact Or.inl (by simpa using Int32.lt_iff_toInt_lt.mp h0)
  · obtain ⟨j, hj, rfl⟩ := nI_of h0
    right
    rw [nI_toInt hj]
    rcases Nat.lt_or_ge n j with q | q
    · exact_mod_cast q
    · exact absurd rfl (h j q)
end BASE
end
section
/-- the cells of the class -/
def wC (ad : Nat → Nat) (cI : ClassId) (σ : St) : va_W := [(ad 0, .inr (6, [.ref (ad 1), .ref (ad 2), .ref (ad 3), .ref (ad 4), .ref (ad 5), .ref (ad 6), .int (σ 0 6)])), (ad 1, .inr (1, [.int (σ 1 0), .ref (ad 7), .ref (ad 8), .ref (ad 9), .ref (ad 10), .ref (ad 11), .ref (ad 12), .ref (ad 13)])), (ad 2, .inr (3, [.ref (ad 14), .ref (ad 15)])), (ad 3, .inr (2, [.int (σ 3 0), .ref (ad 16), .ref (ad 17), .ref (ad 18), .ref (ad 19), .ref (ad 20)])), (ad 4, .inr (4, [.ref (ad 1), .ref (ad 3)])), (ad 5, .inr (5, [.ref (ad 1), .ref (ad 3), .ref (ad 4), .int (σ 5 3), .ref (ad 21), .ref (ad 22), .ref (ad 23), .ref (ad 24), .ref (ad 25), .ref (ad 26), .int (σ 5 10)])), (ad 6, .inr (0, [.ref (ad 1), .ref (ad 2), .ref (ad 5), .int (σ 6 3), .ref (ad 27), .ref (ad 28), .ref (ad 29), .ref (ad 30), .ref (ad 31), .ref (ad 32), .ref (ad 33)])), (ad 7, .inl (cI, 24, .inl (σ 7))), (ad 8, .inl (cI, 24, .inl (σ 8))), (ad 9, .inl (cI, 24, .inl (σ 9))), (ad 10, .inl (cI, 24, .inl (σ 10))), (ad 11, .inl (cI, 24, .inl (σ 11))), (ad 12, .inl (cI, 24, .inl (σ 12))), (ad 13, .inl (cI, 24, .inl (σ 13))), (ad 14, .inl (cI, 48, .inl (σ 14))), (ad 15, .inl (cI, 48, .inl (σ 15))), (ad 16, .inl (cI, 12, .inl (σ 16))), (ad 17, .inl (cI, 12, .inl (σ 17))), (ad 18, .inl (cI, 12, .inl (σ 18))), (ad 19, .inl (cI, 12, .inl (σ 19))), (ad 20, .inl (cI, 12, .inl (σ 20))), (ad 21, .inl (cI, 24, .inl (σ 21))), (ad 22, .inl (cI, 24, .inl (σ 22))), (ad 23, .inl (cI, 24, .inl (σ 23))), (ad 24, .inl (cI, 24, .inl (σ 24))), (ad 25, .inl (cI, 24, .inl (σ 25))), (ad 26, .inl (cI, 24, .inl (σ 26))), (ad 27, .inl (cI, 24, .inl (σ 27))), (ad 28, .inl (cI, 24, .inl (σ 28))), (ad 29, .inl (cI, 24, .inl (σ 29))), (ad 30, .inl (cI, 24, .inl (σ 30))), (ad 31, .inl (cI, 24, .inl (σ 31))), (ad 32, .inl (cI, 24, .inl (σ 32))), (ad 33, .inl (cI, 24, .inl (σ 33)))]
theorem wC_ad {ad : Nat → Nat} {cI : ClassId} {σ : St} : (wC ad cI σ).map (fun q => q.1) = (List.range 34).map ad := rfl
theorem wC_D {ad : Nat → Nat} {cI : ClassId} {σ : St} (hN : nj ad 34) : va_D (aw ad 34) (wC ad cI σ) := wd_D hN wC_ad
theorem wC_7 {ad : Nat → Nat} {cI : ClassId} {σ : St} : (wC ad cI σ)[7]? = some (ad 7, .inl (cI, 24, .inl (σ 7))) := rfl
theorem wC_s7 {ad : Nat → Nat} {cI : ClassId} {σ : St} {k : Nat} {v : Int32} : (wC ad cI σ).set 7 (ad 7, .inl (cI, 24, .inl (upd (σ 7) k v))) = wC ad cI (ss σ 7 k v) := rfl
theorem wC_8 {ad : Nat → Nat} {cI : ClassId} {σ : St} : (wC ad cI σ)[8]? = some (ad 8, .inl (cI, 24, .inl (σ 8))) := rfl
theorem wC_s8 {ad : Nat → Nat} {cI : ClassId} {σ : St} {k : Nat} {v : Int32} : (wC ad cI σ).set 8 (ad 8, .inl (cI, 24, .inl (upd (σ 8) k v))) = wC ad cI (ss σ 8 k v) := rfl
theorem wC_9 {ad : Nat → Nat} {cI : ClassId} {σ : St} : (wC ad cI σ)[9]? = some (ad 9, .inl (cI, 24, .inl (σ 9))) := rfl
theorem wC_s9 {ad : Nat → Nat} {cI : ClassId} {σ : St} {k : Nat} {v : Int32} : (wC ad cI σ).set 9 (ad 9, .inl (cI, 24, .inl (upd (σ 9) k v))) = wC ad cI (ss σ 9 k v) := rfl
theorem wC_10 {ad : Nat → Nat} {cI : ClassId} {σ : St} : (wC ad cI σ)[10]? = some (ad 10, .inl (cI, 24, .inl (σ 10))) := rfl
theorem wC_s10 {ad : Nat → Nat} {cI : ClassId} {σ : St} {k : Nat} {v : Int32} : (wC ad cI σ).set 10 (ad 10, .inl (cI, 24, .inl (upd (σ 10) k v))) = wC ad cI (ss σ 10 k v) := rfl
theorem wC_11 {ad : Nat → Nat} {cI : ClassId} {σ : St} : (wC ad cI σ)[11]? = some (ad 11, .inl (cI, 24, .inl (σ 11))) := rfl
theorem wC_s11 {ad : Nat → Nat} {cI : ClassId} {σ : St} {k : Nat} {v : Int32} : (wC ad cI σ).set 11 (ad 11, .inl (cI, 24, .inl (upd (σ 11) k v))) = wC ad cI (ss σ 11 k v) := rfl
theorem wC_12 {ad : Nat → Nat} {cI : ClassId} {σ : St} : (wC ad cI σ)[12]? = some (ad 12, .inl (cI, 24, .inl (σ 12))) := rfl
theorem wC_s12 {ad : Nat → Nat} {cI : ClassId} {σ : St} {k : Nat} {v : Int32} : (wC ad cI σ).set 12 (ad 12, .inl (cI, 24, .inl (upd (σ 12) k v))) = wC ad cI (ss σ 12 k v) := rfl
theorem wC_13 {ad : Nat → Nat} {cI : ClassId} {σ : St} : (wC ad cI σ)[13]? = some (ad 13, .inl (cI, 24, .inl (σ 13))) := rfl
theorem wC_s13 {ad : Nat → Nat} {cI : ClassId} {σ : St} {k : Nat} {v : Int32} : (wC ad cI σ).set 13 (ad 13, .inl (cI, 24, .inl (upd (σ 13) k v))) = wC ad cI (ss σ 13 k v) := rfl
theorem wC_14 {ad : Nat → Nat} {cI : ClassId} {σ : St} : (wC ad cI σ)[14]? = some (ad 14, .inl (cI, 48, .inl (σ 14))) := rfl
theorem wC_s14 {ad : Nat → Nat} {cI : ClassId} {σ : St} {k : Nat} {v : Int32} : (wC ad cI σ).set 14 (ad 14, .inl (cI, 48, .inl (upd (σ 14) k v))) = wC ad cI (ss σ 14 k v) := rfl
theorem wC_15 {ad : Nat → Nat} {cI : ClassId} {σ : St} : (wC ad cI σ)[15]? = some (ad 15, .inl (cI, 48, .inl (σ 15))) := rfl
theorem wC_s15 {ad : Nat → Nat} {cI : ClassId} {σ : St} {k : Nat} {v : Int32} : (wC ad cI σ).set 15 (ad 15, .inl (cI, 48, .inl (upd (σ 15) k v))) = wC ad cI (ss σ 15 k v) := rfl
theorem wC_16 {ad : Nat → Nat} {cI : ClassId} {σ : St} : (wC ad cI σ)[16]? = some (ad 16, .inl (cI, 12, .inl (σ 16))) := rfl
theorem wC_s16 {ad : Nat → Nat} {cI : ClassId} {σ : St} {k : Nat} {v : Int32} : (wC ad cI σ).set 16 (ad 16, .inl (cI, 12, .inl (upd (σ 16) k v))) = wC ad cI (ss σ 16 k v) := rfl
theorem wC_17 {ad : Nat → Nat} {cI : ClassId} {σ : St} : (wC ad cI σ)[17]? = some (ad 17, .inl (cI, 12, .inl (σ 17))) := rfl
theorem wC_s17 {ad : Nat → Nat} {cI : ClassId} {σ : St} {k : Nat} {v : Int32} : (wC ad cI σ).set 17 (ad 17, .inl (cI, 12, .inl (upd (σ 17) k v))) = wC ad cI (ss σ 17 k v) := rfl
theorem wC_18 {ad : Nat → Nat} {cI : ClassId} {σ : St} : (wC ad cI σ)[18]? = some (ad 18, .inl (cI, 12, .inl (σ 18))) := rfl
theorem wC_s18 {ad : Nat → Nat} {cI : ClassId} {σ : St} {k : Nat} {v : Int32} : (wC ad cI σ).set 18 (ad 18, .inl (cI, 12, .inl (upd (σ 18) k v))) = wC ad cI (ss σ 18 k v) := rfl
theorem wC_19 {ad : Nat → Nat} {cI : ClassId} {σ : St} : (wC ad cI σ)[19]? = some (ad 19, .inl (cI, 12, .inl (σ 19))) := rfl
theorem wC_s19 {ad : Nat → Nat} {cI : ClassId} {σ : St} {k : Nat} {v : Int32} : (wC ad cI σ).set 19 (ad 19, .inl (cI, 12, .inl (upd (σ 19) k v))) = wC ad cI (ss σ 19 k v) := rfl
theorem wC_20 {ad : Nat → Nat} {cI : ClassId} {σ : St} : (wC ad cI σ)[20]? = some (ad 20, .inl (cI, 12, .inl (σ 20))) := rfl
theorem wC_s20 {ad : Nat → Nat} {cI : ClassId} {σ : St} {k : Nat} {v : Int32} : (wC ad cI σ).set 20 (ad 20, .inl (cI, 12, .inl (upd (σ 20) k v))) = wC ad cI (ss σ 20 k v) := rfl
theorem wC_21 {ad : Nat → Nat} {cI : ClassId} {σ : St} : (wC ad cI σ)[21]? = some (ad 21, .inl (cI, 24, .inl (σ 21))) := rfl
theorem wC_s21 {ad : Nat → Nat} {cI : ClassId} {σ : St} {k : Nat} {v : Int32} : (wC ad cI σ).set 21 (ad 21, .inl (cI, 24, .inl (upd (σ 21) k v))) = wC ad cI (ss σ 21 k v) := rfl
theorem wC_22 {ad : Nat → Nat} {cI : ClassId} {σ : St} : (wC ad cI σ)[22]? = some (ad 22, .inl (cI, 24, .inl (σ 22))) := rfl
theorem wC_s22 {ad : Nat → Nat} {cI : ClassId} {σ : St} {k : Nat} {v : Int32} : (wC ad cI σ).set 22 (ad 22, .inl (cI, 24, .inl (upd (σ 22) k v))) = wC ad cI (ss σ 22 k v) := rfl
theorem wC_23 {ad : Nat → Nat} {cI : ClassId} {σ : St} : (wC ad cI σ)[23]? = some (ad 23, .inl (cI, 24, .inl (σ 23))) := rfl
theorem wC_s23 {ad : Nat → Nat} {cI : ClassId} {σ : St} {k : Nat} {v : Int32} : (wC ad cI σ).set 23 (ad 23, .inl (cI, 24, .inl (upd (σ 23) k v))) = wC ad cI (ss σ 23 k v) := rfl
theorem wC_24 {ad : Nat → Nat} {cI : ClassId} {σ : St} : (wC ad cI σ)[24]? = some (ad 24, .inl (cI, 24, .inl (σ 24))) := rfl
theorem wC_s24 {ad : Nat → Nat} {cI : ClassId} {σ : St} {k : Nat} {v : Int32} : (wC ad cI σ).set 24 (ad 24, .inl (cI, 24, .inl (upd (σ 24) k v))) = wC ad cI (ss σ 24 k v) := rfl
theorem wC_25 {ad : Nat → Nat} {cI : ClassId} {σ : St} : (wC ad cI σ)[25]? = some (ad 25, .inl (cI, 24, .inl (σ 25))) := rfl
theorem wC_s25 {ad : Nat → Nat} {cI : ClassId} {σ : St} {k : Nat} {v : Int32} : (wC ad cI σ).set 25 (ad 25, .inl (cI, 24, .inl (upd (σ 25) k v))) = wC ad cI (ss σ 25 k v) := rfl
theorem wC_26 {ad : Nat → Nat} {cI : ClassId} {σ : St} : (wC ad cI σ)[26]? = some (ad 26, .inl (cI, 24, .inl (σ 26))) := rfl
theorem wC_s26 {ad : Nat → Nat} {cI : ClassId} {σ : St} {k : Nat} {v : Int32} : (wC ad cI σ).set 26 (ad 26, .inl (cI, 24, .inl (upd (σ 26) k v))) = wC ad cI (ss σ 26 k v) := rfl
theorem wC_27 {ad : Nat → Nat} {cI : ClassId} {σ : St} : (wC ad cI σ)[27]? = some (ad 27, .inl (cI, 24, .inl (σ 27))) := rfl
theorem wC_s27 {ad : Nat → Nat} {cI : ClassId} {σ : St} {k : Nat} {v : Int32} : (wC ad cI σ).set 27 (ad 27, .inl (cI, 24, .inl (upd (σ 27) k v))) = wC ad cI (ss σ 27 k v) := rfl
theorem wC_28 {ad : Nat → Nat} {cI : ClassId} {σ : St} : (wC ad cI σ)[28]? = some (ad 28, .inl (cI, 24, .inl (σ 28))) := rfl
theorem wC_s28 {ad : Nat → Nat} {cI : ClassId} {σ : St} {k : Nat} {v : Int32} : (wC ad cI σ).set 28 (ad 28, .inl (cI, 24, .inl (upd (σ 28) k v))) = wC ad cI (ss σ 28 k v) := rfl
theorem wC_29 {ad : Nat → Nat} {cI : ClassId} {σ : St} : (wC ad cI σ)[29]? = some (ad 29, .inl (cI, 24, .inl (σ 29))) := rfl
theorem wC_s29 {ad : Nat → Nat} {cI : ClassId} {σ : St} {k : Nat} {v : Int32} : (wC ad cI σ).set 29 (ad 29, .inl (cI, 24, .inl (upd (σ 29) k v))) = wC ad cI (ss σ 29 k v) := rfl
theorem wC_30 {ad : Nat → Nat} {cI : ClassId} {σ : St} : (wC ad cI σ)[30]? = some (ad 30, .inl (cI, 24, .inl (σ 30))) := rfl
theorem wC_s30 {ad : Nat → Nat} {cI : ClassId} {σ : St} {k : Nat} {v : Int32} : (wC ad cI σ).set 30 (ad 30, .inl (cI, 24, .inl (upd (σ 30) k v))) = wC ad cI (ss σ 30 k v) := rfl
theorem wC_31 {ad : Nat → Nat} {cI : ClassId} {σ : St} : (wC ad cI σ)[31]? = some (ad 31, .inl (cI, 24, .inl (σ 31))) := rfl
theorem wC_s31 {ad : Nat → Nat} {cI : ClassId} {σ : St} {k : Nat} {v : Int32} : (wC ad cI σ).set 31 (ad 31, .inl (cI, 24, .inl (upd (σ 31) k v))) = wC ad cI (ss σ 31 k v) := rfl
theorem wC_32 {ad : Nat → Nat} {cI : ClassId} {σ : St} : (wC ad cI σ)[32]? = some (ad 32, .inl (cI, 24, .inl (σ 32))) := rfl
theorem wC_s32 {ad : Nat → Nat} {cI : ClassId} {σ : St} {k : Nat} {v : Int32} : (wC ad cI σ).set 32 (ad 32, .inl (cI, 24, .inl (upd (σ 32) k v))) = wC ad cI (ss σ 32 k v) := rfl
theorem wC_33 {ad : Nat → Nat} {cI : ClassId} {σ : St} : (wC ad cI σ)[33]? = some (ad 33, .inl (cI, 24, .inl (σ 33))) := rfl
theorem wC_s33 {ad : Nat → Nat} {cI : ClassId} {σ : St} {k : Nat} {v : Int32} : (wC ad cI σ).set 33 (ad 33, .inl (cI, 24, .inl (upd (σ 33) k v))) = wC ad cI (ss σ 33 k v) := rfl
/-- the cells of the reference -/
def wM (ad : Nat → Nat) (cI cZ : ClassId) (σ : St) : va_W := [(ad 0, .inr (7, [.int (σ 0 0), .ref (ad 1), .ref (ad 2), .ref (ad 3), .ref (ad 4), .ref (ad 5), .ref (ad 6), .ref (ad 7), .ref (ad 8), .ref (ad 9), .int (σ 0 10), .ref (ad 10), .ref (ad 11), .ref (ad 12), .ref (ad 13), .ref (ad 14), .ref (ad 15), .ref (ad 16), .ref (ad 17), .ref (ad 18), .ref (ad 19), .int (σ 0 21), .ref (ad 20), .ref (ad 21), .ref (ad 22), .ref (ad 23), .ref (ad 24), .ref (ad 25), .int (σ 0 28), .ref (ad 26), .ref (ad 27), .ref (ad 28), .ref (ad 29), .int (σ 0 33)])), (ad 1, .inl (cI, 24, .inl (σ 1))), (ad 2, .inl (cI, 24, .inl (σ 2))), (ad 3, .inl (cI, 24, .inl (σ 3))), (ad 4, .inl (cI, 24, .inl (σ 4))), (ad 5, .inl (cI, 24, .inl (σ 5))), (ad 6, .inl (cI, 24, .inl (σ 6))), (ad 7, .inl (cI, 24, .inl (σ 7))), (ad 8, .inl (cI, 48, .inl (σ 8))), (ad 9, .inl (cI, 48, .inl (σ 9))), (ad 10, .inl (cI, 12, .inl (σ 10))), (ad 11, .inl (cI, 12, .inl (σ 11))), (ad 12, .inl (cI, 12, .inl (σ 12))), (ad 13, .inl (cI, 12, .inl (σ 13))), (ad 14, .inl (cI, 12, .inl (σ 14))), (ad 15, .inl (cI, 24, .inl (σ 15))), (ad 16, .inl (cI, 24, .inl (σ 16))), (ad 17, .inl (cI, 24, .inl (σ 17))), (ad 18, .inl (cI, 24, .inl (σ 18))), (ad 19, .inl (cI, 576, .inl (σ 19))), (ad 20, .inl (cI, 24, .inl (σ 20))), (ad 21, .inl (cI, 24, .inl (σ 21))), (ad 22, .inl (cZ, 24, .inl (σ 22))), (ad 23, .inl (cI, 24, .inl (σ 23))), (ad 24, .inl (cI, 24, .inl (σ 24))), (ad 25, .inl (cI, 24, .inl (σ 25))), (ad 26, .inl (cI, 25, .inl (σ 26))), (ad 27, .inl (cZ, 24, .inl (σ 27))), (ad 28, .inl (cI, 24, .inl (σ 28))), (ad 29, .inl (cI, 24, .inl (σ 29)))]
theorem wM_ad {ad : Nat → Nat} {cI cZ : ClassId} {σ : St} : (wM ad cI cZ σ).map (fun q => q.1) = (List.range 30).map ad := rfl
theorem wM_D {ad : Nat → Nat} {cI cZ : ClassId} {σ : St} (hN : nj ad 30) : va_D (aw ad 30) (wM ad cI cZ σ) := wd_D hN wM_ad
theorem wM_1 {ad : Nat → Nat} {cI cZ : ClassId} {σ : St} : (wM ad cI cZ σ)[1]? = some (ad 1, .inl (cI, 24, .inl (σ 1))) := rfl
theorem wM_s1 {ad : Nat → Nat} {cI cZ : ClassId} {σ : St} {k : Nat} {v : Int32} : (wM ad cI cZ σ).set 1 (ad 1, .inl (cI, 24, .inl (upd (σ 1) k v))) = wM ad cI cZ (ss σ 1 k v) := rfl
theorem wM_2 {ad : Nat → Nat} {cI cZ : ClassId} {σ : St} : (wM ad cI cZ σ)[2]? = some (ad 2, .inl (cI, 24, .inl (σ 2))) := rfl
theorem wM_s2 {ad : Nat → Nat} {cI cZ : ClassId} {σ : St} {k : Nat} {v : Int32} : (wM ad cI cZ σ).set 2 (ad 2, .inl (cI, 24, .inl (upd (σ 2) k v))) = wM ad cI cZ (ss σ 2 k v) := rfl
theorem wM_3 {ad : Nat → Nat} {cI cZ : ClassId} {σ : St} : (wM ad cI cZ σ)[3]? = some (ad 3, .inl (cI, 24, .inl (σ 3))) := rfl
theorem wM_s3 {ad : Nat → Nat} {cI cZ : ClassId} {σ : St} {k : Nat} {v : Int32} : (wM ad cI cZ σ).set 3 (ad 3, .inl (cI, 24, .inl (upd (σ 3) k v))) = wM ad cI cZ (ss σ 3 k v) := rfl
theorem wM_4 {ad : Nat → Nat} {cI cZ : ClassId} {σ : St} : (wM ad cI cZ σ)[4]? = some (ad 4, .inl (cI, 24, .inl (σ 4))) := rfl
theorem wM_s4 {ad : Nat → Nat} {cI cZ : ClassId} {σ : St} {k : Nat} {v : Int32} : (wM ad cI cZ σ).set 4 (ad 4, .inl (cI, 24, .inl (upd (σ 4) k v))) = wM ad cI cZ (ss σ 4 k v) := rfl
theorem wM_5 {ad : Nat → Nat} {cI cZ : ClassId} {σ : St} : (wM ad cI cZ σ)[5]? = some (ad 5, .inl (cI, 24, .inl (σ 5))) := rfl
theorem wM_s5 {ad : Nat → Nat} {cI cZ : ClassId} {σ : St} {k : Nat} {v : Int32} : (wM ad cI cZ σ).set 5 (ad 5, .inl (cI, 24, .inl (upd (σ 5) k v))) = wM ad cI cZ (ss σ 5 k v) := rfl
theorem wM_6 {ad : Nat → Nat} {cI cZ : ClassId} {σ : St} : (wM ad cI cZ σ)[6]? = some (ad 6, .inl (cI, 24, .inl (σ 6))) := rfl
theorem wM_s6 {ad : Nat → Nat} {cI cZ : ClassId} {σ : St} {k : Nat} {v : Int32} : (wM ad cI cZ σ).set 6 (ad 6, .inl (cI, 24, .inl (upd (σ 6) k v))) = wM ad cI cZ (ss σ 6 k v) := rfl
theorem wM_7 {ad : Nat → Nat} {cI cZ : ClassId} {σ : St} : (wM ad cI cZ σ)[7]? = some (ad 7, .inl (cI, 24, .inl (σ 7))) := rfl
theorem wM_s7 {ad : Nat → Nat} {cI cZ : ClassId} {σ : St} {k : Nat} {v : Int32} : (wM ad cI cZ σ).set 7 (ad 7, .inl (cI, 24, .inl (upd (σ 7) k v))) = wM ad cI cZ (ss σ 7 k v) := rfl
theorem wM_8 {ad : Nat → Nat} {cI cZ : ClassId} {σ : St} : (wM ad cI cZ σ)[8]? = some (ad 8, .inl (cI, 48, .inl (σ 8))) := rfl
theorem wM_s8 {ad : Nat → Nat} {cI cZ : ClassId} {σ : St} {k : Nat} {v : Int32} : (wM ad cI cZ σ).set 8 (ad 8, .inl (cI, 48, .inl (upd (σ 8) k v))) = wM ad cI cZ (ss σ 8 k v) := rfl
theorem wM_9 {ad : Nat → Nat} {cI cZ : ClassId} {σ : St} : (wM ad cI cZ σ)[9]? = some (ad 9, .inl (cI, 48, .inl (σ 9))) := rfl
theorem wM_s9 {ad : Nat → Nat} {cI cZ : ClassId} {σ : St} {k : Nat} {v : Int32} : (wM ad cI cZ σ).set 9 (ad 9, .inl (cI, 48, .inl (upd (σ 9) k v))) = wM ad cI cZ (ss σ 9 k v) := rfl
theorem wM_10 {ad : Nat → Nat} {cI cZ : ClassId} {σ : St} : (wM ad cI cZ σ)[10]? = some (ad 10, .inl (cI, 12, .inl (σ 10))) := rfl
theorem wM_s10 {ad : Nat → Nat} {cI cZ : ClassId} {σ : St} {k : Nat} {v : Int32} : (wM ad cI cZ σ).set 10 (ad 10, .inl (cI, 12, .inl (upd (σ 10) k v))) = wM ad cI cZ (ss σ 10 k v) := rfl
theorem wM_11 {ad : Nat → Nat} {cI cZ : ClassId} {σ : St} : (wM ad cI cZ σ)[11]? = some (ad 11, .inl (cI, 12, .inl (σ 11))) := rfl
theorem wM_s11 {ad : Nat → Nat} {cI cZ : ClassId} {σ : St} {k : Nat} {v : Int32} : (wM ad cI cZ σ).set 11 (ad 11, .inl (cI, 12, .inl (upd (σ 11) k v))) = wM ad cI cZ (ss σ 11 k v) := rfl
theorem wM_12 {ad : Nat → Nat} {cI cZ : ClassId} {σ : St} : (wM ad cI cZ σ)[12]? = some (ad 12, .inl (cI, 12, .inl (σ 12))) := rfl
theorem wM_s12 {ad : Nat → Nat} {cI cZ : ClassId} {σ : St} {k : Nat} {v : Int32} : (wM ad cI cZ σ).set 12 (ad 12, .inl (cI, 12, .inl (upd (σ 12) k v))) = wM ad cI cZ (ss σ 12 k v) := rfl
theorem wM_13 {ad : Nat → Nat} {cI cZ : ClassId} {σ : St} : (wM ad cI cZ σ)[13]? = some (ad 13, .inl (cI, 12, .inl (σ 13))) := rfl
theorem wM_s13 {ad : Nat → Nat} {cI cZ : ClassId} {σ : St} {k : Nat} {v : Int32} : (wM ad cI cZ σ).set 13 (ad 13, .inl (cI, 12, .inl (upd (σ 13) k v))) = wM ad cI cZ (ss σ 13 k v) := rfl
theorem wM_14 {ad : Nat → Nat} {cI cZ : ClassId} {σ : St} : (wM ad cI cZ σ)[14]? = some (ad 14, .inl (cI, 12, .inl (σ 14))) := rfl
theorem wM_s14 {ad : Nat → Nat} {cI cZ : ClassId} {σ : St} {k : Nat} {v : Int32} : (wM ad cI cZ σ).set 14 (ad 14, .inl (cI, 12, .inl (upd (σ 14) k v))) = wM ad cI cZ (ss σ 14 k v) := rfl
theorem wM_15 {ad : Nat → Nat} {cI cZ : ClassId} {σ : St} : (wM ad cI cZ σ)[15]? = some (ad 15, .inl (cI, 24, .inl (σ 15))) := rfl
theorem wM_s15 {ad : Nat → Nat} {cI cZ : ClassId} {σ : St} {k : Nat} {v : Int32} : (wM ad cI cZ σ).set 15 (ad 15, .inl (cI, 24, .inl (upd (σ 15) k v))) = wM ad cI cZ (ss σ 15 k v) := rfl
theorem wM_16 {ad : Nat → Nat} {cI cZ : ClassId} {σ : St} : (wM ad cI cZ σ)[16]? = some (ad 16, .inl (cI, 24, .inl (σ 16))) := rfl
theorem wM_s16 {ad : Nat → Nat} {cI cZ : ClassId} {σ : St} {k : Nat} {v : Int32} : (wM ad cI cZ σ).set 16 (ad 16, .inl (cI, 24, .inl (upd (σ 16) k v))) = wM ad cI cZ (ss σ 16 k v) := rfl
theorem wM_17 {ad : Nat → Nat} {cI cZ : ClassId} {σ : St} : (wM ad cI cZ σ)[17]? = some (ad 17, .inl (cI, 24, .inl (σ 17))) := rfl
theorem wM_s17 {ad : Nat → Nat} {cI cZ : ClassId} {σ : St} {k : Nat} {v : Int32} : (wM ad cI cZ σ).set 17 (ad 17, .inl (cI, 24, .inl (upd (σ 17) k v))) = wM ad cI cZ (ss σ 17 k v) := rfl
theorem wM_18 {ad : Nat → Nat} {cI cZ : ClassId} {σ : St} : (wM ad cI cZ σ)[18]? = some (ad 18, .inl (cI, 24, .inl (σ 18))) := rfl
theorem wM_s18 {ad : Nat → Nat} {cI cZ : ClassId} {σ : St} {k : Nat} {v : Int32} : (wM ad cI cZ σ).set 18 (ad 18, .inl (cI, 24, .inl (upd (σ 18) k v))) = wM ad cI cZ (ss σ 18 k v) := rfl
theorem wM_19 {ad : Nat → Nat} {cI cZ : ClassId} {σ : St} : (wM ad cI cZ σ)[19]? = some (ad 19, .inl (cI, 576, .inl (σ 19))) := rfl
theorem wM_s19 {ad : Nat → Nat} {cI cZ : ClassId} {σ : St} {k : Nat} {v : Int32} : (wM ad cI cZ σ).set 19 (ad 19, .inl (cI, 576, .inl (upd (σ 19) k v))) = wM ad cI cZ (ss σ 19 k v) := rfl
theorem wM_20 {ad : Nat → Nat} {cI cZ : ClassId} {σ : St} : (wM ad cI cZ σ)[20]? = some (ad 20, .inl (cI, 24, .inl (σ 20))) := rfl
theorem wM_s20 {ad : Nat → Nat} {cI cZ : ClassId} {σ : St} {k : Nat} {v : Int32} : (wM ad cI cZ σ).set 20 (ad 20, .inl (cI, 24, .inl (upd (σ 20) k v))) = wM ad cI cZ (ss σ 20 k v) := rfl
theorem wM_21 {ad : Nat → Nat} {cI cZ : ClassId} {σ : St} : (wM ad cI cZ σ)[21]? = some (ad 21, .inl (cI, 24, .inl (σ 21))) := rfl
theorem wM_s21 {ad : Nat → Nat} {cI cZ : ClassId} {σ : St} {k : Nat} {v : Int32} : (wM ad cI cZ σ).set 21 (ad 21, .inl (cI, 24, .inl (upd (σ 21) k v))) = wM ad cI cZ (ss σ 21 k v) := rfl
theorem wM_22 {ad : Nat → Nat} {cI cZ : ClassId} {σ : St} : (wM ad cI cZ σ)[22]? = some (ad 22, .inl (cZ, 24, .inl (σ 22))) := rfl
theorem wM_s22 {ad : Nat → Nat} {cI cZ : ClassId} {σ : St} {k : Nat} {v : Int32} : (wM ad cI cZ σ).set 22 (ad 22, .inl (cZ, 24, .inl (upd (σ 22) k v))) = wM ad cI cZ (ss σ 22 k v) := rfl
theorem wM_23 {ad : Nat → Nat} {cI cZ : ClassId} {σ : St} : (wM ad cI cZ σ)[23]? = some (ad 23, .inl (cI, 24, .inl (σ 23))) := rfl
theorem wM_s23 {ad : Nat → Nat} {cI cZ : ClassId} {σ : St} {k : Nat} {v : Int32} : (wM ad cI cZ σ).set 23 (ad 23, .inl (cI, 24, .inl (upd (σ 23) k v))) = wM ad cI cZ (ss σ 23 k v) := rfl
theorem wM_24 {ad : Nat → Nat} {cI cZ : ClassId} {σ : St} : (wM ad cI cZ σ)[24]? = some (ad 24, .inl (cI, 24, .inl (σ 24))) := rfl
theorem wM_s24 {ad : Nat → Nat} {cI cZ : ClassId} {σ : St} {k : Nat} {v : Int32} : (wM ad cI cZ σ).set 24 (ad 24, .inl (cI, 24, .inl (upd (σ 24) k v))) = wM ad cI cZ (ss σ 24 k v) := rfl
theorem wM_25 {ad : Nat → Nat} {cI cZ : ClassId} {σ : St} : (wM ad cI cZ σ)[25]? = some (ad 25, .inl (cI, 24, .inl (σ 25))) := rfl
theorem wM_s25 {ad : Nat → Nat} {cI cZ : ClassId} {σ : St} {k : Nat} {v : Int32} : (wM ad cI cZ σ).set 25 (ad 25, .inl (cI, 24, .inl (upd (σ 25) k v))) = wM ad cI cZ (ss σ 25 k v) := rfl
theorem wM_26 {ad : Nat → Nat} {cI cZ : ClassId} {σ : St} : (wM ad cI cZ σ)[26]? = some (ad 26, .inl (cI, 25, .inl (σ 26))) := rfl
theorem wM_s26 {ad : Nat → Nat} {cI cZ : ClassId} {σ : St} {k : Nat} {v : Int32} : (wM ad cI cZ σ).set 26 (ad 26, .inl (cI, 25, .inl (upd (σ 26) k v))) = wM ad cI cZ (ss σ 26 k v) := rfl
theorem wM_27 {ad : Nat → Nat} {cI cZ : ClassId} {σ : St} : (wM ad cI cZ σ)[27]? = some (ad 27, .inl (cZ, 24, .inl (σ 27))) := rfl
theorem wM_s27 {ad : Nat → Nat} {cI cZ : ClassId} {σ : St} {k : Nat} {v : Int32} : (wM ad cI cZ σ).set 27 (ad 27, .inl (cZ, 24, .inl (upd (σ 27) k v))) = wM ad cI cZ (ss σ 27 k v) := rfl
theorem wM_28 {ad : Nat → Nat} {cI cZ : ClassId} {σ : St} : (wM ad cI cZ σ)[28]? = some (ad 28, .inl (cI, 24, .inl (σ 28))) := rfl
theorem wM_s28 {ad : Nat → Nat} {cI cZ : ClassId} {σ : St} {k : Nat} {v : Int32} : (wM ad cI cZ σ).set 28 (ad 28, .inl (cI, 24, .inl (upd (σ 28) k v))) = wM ad cI cZ (ss σ 28 k v) := rfl
theorem wM_29 {ad : Nat → Nat} {cI cZ : ClassId} {σ : St} : (wM ad cI cZ σ)[29]? = some (ad 29, .inl (cI, 24, .inl (σ 29))) := rfl
theorem wM_s29 {ad : Nat → Nat} {cI cZ : ClassId} {σ : St} {k : Nat} {v : Int32} : (wM ad cI cZ σ).set 29 (ad 29, .inl (cI, 24, .inl (upd (σ 29) k v))) = wM ad cI cZ (ss σ 29 k v) := rfl
abbrev rm_X3_pageOf : Room := { frames := 0, cells := 0, slots := 0, locals := 0 }
abbrev rm_X3_has : Room := { frames := 1, cells := 0, slots := 0, locals := 22 }
abbrev rm_X0_lastOnward : Room := { frames := 2, cells := 0, slots := 0, locals := 44 }
abbrev rm_X3_wordOf : Room := { frames := 0, cells := 0, slots := 0, locals := 0 }
abbrev rm_X0_aimOf : Room := { frames := 1, cells := 0, slots := 0, locals := 22 }
abbrev rm_X0_linkToAim : Room := { frames := 2, cells := 0, slots := 0, locals := 47 }
abbrev rm_X0_addFrom : Room := { frames := 0, cells := 0, slots := 0, locals := 0 }
abbrev rm_X0_build : Room := { frames := 3, cells := 0, slots := 0, locals := 69 }
abbrev rm_X0_has : Room := { frames := 0, cells := 0, slots := 0, locals := 0 }
abbrev rm_X0_isBroken : Room := { frames := 0, cells := 0, slots := 0, locals := 0 }
abbrev rm_X0_isRing : Room := { frames := 0, cells := 0, slots := 0, locals := 0 }
abbrev rm_X0_isReadIn : Room := { frames := 0, cells := 0, slots := 0, locals := 0 }
abbrev rm_X0_textsOf : Room := { frames := 1, cells := 0, slots := 0, locals := 23 }
abbrev rm_X0_wordsOf : Room := { frames := 1, cells := 0, slots := 0, locals := 23 }
abbrev rm_X0_pagesOf : Room := { frames := 1, cells := 0, slots := 0, locals := 23 }
abbrev rm_X5_headOf : Room := { frames := 0, cells := 0, slots := 0, locals := 0 }
abbrev rm_X5_textAt : Room := { frames := 0, cells := 0, slots := 0, locals := 0 }
abbrev rm_X5_textsOf : Room := { frames := 0, cells := 0, slots := 0, locals := 0 }
abbrev rm_X0_blockAt : Room := { frames := 1, cells := 0, slots := 0, locals := 24 }
abbrev rm_X0_manyRings : Room := { frames := 1, cells := 0, slots := 0, locals := 21 }
abbrev rm_X0_manyBroken : Room := { frames := 1, cells := 0, slots := 0, locals := 21 }
abbrev rm_X0_manyIdleFrom : Room := { frames := 2, cells := 0, slots := 0, locals := 44 }
abbrev rm_X1_has : Room := { frames := 0, cells := 0, slots := 0, locals := 0 }
abbrev rm_X1_add : Room := { frames := 0, cells := 0, slots := 0, locals := 0 }
abbrev rm_X1_firstIn : Room := { frames := 0, cells := 0, slots := 0, locals := 0 }
abbrev rm_X1_meets : Room := { frames := 1, cells := 0, slots := 0, locals := 28 }
abbrev rm_X1_turnAbout : Room := { frames := 0, cells := 0, slots := 0, locals := 0 }
abbrev rm_X1_manyOf : Room := { frames := 0, cells := 0, slots := 0, locals := 0 }
abbrev rm_X1_headBelow : Room := { frames := 1, cells := 0, slots := 0, locals := 21 }
abbrev rm_X1_isAhead : Room := { frames := 0, cells := 0, slots := 0, locals := 0 }
abbrev rm_X2_has : Room := { frames := 0, cells := 0, slots := 0, locals := 0 }
abbrev rm_X2_add : Room := { frames := 0, cells := 0, slots := 0, locals := 0 }
abbrev rm_X2_turnAbout : Room := { frames := 0, cells := 0, slots := 0, locals := 0 }
abbrev rm_X2_hasUpright : Room := { frames := 0, cells := 0, slots := 0, locals := 0 }
abbrev rm_X2_flatBelow : Room := { frames := 1, cells := 0, slots := 0, locals := 21 }
abbrev rm_X3_put : Room := { frames := 0, cells := 0, slots := 0, locals := 0 }
abbrev rm_X3_forget : Room := { frames := 1, cells := 0, slots := 0, locals := 24 }
abbrev rm_X3_forgetAllOf : Room := { frames := 2, cells := 0, slots := 0, locals := 46 }
abbrev rm_X4_lastColumn : Room := { frames := 1, cells := 0, slots := 0, locals := 26 }
abbrev rm_X4_lastRow : Room := { frames := 2, cells := 0, slots := 0, locals := 49 }
abbrev rm_X4_headOver : Room := { frames := 3, cells := 0, slots := 0, locals := 74 }
abbrev rm_X5_insert : Room := { frames := 1, cells := 0, slots := 0, locals := 22 }
abbrev rm_X5_putUnderHead : Room := { frames := 2, cells := 0, slots := 0, locals := 44 }
abbrev rm_X5_isWithoutStory : Room := { frames := 0, cells := 0, slots := 0, locals := 0 }
abbrev rm_X5_takes : Room := { frames := 1, cells := 0, slots := 0, locals := 26 }
abbrev rm_X5_takerFor : Room := { frames := 2, cells := 0, slots := 0, locals := 52 }
abbrev rm_X5_append : Room := { frames := 0, cells := 0, slots := 0, locals := 0 }
abbrev rm_X5_joinNext : Room := { frames := 3, cells := 0, slots := 0, locals := 75 }
abbrev rm_X5_giveNumbers : Room := { frames := 0, cells := 0, slots := 0, locals := 0 }
abbrev rm_X5_build : Room := { frames := 4, cells := 0, slots := 0, locals := 97 }
abbrev rm_X5_has : Room := { frames := 0, cells := 0, slots := 0, locals := 0 }
abbrev rm_X5_wordsOf : Room := { frames := 0, cells := 0, slots := 0, locals := 0 }
abbrev rm_X5_picturesOf : Room := { frames := 0, cells := 0, slots := 0, locals := 0 }
abbrev rm_X5_joinedOf : Room := { frames := 0, cells := 0, slots := 0, locals := 0 }
abbrev rm_X5_manyJoined : Room := { frames := 0, cells := 0, slots := 0, locals := 0 }
abbrev rm_X5_manyLeftOver : Room := { frames := 1, cells := 0, slots := 0, locals := 23 }
abbrev rm_X5_manyLoosePictures : Room := { frames := 0, cells := 0, slots := 0, locals := 0 }
abbrev rm_X6_isBelow : Room := { frames := 0, cells := 0, slots := 0, locals := 0 }
abbrev rm_X6_isSpan : Room := { frames := 0, cells := 0, slots := 0, locals := 0 }
abbrev rm_X6_block : Room := { frames := 3, cells := 0, slots := 0, locals := 67 }
abbrev rm_X6_words : Room := { frames := 1, cells := 0, slots := 0, locals := 21 }
abbrev rm_X6_line : Room := { frames := 1, cells := 0, slots := 0, locals := 26 }
abbrev rm_X6_back : Room := { frames := 0, cells := 0, slots := 0, locals := 0 }
abbrev rm_X6_erase : Room := { frames := 0, cells := 0, slots := 0, locals := 0 }
abbrev rm_X6_clear : Room := { frames := 0, cells := 0, slots := 0, locals := 0 }
abbrev rm_X6_turn : Room := { frames := 1, cells := 0, slots := 0, locals := 24 }
abbrev rm_X6_ofBlock : Room := { frames := 1, cells := 0, slots := 0, locals := 21 }
abbrev rm_X6_ofLine : Room := { frames := 1, cells := 0, slots := 0, locals := 21 }
abbrev rm_X6_at : Room := { frames := 1, cells := 0, slots := 0, locals := 28 }
abbrev rm_X6_reach : Room := { frames := 3, cells := 0, slots := 0, locals := 74 }
abbrev rm_X6_refresh : Room := { frames := 5, cells := 0, slots := 0, locals := 119 }
abbrev rm_X6_under : Room := { frames := 6, cells := 0, slots := 0, locals := 139 }
abbrev rm_X6_story : Room := { frames := 6, cells := 0, slots := 0, locals := 139 }
abbrev rm_X6_takenBy : Room := { frames := 6, cells := 0, slots := 0, locals := 139 }
abbrev rm_X6_ofStory : Room := { frames := 6, cells := 0, slots := 0, locals := 139 }
abbrev rm_X6_text : Room := { frames := 6, cells := 0, slots := 0, locals := 139 }
abbrev rm_X6_mark : Room := { frames := 2, cells := 0, slots := 0, locals := 44 }
abbrev rm_X6_unmark : Room := { frames := 2, cells := 0, slots := 0, locals := 46 }
abbrev rm_X6_ofMark : Room := { frames := 1, cells := 0, slots := 0, locals := 22 }
abbrev rm_X6_ofArticle : Room := { frames := 6, cells := 0, slots := 0, locals := 139 }
abbrev rm_X6_read : Room := { frames := 6, cells := 0, slots := 0, locals := 139 }
abbrev rm_X6_many : Room := { frames := 6, cells := 0, slots := 0, locals := 139 }
abbrev rm_X7_within : Room := { frames := 0, cells := 0, slots := 0, locals := 0 }
abbrev rm_X7_isBlock : Room := { frames := 1, cells := 0, slots := 0, locals := 22 }
abbrev rm_X7_isMeeting : Room := { frames := 0, cells := 0, slots := 0, locals := 0 }
abbrev rm_X7_block : Room := { frames := 1, cells := 0, slots := 0, locals := 25 }
abbrev rm_X7_words : Room := { frames := 2, cells := 0, slots := 0, locals := 43 }
abbrev rm_X7_line : Room := { frames := 1, cells := 0, slots := 0, locals := 22 }
abbrev rm_X7_back : Room := { frames := 0, cells := 0, slots := 0, locals := 0 }
abbrev rm_X7_erase : Room := { frames := 0, cells := 0, slots := 0, locals := 0 }
abbrev rm_X7_clear : Room := { frames := 0, cells := 0, slots := 0, locals := 0 }
abbrev rm_X7_turn : Room := { frames := 0, cells := 0, slots := 0, locals := 0 }
abbrev rm_X7_ofBlock : Room := { frames := 2, cells := 0, slots := 0, locals := 43 }
abbrev rm_X7_ofLine : Room := { frames := 1, cells := 0, slots := 0, locals := 22 }
abbrev rm_X7_at : Room := { frames := 1, cells := 0, slots := 0, locals := 25 }
abbrev rm_X7_isHead : Room := { frames := 2, cells := 0, slots := 0, locals := 43 }
abbrev rm_X7_isUpright : Room := { frames := 0, cells := 0, slots := 0, locals := 0 }
abbrev rm_X7_reachesAcross : Room := { frames := 1, cells := 0, slots := 0, locals := 25 }
abbrev rm_X7_lastRow : Room := { frames := 2, cells := 0, slots := 0, locals := 48 }
abbrev rm_X7_headOver : Room := { frames := 3, cells := 0, slots := 0, locals := 74 }
abbrev rm_X7_comesBehind : Room := { frames := 0, cells := 0, slots := 0, locals := 0 }
abbrev rm_X7_isAhead : Room := { frames := 0, cells := 0, slots := 0, locals := 0 }
abbrev rm_X7_comesUnder : Room := { frames := 1, cells := 0, slots := 0, locals := 22 }
abbrev rm_X7_takes : Room := { frames := 1, cells := 0, slots := 0, locals := 25 }
abbrev rm_X7_takerNow : Room := { frames := 2, cells := 0, slots := 0, locals := 49 }
abbrev rm_X7_joins : Room := { frames := 3, cells := 0, slots := 0, locals := 72 }
abbrev rm_X7_findStories : Room := { frames := 4, cells := 0, slots := 0, locals := 97 }
abbrev rm_X7_reach : Room := { frames := 3, cells := 0, slots := 0, locals := 74 }
abbrev rm_X7_under : Room := { frames := 4, cells := 0, slots := 0, locals := 97 }
abbrev rm_X7_story : Room := { frames := 5, cells := 0, slots := 0, locals := 120 }
abbrev rm_X7_takenBy : Room := { frames := 5, cells := 0, slots := 0, locals := 120 }
abbrev rm_X7_mark : Room := { frames := 2, cells := 0, slots := 0, locals := 43 }
abbrev rm_X7_unmark : Room := { frames := 2, cells := 0, slots := 0, locals := 43 }
abbrev rm_X7_ofMark : Room := { frames := 2, cells := 0, slots := 0, locals := 43 }
abbrev rm_X7_onwardOf : Room := { frames := 0, cells := 0, slots := 0, locals := 0 }
abbrev rm_X7_aimBy : Room := { frames := 0, cells := 0, slots := 0, locals := 0 }
abbrev rm_X7_lays : Room := { frames := 0, cells := 0, slots := 0, locals := 0 }
abbrev rm_X7_findArticles : Room := { frames := 5, cells := 0, slots := 0, locals := 120 }
abbrev rm_X7_isBroken : Room := { frames := 0, cells := 0, slots := 0, locals := 0 }
abbrev rm_X7_wordsIn : Room := { frames := 0, cells := 0, slots := 0, locals := 0 }
abbrev rm_X7_manyIn : Room := { frames := 0, cells := 0, slots := 0, locals := 0 }
abbrev rm_X7_isStory : Room := { frames := 6, cells := 0, slots := 0, locals := 142 }
abbrev rm_X7_ofStory : Room := { frames := 7, cells := 0, slots := 0, locals := 163 }
abbrev rm_X7_text : Room := { frames := 7, cells := 0, slots := 0, locals := 163 }
abbrev rm_X7_isArticle : Room := { frames := 6, cells := 0, slots := 0, locals := 142 }
abbrev rm_X7_sumOf : Room := { frames := 1, cells := 0, slots := 0, locals := 24 }
abbrev rm_X7_pagesOf : Room := { frames := 0, cells := 0, slots := 0, locals := 0 }
abbrev rm_X7_ofArticle : Room := { frames := 7, cells := 0, slots := 0, locals := 163 }
abbrev rm_X7_read : Room := { frames := 7, cells := 0, slots := 0, locals := 163 }
abbrev rm_X7_manyOfKind : Room := { frames := 0, cells := 0, slots := 0, locals := 0 }
abbrev rm_X7_manyTexts : Room := { frames := 0, cells := 0, slots := 0, locals := 0 }
abbrev rm_X7_manyRings : Room := { frames := 0, cells := 0, slots := 0, locals := 0 }
abbrev rm_X7_manyBroken : Room := { frames := 1, cells := 0, slots := 0, locals := 21 }
abbrev rm_X7_manyIdle : Room := { frames := 0, cells := 0, slots := 0, locals := 0 }
abbrev rm_X7_manyLost : Room := { frames := 0, cells := 0, slots := 0, locals := 0 }
abbrev rm_X7_many : Room := { frames := 6, cells := 0, slots := 0, locals := 142 }
end
section
section ROWS
variable {p : Program} {l : Launch} {e : Env} {R : Room} {s : State} {m : MethodId} {args : Array Value} {below : List Frame} {meth : Method} {c : Code} {D : va_G} {H : Heap} {locs : List Loc} {Q : State → Prop} {cc : ByteArray} {nL : Nat} {ret : Option FieldType} {pc : Nat} {ls : Array Slot} {rest : List Value} {σ : St} {ad : Nat → Nat} {cI cZ : ClassId}
theorem good_code {y : MethodName} {cc : ByteArray} {n : Nat} {ret : Option FieldType} (h : Cond.code y cc n ret ∈ wsL_law) : GoodIn wsL_law (.code y cc n ret :: wsL_law) := by
  intro w hw
  have hm : w ∈ wsL_law := (List.mem_cons.mp hw).elim (fun e => by rw [e]; exact h) (fun h => h)
  exact ⟨hm, good_of_word (List.all_eq_true.mp wsL_good w hm)⟩
def jmin (x y : Int32) : Int32 := if y < x then y else x
def jmax (x y : Int32) : Int32 := if x < y then y else x
theorem fg_X0_9 (X : cx p s m meth c args cc nL ret RX0 D [(cI, .int)]) (hP : va_P D vwCl (wC ad cI σ) H) (hdg : decode cc pc = .ok (.getfield 9, 3)) (kk : W p l e R s m args below meth c H locs 0 0 Q (F0 m (pc + 3) ls (.ref (ad 27) :: rest))) : W p l e R s m args below meth c H locs 0 0 Q (F0 m pc ls (.ref (ad 6) :: rest)) := by
  exact va_get (D := D) (ci := 0) (C := RX0) (T := TX0) (N := 11) X.1 X.2.1 X.2.2.2.2.1 inlX0 X.2.2.2.1 X.2.2.2.2.2.2.2 hP 6 rfl rfl 4 (by decide) (X.2.2.2.2.1 (.fieldLink RX0 9 "StoryColumns$Articles" "onward" "[I") (List.mem_of_getElem? (i := 84) (by decide +kernel))) (fun _ h9 => h9) rfl hdg kk
theorem fg_X0_15 (X : cx p s m meth c args cc nL ret RX0 D [(cI, .int)]) (hP : va_P D vwCl (wC ad cI σ) H) (hdg : decode cc pc = .ok (.getfield 15, 3)) (kk : W p l e R s m args below meth c H locs 0 0 Q (F0 m (pc + 3) ls (.ref (ad 28) :: rest))) : W p l e R s m args below meth c H locs 0 0 Q (F0 m pc ls (.ref (ad 6) :: rest)) := by
  exact va_get (D := D) (ci := 0) (C := RX0) (T := TX0) (N := 11) X.1 X.2.1 X.2.2.2.2.1 inlX0 X.2.2.2.1 X.2.2.2.2.2.2.2 hP 6 rfl rfl 5 (by decide) (X.2.2.2.2.1 (.fieldLink RX0 15 "StoryColumns$Articles" "next" "[I") (List.mem_of_getElem? (i := 85) (by decide +kernel))) (fun _ h9 => h9) rfl hdg kk
theorem fg_X0_18 (X : cx p s m meth c args cc nL ret RX0 D [(cI, .int)]) (hP : va_P D vwCl (wC ad cI σ) H) (hdg : decode cc pc = .ok (.getfield 18, 3)) (kk : W p l e R s m args below meth c H locs 0 0 Q (F0 m (pc + 3) ls (.ref (ad 29) :: rest))) : W p l e R s m args below meth c H locs 0 0 Q (F0 m pc ls (.ref (ad 6) :: rest)) := by
  exact va_get (D := D) (ci := 0) (C := RX0) (T := TX0) (N := 11) X.1 X.2.1 X.2.2.2.2.1 inlX0 X.2.2.2.1 X.2.2.2.2.2.2.2 hP 6 rfl rfl 6 (by decide) (X.2.2.2.2.1 (.fieldLink RX0 18 "StoryColumns$Articles" "previous" "[I") (List.mem_of_getElem? (i := 86) (by decide +kernel))) (fun _ h9 => h9) rfl hdg kk
theorem fg_X0_21 (X : cx p s m meth c args cc nL ret RX0 D [(cI, .int)]) (hP : va_P D vwCl (wC ad cI σ) H) (hdg : decode cc pc = .ok (.getfield 21, 3)) (kk : W p l e R s m args below meth c H locs 0 0 Q (F0 m (pc + 3) ls (.ref (ad 30) :: rest))) : W p l e R s m args below meth c H locs 0 0 Q (F0 m pc ls (.ref (ad 6) :: rest)) := by
  exact va_get (D := D) (ci := 0) (C := RX0) (T := TX0) (N := 11) X.1 X.2.1 X.2.2.2.2.1 inlX0 X.2.2.2.1 X.2.2.2.2.2.2.2 hP 6 rfl rfl 7 (by decide) (X.2.2.2.2.1 (.fieldLink RX0 21 "StoryColumns$Articles" "articleOf" "[I") (List.mem_of_getElem? (i := 87) (by decide +kernel))) (fun _ h9 => h9) rfl hdg kk
theorem fg_X0_24 (X : cx p s m meth c args cc nL ret RX0 D [(cI, .int)]) (hP : va_P D vwCl (wC ad cI σ) H) (hdg : decode cc pc = .ok (.getfield 24, 3)) (kk : W p l e R s m args below meth c H locs 0 0 Q (F0 m (pc + 3) ls (.ref (ad 31) :: rest))) : W p l e R s m args below meth c H locs 0 0 Q (F0 m pc ls (.ref (ad 6) :: rest)) := by
  exact va_get (D := D) (ci := 0) (C := RX0) (T := TX0) (N := 11) X.1 X.2.1 X.2.2.2.2.1 inlX0 X.2.2.2.1 X.2.2.2.2.2.2.2 hP 6 rfl rfl 8 (by decide) (X.2.2.2.2.1 (.fieldLink RX0 24 "StoryColumns$Articles" "first" "[I") (List.mem_of_getElem? (i := 88) (by decide +kernel))) (fun _ h9 => h9) rfl hdg kk
theorem fg_X0_27 (X : cx p s m meth c args cc nL ret RX0 D [(cI, .int)]) (hP : va_P D vwCl (wC ad cI σ) H) (hdg : decode cc pc = .ok (.getfield 27, 3)) (kk : W p l e R s m args below meth c H locs 0 0 Q (F0 m (pc + 3) ls (.ref (ad 32) :: rest))) : W p l e R s m args below meth c H locs 0 0 Q (F0 m pc ls (.ref (ad 6) :: rest)) := by
  exact va_get (D := D) (ci := 0) (C := RX0) (T := TX0) (N := 11) X.1 X.2.1 X.2.2.2.2.1 inlX0 X.2.2.2.1 X.2.2.2.2.2.2.2 hP 6 rfl rfl 9 (by decide) (X.2.2.2.2.1 (.fieldLink RX0 27 "StoryColumns$Articles" "last" "[I") (List.mem_of_getElem? (i := 89) (by decide +kernel))) (fun _ h9 => h9) rfl hdg kk
theorem fg_X0_30 (X : cx p s m meth c args cc nL ret RX0 D [(cI, .int)]) (hP : va_P D vwCl (wC ad cI σ) H) (hdg : decode cc pc = .ok (.getfield 30, 3)) (kk : W p l e R s m args below meth c H locs 0 0 Q (F0 m (pc + 3) ls (.ref (ad 33) :: rest))) : W p l e R s m args below meth c H locs 0 0 Q (F0 m pc ls (.ref (ad 6) :: rest)) := by
  exact va_get (D := D) (ci := 0) (C := RX0) (T := TX0) (N := 11) X.1 X.2.1 X.2.2.2.2.1 inlX0 X.2.2.2.1 X.2.2.2.2.2.2.2 hP 6 rfl rfl 10 (by decide) (X.2.2.2.2.1 (.fieldLink RX0 30 "StoryColumns$Articles" "length" "[I") (List.mem_of_getElem? (i := 90) (by decide +kernel))) (fun _ h9 => h9) rfl hdg kk
theorem fg_X0_33 (X : cx p s m meth c args cc nL ret RX0 D [(cI, .int)]) (hP : va_P D vwCl (wC ad cI σ) H) (hdg : decode cc pc = .ok (.getfield 33, 3)) (kk : W p l e R s m args below meth c H locs 0 0 Q (F0 m (pc + 3) ls (.ref (ad 1) :: rest))) : W p l e R s m args below meth c H locs 0 0 Q (F0 m pc ls (.ref (ad 6) :: rest)) := by
  exact va_get (D := D) (ci := 0) (C := RX0) (T := TX0) (N := 11) X.1 X.2.1 X.2.2.2.2.1 inlX0 X.2.2.2.1 X.2.2.2.2.2.2.2 hP 6 rfl rfl 0 (by decide) (X.2.2.2.2.1 (.fieldLink RX0 33 "StoryColumns$Articles" "blocks" "LStoryColumns$Blocks;") (List.mem_of_getElem? (i := 91) (by decide +kernel))) (fun _ h9 => h9) rfl hdg kk
theorem fg_X0_37 (X : cx p s m meth c args cc nL ret RX0 D [(cI, .int)]) (hP : va_P D vwCl (wC ad cI σ) H) (hdg : decode cc pc = .ok (.getfield 37, 3)) (kk : W p l e R s m args below meth c H locs 0 0 Q (F0 m (pc + 3) ls (.ref (ad 2) :: rest))) : W p l e R s m args below meth c H locs 0 0 Q (F0 m pc ls (.ref (ad 6) :: rest)) := by
  exact va_get (D := D) (ci := 0) (C := RX0) (T := TX0) (N := 11) X.1 X.2.1 X.2.2.2.2.1 inlX0 X.2.2.2.1 X.2.2.2.2.2.2.2 hP 6 rfl rfl 1 (by decide) (X.2.2.2.2.1 (.fieldLink RX0 37 "StoryColumns$Articles" "marks" "LStoryColumns$Marks;") (List.mem_of_getElem? (i := 92) (by decide +kernel))) (fun _ h9 => h9) rfl hdg kk
theorem fg_X0_41 (X : cx p s m meth c args cc nL ret RX0 D [(cI, .int)]) (hP : va_P D vwCl (wC ad cI σ) H) (hdg : decode cc pc = .ok (.getfield 41, 3)) (kk : W p l e R s m args below meth c H locs 0 0 Q (F0 m (pc + 3) ls (.ref (ad 5) :: rest))) : W p l e R s m args below meth c H locs 0 0 Q (F0 m pc ls (.ref (ad 6) :: rest)) := by
  exact va_get (D := D) (ci := 0) (C := RX0) (T := TX0) (N := 11) X.1 X.2.1 X.2.2.2.2.1 inlX0 X.2.2.2.1 X.2.2.2.2.2.2.2 hP 6 rfl rfl 2 (by decide) (X.2.2.2.2.1 (.fieldLink RX0 41 "StoryColumns$Articles" "stories" "LStoryColumns$Stories;") (List.mem_of_getElem? (i := 93) (by decide +kernel))) (fun _ h9 => h9) rfl hdg kk
theorem fg_X0_45 {x : Int32} (X : cx p s m meth c args cc nL ret RX0 D [(cI, .int)]) (hP : va_P D vwCl (wC ad cI σ) H) (hv : x = σ 6 3) (hdg : decode cc pc = .ok (.getfield 45, 3)) (kk : W p l e R s m args below meth c H locs 0 0 Q (F0 m (pc + 3) ls (.int x :: rest))) : W p l e R s m args below meth c H locs 0 0 Q (F0 m pc ls (.ref (ad 6) :: rest)) := by
  subst hv
  exact va_get (D := D) (ci := 0) (C := RX0) (T := TX0) (N := 11) X.1 X.2.1 X.2.2.2.2.1 inlX0 X.2.2.2.1 X.2.2.2.2.2.2.2 hP 6 rfl rfl 3 (by decide) (X.2.2.2.2.1 (.fieldLink RX0 45 "StoryColumns$Articles" "count" "I") (List.mem_of_getElem? (i := 417) (by decide +kernel))) (fun _ h9 => h9) rfl hdg kk
theorem fg_X0_49 {x : Int32} (X : cx p s m meth c args cc nL ret RX0 D [(cI, .int)]) (hP : va_P D vwCl (wC ad cI σ) H) (hv : x = σ 5 3) (hdg : decode cc pc = .ok (.getfield 49, 3)) (kk : W p l e R s m args below meth c H locs 0 0 Q (F0 m (pc + 3) ls (.int x :: rest))) : W p l e R s m args below meth c H locs 0 0 Q (F0 m pc ls (.ref (ad 5) :: rest)) := by
  subst hv
  exact va_get (D := D) (ci := 5) (C := RX5) (T := TX5) (N := 11) X.1 X.2.1 X.2.2.2.2.1 inlX5 X.2.2.2.1 X.2.2.2.2.2.2.2 hP 5 rfl rfl 3 (by decide) (X.2.2.2.2.1 (.fieldLink RX0 49 "StoryColumns$Stories" "count" "I") (List.mem_of_getElem? (i := 418) (by decide +kernel))) (fun _ h9 => h9) rfl hdg kk
theorem fg_X0_63 {x : Int32} (X : cx p s m meth c args cc nL ret RX0 D [(cI, .int)]) (hP : va_P D vwCl (wC ad cI σ) H) (hv : x = σ 5 10) (hdg : decode cc pc = .ok (.getfield 63, 3)) (kk : W p l e R s m args below meth c H locs 0 0 Q (F0 m (pc + 3) ls (.int x :: rest))) : W p l e R s m args below meth c H locs 0 0 Q (F0 m pc ls (.ref (ad 5) :: rest)) := by
  subst hv
  exact va_get (D := D) (ci := 5) (C := RX5) (T := TX5) (N := 11) X.1 X.2.1 X.2.2.2.2.1 inlX5 X.2.2.2.1 X.2.2.2.2.2.2.2 hP 5 rfl rfl 10 (by decide) (X.2.2.2.2.1 (.fieldLink RX0 63 "StoryColumns$Stories" "texts" "I") (List.mem_of_getElem? (i := 423) (by decide +kernel))) (fun _ h9 => h9) rfl hdg kk
theorem fg_X0_66 (X : cx p s m meth c args cc nL ret RX0 D [(cI, .int)]) (hP : va_P D vwCl (wC ad cI σ) H) (hdg : decode cc pc = .ok (.getfield 66, 3)) (kk : W p l e R s m args below meth c H locs 0 0 Q (F0 m (pc + 3) ls (.ref (ad 26) :: rest))) : W p l e R s m args below meth c H locs 0 0 Q (F0 m pc ls (.ref (ad 5) :: rest)) := by
  exact va_get (D := D) (ci := 5) (C := RX5) (T := TX5) (N := 11) X.1 X.2.1 X.2.2.2.2.1 inlX5 X.2.2.2.1 X.2.2.2.2.2.2.2 hP 5 rfl rfl 9 (by decide) (X.2.2.2.2.1 (.fieldLink RX0 66 "StoryColumns$Stories" "sequence" "[I") (List.mem_of_getElem? (i := 424) (by decide +kernel))) (fun _ h9 => h9) rfl hdg kk
theorem fg_X0_69 (X : cx p s m meth c args cc nL ret RX0 D [(cI, .int)]) (hP : va_P D vwCl (wC ad cI σ) H) (hdg : decode cc pc = .ok (.getfield 69, 3)) (kk : W p l e R s m args below meth c H locs 0 0 Q (F0 m (pc + 3) ls (.ref (ad 24) :: rest))) : W p l e R s m args below meth c H locs 0 0 Q (F0 m pc ls (.ref (ad 5) :: rest)) := by
  exact va_get (D := D) (ci := 5) (C := RX5) (T := TX5) (N := 11) X.1 X.2.1 X.2.2.2.2.1 inlX5 X.2.2.2.1 X.2.2.2.2.2.2.2 hP 5 rfl rfl 7 (by decide) (X.2.2.2.2.1 (.fieldLink RX0 69 "StoryColumns$Stories" "storyOf" "[I") (List.mem_of_getElem? (i := 425) (by decide +kernel))) (fun _ h9 => h9) rfl hdg kk
theorem fg_X0_88 {x : Int32} (X : cx p s m meth c args cc nL ret RX0 D [(cI, .int)]) (hP : va_P D vwCl (wC ad cI σ) H) (hv : x = σ 1 0) (hdg : decode cc pc = .ok (.getfield 88, 3)) (kk : W p l e R s m args below meth c H locs 0 0 Q (F0 m (pc + 3) ls (.int x :: rest))) : W p l e R s m args below meth c H locs 0 0 Q (F0 m pc ls (.ref (ad 1) :: rest)) := by
  subst hv
  exact va_get (D := D) (ci := 1) (C := RX1) (T := TX1) (N := 8) X.1 X.2.1 X.2.2.2.2.1 inlX1 X.2.2.2.1 X.2.2.2.2.2.2.2 hP 1 rfl rfl 0 (by decide) (X.2.2.2.2.1 (.fieldLink RX0 88 "StoryColumns$Blocks" "count" "I") (List.mem_of_getElem? (i := 442) (by decide +kernel))) (fun _ h9 => h9) rfl hdg kk
theorem fg_X0_91 (X : cx p s m meth c args cc nL ret RX0 D [(cI, .int)]) (hP : va_P D vwCl (wC ad cI σ) H) (hdg : decode cc pc = .ok (.getfield 91, 3)) (kk : W p l e R s m args below meth c H locs 0 0 Q (F0 m (pc + 3) ls (.ref (ad 7) :: rest))) : W p l e R s m args below meth c H locs 0 0 Q (F0 m pc ls (.ref (ad 1) :: rest)) := by
  exact va_get (D := D) (ci := 1) (C := RX1) (T := TX1) (N := 8) X.1 X.2.1 X.2.2.2.2.1 inlX1 X.2.2.2.1 X.2.2.2.2.2.2.2 hP 1 rfl rfl 1 (by decide) (X.2.2.2.2.1 (.fieldLink RX0 91 "StoryColumns$Blocks" "page" "[I") (List.mem_of_getElem? (i := 443) (by decide +kernel))) (fun _ h9 => h9) rfl hdg kk
theorem fg_X0_94 (X : cx p s m meth c args cc nL ret RX0 D [(cI, .int)]) (hP : va_P D vwCl (wC ad cI σ) H) (hdg : decode cc pc = .ok (.getfield 94, 3)) (kk : W p l e R s m args below meth c H locs 0 0 Q (F0 m (pc + 3) ls (.ref (ad 8) :: rest))) : W p l e R s m args below meth c H locs 0 0 Q (F0 m pc ls (.ref (ad 1) :: rest)) := by
  exact va_get (D := D) (ci := 1) (C := RX1) (T := TX1) (N := 8) X.1 X.2.1 X.2.2.2.2.1 inlX1 X.2.2.2.1 X.2.2.2.2.2.2.2 hP 1 rfl rfl 2 (by decide) (X.2.2.2.2.1 (.fieldLink RX0 94 "StoryColumns$Blocks" "kind" "[I") (List.mem_of_getElem? (i := 638) (by decide +kernel))) (fun _ h9 => h9) rfl hdg kk
theorem fg_X0_100 (X : cx p s m meth c args cc nL ret RX0 D [(cI, .int)]) (hP : va_P D vwCl (wC ad cI σ) H) (hdg : decode cc pc = .ok (.getfield 100, 3)) (kk : W p l e R s m args below meth c H locs 0 0 Q (F0 m (pc + 3) ls (.ref (ad 13) :: rest))) : W p l e R s m args below meth c H locs 0 0 Q (F0 m pc ls (.ref (ad 1) :: rest)) := by
  exact va_get (D := D) (ci := 1) (C := RX1) (T := TX1) (N := 8) X.1 X.2.1 X.2.2.2.2.1 inlX1 X.2.2.2.1 X.2.2.2.2.2.2.2 hP 1 rfl rfl 7 (by decide) (X.2.2.2.2.1 (.fieldLink RX0 100 "StoryColumns$Blocks" "words" "[I") (List.mem_of_getElem? (i := 647) (by decide +kernel))) (fun _ h9 => h9) rfl hdg kk
theorem fg_X1_9 (X : cx p s m meth c args cc nL ret RX1 D [(cI, .int)]) (hP : va_P D vwCl (wC ad cI σ) H) (hdg : decode cc pc = .ok (.getfield 9, 3)) (kk : W p l e R s m args below meth c H locs 0 0 Q (F0 m (pc + 3) ls (.ref (ad 7) :: rest))) : W p l e R s m args below meth c H locs 0 0 Q (F0 m pc ls (.ref (ad 1) :: rest)) := by
  exact va_get (D := D) (ci := 1) (C := RX1) (T := TX1) (N := 8) X.1 X.2.1 X.2.2.2.2.1 inlX1 X.2.2.2.1 X.2.2.2.2.2.2.2 hP 1 rfl rfl 1 (by decide) (X.2.2.2.2.1 (.fieldLink RX1 9 "StoryColumns$Blocks" "page" "[I") (List.mem_of_getElem? (i := 41) (by decide +kernel))) (fun _ h9 => h9) rfl hdg kk
theorem fg_X1_15 (X : cx p s m meth c args cc nL ret RX1 D [(cI, .int)]) (hP : va_P D vwCl (wC ad cI σ) H) (hdg : decode cc pc = .ok (.getfield 15, 3)) (kk : W p l e R s m args below meth c H locs 0 0 Q (F0 m (pc + 3) ls (.ref (ad 8) :: rest))) : W p l e R s m args below meth c H locs 0 0 Q (F0 m pc ls (.ref (ad 1) :: rest)) := by
  exact va_get (D := D) (ci := 1) (C := RX1) (T := TX1) (N := 8) X.1 X.2.1 X.2.2.2.2.1 inlX1 X.2.2.2.1 X.2.2.2.2.2.2.2 hP 1 rfl rfl 2 (by decide) (X.2.2.2.2.1 (.fieldLink RX1 15 "StoryColumns$Blocks" "kind" "[I") (List.mem_of_getElem? (i := 42) (by decide +kernel))) (fun _ h9 => h9) rfl hdg kk
theorem fg_X1_18 (X : cx p s m meth c args cc nL ret RX1 D [(cI, .int)]) (hP : va_P D vwCl (wC ad cI σ) H) (hdg : decode cc pc = .ok (.getfield 18, 3)) (kk : W p l e R s m args below meth c H locs 0 0 Q (F0 m (pc + 3) ls (.ref (ad 9) :: rest))) : W p l e R s m args below meth c H locs 0 0 Q (F0 m pc ls (.ref (ad 1) :: rest)) := by
  exact va_get (D := D) (ci := 1) (C := RX1) (T := TX1) (N := 8) X.1 X.2.1 X.2.2.2.2.1 inlX1 X.2.2.2.1 X.2.2.2.2.2.2.2 hP 1 rfl rfl 3 (by decide) (X.2.2.2.2.1 (.fieldLink RX1 18 "StoryColumns$Blocks" "left" "[I") (List.mem_of_getElem? (i := 43) (by decide +kernel))) (fun _ h9 => h9) rfl hdg kk
theorem fg_X1_21 (X : cx p s m meth c args cc nL ret RX1 D [(cI, .int)]) (hP : va_P D vwCl (wC ad cI σ) H) (hdg : decode cc pc = .ok (.getfield 21, 3)) (kk : W p l e R s m args below meth c H locs 0 0 Q (F0 m (pc + 3) ls (.ref (ad 10) :: rest))) : W p l e R s m args below meth c H locs 0 0 Q (F0 m pc ls (.ref (ad 1) :: rest)) := by
  exact va_get (D := D) (ci := 1) (C := RX1) (T := TX1) (N := 8) X.1 X.2.1 X.2.2.2.2.1 inlX1 X.2.2.2.1 X.2.2.2.2.2.2.2 hP 1 rfl rfl 4 (by decide) (X.2.2.2.2.1 (.fieldLink RX1 21 "StoryColumns$Blocks" "right" "[I") (List.mem_of_getElem? (i := 44) (by decide +kernel))) (fun _ h9 => h9) rfl hdg kk
theorem fg_X1_24 (X : cx p s m meth c args cc nL ret RX1 D [(cI, .int)]) (hP : va_P D vwCl (wC ad cI σ) H) (hdg : decode cc pc = .ok (.getfield 24, 3)) (kk : W p l e R s m args below meth c H locs 0 0 Q (F0 m (pc + 3) ls (.ref (ad 11) :: rest))) : W p l e R s m args below meth c H locs 0 0 Q (F0 m pc ls (.ref (ad 1) :: rest)) := by
  exact va_get (D := D) (ci := 1) (C := RX1) (T := TX1) (N := 8) X.1 X.2.1 X.2.2.2.2.1 inlX1 X.2.2.2.1 X.2.2.2.2.2.2.2 hP 1 rfl rfl 5 (by decide) (X.2.2.2.2.1 (.fieldLink RX1 24 "StoryColumns$Blocks" "top" "[I") (List.mem_of_getElem? (i := 45) (by decide +kernel))) (fun _ h9 => h9) rfl hdg kk
theorem fg_X1_27 (X : cx p s m meth c args cc nL ret RX1 D [(cI, .int)]) (hP : va_P D vwCl (wC ad cI σ) H) (hdg : decode cc pc = .ok (.getfield 27, 3)) (kk : W p l e R s m args below meth c H locs 0 0 Q (F0 m (pc + 3) ls (.ref (ad 12) :: rest))) : W p l e R s m args below meth c H locs 0 0 Q (F0 m pc ls (.ref (ad 1) :: rest)) := by
  exact va_get (D := D) (ci := 1) (C := RX1) (T := TX1) (N := 8) X.1 X.2.1 X.2.2.2.2.1 inlX1 X.2.2.2.1 X.2.2.2.2.2.2.2 hP 1 rfl rfl 6 (by decide) (X.2.2.2.2.1 (.fieldLink RX1 27 "StoryColumns$Blocks" "bottom" "[I") (List.mem_of_getElem? (i := 46) (by decide +kernel))) (fun _ h9 => h9) rfl hdg kk
theorem fg_X1_30 (X : cx p s m meth c args cc nL ret RX1 D [(cI, .int)]) (hP : va_P D vwCl (wC ad cI σ) H) (hdg : decode cc pc = .ok (.getfield 30, 3)) (kk : W p l e R s m args below meth c H locs 0 0 Q (F0 m (pc + 3) ls (.ref (ad 13) :: rest))) : W p l e R s m args below meth c H locs 0 0 Q (F0 m pc ls (.ref (ad 1) :: rest)) := by
  exact va_get (D := D) (ci := 1) (C := RX1) (T := TX1) (N := 8) X.1 X.2.1 X.2.2.2.2.1 inlX1 X.2.2.2.1 X.2.2.2.2.2.2.2 hP 1 rfl rfl 7 (by decide) (X.2.2.2.2.1 (.fieldLink RX1 30 "StoryColumns$Blocks" "words" "[I") (List.mem_of_getElem? (i := 47) (by decide +kernel))) (fun _ h9 => h9) rfl hdg kk
theorem fg_X1_33 {x : Int32} (X : cx p s m meth c args cc nL ret RX1 D [(cI, .int)]) (hP : va_P D vwCl (wC ad cI σ) H) (hv : x = σ 1 0) (hdg : decode cc pc = .ok (.getfield 33, 3)) (kk : W p l e R s m args below meth c H locs 0 0 Q (F0 m (pc + 3) ls (.int x :: rest))) : W p l e R s m args below meth c H locs 0 0 Q (F0 m pc ls (.ref (ad 1) :: rest)) := by
  subst hv
  exact va_get (D := D) (ci := 1) (C := RX1) (T := TX1) (N := 8) X.1 X.2.1 X.2.2.2.2.1 inlX1 X.2.2.2.1 X.2.2.2.2.2.2.2 hP 1 rfl rfl 0 (by decide) (X.2.2.2.2.1 (.fieldLink RX1 33 "StoryColumns$Blocks" "count" "I") (List.mem_of_getElem? (i := 147) (by decide +kernel))) (fun _ h9 => h9) rfl hdg kk
theorem fg_X2_9 (X : cx p s m meth c args cc nL ret RX2 D [(cI, .int)]) (hP : va_P D vwCl (wC ad cI σ) H) (hdg : decode cc pc = .ok (.getfield 9, 3)) (kk : W p l e R s m args below meth c H locs 0 0 Q (F0 m (pc + 3) ls (.ref (ad 16) :: rest))) : W p l e R s m args below meth c H locs 0 0 Q (F0 m pc ls (.ref (ad 3) :: rest)) := by
  exact va_get (D := D) (ci := 2) (C := RX2) (T := TX2) (N := 6) X.1 X.2.1 X.2.2.2.2.1 inlX2 X.2.2.2.1 X.2.2.2.2.2.2.2 hP 3 rfl rfl 1 (by decide) (X.2.2.2.2.1 (.fieldLink RX2 9 "StoryColumns$Lines" "page" "[I") (List.mem_of_getElem? (i := 56) (by decide +kernel))) (fun _ h9 => h9) rfl hdg kk
theorem fg_X2_15 (X : cx p s m meth c args cc nL ret RX2 D [(cI, .int)]) (hP : va_P D vwCl (wC ad cI σ) H) (hdg : decode cc pc = .ok (.getfield 15, 3)) (kk : W p l e R s m args below meth c H locs 0 0 Q (F0 m (pc + 3) ls (.ref (ad 17) :: rest))) : W p l e R s m args below meth c H locs 0 0 Q (F0 m pc ls (.ref (ad 3) :: rest)) := by
  exact va_get (D := D) (ci := 2) (C := RX2) (T := TX2) (N := 6) X.1 X.2.1 X.2.2.2.2.1 inlX2 X.2.2.2.1 X.2.2.2.2.2.2.2 hP 3 rfl rfl 2 (by decide) (X.2.2.2.2.1 (.fieldLink RX2 15 "StoryColumns$Lines" "how" "[I") (List.mem_of_getElem? (i := 57) (by decide +kernel))) (fun _ h9 => h9) rfl hdg kk
theorem fg_X2_18 (X : cx p s m meth c args cc nL ret RX2 D [(cI, .int)]) (hP : va_P D vwCl (wC ad cI σ) H) (hdg : decode cc pc = .ok (.getfield 18, 3)) (kk : W p l e R s m args below meth c H locs 0 0 Q (F0 m (pc + 3) ls (.ref (ad 18) :: rest))) : W p l e R s m args below meth c H locs 0 0 Q (F0 m pc ls (.ref (ad 3) :: rest)) := by
  exact va_get (D := D) (ci := 2) (C := RX2) (T := TX2) (N := 6) X.1 X.2.1 X.2.2.2.2.1 inlX2 X.2.2.2.1 X.2.2.2.2.2.2.2 hP 3 rfl rfl 3 (by decide) (X.2.2.2.2.1 (.fieldLink RX2 18 "StoryColumns$Lines" "place" "[I") (List.mem_of_getElem? (i := 58) (by decide +kernel))) (fun _ h9 => h9) rfl hdg kk
theorem fg_X2_21 (X : cx p s m meth c args cc nL ret RX2 D [(cI, .int)]) (hP : va_P D vwCl (wC ad cI σ) H) (hdg : decode cc pc = .ok (.getfield 21, 3)) (kk : W p l e R s m args below meth c H locs 0 0 Q (F0 m (pc + 3) ls (.ref (ad 19) :: rest))) : W p l e R s m args below meth c H locs 0 0 Q (F0 m pc ls (.ref (ad 3) :: rest)) := by
  exact va_get (D := D) (ci := 2) (C := RX2) (T := TX2) (N := 6) X.1 X.2.1 X.2.2.2.2.1 inlX2 X.2.2.2.1 X.2.2.2.2.2.2.2 hP 3 rfl rfl 4 (by decide) (X.2.2.2.2.1 (.fieldLink RX2 21 "StoryColumns$Lines" "from" "[I") (List.mem_of_getElem? (i := 59) (by decide +kernel))) (fun _ h9 => h9) rfl hdg kk
theorem fg_X2_24 (X : cx p s m meth c args cc nL ret RX2 D [(cI, .int)]) (hP : va_P D vwCl (wC ad cI σ) H) (hdg : decode cc pc = .ok (.getfield 24, 3)) (kk : W p l e R s m args below meth c H locs 0 0 Q (F0 m (pc + 3) ls (.ref (ad 20) :: rest))) : W p l e R s m args below meth c H locs 0 0 Q (F0 m pc ls (.ref (ad 3) :: rest)) := by
  exact va_get (D := D) (ci := 2) (C := RX2) (T := TX2) (N := 6) X.1 X.2.1 X.2.2.2.2.1 inlX2 X.2.2.2.1 X.2.2.2.2.2.2.2 hP 3 rfl rfl 5 (by decide) (X.2.2.2.2.1 (.fieldLink RX2 24 "StoryColumns$Lines" "until" "[I") (List.mem_of_getElem? (i := 60) (by decide +kernel))) (fun _ h9 => h9) rfl hdg kk
theorem fg_X2_27 {x : Int32} (X : cx p s m meth c args cc nL ret RX2 D [(cI, .int)]) (hP : va_P D vwCl (wC ad cI σ) H) (hv : x = σ 3 0) (hdg : decode cc pc = .ok (.getfield 27, 3)) (kk : W p l e R s m args below meth c H locs 0 0 Q (F0 m (pc + 3) ls (.int x :: rest))) : W p l e R s m args below meth c H locs 0 0 Q (F0 m pc ls (.ref (ad 3) :: rest)) := by
  subst hv
  exact va_get (D := D) (ci := 2) (C := RX2) (T := TX2) (N := 6) X.1 X.2.1 X.2.2.2.2.1 inlX2 X.2.2.2.1 X.2.2.2.2.2.2.2 hP 3 rfl rfl 0 (by decide) (X.2.2.2.2.1 (.fieldLink RX2 27 "StoryColumns$Lines" "count" "I") (List.mem_of_getElem? (i := 203) (by decide +kernel))) (fun _ h9 => h9) rfl hdg kk
theorem fg_X3_9 (X : cx p s m meth c args cc nL ret RX3 D [(cI, .int)]) (hP : va_P D vwCl (wC ad cI σ) H) (hdg : decode cc pc = .ok (.getfield 9, 3)) (kk : W p l e R s m args below meth c H locs 0 0 Q (F0 m (pc + 3) ls (.ref (ad 14) :: rest))) : W p l e R s m args below meth c H locs 0 0 Q (F0 m pc ls (.ref (ad 2) :: rest)) := by
  exact va_get (D := D) (ci := 3) (C := RX3) (T := TX3) (N := 2) X.1 X.2.1 X.2.2.2.2.1 inlX3 X.2.2.2.1 X.2.2.2.2.2.2.2 hP 2 rfl rfl 0 (by decide) (X.2.2.2.2.1 (.fieldLink RX3 9 "StoryColumns$Marks" "page" "[I") (List.mem_of_getElem? (i := 51) (by decide +kernel))) (fun _ h9 => h9) rfl hdg kk
theorem fg_X3_15 (X : cx p s m meth c args cc nL ret RX3 D [(cI, .int)]) (hP : va_P D vwCl (wC ad cI σ) H) (hdg : decode cc pc = .ok (.getfield 15, 3)) (kk : W p l e R s m args below meth c H locs 0 0 Q (F0 m (pc + 3) ls (.ref (ad 15) :: rest))) : W p l e R s m args below meth c H locs 0 0 Q (F0 m pc ls (.ref (ad 2) :: rest)) := by
  exact va_get (D := D) (ci := 3) (C := RX3) (T := TX3) (N := 2) X.1 X.2.1 X.2.2.2.2.1 inlX3 X.2.2.2.1 X.2.2.2.2.2.2.2 hP 2 rfl rfl 1 (by decide) (X.2.2.2.2.1 (.fieldLink RX3 15 "StoryColumns$Marks" "word" "[I") (List.mem_of_getElem? (i := 52) (by decide +kernel))) (fun _ h9 => h9) rfl hdg kk
theorem fg_X4_9 (X : cx p s m meth c args cc nL ret RX4 D [(cI, .int)]) (hP : va_P D vwCl (wC ad cI σ) H) (hdg : decode cc pc = .ok (.getfield 9, 3)) (kk : W p l e R s m args below meth c H locs 0 0 Q (F0 m (pc + 3) ls (.ref (ad 1) :: rest))) : W p l e R s m args below meth c H locs 0 0 Q (F0 m pc ls (.ref (ad 4) :: rest)) := by
  exact va_get (D := D) (ci := 4) (C := RX4) (T := TX4) (N := 2) X.1 X.2.1 X.2.2.2.2.1 inlX4 X.2.2.2.1 X.2.2.2.2.2.2.2 hP 4 rfl rfl 0 (by decide) (X.2.2.2.2.1 (.fieldLink RX4 9 "StoryColumns$Reaches" "blocks" "LStoryColumns$Blocks;") (List.mem_of_getElem? (i := 65) (by decide +kernel))) (fun _ h9 => h9) rfl hdg kk
theorem fg_X4_15 (X : cx p s m meth c args cc nL ret RX4 D [(cI, .int)]) (hP : va_P D vwCl (wC ad cI σ) H) (hdg : decode cc pc = .ok (.getfield 15, 3)) (kk : W p l e R s m args below meth c H locs 0 0 Q (F0 m (pc + 3) ls (.ref (ad 3) :: rest))) : W p l e R s m args below meth c H locs 0 0 Q (F0 m pc ls (.ref (ad 4) :: rest)) := by
  exact va_get (D := D) (ci := 4) (C := RX4) (T := TX4) (N := 2) X.1 X.2.1 X.2.2.2.2.1 inlX4 X.2.2.2.1 X.2.2.2.2.2.2.2 hP 4 rfl rfl 1 (by decide) (X.2.2.2.2.1 (.fieldLink RX4 15 "StoryColumns$Reaches" "lines" "LStoryColumns$Lines;") (List.mem_of_getElem? (i := 66) (by decide +kernel))) (fun _ h9 => h9) rfl hdg kk
theorem fg_X4_19 (X : cx p s m meth c args cc nL ret RX4 D [(cI, .int)]) (hP : va_P D vwCl (wC ad cI σ) H) (hdg : decode cc pc = .ok (.getfield 19, 3)) (kk : W p l e R s m args below meth c H locs 0 0 Q (F0 m (pc + 3) ls (.ref (ad 12) :: rest))) : W p l e R s m args below meth c H locs 0 0 Q (F0 m pc ls (.ref (ad 1) :: rest)) := by
  exact va_get (D := D) (ci := 1) (C := RX1) (T := TX1) (N := 8) X.1 X.2.1 X.2.2.2.2.1 inlX1 X.2.2.2.1 X.2.2.2.2.2.2.2 hP 1 rfl rfl 6 (by decide) (X.2.2.2.2.1 (.fieldLink RX4 19 "StoryColumns$Blocks" "bottom" "[I") (List.mem_of_getElem? (i := 298) (by decide +kernel))) (fun _ h9 => h9) rfl hdg kk
theorem fg_X4_25 (X : cx p s m meth c args cc nL ret RX4 D [(cI, .int)]) (hP : va_P D vwCl (wC ad cI σ) H) (hdg : decode cc pc = .ok (.getfield 25, 3)) (kk : W p l e R s m args below meth c H locs 0 0 Q (F0 m (pc + 3) ls (.ref (ad 9) :: rest))) : W p l e R s m args below meth c H locs 0 0 Q (F0 m pc ls (.ref (ad 1) :: rest)) := by
  exact va_get (D := D) (ci := 1) (C := RX1) (T := TX1) (N := 8) X.1 X.2.1 X.2.2.2.2.1 inlX1 X.2.2.2.1 X.2.2.2.2.2.2.2 hP 1 rfl rfl 3 (by decide) (X.2.2.2.2.1 (.fieldLink RX4 25 "StoryColumns$Blocks" "left" "[I") (List.mem_of_getElem? (i := 296) (by decide +kernel))) (fun _ h9 => h9) rfl hdg kk
theorem fg_X4_28 (X : cx p s m meth c args cc nL ret RX4 D [(cI, .int)]) (hP : va_P D vwCl (wC ad cI σ) H) (hdg : decode cc pc = .ok (.getfield 28, 3)) (kk : W p l e R s m args below meth c H locs 0 0 Q (F0 m (pc + 3) ls (.ref (ad 10) :: rest))) : W p l e R s m args below meth c H locs 0 0 Q (F0 m pc ls (.ref (ad 1) :: rest)) := by
  exact va_get (D := D) (ci := 1) (C := RX1) (T := TX1) (N := 8) X.1 X.2.1 X.2.2.2.2.1 inlX1 X.2.2.2.1 X.2.2.2.2.2.2.2 hP 1 rfl rfl 4 (by decide) (X.2.2.2.2.1 (.fieldLink RX4 28 "StoryColumns$Blocks" "right" "[I") (List.mem_of_getElem? (i := 307) (by decide +kernel))) (fun _ h9 => h9) rfl hdg kk
theorem fg_X4_31 (X : cx p s m meth c args cc nL ret RX4 D [(cI, .int)]) (hP : va_P D vwCl (wC ad cI σ) H) (hdg : decode cc pc = .ok (.getfield 31, 3)) (kk : W p l e R s m args below meth c H locs 0 0 Q (F0 m (pc + 3) ls (.ref (ad 7) :: rest))) : W p l e R s m args below meth c H locs 0 0 Q (F0 m pc ls (.ref (ad 1) :: rest)) := by
  exact va_get (D := D) (ci := 1) (C := RX1) (T := TX1) (N := 8) X.1 X.2.1 X.2.2.2.2.1 inlX1 X.2.2.2.1 X.2.2.2.2.2.2.2 hP 1 rfl rfl 1 (by decide) (X.2.2.2.2.1 (.fieldLink RX4 31 "StoryColumns$Blocks" "page" "[I") (List.mem_of_getElem? (i := 297) (by decide +kernel))) (fun _ h9 => h9) rfl hdg kk
theorem fg_X4_57 {x : Int32} (X : cx p s m meth c args cc nL ret RX4 D [(cI, .int)]) (hP : va_P D vwCl (wC ad cI σ) H) (hv : x = σ 1 0) (hdg : decode cc pc = .ok (.getfield 57, 3)) (kk : W p l e R s m args below meth c H locs 0 0 Q (F0 m (pc + 3) ls (.int x :: rest))) : W p l e R s m args below meth c H locs 0 0 Q (F0 m pc ls (.ref (ad 1) :: rest)) := by
  subst hv
  exact va_get (D := D) (ci := 1) (C := RX1) (T := TX1) (N := 8) X.1 X.2.1 X.2.2.2.2.1 inlX1 X.2.2.2.1 X.2.2.2.2.2.2.2 hP 1 rfl rfl 0 (by decide) (X.2.2.2.2.1 (.fieldLink RX4 57 "StoryColumns$Blocks" "count" "I") (List.mem_of_getElem? (i := 362) (by decide +kernel))) (fun _ h9 => h9) rfl hdg kk
theorem fg_X4_61 (X : cx p s m meth c args cc nL ret RX4 D [(cI, .int)]) (hP : va_P D vwCl (wC ad cI σ) H) (hdg : decode cc pc = .ok (.getfield 61, 3)) (kk : W p l e R s m args below meth c H locs 0 0 Q (F0 m (pc + 3) ls (.ref (ad 11) :: rest))) : W p l e R s m args below meth c H locs 0 0 Q (F0 m pc ls (.ref (ad 1) :: rest)) := by
  exact va_get (D := D) (ci := 1) (C := RX1) (T := TX1) (N := 8) X.1 X.2.1 X.2.2.2.2.1 inlX1 X.2.2.2.1 X.2.2.2.2.2.2.2 hP 1 rfl rfl 5 (by decide) (X.2.2.2.2.1 (.fieldLink RX4 61 "StoryColumns$Blocks" "top" "[I") (List.mem_of_getElem? (i := 363) (by decide +kernel))) (fun _ h9 => h9) rfl hdg kk
theorem fg_X4_64 (X : cx p s m meth c args cc nL ret RX4 D [(cI, .int)]) (hP : va_P D vwCl (wC ad cI σ) H) (hdg : decode cc pc = .ok (.getfield 64, 3)) (kk : W p l e R s m args below meth c H locs 0 0 Q (F0 m (pc + 3) ls (.ref (ad 8) :: rest))) : W p l e R s m args below meth c H locs 0 0 Q (F0 m pc ls (.ref (ad 1) :: rest)) := by
  exact va_get (D := D) (ci := 1) (C := RX1) (T := TX1) (N := 8) X.1 X.2.1 X.2.2.2.2.1 inlX1 X.2.2.2.1 X.2.2.2.2.2.2.2 hP 1 rfl rfl 2 (by decide) (X.2.2.2.2.1 (.fieldLink RX4 64 "StoryColumns$Blocks" "kind" "[I") (List.mem_of_getElem? (i := 364) (by decide +kernel))) (fun _ h9 => h9) rfl hdg kk
theorem fg_X5_9 (X : cx p s m meth c args cc nL ret RX5 D [(cI, .int)]) (hP : va_P D vwCl (wC ad cI σ) H) (hdg : decode cc pc = .ok (.getfield 9, 3)) (kk : W p l e R s m args below meth c H locs 0 0 Q (F0 m (pc + 3) ls (.ref (ad 21) :: rest))) : W p l e R s m args below meth c H locs 0 0 Q (F0 m pc ls (.ref (ad 5) :: rest)) := by
  exact va_get (D := D) (ci := 5) (C := RX5) (T := TX5) (N := 11) X.1 X.2.1 X.2.2.2.2.1 inlX5 X.2.2.2.1 X.2.2.2.2.2.2.2 hP 5 rfl rfl 4 (by decide) (X.2.2.2.2.1 (.fieldLink RX5 9 "StoryColumns$Stories" "over" "[I") (List.mem_of_getElem? (i := 71) (by decide +kernel))) (fun _ h9 => h9) rfl hdg kk
theorem fg_X5_15 (X : cx p s m meth c args cc nL ret RX5 D [(cI, .int)]) (hP : va_P D vwCl (wC ad cI σ) H) (hdg : decode cc pc = .ok (.getfield 15, 3)) (kk : W p l e R s m args below meth c H locs 0 0 Q (F0 m (pc + 3) ls (.ref (ad 22) :: rest))) : W p l e R s m args below meth c H locs 0 0 Q (F0 m pc ls (.ref (ad 5) :: rest)) := by
  exact va_get (D := D) (ci := 5) (C := RX5) (T := TX5) (N := 11) X.1 X.2.1 X.2.2.2.2.1 inlX5 X.2.2.2.1 X.2.2.2.2.2.2.2 hP 5 rfl rfl 5 (by decide) (X.2.2.2.2.1 (.fieldLink RX5 15 "StoryColumns$Stories" "taker" "[I") (List.mem_of_getElem? (i := 72) (by decide +kernel))) (fun _ h9 => h9) rfl hdg kk
theorem fg_X5_18 (X : cx p s m meth c args cc nL ret RX5 D [(cI, .int)]) (hP : va_P D vwCl (wC ad cI σ) H) (hdg : decode cc pc = .ok (.getfield 18, 3)) (kk : W p l e R s m args below meth c H locs 0 0 Q (F0 m (pc + 3) ls (.ref (ad 23) :: rest))) : W p l e R s m args below meth c H locs 0 0 Q (F0 m pc ls (.ref (ad 5) :: rest)) := by
  exact va_get (D := D) (ci := 5) (C := RX5) (T := TX5) (N := 11) X.1 X.2.1 X.2.2.2.2.1 inlX5 X.2.2.2.1 X.2.2.2.2.2.2.2 hP 5 rfl rfl 6 (by decide) (X.2.2.2.2.1 (.fieldLink RX5 18 "StoryColumns$Stories" "root" "[I") (List.mem_of_getElem? (i := 73) (by decide +kernel))) (fun _ h9 => h9) rfl hdg kk
theorem fg_X5_21 (X : cx p s m meth c args cc nL ret RX5 D [(cI, .int)]) (hP : va_P D vwCl (wC ad cI σ) H) (hdg : decode cc pc = .ok (.getfield 21, 3)) (kk : W p l e R s m args below meth c H locs 0 0 Q (F0 m (pc + 3) ls (.ref (ad 24) :: rest))) : W p l e R s m args below meth c H locs 0 0 Q (F0 m pc ls (.ref (ad 5) :: rest)) := by
  exact va_get (D := D) (ci := 5) (C := RX5) (T := TX5) (N := 11) X.1 X.2.1 X.2.2.2.2.1 inlX5 X.2.2.2.1 X.2.2.2.2.2.2.2 hP 5 rfl rfl 7 (by decide) (X.2.2.2.2.1 (.fieldLink RX5 21 "StoryColumns$Stories" "storyOf" "[I") (List.mem_of_getElem? (i := 74) (by decide +kernel))) (fun _ h9 => h9) rfl hdg kk
theorem fg_X5_24 (X : cx p s m meth c args cc nL ret RX5 D [(cI, .int)]) (hP : va_P D vwCl (wC ad cI σ) H) (hdg : decode cc pc = .ok (.getfield 24, 3)) (kk : W p l e R s m args below meth c H locs 0 0 Q (F0 m (pc + 3) ls (.ref (ad 25) :: rest))) : W p l e R s m args below meth c H locs 0 0 Q (F0 m pc ls (.ref (ad 5) :: rest)) := by
  exact va_get (D := D) (ci := 5) (C := RX5) (T := TX5) (N := 11) X.1 X.2.1 X.2.2.2.2.1 inlX5 X.2.2.2.1 X.2.2.2.2.2.2.2 hP 5 rfl rfl 8 (by decide) (X.2.2.2.2.1 (.fieldLink RX5 24 "StoryColumns$Stories" "rootOf" "[I") (List.mem_of_getElem? (i := 75) (by decide +kernel))) (fun _ h9 => h9) rfl hdg kk
theorem fg_X5_27 (X : cx p s m meth c args cc nL ret RX5 D [(cI, .int)]) (hP : va_P D vwCl (wC ad cI σ) H) (hdg : decode cc pc = .ok (.getfield 27, 3)) (kk : W p l e R s m args below meth c H locs 0 0 Q (F0 m (pc + 3) ls (.ref (ad 26) :: rest))) : W p l e R s m args below meth c H locs 0 0 Q (F0 m pc ls (.ref (ad 5) :: rest)) := by
  exact va_get (D := D) (ci := 5) (C := RX5) (T := TX5) (N := 11) X.1 X.2.1 X.2.2.2.2.1 inlX5 X.2.2.2.1 X.2.2.2.2.2.2.2 hP 5 rfl rfl 9 (by decide) (X.2.2.2.2.1 (.fieldLink RX5 27 "StoryColumns$Stories" "sequence" "[I") (List.mem_of_getElem? (i := 76) (by decide +kernel))) (fun _ h9 => h9) rfl hdg kk
theorem fg_X5_30 (X : cx p s m meth c args cc nL ret RX5 D [(cI, .int)]) (hP : va_P D vwCl (wC ad cI σ) H) (hdg : decode cc pc = .ok (.getfield 30, 3)) (kk : W p l e R s m args below meth c H locs 0 0 Q (F0 m (pc + 3) ls (.ref (ad 1) :: rest))) : W p l e R s m args below meth c H locs 0 0 Q (F0 m pc ls (.ref (ad 5) :: rest)) := by
  exact va_get (D := D) (ci := 5) (C := RX5) (T := TX5) (N := 11) X.1 X.2.1 X.2.2.2.2.1 inlX5 X.2.2.2.1 X.2.2.2.2.2.2.2 hP 5 rfl rfl 0 (by decide) (X.2.2.2.2.1 (.fieldLink RX5 30 "StoryColumns$Stories" "blocks" "LStoryColumns$Blocks;") (List.mem_of_getElem? (i := 77) (by decide +kernel))) (fun _ h9 => h9) rfl hdg kk
theorem fg_X5_34 (X : cx p s m meth c args cc nL ret RX5 D [(cI, .int)]) (hP : va_P D vwCl (wC ad cI σ) H) (hdg : decode cc pc = .ok (.getfield 34, 3)) (kk : W p l e R s m args below meth c H locs 0 0 Q (F0 m (pc + 3) ls (.ref (ad 3) :: rest))) : W p l e R s m args below meth c H locs 0 0 Q (F0 m pc ls (.ref (ad 5) :: rest)) := by
  exact va_get (D := D) (ci := 5) (C := RX5) (T := TX5) (N := 11) X.1 X.2.1 X.2.2.2.2.1 inlX5 X.2.2.2.1 X.2.2.2.2.2.2.2 hP 5 rfl rfl 1 (by decide) (X.2.2.2.2.1 (.fieldLink RX5 34 "StoryColumns$Stories" "lines" "LStoryColumns$Lines;") (List.mem_of_getElem? (i := 78) (by decide +kernel))) (fun _ h9 => h9) rfl hdg kk
theorem fg_X5_38 (X : cx p s m meth c args cc nL ret RX5 D [(cI, .int)]) (hP : va_P D vwCl (wC ad cI σ) H) (hdg : decode cc pc = .ok (.getfield 38, 3)) (kk : W p l e R s m args below meth c H locs 0 0 Q (F0 m (pc + 3) ls (.ref (ad 4) :: rest))) : W p l e R s m args below meth c H locs 0 0 Q (F0 m pc ls (.ref (ad 5) :: rest)) := by
  exact va_get (D := D) (ci := 5) (C := RX5) (T := TX5) (N := 11) X.1 X.2.1 X.2.2.2.2.1 inlX5 X.2.2.2.1 X.2.2.2.2.2.2.2 hP 5 rfl rfl 2 (by decide) (X.2.2.2.2.1 (.fieldLink RX5 38 "StoryColumns$Stories" "reaches" "LStoryColumns$Reaches;") (List.mem_of_getElem? (i := 79) (by decide +kernel))) (fun _ h9 => h9) rfl hdg kk
theorem fg_X5_42 {x : Int32} (X : cx p s m meth c args cc nL ret RX5 D [(cI, .int)]) (hP : va_P D vwCl (wC ad cI σ) H) (hv : x = σ 5 10) (hdg : decode cc pc = .ok (.getfield 42, 3)) (kk : W p l e R s m args below meth c H locs 0 0 Q (F0 m (pc + 3) ls (.int x :: rest))) : W p l e R s m args below meth c H locs 0 0 Q (F0 m pc ls (.ref (ad 5) :: rest)) := by
  subst hv
  exact va_get (D := D) (ci := 5) (C := RX5) (T := TX5) (N := 11) X.1 X.2.1 X.2.2.2.2.1 inlX5 X.2.2.2.1 X.2.2.2.2.2.2.2 hP 5 rfl rfl 10 (by decide) (X.2.2.2.2.1 (.fieldLink RX5 42 "StoryColumns$Stories" "texts" "I") (List.mem_of_getElem? (i := 355) (by decide +kernel))) (fun _ h9 => h9) rfl hdg kk
theorem fg_X5_46 {x : Int32} (X : cx p s m meth c args cc nL ret RX5 D [(cI, .int)]) (hP : va_P D vwCl (wC ad cI σ) H) (hv : x = σ 1 0) (hdg : decode cc pc = .ok (.getfield 46, 3)) (kk : W p l e R s m args below meth c H locs 0 0 Q (F0 m (pc + 3) ls (.int x :: rest))) : W p l e R s m args below meth c H locs 0 0 Q (F0 m pc ls (.ref (ad 1) :: rest)) := by
  subst hv
  exact va_get (D := D) (ci := 1) (C := RX1) (T := TX1) (N := 8) X.1 X.2.1 X.2.2.2.2.1 inlX1 X.2.2.2.1 X.2.2.2.2.2.2.2 hP 1 rfl rfl 0 (by decide) (X.2.2.2.2.1 (.fieldLink RX5 46 "StoryColumns$Blocks" "count" "I") (List.mem_of_getElem? (i := 356) (by decide +kernel))) (fun _ h9 => h9) rfl hdg kk
theorem fg_X5_51 (X : cx p s m meth c args cc nL ret RX5 D [(cI, .int)]) (hP : va_P D vwCl (wC ad cI σ) H) (hdg : decode cc pc = .ok (.getfield 51, 3)) (kk : W p l e R s m args below meth c H locs 0 0 Q (F0 m (pc + 3) ls (.ref (ad 8) :: rest))) : W p l e R s m args below meth c H locs 0 0 Q (F0 m pc ls (.ref (ad 1) :: rest)) := by
  exact va_get (D := D) (ci := 1) (C := RX1) (T := TX1) (N := 8) X.1 X.2.1 X.2.2.2.2.1 inlX1 X.2.2.2.1 X.2.2.2.2.2.2.2 hP 1 rfl rfl 2 (by decide) (X.2.2.2.2.1 (.fieldLink RX5 51 "StoryColumns$Blocks" "kind" "[I") (List.mem_of_getElem? (i := 357) (by decide +kernel))) (fun _ h9 => h9) rfl hdg kk
theorem fg_X5_91 (X : cx p s m meth c args cc nL ret RX5 D [(cI, .int)]) (hP : va_P D vwCl (wC ad cI σ) H) (hdg : decode cc pc = .ok (.getfield 91, 3)) (kk : W p l e R s m args below meth c H locs 0 0 Q (F0 m (pc + 3) ls (.ref (ad 11) :: rest))) : W p l e R s m args below meth c H locs 0 0 Q (F0 m pc ls (.ref (ad 1) :: rest)) := by
  exact va_get (D := D) (ci := 1) (C := RX1) (T := TX1) (N := 8) X.1 X.2.1 X.2.2.2.2.1 inlX1 X.2.2.2.1 X.2.2.2.2.2.2.2 hP 1 rfl rfl 5 (by decide) (X.2.2.2.2.1 (.fieldLink RX5 91 "StoryColumns$Blocks" "top" "[I") (List.mem_of_getElem? (i := 390) (by decide +kernel))) (fun _ h9 => h9) rfl hdg kk
theorem fg_X5_94 (X : cx p s m meth c args cc nL ret RX5 D [(cI, .int)]) (hP : va_P D vwCl (wC ad cI σ) H) (hdg : decode cc pc = .ok (.getfield 94, 3)) (kk : W p l e R s m args below meth c H locs 0 0 Q (F0 m (pc + 3) ls (.ref (ad 7) :: rest))) : W p l e R s m args below meth c H locs 0 0 Q (F0 m pc ls (.ref (ad 1) :: rest)) := by
  exact va_get (D := D) (ci := 1) (C := RX1) (T := TX1) (N := 8) X.1 X.2.1 X.2.2.2.2.1 inlX1 X.2.2.2.1 X.2.2.2.2.2.2.2 hP 1 rfl rfl 1 (by decide) (X.2.2.2.2.1 (.fieldLink RX5 94 "StoryColumns$Blocks" "page" "[I") (List.mem_of_getElem? (i := 395) (by decide +kernel))) (fun _ h9 => h9) rfl hdg kk
theorem fg_X5_97 (X : cx p s m meth c args cc nL ret RX5 D [(cI, .int)]) (hP : va_P D vwCl (wC ad cI σ) H) (hdg : decode cc pc = .ok (.getfield 97, 3)) (kk : W p l e R s m args below meth c H locs 0 0 Q (F0 m (pc + 3) ls (.ref (ad 10) :: rest))) : W p l e R s m args below meth c H locs 0 0 Q (F0 m pc ls (.ref (ad 1) :: rest)) := by
  exact va_get (D := D) (ci := 1) (C := RX1) (T := TX1) (N := 8) X.1 X.2.1 X.2.2.2.2.1 inlX1 X.2.2.2.1 X.2.2.2.2.2.2.2 hP 1 rfl rfl 4 (by decide) (X.2.2.2.2.1 (.fieldLink RX5 97 "StoryColumns$Blocks" "right" "[I") (List.mem_of_getElem? (i := 396) (by decide +kernel))) (fun _ h9 => h9) rfl hdg kk
theorem fg_X5_100 (X : cx p s m meth c args cc nL ret RX5 D [(cI, .int)]) (hP : va_P D vwCl (wC ad cI σ) H) (hdg : decode cc pc = .ok (.getfield 100, 3)) (kk : W p l e R s m args below meth c H locs 0 0 Q (F0 m (pc + 3) ls (.ref (ad 9) :: rest))) : W p l e R s m args below meth c H locs 0 0 Q (F0 m pc ls (.ref (ad 1) :: rest)) := by
  exact va_get (D := D) (ci := 1) (C := RX1) (T := TX1) (N := 8) X.1 X.2.1 X.2.2.2.2.1 inlX1 X.2.2.2.1 X.2.2.2.2.2.2.2 hP 1 rfl rfl 3 (by decide) (X.2.2.2.2.1 (.fieldLink RX5 100 "StoryColumns$Blocks" "left" "[I") (List.mem_of_getElem? (i := 397) (by decide +kernel))) (fun _ h9 => h9) rfl hdg kk
theorem fg_X5_109 (X : cx p s m meth c args cc nL ret RX5 D [(cI, .int)]) (hP : va_P D vwCl (wC ad cI σ) H) (hdg : decode cc pc = .ok (.getfield 109, 3)) (kk : W p l e R s m args below meth c H locs 0 0 Q (F0 m (pc + 3) ls (.ref (ad 12) :: rest))) : W p l e R s m args below meth c H locs 0 0 Q (F0 m pc ls (.ref (ad 1) :: rest)) := by
  exact va_get (D := D) (ci := 1) (C := RX1) (T := TX1) (N := 8) X.1 X.2.1 X.2.2.2.2.1 inlX1 X.2.2.2.1 X.2.2.2.2.2.2.2 hP 1 rfl rfl 6 (by decide) (X.2.2.2.2.1 (.fieldLink RX5 109 "StoryColumns$Blocks" "bottom" "[I") (List.mem_of_getElem? (i := 401) (by decide +kernel))) (fun _ h9 => h9) rfl hdg kk
theorem fg_X5_121 {x : Int32} (X : cx p s m meth c args cc nL ret RX5 D [(cI, .int)]) (hP : va_P D vwCl (wC ad cI σ) H) (hv : x = σ 5 3) (hdg : decode cc pc = .ok (.getfield 121, 3)) (kk : W p l e R s m args below meth c H locs 0 0 Q (F0 m (pc + 3) ls (.int x :: rest))) : W p l e R s m args below meth c H locs 0 0 Q (F0 m pc ls (.ref (ad 5) :: rest)) := by
  subst hv
  exact va_get (D := D) (ci := 5) (C := RX5) (T := TX5) (N := 11) X.1 X.2.1 X.2.2.2.2.1 inlX5 X.2.2.2.1 X.2.2.2.2.2.2.2 hP 5 rfl rfl 3 (by decide) (X.2.2.2.2.1 (.fieldLink RX5 121 "StoryColumns$Stories" "count" "I") (List.mem_of_getElem? (i := 412) (by decide +kernel))) (fun _ h9 => h9) rfl hdg kk
theorem fg_X5_122 (X : cx p s m meth c args cc nL ret RX5 D [(cI, .int)]) (hP : va_P D vwCl (wC ad cI σ) H) (hdg : decode cc pc = .ok (.getfield 122, 3)) (kk : W p l e R s m args below meth c H locs 0 0 Q (F0 m (pc + 3) ls (.ref (ad 13) :: rest))) : W p l e R s m args below meth c H locs 0 0 Q (F0 m pc ls (.ref (ad 1) :: rest)) := by
  exact va_get (D := D) (ci := 1) (C := RX1) (T := TX1) (N := 8) X.1 X.2.1 X.2.2.2.2.1 inlX1 X.2.2.2.1 X.2.2.2.2.2.2.2 hP 1 rfl rfl 7 (by decide) (X.2.2.2.2.1 (.fieldLink RX5 122 "StoryColumns$Blocks" "words" "[I") (List.mem_of_getElem? (i := 531) (by decide +kernel))) (fun _ h9 => h9) rfl hdg kk
theorem fg_X6_10 (X : cx p s m meth c args cc nL ret RX6 D [(cI, .int)]) (hP : va_P D vwCl (wC ad cI σ) H) (hdg : decode cc pc = .ok (.getfield 10, 3)) (kk : W p l e R s m args below meth c H locs 0 0 Q (F0 m (pc + 3) ls (.ref (ad 1) :: rest))) : W p l e R s m args below meth c H locs 0 0 Q (F0 m pc ls (.ref (ad 0) :: rest)) := by
  exact va_get (D := D) (ci := 6) (C := RX6) (T := TX6) (N := 7) X.1 X.2.1 X.2.2.2.2.1 inlX6 X.2.2.2.1 X.2.2.2.2.2.2.2 hP 0 rfl rfl 0 (by decide) (X.2.2.2.2.1 (.fieldLink RX6 10 "StoryColumns" "blocks" "LStoryColumns$Blocks;") (List.mem_of_getElem? (i := 15) (by decide +kernel))) (fun _ h9 => h9) rfl hdg kk
theorem fg_X6_19 (X : cx p s m meth c args cc nL ret RX6 D [(cI, .int)]) (hP : va_P D vwCl (wC ad cI σ) H) (hdg : decode cc pc = .ok (.getfield 19, 3)) (kk : W p l e R s m args below meth c H locs 0 0 Q (F0 m (pc + 3) ls (.ref (ad 2) :: rest))) : W p l e R s m args below meth c H locs 0 0 Q (F0 m pc ls (.ref (ad 0) :: rest)) := by
  exact va_get (D := D) (ci := 6) (C := RX6) (T := TX6) (N := 7) X.1 X.2.1 X.2.2.2.2.1 inlX6 X.2.2.2.1 X.2.2.2.2.2.2.2 hP 0 rfl rfl 1 (by decide) (X.2.2.2.2.1 (.fieldLink RX6 19 "StoryColumns" "marks" "LStoryColumns$Marks;") (List.mem_of_getElem? (i := 19) (by decide +kernel))) (fun _ h9 => h9) rfl hdg kk
theorem fg_X6_26 (X : cx p s m meth c args cc nL ret RX6 D [(cI, .int)]) (hP : va_P D vwCl (wC ad cI σ) H) (hdg : decode cc pc = .ok (.getfield 26, 3)) (kk : W p l e R s m args below meth c H locs 0 0 Q (F0 m (pc + 3) ls (.ref (ad 3) :: rest))) : W p l e R s m args below meth c H locs 0 0 Q (F0 m pc ls (.ref (ad 0) :: rest)) := by
  exact va_get (D := D) (ci := 6) (C := RX6) (T := TX6) (N := 7) X.1 X.2.1 X.2.2.2.2.1 inlX6 X.2.2.2.1 X.2.2.2.2.2.2.2 hP 0 rfl rfl 2 (by decide) (X.2.2.2.2.1 (.fieldLink RX6 26 "StoryColumns" "lines" "LStoryColumns$Lines;") (List.mem_of_getElem? (i := 23) (by decide +kernel))) (fun _ h9 => h9) rfl hdg kk
theorem fg_X6_35 (X : cx p s m meth c args cc nL ret RX6 D [(cI, .int)]) (hP : va_P D vwCl (wC ad cI σ) H) (hdg : decode cc pc = .ok (.getfield 35, 3)) (kk : W p l e R s m args below meth c H locs 0 0 Q (F0 m (pc + 3) ls (.ref (ad 4) :: rest))) : W p l e R s m args below meth c H locs 0 0 Q (F0 m pc ls (.ref (ad 0) :: rest)) := by
  exact va_get (D := D) (ci := 6) (C := RX6) (T := TX6) (N := 7) X.1 X.2.1 X.2.2.2.2.1 inlX6 X.2.2.2.1 X.2.2.2.2.2.2.2 hP 0 rfl rfl 3 (by decide) (X.2.2.2.2.1 (.fieldLink RX6 35 "StoryColumns" "reaches" "LStoryColumns$Reaches;") (List.mem_of_getElem? (i := 27) (by decide +kernel))) (fun _ h9 => h9) rfl hdg kk
theorem fg_X6_44 (X : cx p s m meth c args cc nL ret RX6 D [(cI, .int)]) (hP : va_P D vwCl (wC ad cI σ) H) (hdg : decode cc pc = .ok (.getfield 44, 3)) (kk : W p l e R s m args below meth c H locs 0 0 Q (F0 m (pc + 3) ls (.ref (ad 5) :: rest))) : W p l e R s m args below meth c H locs 0 0 Q (F0 m pc ls (.ref (ad 0) :: rest)) := by
  exact va_get (D := D) (ci := 6) (C := RX6) (T := TX6) (N := 7) X.1 X.2.1 X.2.2.2.2.1 inlX6 X.2.2.2.1 X.2.2.2.2.2.2.2 hP 0 rfl rfl 4 (by decide) (X.2.2.2.2.1 (.fieldLink RX6 44 "StoryColumns" "stories" "LStoryColumns$Stories;") (List.mem_of_getElem? (i := 31) (by decide +kernel))) (fun _ h9 => h9) rfl hdg kk
theorem fg_X6_53 (X : cx p s m meth c args cc nL ret RX6 D [(cI, .int)]) (hP : va_P D vwCl (wC ad cI σ) H) (hdg : decode cc pc = .ok (.getfield 53, 3)) (kk : W p l e R s m args below meth c H locs 0 0 Q (F0 m (pc + 3) ls (.ref (ad 6) :: rest))) : W p l e R s m args below meth c H locs 0 0 Q (F0 m pc ls (.ref (ad 0) :: rest)) := by
  exact va_get (D := D) (ci := 6) (C := RX6) (T := TX6) (N := 7) X.1 X.2.1 X.2.2.2.2.1 inlX6 X.2.2.2.1 X.2.2.2.2.2.2.2 hP 0 rfl rfl 5 (by decide) (X.2.2.2.2.1 (.fieldLink RX6 53 "StoryColumns" "articles" "LStoryColumns$Articles;") (List.mem_of_getElem? (i := 35) (by decide +kernel))) (fun _ h9 => h9) rfl hdg kk
theorem fg_X6_57 {x : Int32} (X : cx p s m meth c args cc nL ret RX6 D [(cI, .int)]) (hP : va_P D vwCl (wC ad cI σ) H) (hv : x = σ 0 6) (hdg : decode cc pc = .ok (.getfield 57, 3)) (kk : W p l e R s m args below meth c H locs 0 0 Q (F0 m (pc + 3) ls (.int x :: rest))) : W p l e R s m args below meth c H locs 0 0 Q (F0 m pc ls (.ref (ad 0) :: rest)) := by
  subst hv
  exact va_get (D := D) (ci := 6) (C := RX6) (T := TX6) (N := 7) X.1 X.2.1 X.2.2.2.2.1 inlX6 X.2.2.2.1 X.2.2.2.2.2.2.2 hP 0 rfl rfl 6 (by decide) (X.2.2.2.2.1 (.fieldLink RX6 57 "StoryColumns" "stale" "Z") (List.mem_of_getElem? (i := 36) (by decide +kernel))) (fun _ h9 => h9) rfl hdg kk
theorem fg_X6_73 {x : Int32} (X : cx p s m meth c args cc nL ret RX6 D [(cI, .int)]) (hP : va_P D vwCl (wC ad cI σ) H) (hv : x = σ 1 0) (hdg : decode cc pc = .ok (.getfield 73, 3)) (kk : W p l e R s m args below meth c H locs 0 0 Q (F0 m (pc + 3) ls (.int x :: rest))) : W p l e R s m args below meth c H locs 0 0 Q (F0 m pc ls (.ref (ad 1) :: rest)) := by
  subst hv
  exact va_get (D := D) (ci := 1) (C := RX1) (T := TX1) (N := 8) X.1 X.2.1 X.2.2.2.2.1 inlX1 X.2.2.2.1 X.2.2.2.2.2.2.2 hP 1 rfl rfl 0 (by decide) (X.2.2.2.2.1 (.fieldLink RX6 73 "StoryColumns$Blocks" "count" "I") (List.mem_of_getElem? (i := 132) (by decide +kernel))) (fun _ h9 => h9) rfl hdg kk
theorem fg_X6_89 (X : cx p s m meth c args cc nL ret RX6 D [(cI, .int)]) (hP : va_P D vwCl (wC ad cI σ) H) (hdg : decode cc pc = .ok (.getfield 89, 3)) (kk : W p l e R s m args below meth c H locs 0 0 Q (F0 m (pc + 3) ls (.ref (ad 8) :: rest))) : W p l e R s m args below meth c H locs 0 0 Q (F0 m pc ls (.ref (ad 1) :: rest)) := by
  exact va_get (D := D) (ci := 1) (C := RX1) (T := TX1) (N := 8) X.1 X.2.1 X.2.2.2.2.1 inlX1 X.2.2.2.1 X.2.2.2.2.2.2.2 hP 1 rfl rfl 2 (by decide) (X.2.2.2.2.1 (.fieldLink RX6 89 "StoryColumns$Blocks" "kind" "[I") (List.mem_of_getElem? (i := 180) (by decide +kernel))) (fun _ h9 => h9) rfl hdg kk
theorem fg_X6_93 (X : cx p s m meth c args cc nL ret RX6 D [(cI, .int)]) (hP : va_P D vwCl (wC ad cI σ) H) (hdg : decode cc pc = .ok (.getfield 93, 3)) (kk : W p l e R s m args below meth c H locs 0 0 Q (F0 m (pc + 3) ls (.ref (ad 13) :: rest))) : W p l e R s m args below meth c H locs 0 0 Q (F0 m pc ls (.ref (ad 1) :: rest)) := by
  exact va_get (D := D) (ci := 1) (C := RX1) (T := TX1) (N := 8) X.1 X.2.1 X.2.2.2.2.1 inlX1 X.2.2.2.1 X.2.2.2.2.2.2.2 hP 1 rfl rfl 7 (by decide) (X.2.2.2.2.1 (.fieldLink RX6 93 "StoryColumns$Blocks" "words" "[I") (List.mem_of_getElem? (i := 181) (by decide +kernel))) (fun _ h9 => h9) rfl hdg kk
theorem fg_X6_96 {x : Int32} (X : cx p s m meth c args cc nL ret RX6 D [(cI, .int)]) (hP : va_P D vwCl (wC ad cI σ) H) (hv : x = σ 3 0) (hdg : decode cc pc = .ok (.getfield 96, 3)) (kk : W p l e R s m args below meth c H locs 0 0 Q (F0 m (pc + 3) ls (.int x :: rest))) : W p l e R s m args below meth c H locs 0 0 Q (F0 m pc ls (.ref (ad 3) :: rest)) := by
  subst hv
  exact va_get (D := D) (ci := 2) (C := RX2) (T := TX2) (N := 6) X.1 X.2.1 X.2.2.2.2.1 inlX2 X.2.2.2.1 X.2.2.2.2.2.2.2 hP 3 rfl rfl 0 (by decide) (X.2.2.2.2.1 (.fieldLink RX6 96 "StoryColumns$Lines" "count" "I") (List.mem_of_getElem? (i := 198) (by decide +kernel))) (fun _ h9 => h9) rfl hdg kk
theorem fg_X6_106 (X : cx p s m meth c args cc nL ret RX6 D [(cI, .int)]) (hP : va_P D vwCl (wC ad cI σ) H) (hdg : decode cc pc = .ok (.getfield 106, 3)) (kk : W p l e R s m args below meth c H locs 0 0 Q (F0 m (pc + 3) ls (.ref (ad 7) :: rest))) : W p l e R s m args below meth c H locs 0 0 Q (F0 m pc ls (.ref (ad 1) :: rest)) := by
  exact va_get (D := D) (ci := 1) (C := RX1) (T := TX1) (N := 8) X.1 X.2.1 X.2.2.2.2.1 inlX1 X.2.2.2.1 X.2.2.2.2.2.2.2 hP 1 rfl rfl 1 (by decide) (X.2.2.2.2.1 (.fieldLink RX6 106 "StoryColumns$Blocks" "page" "[I") (List.mem_of_getElem? (i := 253) (by decide +kernel))) (fun _ h9 => h9) rfl hdg kk
theorem fg_X6_109 (X : cx p s m meth c args cc nL ret RX6 D [(cI, .int)]) (hP : va_P D vwCl (wC ad cI σ) H) (hdg : decode cc pc = .ok (.getfield 109, 3)) (kk : W p l e R s m args below meth c H locs 0 0 Q (F0 m (pc + 3) ls (.ref (ad 9) :: rest))) : W p l e R s m args below meth c H locs 0 0 Q (F0 m pc ls (.ref (ad 1) :: rest)) := by
  exact va_get (D := D) (ci := 1) (C := RX1) (T := TX1) (N := 8) X.1 X.2.1 X.2.2.2.2.1 inlX1 X.2.2.2.1 X.2.2.2.2.2.2.2 hP 1 rfl rfl 3 (by decide) (X.2.2.2.2.1 (.fieldLink RX6 109 "StoryColumns$Blocks" "left" "[I") (List.mem_of_getElem? (i := 254) (by decide +kernel))) (fun _ h9 => h9) rfl hdg kk
theorem fg_X6_112 (X : cx p s m meth c args cc nL ret RX6 D [(cI, .int)]) (hP : va_P D vwCl (wC ad cI σ) H) (hdg : decode cc pc = .ok (.getfield 112, 3)) (kk : W p l e R s m args below meth c H locs 0 0 Q (F0 m (pc + 3) ls (.ref (ad 10) :: rest))) : W p l e R s m args below meth c H locs 0 0 Q (F0 m pc ls (.ref (ad 1) :: rest)) := by
  exact va_get (D := D) (ci := 1) (C := RX1) (T := TX1) (N := 8) X.1 X.2.1 X.2.2.2.2.1 inlX1 X.2.2.2.1 X.2.2.2.2.2.2.2 hP 1 rfl rfl 4 (by decide) (X.2.2.2.2.1 (.fieldLink RX6 112 "StoryColumns$Blocks" "right" "[I") (List.mem_of_getElem? (i := 255) (by decide +kernel))) (fun _ h9 => h9) rfl hdg kk
theorem fg_X6_115 (X : cx p s m meth c args cc nL ret RX6 D [(cI, .int)]) (hP : va_P D vwCl (wC ad cI σ) H) (hdg : decode cc pc = .ok (.getfield 115, 3)) (kk : W p l e R s m args below meth c H locs 0 0 Q (F0 m (pc + 3) ls (.ref (ad 11) :: rest))) : W p l e R s m args below meth c H locs 0 0 Q (F0 m pc ls (.ref (ad 1) :: rest)) := by
  exact va_get (D := D) (ci := 1) (C := RX1) (T := TX1) (N := 8) X.1 X.2.1 X.2.2.2.2.1 inlX1 X.2.2.2.1 X.2.2.2.2.2.2.2 hP 1 rfl rfl 5 (by decide) (X.2.2.2.2.1 (.fieldLink RX6 115 "StoryColumns$Blocks" "top" "[I") (List.mem_of_getElem? (i := 256) (by decide +kernel))) (fun _ h9 => h9) rfl hdg kk
theorem fg_X6_118 (X : cx p s m meth c args cc nL ret RX6 D [(cI, .int)]) (hP : va_P D vwCl (wC ad cI σ) H) (hdg : decode cc pc = .ok (.getfield 118, 3)) (kk : W p l e R s m args below meth c H locs 0 0 Q (F0 m (pc + 3) ls (.ref (ad 12) :: rest))) : W p l e R s m args below meth c H locs 0 0 Q (F0 m pc ls (.ref (ad 1) :: rest)) := by
  exact va_get (D := D) (ci := 1) (C := RX1) (T := TX1) (N := 8) X.1 X.2.1 X.2.2.2.2.1 inlX1 X.2.2.2.1 X.2.2.2.2.2.2.2 hP 1 rfl rfl 6 (by decide) (X.2.2.2.2.1 (.fieldLink RX6 118 "StoryColumns$Blocks" "bottom" "[I") (List.mem_of_getElem? (i := 257) (by decide +kernel))) (fun _ h9 => h9) rfl hdg kk
theorem fg_X6_122 (X : cx p s m meth c args cc nL ret RX6 D [(cI, .int)]) (hP : va_P D vwCl (wC ad cI σ) H) (hdg : decode cc pc = .ok (.getfield 122, 3)) (kk : W p l e R s m args below meth c H locs 0 0 Q (F0 m (pc + 3) ls (.ref (ad 16) :: rest))) : W p l e R s m args below meth c H locs 0 0 Q (F0 m pc ls (.ref (ad 3) :: rest)) := by
  exact va_get (D := D) (ci := 2) (C := RX2) (T := TX2) (N := 6) X.1 X.2.1 X.2.2.2.2.1 inlX2 X.2.2.2.1 X.2.2.2.2.2.2.2 hP 3 rfl rfl 1 (by decide) (X.2.2.2.2.1 (.fieldLink RX6 122 "StoryColumns$Lines" "page" "[I") (List.mem_of_getElem? (i := 266) (by decide +kernel))) (fun _ h9 => h9) rfl hdg kk
theorem fg_X6_123 (X : cx p s m meth c args cc nL ret RX6 D [(cI, .int)]) (hP : va_P D vwCl (wC ad cI σ) H) (hdg : decode cc pc = .ok (.getfield 123, 3)) (kk : W p l e R s m args below meth c H locs 0 0 Q (F0 m (pc + 3) ls (.ref (ad 17) :: rest))) : W p l e R s m args below meth c H locs 0 0 Q (F0 m pc ls (.ref (ad 3) :: rest)) := by
  exact va_get (D := D) (ci := 2) (C := RX2) (T := TX2) (N := 6) X.1 X.2.1 X.2.2.2.2.1 inlX2 X.2.2.2.1 X.2.2.2.2.2.2.2 hP 3 rfl rfl 2 (by decide) (X.2.2.2.2.1 (.fieldLink RX6 123 "StoryColumns$Lines" "how" "[I") (List.mem_of_getElem? (i := 267) (by decide +kernel))) (fun _ h9 => h9) rfl hdg kk
theorem fg_X6_126 (X : cx p s m meth c args cc nL ret RX6 D [(cI, .int)]) (hP : va_P D vwCl (wC ad cI σ) H) (hdg : decode cc pc = .ok (.getfield 126, 3)) (kk : W p l e R s m args below meth c H locs 0 0 Q (F0 m (pc + 3) ls (.ref (ad 18) :: rest))) : W p l e R s m args below meth c H locs 0 0 Q (F0 m pc ls (.ref (ad 3) :: rest)) := by
  exact va_get (D := D) (ci := 2) (C := RX2) (T := TX2) (N := 6) X.1 X.2.1 X.2.2.2.2.1 inlX2 X.2.2.2.1 X.2.2.2.2.2.2.2 hP 3 rfl rfl 3 (by decide) (X.2.2.2.2.1 (.fieldLink RX6 126 "StoryColumns$Lines" "place" "[I") (List.mem_of_getElem? (i := 268) (by decide +kernel))) (fun _ h9 => h9) rfl hdg kk
theorem fg_X6_129 (X : cx p s m meth c args cc nL ret RX6 D [(cI, .int)]) (hP : va_P D vwCl (wC ad cI σ) H) (hdg : decode cc pc = .ok (.getfield 129, 3)) (kk : W p l e R s m args below meth c H locs 0 0 Q (F0 m (pc + 3) ls (.ref (ad 19) :: rest))) : W p l e R s m args below meth c H locs 0 0 Q (F0 m pc ls (.ref (ad 3) :: rest)) := by
  exact va_get (D := D) (ci := 2) (C := RX2) (T := TX2) (N := 6) X.1 X.2.1 X.2.2.2.2.1 inlX2 X.2.2.2.1 X.2.2.2.2.2.2.2 hP 3 rfl rfl 4 (by decide) (X.2.2.2.2.1 (.fieldLink RX6 129 "StoryColumns$Lines" "from" "[I") (List.mem_of_getElem? (i := 269) (by decide +kernel))) (fun _ h9 => h9) rfl hdg kk
theorem fg_X6_132 (X : cx p s m meth c args cc nL ret RX6 D [(cI, .int)]) (hP : va_P D vwCl (wC ad cI σ) H) (hdg : decode cc pc = .ok (.getfield 132, 3)) (kk : W p l e R s m args below meth c H locs 0 0 Q (F0 m (pc + 3) ls (.ref (ad 20) :: rest))) : W p l e R s m args below meth c H locs 0 0 Q (F0 m pc ls (.ref (ad 3) :: rest)) := by
  exact va_get (D := D) (ci := 2) (C := RX2) (T := TX2) (N := 6) X.1 X.2.1 X.2.2.2.2.1 inlX2 X.2.2.2.1 X.2.2.2.2.2.2.2 hP 3 rfl rfl 5 (by decide) (X.2.2.2.2.1 (.fieldLink RX6 132 "StoryColumns$Lines" "until" "[I") (List.mem_of_getElem? (i := 270) (by decide +kernel))) (fun _ h9 => h9) rfl hdg kk
theorem fg_X6_145 (X : cx p s m meth c args cc nL ret RX6 D [(cI, .int)]) (hP : va_P D vwCl (wC ad cI σ) H) (hdg : decode cc pc = .ok (.getfield 145, 3)) (kk : W p l e R s m args below meth c H locs 0 0 Q (F0 m (pc + 3) ls (.ref (ad 21) :: rest))) : W p l e R s m args below meth c H locs 0 0 Q (F0 m pc ls (.ref (ad 5) :: rest)) := by
  exact va_get (D := D) (ci := 5) (C := RX5) (T := TX5) (N := 11) X.1 X.2.1 X.2.2.2.2.1 inlX5 X.2.2.2.1 X.2.2.2.2.2.2.2 hP 5 rfl rfl 4 (by decide) (X.2.2.2.2.1 (.fieldLink RX6 145 "StoryColumns$Stories" "over" "[I") (List.mem_of_getElem? (i := 346) (by decide +kernel))) (fun _ h9 => h9) rfl hdg kk
theorem fg_X6_148 (X : cx p s m meth c args cc nL ret RX6 D [(cI, .int)]) (hP : va_P D vwCl (wC ad cI σ) H) (hdg : decode cc pc = .ok (.getfield 148, 3)) (kk : W p l e R s m args below meth c H locs 0 0 Q (F0 m (pc + 3) ls (.ref (ad 24) :: rest))) : W p l e R s m args below meth c H locs 0 0 Q (F0 m pc ls (.ref (ad 5) :: rest)) := by
  exact va_get (D := D) (ci := 5) (C := RX5) (T := TX5) (N := 11) X.1 X.2.1 X.2.2.2.2.1 inlX5 X.2.2.2.1 X.2.2.2.2.2.2.2 hP 5 rfl rfl 7 (by decide) (X.2.2.2.2.1 (.fieldLink RX6 148 "StoryColumns$Stories" "storyOf" "[I") (List.mem_of_getElem? (i := 465) (by decide +kernel))) (fun _ h9 => h9) rfl hdg kk
theorem fg_X6_151 (X : cx p s m meth c args cc nL ret RX6 D [(cI, .int)]) (hP : va_P D vwCl (wC ad cI σ) H) (hdg : decode cc pc = .ok (.getfield 151, 3)) (kk : W p l e R s m args below meth c H locs 0 0 Q (F0 m (pc + 3) ls (.ref (ad 22) :: rest))) : W p l e R s m args below meth c H locs 0 0 Q (F0 m pc ls (.ref (ad 5) :: rest)) := by
  exact va_get (D := D) (ci := 5) (C := RX5) (T := TX5) (N := 11) X.1 X.2.1 X.2.2.2.2.1 inlX5 X.2.2.2.1 X.2.2.2.2.2.2.2 hP 5 rfl rfl 5 (by decide) (X.2.2.2.2.1 (.fieldLink RX6 151 "StoryColumns$Stories" "taker" "[I") (List.mem_of_getElem? (i := 503) (by decide +kernel))) (fun _ h9 => h9) rfl hdg kk
theorem fg_X6_171 (X : cx p s m meth c args cc nL ret RX6 D [(cI, .int)]) (hP : va_P D vwCl (wC ad cI σ) H) (hdg : decode cc pc = .ok (.getfield 171, 3)) (kk : W p l e R s m args below meth c H locs 0 0 Q (F0 m (pc + 3) ls (.ref (ad 28) :: rest))) : W p l e R s m args below meth c H locs 0 0 Q (F0 m pc ls (.ref (ad 6) :: rest)) := by
  exact va_get (D := D) (ci := 0) (C := RX0) (T := TX0) (N := 11) X.1 X.2.1 X.2.2.2.2.1 inlX0 X.2.2.2.1 X.2.2.2.2.2.2.2 hP 6 rfl rfl 5 (by decide) (X.2.2.2.2.1 (.fieldLink RX6 171 "StoryColumns$Articles" "next" "[I") (List.mem_of_getElem? (i := 512) (by decide +kernel))) (fun _ h9 => h9) rfl hdg kk
theorem fg_X6_174 (X : cx p s m meth c args cc nL ret RX6 D [(cI, .int)]) (hP : va_P D vwCl (wC ad cI σ) H) (hdg : decode cc pc = .ok (.getfield 174, 3)) (kk : W p l e R s m args below meth c H locs 0 0 Q (F0 m (pc + 3) ls (.ref (ad 29) :: rest))) : W p l e R s m args below meth c H locs 0 0 Q (F0 m pc ls (.ref (ad 6) :: rest)) := by
  exact va_get (D := D) (ci := 0) (C := RX0) (T := TX0) (N := 11) X.1 X.2.1 X.2.2.2.2.1 inlX0 X.2.2.2.1 X.2.2.2.2.2.2.2 hP 6 rfl rfl 6 (by decide) (X.2.2.2.2.1 (.fieldLink RX6 174 "StoryColumns$Articles" "previous" "[I") (List.mem_of_getElem? (i := 513) (by decide +kernel))) (fun _ h9 => h9) rfl hdg kk
theorem fg_X6_177 (X : cx p s m meth c args cc nL ret RX6 D [(cI, .int)]) (hP : va_P D vwCl (wC ad cI σ) H) (hdg : decode cc pc = .ok (.getfield 177, 3)) (kk : W p l e R s m args below meth c H locs 0 0 Q (F0 m (pc + 3) ls (.ref (ad 30) :: rest))) : W p l e R s m args below meth c H locs 0 0 Q (F0 m pc ls (.ref (ad 6) :: rest)) := by
  exact va_get (D := D) (ci := 0) (C := RX0) (T := TX0) (N := 11) X.1 X.2.1 X.2.2.2.2.1 inlX0 X.2.2.2.1 X.2.2.2.2.2.2.2 hP 6 rfl rfl 7 (by decide) (X.2.2.2.2.1 (.fieldLink RX6 177 "StoryColumns$Articles" "articleOf" "[I") (List.mem_of_getElem? (i := 514) (by decide +kernel))) (fun _ h9 => h9) rfl hdg kk
theorem fg_X6_203 (X : cx p s m meth c args cc nL ret RX6 D [(cI, .int)]) (hP : va_P D vwCl (wC ad cI σ) H) (hdg : decode cc pc = .ok (.getfield 203, 3)) (kk : W p l e R s m args below meth c H locs 0 0 Q (F0 m (pc + 3) ls (.ref (ad 31) :: rest))) : W p l e R s m args below meth c H locs 0 0 Q (F0 m pc ls (.ref (ad 6) :: rest)) := by
  exact va_get (D := D) (ci := 0) (C := RX0) (T := TX0) (N := 11) X.1 X.2.1 X.2.2.2.2.1 inlX0 X.2.2.2.1 X.2.2.2.2.2.2.2 hP 6 rfl rfl 8 (by decide) (X.2.2.2.2.1 (.fieldLink RX6 203 "StoryColumns$Articles" "first" "[I") (List.mem_of_getElem? (i := 627) (by decide +kernel))) (fun _ h9 => h9) rfl hdg kk
theorem fg_X6_206 (X : cx p s m meth c args cc nL ret RX6 D [(cI, .int)]) (hP : va_P D vwCl (wC ad cI σ) H) (hdg : decode cc pc = .ok (.getfield 206, 3)) (kk : W p l e R s m args below meth c H locs 0 0 Q (F0 m (pc + 3) ls (.ref (ad 33) :: rest))) : W p l e R s m args below meth c H locs 0 0 Q (F0 m pc ls (.ref (ad 6) :: rest)) := by
  exact va_get (D := D) (ci := 0) (C := RX0) (T := TX0) (N := 11) X.1 X.2.1 X.2.2.2.2.1 inlX0 X.2.2.2.1 X.2.2.2.2.2.2.2 hP 6 rfl rfl 10 (by decide) (X.2.2.2.2.1 (.fieldLink RX6 206 "StoryColumns$Articles" "length" "[I") (List.mem_of_getElem? (i := 628) (by decide +kernel))) (fun _ h9 => h9) rfl hdg kk
theorem fg_X6_217 (X : cx p s m meth c args cc nL ret RX6 D [(cI, .int)]) (hP : va_P D vwCl (wC ad cI σ) H) (hdg : decode cc pc = .ok (.getfield 217, 3)) (kk : W p l e R s m args below meth c H locs 0 0 Q (F0 m (pc + 3) ls (.ref (ad 32) :: rest))) : W p l e R s m args below meth c H locs 0 0 Q (F0 m pc ls (.ref (ad 6) :: rest)) := by
  exact va_get (D := D) (ci := 0) (C := RX0) (T := TX0) (N := 11) X.1 X.2.1 X.2.2.2.2.1 inlX0 X.2.2.2.1 X.2.2.2.2.2.2.2 hP 6 rfl rfl 9 (by decide) (X.2.2.2.2.1 (.fieldLink RX6 217 "StoryColumns$Articles" "last" "[I") (List.mem_of_getElem? (i := 629) (by decide +kernel))) (fun _ h9 => h9) rfl hdg kk
theorem fg_X6_226 {x : Int32} (X : cx p s m meth c args cc nL ret RX6 D [(cI, .int)]) (hP : va_P D vwCl (wC ad cI σ) H) (hv : x = σ 5 3) (hdg : decode cc pc = .ok (.getfield 226, 3)) (kk : W p l e R s m args below meth c H locs 0 0 Q (F0 m (pc + 3) ls (.int x :: rest))) : W p l e R s m args below meth c H locs 0 0 Q (F0 m pc ls (.ref (ad 5) :: rest)) := by
  subst hv
  exact va_get (D := D) (ci := 5) (C := RX5) (T := TX5) (N := 11) X.1 X.2.1 X.2.2.2.2.1 inlX5 X.2.2.2.1 X.2.2.2.2.2.2.2 hP 5 rfl rfl 3 (by decide) (X.2.2.2.2.1 (.fieldLink RX6 226 "StoryColumns$Stories" "count" "I") (List.mem_of_getElem? (i := 691) (by decide +kernel))) (fun _ h9 => h9) rfl hdg kk
theorem fg_X6_233 {x : Int32} (X : cx p s m meth c args cc nL ret RX6 D [(cI, .int)]) (hP : va_P D vwCl (wC ad cI σ) H) (hv : x = σ 6 3) (hdg : decode cc pc = .ok (.getfield 233, 3)) (kk : W p l e R s m args below meth c H locs 0 0 Q (F0 m (pc + 3) ls (.int x :: rest))) : W p l e R s m args below meth c H locs 0 0 Q (F0 m pc ls (.ref (ad 6) :: rest)) := by
  subst hv
  exact va_get (D := D) (ci := 0) (C := RX0) (T := TX0) (N := 11) X.1 X.2.1 X.2.2.2.2.1 inlX0 X.2.2.2.1 X.2.2.2.2.2.2.2 hP 6 rfl rfl 3 (by decide) (X.2.2.2.2.1 (.fieldLink RX6 233 "StoryColumns$Articles" "count" "I") (List.mem_of_getElem? (i := 692) (by decide +kernel))) (fun _ h9 => h9) rfl hdg kk
theorem fg_X7_7 (X : cx p s m meth c args cc nL ret RX7 D [(cI, .int), (cZ, .boolean)]) (hP : va_P D vwCl (wM ad cI cZ σ) H) (hdg : decode cc pc = .ok (.getfield 7, 3)) (kk : W p l e R s m args below meth c H locs 0 0 Q (F0 m (pc + 3) ls (.ref (ad 1) :: rest))) : W p l e R s m args below meth c H locs 0 0 Q (F0 m pc ls (.ref (ad 0) :: rest)) := by
  exact va_get (D := D) (ci := 7) (C := RX7) (T := TX7) (N := 34) X.1 X.2.1 X.2.2.2.2.1 inlX7 X.2.2.2.1 X.2.2.2.2.2.2.2 hP 0 rfl rfl 1 (by decide) (X.2.2.2.2.1 (.fieldLink RX7 7 "StoryColumnsModel" "pageOf" "[I") (List.mem_of_getElem? (i := 98) (by decide +kernel))) (fun _ h9 => h9) rfl hdg kk
theorem fg_X7_13 (X : cx p s m meth c args cc nL ret RX7 D [(cI, .int), (cZ, .boolean)]) (hP : va_P D vwCl (wM ad cI cZ σ) H) (hdg : decode cc pc = .ok (.getfield 13, 3)) (kk : W p l e R s m args below meth c H locs 0 0 Q (F0 m (pc + 3) ls (.ref (ad 2) :: rest))) : W p l e R s m args below meth c H locs 0 0 Q (F0 m pc ls (.ref (ad 0) :: rest)) := by
  exact va_get (D := D) (ci := 7) (C := RX7) (T := TX7) (N := 34) X.1 X.2.1 X.2.2.2.2.1 inlX7 X.2.2.2.1 X.2.2.2.2.2.2.2 hP 0 rfl rfl 2 (by decide) (X.2.2.2.2.1 (.fieldLink RX7 13 "StoryColumnsModel" "kindOf" "[I") (List.mem_of_getElem? (i := 99) (by decide +kernel))) (fun _ h9 => h9) rfl hdg kk
theorem fg_X7_16 (X : cx p s m meth c args cc nL ret RX7 D [(cI, .int), (cZ, .boolean)]) (hP : va_P D vwCl (wM ad cI cZ σ) H) (hdg : decode cc pc = .ok (.getfield 16, 3)) (kk : W p l e R s m args below meth c H locs 0 0 Q (F0 m (pc + 3) ls (.ref (ad 3) :: rest))) : W p l e R s m args below meth c H locs 0 0 Q (F0 m pc ls (.ref (ad 0) :: rest)) := by
  exact va_get (D := D) (ci := 7) (C := RX7) (T := TX7) (N := 34) X.1 X.2.1 X.2.2.2.2.1 inlX7 X.2.2.2.1 X.2.2.2.2.2.2.2 hP 0 rfl rfl 3 (by decide) (X.2.2.2.2.1 (.fieldLink RX7 16 "StoryColumnsModel" "left" "[I") (List.mem_of_getElem? (i := 100) (by decide +kernel))) (fun _ h9 => h9) rfl hdg kk
theorem fg_X7_19 (X : cx p s m meth c args cc nL ret RX7 D [(cI, .int), (cZ, .boolean)]) (hP : va_P D vwCl (wM ad cI cZ σ) H) (hdg : decode cc pc = .ok (.getfield 19, 3)) (kk : W p l e R s m args below meth c H locs 0 0 Q (F0 m (pc + 3) ls (.ref (ad 4) :: rest))) : W p l e R s m args below meth c H locs 0 0 Q (F0 m pc ls (.ref (ad 0) :: rest)) := by
  exact va_get (D := D) (ci := 7) (C := RX7) (T := TX7) (N := 34) X.1 X.2.1 X.2.2.2.2.1 inlX7 X.2.2.2.1 X.2.2.2.2.2.2.2 hP 0 rfl rfl 4 (by decide) (X.2.2.2.2.1 (.fieldLink RX7 19 "StoryColumnsModel" "right" "[I") (List.mem_of_getElem? (i := 101) (by decide +kernel))) (fun _ h9 => h9) rfl hdg kk
theorem fg_X7_22 (X : cx p s m meth c args cc nL ret RX7 D [(cI, .int), (cZ, .boolean)]) (hP : va_P D vwCl (wM ad cI cZ σ) H) (hdg : decode cc pc = .ok (.getfield 22, 3)) (kk : W p l e R s m args below meth c H locs 0 0 Q (F0 m (pc + 3) ls (.ref (ad 5) :: rest))) : W p l e R s m args below meth c H locs 0 0 Q (F0 m pc ls (.ref (ad 0) :: rest)) := by
  exact va_get (D := D) (ci := 7) (C := RX7) (T := TX7) (N := 34) X.1 X.2.1 X.2.2.2.2.1 inlX7 X.2.2.2.1 X.2.2.2.2.2.2.2 hP 0 rfl rfl 5 (by decide) (X.2.2.2.2.1 (.fieldLink RX7 22 "StoryColumnsModel" "top" "[I") (List.mem_of_getElem? (i := 102) (by decide +kernel))) (fun _ h9 => h9) rfl hdg kk
theorem fg_X7_25 (X : cx p s m meth c args cc nL ret RX7 D [(cI, .int), (cZ, .boolean)]) (hP : va_P D vwCl (wM ad cI cZ σ) H) (hdg : decode cc pc = .ok (.getfield 25, 3)) (kk : W p l e R s m args below meth c H locs 0 0 Q (F0 m (pc + 3) ls (.ref (ad 6) :: rest))) : W p l e R s m args below meth c H locs 0 0 Q (F0 m pc ls (.ref (ad 0) :: rest)) := by
  exact va_get (D := D) (ci := 7) (C := RX7) (T := TX7) (N := 34) X.1 X.2.1 X.2.2.2.2.1 inlX7 X.2.2.2.1 X.2.2.2.2.2.2.2 hP 0 rfl rfl 6 (by decide) (X.2.2.2.2.1 (.fieldLink RX7 25 "StoryColumnsModel" "bottom" "[I") (List.mem_of_getElem? (i := 103) (by decide +kernel))) (fun _ h9 => h9) rfl hdg kk
theorem fg_X7_28 (X : cx p s m meth c args cc nL ret RX7 D [(cI, .int), (cZ, .boolean)]) (hP : va_P D vwCl (wM ad cI cZ σ) H) (hdg : decode cc pc = .ok (.getfield 28, 3)) (kk : W p l e R s m args below meth c H locs 0 0 Q (F0 m (pc + 3) ls (.ref (ad 7) :: rest))) : W p l e R s m args below meth c H locs 0 0 Q (F0 m pc ls (.ref (ad 0) :: rest)) := by
  exact va_get (D := D) (ci := 7) (C := RX7) (T := TX7) (N := 34) X.1 X.2.1 X.2.2.2.2.1 inlX7 X.2.2.2.1 X.2.2.2.2.2.2.2 hP 0 rfl rfl 7 (by decide) (X.2.2.2.2.1 (.fieldLink RX7 28 "StoryColumnsModel" "wordsOf" "[I") (List.mem_of_getElem? (i := 104) (by decide +kernel))) (fun _ h9 => h9) rfl hdg kk
theorem fg_X7_31 (X : cx p s m meth c args cc nL ret RX7 D [(cI, .int), (cZ, .boolean)]) (hP : va_P D vwCl (wM ad cI cZ σ) H) (hdg : decode cc pc = .ok (.getfield 31, 3)) (kk : W p l e R s m args below meth c H locs 0 0 Q (F0 m (pc + 3) ls (.ref (ad 8) :: rest))) : W p l e R s m args below meth c H locs 0 0 Q (F0 m pc ls (.ref (ad 0) :: rest)) := by
  exact va_get (D := D) (ci := 7) (C := RX7) (T := TX7) (N := 34) X.1 X.2.1 X.2.2.2.2.1 inlX7 X.2.2.2.1 X.2.2.2.2.2.2.2 hP 0 rfl rfl 8 (by decide) (X.2.2.2.2.1 (.fieldLink RX7 31 "StoryColumnsModel" "markPage" "[I") (List.mem_of_getElem? (i := 105) (by decide +kernel))) (fun _ h9 => h9) rfl hdg kk
theorem fg_X7_34 (X : cx p s m meth c args cc nL ret RX7 D [(cI, .int), (cZ, .boolean)]) (hP : va_P D vwCl (wM ad cI cZ σ) H) (hdg : decode cc pc = .ok (.getfield 34, 3)) (kk : W p l e R s m args below meth c H locs 0 0 Q (F0 m (pc + 3) ls (.ref (ad 9) :: rest))) : W p l e R s m args below meth c H locs 0 0 Q (F0 m pc ls (.ref (ad 0) :: rest)) := by
  exact va_get (D := D) (ci := 7) (C := RX7) (T := TX7) (N := 34) X.1 X.2.1 X.2.2.2.2.1 inlX7 X.2.2.2.1 X.2.2.2.2.2.2.2 hP 0 rfl rfl 9 (by decide) (X.2.2.2.2.1 (.fieldLink RX7 34 "StoryColumnsModel" "markWord" "[I") (List.mem_of_getElem? (i := 106) (by decide +kernel))) (fun _ h9 => h9) rfl hdg kk
theorem fg_X7_37 (X : cx p s m meth c args cc nL ret RX7 D [(cI, .int), (cZ, .boolean)]) (hP : va_P D vwCl (wM ad cI cZ σ) H) (hdg : decode cc pc = .ok (.getfield 37, 3)) (kk : W p l e R s m args below meth c H locs 0 0 Q (F0 m (pc + 3) ls (.ref (ad 10) :: rest))) : W p l e R s m args below meth c H locs 0 0 Q (F0 m pc ls (.ref (ad 0) :: rest)) := by
  exact va_get (D := D) (ci := 7) (C := RX7) (T := TX7) (N := 34) X.1 X.2.1 X.2.2.2.2.1 inlX7 X.2.2.2.1 X.2.2.2.2.2.2.2 hP 0 rfl rfl 11 (by decide) (X.2.2.2.2.1 (.fieldLink RX7 37 "StoryColumnsModel" "linePage" "[I") (List.mem_of_getElem? (i := 107) (by decide +kernel))) (fun _ h9 => h9) rfl hdg kk
theorem fg_X7_40 (X : cx p s m meth c args cc nL ret RX7 D [(cI, .int), (cZ, .boolean)]) (hP : va_P D vwCl (wM ad cI cZ σ) H) (hdg : decode cc pc = .ok (.getfield 40, 3)) (kk : W p l e R s m args below meth c H locs 0 0 Q (F0 m (pc + 3) ls (.ref (ad 11) :: rest))) : W p l e R s m args below meth c H locs 0 0 Q (F0 m pc ls (.ref (ad 0) :: rest)) := by
  exact va_get (D := D) (ci := 7) (C := RX7) (T := TX7) (N := 34) X.1 X.2.1 X.2.2.2.2.1 inlX7 X.2.2.2.1 X.2.2.2.2.2.2.2 hP 0 rfl rfl 12 (by decide) (X.2.2.2.2.1 (.fieldLink RX7 40 "StoryColumnsModel" "lineHow" "[I") (List.mem_of_getElem? (i := 108) (by decide +kernel))) (fun _ h9 => h9) rfl hdg kk
theorem fg_X7_43 (X : cx p s m meth c args cc nL ret RX7 D [(cI, .int), (cZ, .boolean)]) (hP : va_P D vwCl (wM ad cI cZ σ) H) (hdg : decode cc pc = .ok (.getfield 43, 3)) (kk : W p l e R s m args below meth c H locs 0 0 Q (F0 m (pc + 3) ls (.ref (ad 12) :: rest))) : W p l e R s m args below meth c H locs 0 0 Q (F0 m pc ls (.ref (ad 0) :: rest)) := by
  exact va_get (D := D) (ci := 7) (C := RX7) (T := TX7) (N := 34) X.1 X.2.1 X.2.2.2.2.1 inlX7 X.2.2.2.1 X.2.2.2.2.2.2.2 hP 0 rfl rfl 13 (by decide) (X.2.2.2.2.1 (.fieldLink RX7 43 "StoryColumnsModel" "lineAt" "[I") (List.mem_of_getElem? (i := 109) (by decide +kernel))) (fun _ h9 => h9) rfl hdg kk
theorem fg_X7_46 (X : cx p s m meth c args cc nL ret RX7 D [(cI, .int), (cZ, .boolean)]) (hP : va_P D vwCl (wM ad cI cZ σ) H) (hdg : decode cc pc = .ok (.getfield 46, 3)) (kk : W p l e R s m args below meth c H locs 0 0 Q (F0 m (pc + 3) ls (.ref (ad 13) :: rest))) : W p l e R s m args below meth c H locs 0 0 Q (F0 m pc ls (.ref (ad 0) :: rest)) := by
  exact va_get (D := D) (ci := 7) (C := RX7) (T := TX7) (N := 34) X.1 X.2.1 X.2.2.2.2.1 inlX7 X.2.2.2.1 X.2.2.2.2.2.2.2 hP 0 rfl rfl 14 (by decide) (X.2.2.2.2.1 (.fieldLink RX7 46 "StoryColumnsModel" "lineFrom" "[I") (List.mem_of_getElem? (i := 110) (by decide +kernel))) (fun _ h9 => h9) rfl hdg kk
theorem fg_X7_49 (X : cx p s m meth c args cc nL ret RX7 D [(cI, .int), (cZ, .boolean)]) (hP : va_P D vwCl (wM ad cI cZ σ) H) (hdg : decode cc pc = .ok (.getfield 49, 3)) (kk : W p l e R s m args below meth c H locs 0 0 Q (F0 m (pc + 3) ls (.ref (ad 14) :: rest))) : W p l e R s m args below meth c H locs 0 0 Q (F0 m pc ls (.ref (ad 0) :: rest)) := by
  exact va_get (D := D) (ci := 7) (C := RX7) (T := TX7) (N := 34) X.1 X.2.1 X.2.2.2.2.1 inlX7 X.2.2.2.1 X.2.2.2.2.2.2.2 hP 0 rfl rfl 15 (by decide) (X.2.2.2.2.1 (.fieldLink RX7 49 "StoryColumnsModel" "lineTo" "[I") (List.mem_of_getElem? (i := 111) (by decide +kernel))) (fun _ h9 => h9) rfl hdg kk
theorem fg_X7_52 (X : cx p s m meth c args cc nL ret RX7 D [(cI, .int), (cZ, .boolean)]) (hP : va_P D vwCl (wM ad cI cZ σ) H) (hdg : decode cc pc = .ok (.getfield 52, 3)) (kk : W p l e R s m args below meth c H locs 0 0 Q (F0 m (pc + 3) ls (.ref (ad 15) :: rest))) : W p l e R s m args below meth c H locs 0 0 Q (F0 m pc ls (.ref (ad 0) :: rest)) := by
  exact va_get (D := D) (ci := 7) (C := RX7) (T := TX7) (N := 34) X.1 X.2.1 X.2.2.2.2.1 inlX7 X.2.2.2.1 X.2.2.2.2.2.2.2 hP 0 rfl rfl 16 (by decide) (X.2.2.2.2.1 (.fieldLink RX7 52 "StoryColumnsModel" "underOf" "[I") (List.mem_of_getElem? (i := 112) (by decide +kernel))) (fun _ h9 => h9) rfl hdg kk
theorem fg_X7_55 (X : cx p s m meth c args cc nL ret RX7 D [(cI, .int), (cZ, .boolean)]) (hP : va_P D vwCl (wM ad cI cZ σ) H) (hdg : decode cc pc = .ok (.getfield 55, 3)) (kk : W p l e R s m args below meth c H locs 0 0 Q (F0 m (pc + 3) ls (.ref (ad 16) :: rest))) : W p l e R s m args below meth c H locs 0 0 Q (F0 m pc ls (.ref (ad 0) :: rest)) := by
  exact va_get (D := D) (ci := 7) (C := RX7) (T := TX7) (N := 34) X.1 X.2.1 X.2.2.2.2.1 inlX7 X.2.2.2.1 X.2.2.2.2.2.2.2 hP 0 rfl rfl 17 (by decide) (X.2.2.2.2.1 (.fieldLink RX7 55 "StoryColumnsModel" "headOf" "[I") (List.mem_of_getElem? (i := 113) (by decide +kernel))) (fun _ h9 => h9) rfl hdg kk
theorem fg_X7_58 (X : cx p s m meth c args cc nL ret RX7 D [(cI, .int), (cZ, .boolean)]) (hP : va_P D vwCl (wM ad cI cZ σ) H) (hdg : decode cc pc = .ok (.getfield 58, 3)) (kk : W p l e R s m args below meth c H locs 0 0 Q (F0 m (pc + 3) ls (.ref (ad 17) :: rest))) : W p l e R s m args below meth c H locs 0 0 Q (F0 m pc ls (.ref (ad 0) :: rest)) := by
  exact va_get (D := D) (ci := 7) (C := RX7) (T := TX7) (N := 34) X.1 X.2.1 X.2.2.2.2.1 inlX7 X.2.2.2.1 X.2.2.2.2.2.2.2 hP 0 rfl rfl 18 (by decide) (X.2.2.2.2.1 (.fieldLink RX7 58 "StoryColumnsModel" "takerOf" "[I") (List.mem_of_getElem? (i := 114) (by decide +kernel))) (fun _ h9 => h9) rfl hdg kk
theorem fg_X7_61 (X : cx p s m meth c args cc nL ret RX7 D [(cI, .int), (cZ, .boolean)]) (hP : va_P D vwCl (wM ad cI cZ σ) H) (hdg : decode cc pc = .ok (.getfield 61, 3)) (kk : W p l e R s m args below meth c H locs 0 0 Q (F0 m (pc + 3) ls (.ref (ad 18) :: rest))) : W p l e R s m args below meth c H locs 0 0 Q (F0 m pc ls (.ref (ad 0) :: rest)) := by
  exact va_get (D := D) (ci := 7) (C := RX7) (T := TX7) (N := 34) X.1 X.2.1 X.2.2.2.2.1 inlX7 X.2.2.2.1 X.2.2.2.2.2.2.2 hP 0 rfl rfl 19 (by decide) (X.2.2.2.2.1 (.fieldLink RX7 61 "StoryColumnsModel" "textsOf" "[I") (List.mem_of_getElem? (i := 115) (by decide +kernel))) (fun _ h9 => h9) rfl hdg kk
theorem fg_X7_64 (X : cx p s m meth c args cc nL ret RX7 D [(cI, .int), (cZ, .boolean)]) (hP : va_P D vwCl (wM ad cI cZ σ) H) (hdg : decode cc pc = .ok (.getfield 64, 3)) (kk : W p l e R s m args below meth c H locs 0 0 Q (F0 m (pc + 3) ls (.ref (ad 19) :: rest))) : W p l e R s m args below meth c H locs 0 0 Q (F0 m pc ls (.ref (ad 0) :: rest)) := by
  exact va_get (D := D) (ci := 7) (C := RX7) (T := TX7) (N := 34) X.1 X.2.1 X.2.2.2.2.1 inlX7 X.2.2.2.1 X.2.2.2.2.2.2.2 hP 0 rfl rfl 20 (by decide) (X.2.2.2.2.1 (.fieldLink RX7 64 "StoryColumnsModel" "textAt" "[I") (List.mem_of_getElem? (i := 116) (by decide +kernel))) (fun _ h9 => h9) rfl hdg kk
theorem fg_X7_67 (X : cx p s m meth c args cc nL ret RX7 D [(cI, .int), (cZ, .boolean)]) (hP : va_P D vwCl (wM ad cI cZ σ) H) (hdg : decode cc pc = .ok (.getfield 67, 3)) (kk : W p l e R s m args below meth c H locs 0 0 Q (F0 m (pc + 3) ls (.ref (ad 20) :: rest))) : W p l e R s m args below meth c H locs 0 0 Q (F0 m pc ls (.ref (ad 0) :: rest)) := by
  exact va_get (D := D) (ci := 7) (C := RX7) (T := TX7) (N := 34) X.1 X.2.1 X.2.2.2.2.1 inlX7 X.2.2.2.1 X.2.2.2.2.2.2.2 hP 0 rfl rfl 22 (by decide) (X.2.2.2.2.1 (.fieldLink RX7 67 "StoryColumnsModel" "storyBlock" "[I") (List.mem_of_getElem? (i := 117) (by decide +kernel))) (fun _ h9 => h9) rfl hdg kk
theorem fg_X7_70 (X : cx p s m meth c args cc nL ret RX7 D [(cI, .int), (cZ, .boolean)]) (hP : va_P D vwCl (wM ad cI cZ σ) H) (hdg : decode cc pc = .ok (.getfield 70, 3)) (kk : W p l e R s m args below meth c H locs 0 0 Q (F0 m (pc + 3) ls (.ref (ad 21) :: rest))) : W p l e R s m args below meth c H locs 0 0 Q (F0 m pc ls (.ref (ad 0) :: rest)) := by
  exact va_get (D := D) (ci := 7) (C := RX7) (T := TX7) (N := 34) X.1 X.2.1 X.2.2.2.2.1 inlX7 X.2.2.2.1 X.2.2.2.2.2.2.2 hP 0 rfl rfl 23 (by decide) (X.2.2.2.2.1 (.fieldLink RX7 70 "StoryColumnsModel" "storyOf" "[I") (List.mem_of_getElem? (i := 118) (by decide +kernel))) (fun _ h9 => h9) rfl hdg kk
theorem fg_X7_73 (X : cx p s m meth c args cc nL ret RX7 D [(cI, .int), (cZ, .boolean)]) (hP : va_P D vwCl (wM ad cI cZ σ) H) (hdg : decode cc pc = .ok (.getfield 73, 3)) (kk : W p l e R s m args below meth c H locs 0 0 Q (F0 m (pc + 3) ls (.ref (ad 22) :: rest))) : W p l e R s m args below meth c H locs 0 0 Q (F0 m pc ls (.ref (ad 0) :: rest)) := by
  exact va_get (D := D) (ci := 7) (C := RX7) (T := TX7) (N := 34) X.1 X.2.1 X.2.2.2.2.1 inlX7 X.2.2.2.1 X.2.2.2.2.2.2.2 hP 0 rfl rfl 24 (by decide) (X.2.2.2.2.1 (.fieldLink RX7 73 "StoryColumnsModel" "goesOn" "[Z") (List.mem_of_getElem? (i := 120) (by decide +kernel))) (fun _ h9 => h9) rfl hdg kk
theorem fg_X7_77 (X : cx p s m meth c args cc nL ret RX7 D [(cI, .int), (cZ, .boolean)]) (hP : va_P D vwCl (wM ad cI cZ σ) H) (hdg : decode cc pc = .ok (.getfield 77, 3)) (kk : W p l e R s m args below meth c H locs 0 0 Q (F0 m (pc + 3) ls (.ref (ad 23) :: rest))) : W p l e R s m args below meth c H locs 0 0 Q (F0 m pc ls (.ref (ad 0) :: rest)) := by
  exact va_get (D := D) (ci := 7) (C := RX7) (T := TX7) (N := 34) X.1 X.2.1 X.2.2.2.2.1 inlX7 X.2.2.2.1 X.2.2.2.2.2.2.2 hP 0 rfl rfl 25 (by decide) (X.2.2.2.2.1 (.fieldLink RX7 77 "StoryColumnsModel" "aimOf" "[I") (List.mem_of_getElem? (i := 121) (by decide +kernel))) (fun _ h9 => h9) rfl hdg kk
theorem fg_X7_80 (X : cx p s m meth c args cc nL ret RX7 D [(cI, .int), (cZ, .boolean)]) (hP : va_P D vwCl (wM ad cI cZ σ) H) (hdg : decode cc pc = .ok (.getfield 80, 3)) (kk : W p l e R s m args below meth c H locs 0 0 Q (F0 m (pc + 3) ls (.ref (ad 24) :: rest))) : W p l e R s m args below meth c H locs 0 0 Q (F0 m pc ls (.ref (ad 0) :: rest)) := by
  exact va_get (D := D) (ci := 7) (C := RX7) (T := TX7) (N := 34) X.1 X.2.1 X.2.2.2.2.1 inlX7 X.2.2.2.1 X.2.2.2.2.2.2.2 hP 0 rfl rfl 26 (by decide) (X.2.2.2.2.1 (.fieldLink RX7 80 "StoryColumnsModel" "linkedTo" "[I") (List.mem_of_getElem? (i := 122) (by decide +kernel))) (fun _ h9 => h9) rfl hdg kk
theorem fg_X7_83 (X : cx p s m meth c args cc nL ret RX7 D [(cI, .int), (cZ, .boolean)]) (hP : va_P D vwCl (wM ad cI cZ σ) H) (hdg : decode cc pc = .ok (.getfield 83, 3)) (kk : W p l e R s m args below meth c H locs 0 0 Q (F0 m (pc + 3) ls (.ref (ad 25) :: rest))) : W p l e R s m args below meth c H locs 0 0 Q (F0 m pc ls (.ref (ad 0) :: rest)) := by
  exact va_get (D := D) (ci := 7) (C := RX7) (T := TX7) (N := 34) X.1 X.2.1 X.2.2.2.2.1 inlX7 X.2.2.2.1 X.2.2.2.2.2.2.2 hP 0 rfl rfl 27 (by decide) (X.2.2.2.2.1 (.fieldLink RX7 83 "StoryColumnsModel" "linkedFrom" "[I") (List.mem_of_getElem? (i := 123) (by decide +kernel))) (fun _ h9 => h9) rfl hdg kk
theorem fg_X7_86 (X : cx p s m meth c args cc nL ret RX7 D [(cI, .int), (cZ, .boolean)]) (hP : va_P D vwCl (wM ad cI cZ σ) H) (hdg : decode cc pc = .ok (.getfield 86, 3)) (kk : W p l e R s m args below meth c H locs 0 0 Q (F0 m (pc + 3) ls (.ref (ad 26) :: rest))) : W p l e R s m args below meth c H locs 0 0 Q (F0 m pc ls (.ref (ad 0) :: rest)) := by
  exact va_get (D := D) (ci := 7) (C := RX7) (T := TX7) (N := 34) X.1 X.2.1 X.2.2.2.2.1 inlX7 X.2.2.2.1 X.2.2.2.2.2.2.2 hP 0 rfl rfl 29 (by decide) (X.2.2.2.2.1 (.fieldLink RX7 86 "StoryColumnsModel" "articleAt" "[I") (List.mem_of_getElem? (i := 124) (by decide +kernel))) (fun _ h9 => h9) rfl hdg kk
theorem fg_X7_89 (X : cx p s m meth c args cc nL ret RX7 D [(cI, .int), (cZ, .boolean)]) (hP : va_P D vwCl (wM ad cI cZ σ) H) (hdg : decode cc pc = .ok (.getfield 89, 3)) (kk : W p l e R s m args below meth c H locs 0 0 Q (F0 m (pc + 3) ls (.ref (ad 27) :: rest))) : W p l e R s m args below meth c H locs 0 0 Q (F0 m pc ls (.ref (ad 0) :: rest)) := by
  exact va_get (D := D) (ci := 7) (C := RX7) (T := TX7) (N := 34) X.1 X.2.1 X.2.2.2.2.1 inlX7 X.2.2.2.1 X.2.2.2.2.2.2.2 hP 0 rfl rfl 30 (by decide) (X.2.2.2.2.1 (.fieldLink RX7 89 "StoryColumnsModel" "isRing" "[Z") (List.mem_of_getElem? (i := 125) (by decide +kernel))) (fun _ h9 => h9) rfl hdg kk
theorem fg_X7_92 (X : cx p s m meth c args cc nL ret RX7 D [(cI, .int), (cZ, .boolean)]) (hP : va_P D vwCl (wM ad cI cZ σ) H) (hdg : decode cc pc = .ok (.getfield 92, 3)) (kk : W p l e R s m args below meth c H locs 0 0 Q (F0 m (pc + 3) ls (.ref (ad 28) :: rest))) : W p l e R s m args below meth c H locs 0 0 Q (F0 m pc ls (.ref (ad 0) :: rest)) := by
  exact va_get (D := D) (ci := 7) (C := RX7) (T := TX7) (N := 34) X.1 X.2.1 X.2.2.2.2.1 inlX7 X.2.2.2.1 X.2.2.2.2.2.2.2 hP 0 rfl rfl 31 (by decide) (X.2.2.2.2.1 (.fieldLink RX7 92 "StoryColumnsModel" "inRow" "[I") (List.mem_of_getElem? (i := 126) (by decide +kernel))) (fun _ h9 => h9) rfl hdg kk
theorem fg_X7_95 (X : cx p s m meth c args cc nL ret RX7 D [(cI, .int), (cZ, .boolean)]) (hP : va_P D vwCl (wM ad cI cZ σ) H) (hdg : decode cc pc = .ok (.getfield 95, 3)) (kk : W p l e R s m args below meth c H locs 0 0 Q (F0 m (pc + 3) ls (.ref (ad 29) :: rest))) : W p l e R s m args below meth c H locs 0 0 Q (F0 m pc ls (.ref (ad 0) :: rest)) := by
  exact va_get (D := D) (ci := 7) (C := RX7) (T := TX7) (N := 34) X.1 X.2.1 X.2.2.2.2.1 inlX7 X.2.2.2.1 X.2.2.2.2.2.2.2 hP 0 rfl rfl 32 (by decide) (X.2.2.2.2.1 (.fieldLink RX7 95 "StoryColumnsModel" "articleOf" "[I") (List.mem_of_getElem? (i := 127) (by decide +kernel))) (fun _ h9 => h9) rfl hdg kk
theorem fg_X7_98 {x : Int32} (X : cx p s m meth c args cc nL ret RX7 D [(cI, .int), (cZ, .boolean)]) (hP : va_P D vwCl (wM ad cI cZ σ) H) (hv : x = σ 0 0) (hdg : decode cc pc = .ok (.getfield 98, 3)) (kk : W p l e R s m args below meth c H locs 0 0 Q (F0 m (pc + 3) ls (.int x :: rest))) : W p l e R s m args below meth c H locs 0 0 Q (F0 m pc ls (.ref (ad 0) :: rest)) := by
  subst hv
  exact va_get (D := D) (ci := 7) (C := RX7) (T := TX7) (N := 34) X.1 X.2.1 X.2.2.2.2.1 inlX7 X.2.2.2.1 X.2.2.2.2.2.2.2 hP 0 rfl rfl 0 (by decide) (X.2.2.2.2.1 (.fieldLink RX7 98 "StoryColumnsModel" "blocks" "I") (List.mem_of_getElem? (i := 168) (by decide +kernel))) (fun _ h9 => h9) rfl hdg kk
theorem fg_X7_114 {x : Int32} (X : cx p s m meth c args cc nL ret RX7 D [(cI, .int), (cZ, .boolean)]) (hP : va_P D vwCl (wM ad cI cZ σ) H) (hv : x = σ 0 10) (hdg : decode cc pc = .ok (.getfield 114, 3)) (kk : W p l e R s m args below meth c H locs 0 0 Q (F0 m (pc + 3) ls (.int x :: rest))) : W p l e R s m args below meth c H locs 0 0 Q (F0 m pc ls (.ref (ad 0) :: rest)) := by
  subst hv
  exact va_get (D := D) (ci := 7) (C := RX7) (T := TX7) (N := 34) X.1 X.2.1 X.2.2.2.2.1 inlX7 X.2.2.2.1 X.2.2.2.2.2.2.2 hP 0 rfl rfl 10 (by decide) (X.2.2.2.2.1 (.fieldLink RX7 114 "StoryColumnsModel" "lines" "I") (List.mem_of_getElem? (i := 208) (by decide +kernel))) (fun _ h9 => h9) rfl hdg kk
theorem fg_X7_153 {x : Int32} (X : cx p s m meth c args cc nL ret RX7 D [(cI, .int), (cZ, .boolean)]) (hP : va_P D vwCl (wM ad cI cZ σ) H) (hv : x = σ 0 21) (hdg : decode cc pc = .ok (.getfield 153, 3)) (kk : W p l e R s m args below meth c H locs 0 0 Q (F0 m (pc + 3) ls (.int x :: rest))) : W p l e R s m args below meth c H locs 0 0 Q (F0 m pc ls (.ref (ad 0) :: rest)) := by
  subst hv
  exact va_get (D := D) (ci := 7) (C := RX7) (T := TX7) (N := 34) X.1 X.2.1 X.2.2.2.2.1 inlX7 X.2.2.2.1 X.2.2.2.2.2.2.2 hP 0 rfl rfl 21 (by decide) (X.2.2.2.2.1 (.fieldLink RX7 153 "StoryColumnsModel" "stories" "I") (List.mem_of_getElem? (i := 474) (by decide +kernel))) (fun _ h9 => h9) rfl hdg kk
theorem fg_X7_162 {x : Int32} (X : cx p s m meth c args cc nL ret RX7 D [(cI, .int), (cZ, .boolean)]) (hP : va_P D vwCl (wM ad cI cZ σ) H) (hv : x = σ 0 28) (hdg : decode cc pc = .ok (.getfield 162, 3)) (kk : W p l e R s m args below meth c H locs 0 0 Q (F0 m (pc + 3) ls (.int x :: rest))) : W p l e R s m args below meth c H locs 0 0 Q (F0 m pc ls (.ref (ad 0) :: rest)) := by
  subst hv
  exact va_get (D := D) (ci := 7) (C := RX7) (T := TX7) (N := 34) X.1 X.2.1 X.2.2.2.2.1 inlX7 X.2.2.2.1 X.2.2.2.2.2.2.2 hP 0 rfl rfl 28 (by decide) (X.2.2.2.2.1 (.fieldLink RX7 162 "StoryColumnsModel" "articles" "I") (List.mem_of_getElem? (i := 556) (by decide +kernel))) (fun _ h9 => h9) rfl hdg kk
theorem fg_X7_165 {x : Int32} (X : cx p s m meth c args cc nL ret RX7 D [(cI, .int), (cZ, .boolean)]) (hP : va_P D vwCl (wM ad cI cZ σ) H) (hv : x = σ 0 33) (hdg : decode cc pc = .ok (.getfield 165, 3)) (kk : W p l e R s m args below meth c H locs 0 0 Q (F0 m (pc + 3) ls (.int x :: rest))) : W p l e R s m args below meth c H locs 0 0 Q (F0 m pc ls (.ref (ad 0) :: rest)) := by
  subst hv
  exact va_get (D := D) (ci := 7) (C := RX7) (T := TX7) (N := 34) X.1 X.2.1 X.2.2.2.2.1 inlX7 X.2.2.2.1 X.2.2.2.2.2.2.2 hP 0 rfl rfl 33 (by decide) (X.2.2.2.2.1 (.fieldLink RX7 165 "StoryColumnsModel" "laid" "I") (List.mem_of_getElem? (i := 557) (by decide +kernel))) (fun _ h9 => h9) rfl hdg kk
theorem fp_X0_45 {x : Int32} {σ1 : St} (X : cx p s m meth c args cc nL ret RX0 D [(cI, .int)]) (hN : nj ad 34) (hP : va_P D vwCl (wC ad cI σ) H) (hS : va_S (aw ad 34) s.heap H locs) (hv : σ1 = ss σ 6 3 x) (hdg : decode cc pc = .ok (.putfield 45, 3)) (kk : ∀ (H1 : Heap) (locs1 : List Loc), va_P D vwCl (wC ad cI σ1) H1 → va_S (aw ad 34) s.heap H1 locs1 → W p l e R s m args below meth c H1 locs1 0 0 Q (F0 m (pc + 3) ls rest)) : W p l e R s m args below meth c H locs 0 0 Q (F0 m pc ls (.int x :: .ref (ad 6) :: rest)) := by
  subst hv
  refine va_put (D := D) (ci := 0) (v := .int x) (ty := .int) (C := RX0) (T := TX0) (N := 11) X.1 X.2.1 X.2.2.2.2.1 inlX0 tyX0 tyX0_ok nmX0 X.2.2.2.1 X.2.2.2.2.2.2.2 hP (wC_D hN) hS 6 rfl rfl 3 (by decide) (X.2.2.2.2.1 (.fieldLink RX0 45 "StoryColumns$Articles" "count" "I") (List.mem_of_getElem? (i := 417) (by decide +kernel))) (fun _ h9 => h9) rfl (by decide +kernel) rfl rfl (Nat.le_of_ble_eq_true rfl) hdg (fun H1 locs1 h1 h2 h3 => ?_)
  exact kk H1 locs1 (show va_P D vwCl (wC ad cI (ss σ 6 3 x)) H1 from h1) h3
theorem fp_X1_33 {x : Int32} {σ1 : St} (X : cx p s m meth c args cc nL ret RX1 D [(cI, .int)]) (hN : nj ad 34) (hP : va_P D vwCl (wC ad cI σ) H) (hS : va_S (aw ad 34) s.heap H locs) (hv : σ1 = ss σ 1 0 x) (hdg : decode cc pc = .ok (.putfield 33, 3)) (kk : ∀ (H1 : Heap) (locs1 : List Loc), va_P D vwCl (wC ad cI σ1) H1 → va_S (aw ad 34) s.heap H1 locs1 → W p l e R s m args below meth c H1 locs1 0 0 Q (F0 m (pc + 3) ls rest)) : W p l e R s m args below meth c H locs 0 0 Q (F0 m pc ls (.int x :: .ref (ad 1) :: rest)) := by
  subst hv
  refine va_put (D := D) (ci := 1) (v := .int x) (ty := .int) (C := RX1) (T := TX1) (N := 8) X.1 X.2.1 X.2.2.2.2.1 inlX1 tyX1 tyX1_ok nmX1 X.2.2.2.1 X.2.2.2.2.2.2.2 hP (wC_D hN) hS 1 rfl rfl 0 (by decide) (X.2.2.2.2.1 (.fieldLink RX1 33 "StoryColumns$Blocks" "count" "I") (List.mem_of_getElem? (i := 147) (by decide +kernel))) (fun _ h9 => h9) rfl (by decide +kernel) rfl rfl (Nat.le_of_ble_eq_true rfl) hdg (fun H1 locs1 h1 h2 h3 => ?_)
  exact kk H1 locs1 (show va_P D vwCl (wC ad cI (ss σ 1 0 x)) H1 from h1) h3
theorem fp_X2_27 {x : Int32} {σ1 : St} (X : cx p s m meth c args cc nL ret RX2 D [(cI, .int)]) (hN : nj ad 34) (hP : va_P D vwCl (wC ad cI σ) H) (hS : va_S (aw ad 34) s.heap H locs) (hv : σ1 = ss σ 3 0 x) (hdg : decode cc pc = .ok (.putfield 27, 3)) (kk : ∀ (H1 : Heap) (locs1 : List Loc), va_P D vwCl (wC ad cI σ1) H1 → va_S (aw ad 34) s.heap H1 locs1 → W p l e R s m args below meth c H1 locs1 0 0 Q (F0 m (pc + 3) ls rest)) : W p l e R s m args below meth c H locs 0 0 Q (F0 m pc ls (.int x :: .ref (ad 3) :: rest)) := by
  subst hv
  refine va_put (D := D) (ci := 2) (v := .int x) (ty := .int) (C := RX2) (T := TX2) (N := 6) X.1 X.2.1 X.2.2.2.2.1 inlX2 tyX2 tyX2_ok nmX2 X.2.2.2.1 X.2.2.2.2.2.2.2 hP (wC_D hN) hS 3 rfl rfl 0 (by decide) (X.2.2.2.2.1 (.fieldLink RX2 27 "StoryColumns$Lines" "count" "I") (List.mem_of_getElem? (i := 203) (by decide +kernel))) (fun _ h9 => h9) rfl (by decide +kernel) rfl rfl (Nat.le_of_ble_eq_true rfl) hdg (fun H1 locs1 h1 h2 h3 => ?_)
  exact kk H1 locs1 (show va_P D vwCl (wC ad cI (ss σ 3 0 x)) H1 from h1) h3
theorem fp_X5_42 {x : Int32} {σ1 : St} (X : cx p s m meth c args cc nL ret RX5 D [(cI, .int)]) (hN : nj ad 34) (hP : va_P D vwCl (wC ad cI σ) H) (hS : va_S (aw ad 34) s.heap H locs) (hv : σ1 = ss σ 5 10 x) (hdg : decode cc pc = .ok (.putfield 42, 3)) (kk : ∀ (H1 : Heap) (locs1 : List Loc), va_P D vwCl (wC ad cI σ1) H1 → va_S (aw ad 34) s.heap H1 locs1 → W p l e R s m args below meth c H1 locs1 0 0 Q (F0 m (pc + 3) ls rest)) : W p l e R s m args below meth c H locs 0 0 Q (F0 m pc ls (.int x :: .ref (ad 5) :: rest)) := by
  subst hv
  refine va_put (D := D) (ci := 5) (v := .int x) (ty := .int) (C := RX5) (T := TX5) (N := 11) X.1 X.2.1 X.2.2.2.2.1 inlX5 tyX5 tyX5_ok nmX5 X.2.2.2.1 X.2.2.2.2.2.2.2 hP (wC_D hN) hS 5 rfl rfl 10 (by decide) (X.2.2.2.2.1 (.fieldLink RX5 42 "StoryColumns$Stories" "texts" "I") (List.mem_of_getElem? (i := 355) (by decide +kernel))) (fun _ h9 => h9) rfl (by decide +kernel) rfl rfl (Nat.le_of_ble_eq_true rfl) hdg (fun H1 locs1 h1 h2 h3 => ?_)
  exact kk H1 locs1 (show va_P D vwCl (wC ad cI (ss σ 5 10 x)) H1 from h1) h3
theorem fp_X5_121 {x : Int32} {σ1 : St} (X : cx p s m meth c args cc nL ret RX5 D [(cI, .int)]) (hN : nj ad 34) (hP : va_P D vwCl (wC ad cI σ) H) (hS : va_S (aw ad 34) s.heap H locs) (hv : σ1 = ss σ 5 3 x) (hdg : decode cc pc = .ok (.putfield 121, 3)) (kk : ∀ (H1 : Heap) (locs1 : List Loc), va_P D vwCl (wC ad cI σ1) H1 → va_S (aw ad 34) s.heap H1 locs1 → W p l e R s m args below meth c H1 locs1 0 0 Q (F0 m (pc + 3) ls rest)) : W p l e R s m args below meth c H locs 0 0 Q (F0 m pc ls (.int x :: .ref (ad 5) :: rest)) := by
  subst hv
  refine va_put (D := D) (ci := 5) (v := .int x) (ty := .int) (C := RX5) (T := TX5) (N := 11) X.1 X.2.1 X.2.2.2.2.1 inlX5 tyX5 tyX5_ok nmX5 X.2.2.2.1 X.2.2.2.2.2.2.2 hP (wC_D hN) hS 5 rfl rfl 3 (by decide) (X.2.2.2.2.1 (.fieldLink RX5 121 "StoryColumns$Stories" "count" "I") (List.mem_of_getElem? (i := 412) (by decide +kernel))) (fun _ h9 => h9) rfl (by decide +kernel) rfl rfl (Nat.le_of_ble_eq_true rfl) hdg (fun H1 locs1 h1 h2 h3 => ?_)
  exact kk H1 locs1 (show va_P D vwCl (wC ad cI (ss σ 5 3 x)) H1 from h1) h3
theorem fp_X6_57 {x : Int32} {σ1 : St} (X : cx p s m meth c args cc nL ret RX6 D [(cI, .int)]) (hN : nj ad 34) (hP : va_P D vwCl (wC ad cI σ) H) (hS : va_S (aw ad 34) s.heap H locs) (hz : x = 0 ∨ x = 1) (hv : σ1 = ss σ 0 6 x) (hdg : decode cc pc = .ok (.putfield 57, 3)) (kk : ∀ (H1 : Heap) (locs1 : List Loc), va_P D vwCl (wC ad cI σ1) H1 → va_S (aw ad 34) s.heap H1 locs1 → W p l e R s m args below meth c H1 locs1 0 0 Q (F0 m (pc + 3) ls rest)) : W p l e R s m args below meth c H locs 0 0 Q (F0 m pc ls (.int x :: .ref (ad 0) :: rest)) := by
  subst hv
  refine va_put (D := D) (ci := 6) (v := .int x) (ty := .boolean) (C := RX6) (T := TX6) (N := 7) X.1 X.2.1 X.2.2.2.2.1 inlX6 tyX6 tyX6_ok nmX6 X.2.2.2.1 X.2.2.2.2.2.2.2 hP (wC_D hN) hS 0 rfl rfl 6 (by decide) (X.2.2.2.2.1 (.fieldLink RX6 57 "StoryColumns" "stale" "Z") (List.mem_of_getElem? (i := 36) (by decide +kernel))) (fun _ h9 => h9) rfl (by decide +kernel) (by rcases hz with rfl | rfl <;> rfl) (by rcases hz with rfl | rfl <;> rfl) (Nat.le_of_ble_eq_true rfl) hdg (fun H1 locs1 h1 h2 h3 => ?_)
  exact kk H1 locs1 (show va_P D vwCl (wC ad cI (ss σ 0 6 x)) H1 from h1) h3
theorem fp_X6_73 {x : Int32} {σ1 : St} (X : cx p s m meth c args cc nL ret RX6 D [(cI, .int)]) (hN : nj ad 34) (hP : va_P D vwCl (wC ad cI σ) H) (hS : va_S (aw ad 34) s.heap H locs) (hv : σ1 = ss σ 1 0 x) (hdg : decode cc pc = .ok (.putfield 73, 3)) (kk : ∀ (H1 : Heap) (locs1 : List Loc), va_P D vwCl (wC ad cI σ1) H1 → va_S (aw ad 34) s.heap H1 locs1 → W p l e R s m args below meth c H1 locs1 0 0 Q (F0 m (pc + 3) ls rest)) : W p l e R s m args below meth c H locs 0 0 Q (F0 m pc ls (.int x :: .ref (ad 1) :: rest)) := by
  subst hv
  refine va_put (D := D) (ci := 1) (v := .int x) (ty := .int) (C := RX1) (T := TX1) (N := 8) X.1 X.2.1 X.2.2.2.2.1 inlX1 tyX1 tyX1_ok nmX1 X.2.2.2.1 X.2.2.2.2.2.2.2 hP (wC_D hN) hS 1 rfl rfl 0 (by decide) (X.2.2.2.2.1 (.fieldLink RX6 73 "StoryColumns$Blocks" "count" "I") (List.mem_of_getElem? (i := 132) (by decide +kernel))) (fun _ h9 => h9) rfl (by decide +kernel) rfl rfl (Nat.le_of_ble_eq_true rfl) hdg (fun H1 locs1 h1 h2 h3 => ?_)
  exact kk H1 locs1 (show va_P D vwCl (wC ad cI (ss σ 1 0 x)) H1 from h1) h3
theorem fp_X6_96 {x : Int32} {σ1 : St} (X : cx p s m meth c args cc nL ret RX6 D [(cI, .int)]) (hN : nj ad 34) (hP : va_P D vwCl (wC ad cI σ) H) (hS : va_S (aw ad 34) s.heap H locs) (hv : σ1 = ss σ 3 0 x) (hdg : decode cc pc = .ok (.putfield 96, 3)) (kk : ∀ (H1 : Heap) (locs1 : List Loc), va_P D vwCl (wC ad cI σ1) H1 → va_S (aw ad 34) s.heap H1 locs1 → W p l e R s m args below meth c H1 locs1 0 0 Q (F0 m (pc + 3) ls rest)) : W p l e R s m args below meth c H locs 0 0 Q (F0 m pc ls (.int x :: .ref (ad 3) :: rest)) := by
  subst hv
  refine va_put (D := D) (ci := 2) (v := .int x) (ty := .int) (C := RX2) (T := TX2) (N := 6) X.1 X.2.1 X.2.2.2.2.1 inlX2 tyX2 tyX2_ok nmX2 X.2.2.2.1 X.2.2.2.2.2.2.2 hP (wC_D hN) hS 3 rfl rfl 0 (by decide) (X.2.2.2.2.1 (.fieldLink RX6 96 "StoryColumns$Lines" "count" "I") (List.mem_of_getElem? (i := 198) (by decide +kernel))) (fun _ h9 => h9) rfl (by decide +kernel) rfl rfl (Nat.le_of_ble_eq_true rfl) hdg (fun H1 locs1 h1 h2 h3 => ?_)
  exact kk H1 locs1 (show va_P D vwCl (wC ad cI (ss σ 3 0 x)) H1 from h1) h3
theorem fp_X7_98 {x : Int32} {σ1 : St} (X : cx p s m meth c args cc nL ret RX7 D [(cI, .int), (cZ, .boolean)]) (hN : nj ad 30) (hP : va_P D vwCl (wM ad cI cZ σ) H) (hS : va_S (aw ad 30) s.heap H locs) (hv : σ1 = ss σ 0 0 x) (hdg : decode cc pc = .ok (.putfield 98, 3)) (kk : ∀ (H1 : Heap) (locs1 : List Loc), va_P D vwCl (wM ad cI cZ σ1) H1 → va_S (aw ad 30) s.heap H1 locs1 → W p l e R s m args below meth c H1 locs1 0 0 Q (F0 m (pc + 3) ls rest)) : W p l e R s m args below meth c H locs 0 0 Q (F0 m pc ls (.int x :: .ref (ad 0) :: rest)) := by
  subst hv
  refine va_put (D := D) (ci := 7) (v := .int x) (ty := .int) (C := RX7) (T := TX7) (N := 34) X.1 X.2.1 X.2.2.2.2.1 inlX7 tyX7 tyX7_ok nmX7 X.2.2.2.1 X.2.2.2.2.2.2.2 hP (wM_D hN) hS 0 rfl rfl 0 (by decide) (X.2.2.2.2.1 (.fieldLink RX7 98 "StoryColumnsModel" "blocks" "I") (List.mem_of_getElem? (i := 168) (by decide +kernel))) (fun _ h9 => h9) rfl (by decide +kernel) rfl rfl (Nat.le_of_ble_eq_true rfl) hdg (fun H1 locs1 h1 h2 h3 => ?_)
  exact kk H1 locs1 (show va_P D vwCl (wM ad cI cZ (ss σ 0 0 x)) H1 from h1) h3
theorem fp_X7_114 {x : Int32} {σ1 : St} (X : cx p s m meth c args cc nL ret RX7 D [(cI, .int), (cZ, .boolean)]) (hN : nj ad 30) (hP : va_P D vwCl (wM ad cI cZ σ) H) (hS : va_S (aw ad 30) s.heap H locs) (hv : σ1 = ss σ 0 10 x) (hdg : decode cc pc = .ok (.putfield 114, 3)) (kk : ∀ (H1 : Heap) (locs1 : List Loc), va_P D vwCl (wM ad cI cZ σ1) H1 → va_S (aw ad 30) s.heap H1 locs1 → W p l e R s m args below meth c H1 locs1 0 0 Q (F0 m (pc + 3) ls rest)) : W p l e R s m args below meth c H locs 0 0 Q (F0 m pc ls (.int x :: .ref (ad 0) :: rest)) := by
  subst hv
  refine va_put (D := D) (ci := 7) (v := .int x) (ty := .int) (C := RX7) (T := TX7) (N := 34) X.1 X.2.1 X.2.2.2.2.1 inlX7 tyX7 tyX7_ok nmX7 X.2.2.2.1 X.2.2.2.2.2.2.2 hP (wM_D hN) hS 0 rfl rfl 10 (by decide) (X.2.2.2.2.1 (.fieldLink RX7 114 "StoryColumnsModel" "lines" "I") (List.mem_of_getElem? (i := 208) (by decide +kernel))) (fun _ h9 => h9) rfl (by decide +kernel) rfl rfl (Nat.le_of_ble_eq_true rfl) hdg (fun H1 locs1 h1 h2 h3 => ?_)
  exact kk H1 locs1 (show va_P D vwCl (wM ad cI cZ (ss σ 0 10 x)) H1 from h1) h3
theorem fp_X7_153 {x : Int32} {σ1 : St} (X : cx p s m meth c args cc nL ret RX7 D [(cI, .int), (cZ, .boolean)]) (hN : nj ad 30) (hP : va_P D vwCl (wM ad cI cZ σ) H) (hS : va_S (aw ad 30) s.heap H locs) (hv : σ1 = ss σ 0 21 x) (hdg : decode cc pc = .ok (.putfield 153, 3)) (kk : ∀ (H1 : Heap) (locs1 : List Loc), va_P D vwCl (wM ad cI cZ σ1) H1 → va_S (aw ad 30) s.heap H1 locs1 → W p l e R s m args below meth c H1 locs1 0 0 Q (F0 m (pc + 3) ls rest)) : W p l e R s m args below meth c H locs 0 0 Q (F0 m pc ls (.int x :: .ref (ad 0) :: rest)) := by
  subst hv
  refine va_put (D := D) (ci := 7) (v := .int x) (ty := .int) (C := RX7) (T := TX7) (N := 34) X.1 X.2.1 X.2.2.2.2.1 inlX7 tyX7 tyX7_ok nmX7 X.2.2.2.1 X.2.2.2.2.2.2.2 hP (wM_D hN) hS 0 rfl rfl 21 (by decide) (X.2.2.2.2.1 (.fieldLink RX7 153 "StoryColumnsModel" "stories" "I") (List.mem_of_getElem? (i := 474) (by decide +kernel))) (fun _ h9 => h9) rfl (by decide +kernel) rfl rfl (Nat.le_of_ble_eq_true rfl) hdg (fun H1 locs1 h1 h2 h3 => ?_)
  exact kk H1 locs1 (show va_P D vwCl (wM ad cI cZ (ss σ 0 21 x)) H1 from h1) h3
theorem fp_X7_162 {x : Int32} {σ1 : St} (X : cx p s m meth c args cc nL ret RX7 D [(cI, .int), (cZ, .boolean)]) (hN : nj ad 30) (hP : va_P D vwCl (wM ad cI cZ σ) H) (hS : va_S (aw ad 30) s.heap H locs) (hv : σ1 = ss σ 0 28 x) (hdg : decode cc pc = .ok (.putfield 162, 3)) (kk : ∀ (H1 : Heap) (locs1 : List Loc), va_P D vwCl (wM ad cI cZ σ1) H1 → va_S (aw ad 30) s.heap H1 locs1 → W p l e R s m args below meth c H1 locs1 0 0 Q (F0 m (pc + 3) ls rest)) : W p l e R s m args below meth c H locs 0 0 Q (F0 m pc ls (.int x :: .ref (ad 0) :: rest)) := by
  subst hv
  refine va_put (D := D) (ci := 7) (v := .int x) (ty := .int) (C := RX7) (T := TX7) (N := 34) X.1 X.2.1 X.2.2.2.2.1 inlX7 tyX7 tyX7_ok nmX7 X.2.2.2.1 X.2.2.2.2.2.2.2 hP (wM_D hN) hS 0 rfl rfl 28 (by decide) (X.2.2.2.2.1 (.fieldLink RX7 162 "StoryColumnsModel" "articles" "I") (List.mem_of_getElem? (i := 556) (by decide +kernel))) (fun _ h9 => h9) rfl (by decide +kernel) rfl rfl (Nat.le_of_ble_eq_true rfl) hdg (fun H1 locs1 h1 h2 h3 => ?_)
  exact kk H1 locs1 (show va_P D vwCl (wM ad cI cZ (ss σ 0 28 x)) H1 from h1) h3
theorem fp_X7_165 {x : Int32} {σ1 : St} (X : cx p s m meth c args cc nL ret RX7 D [(cI, .int), (cZ, .boolean)]) (hN : nj ad 30) (hP : va_P D vwCl (wM ad cI cZ σ) H) (hS : va_S (aw ad 30) s.heap H locs) (hv : σ1 = ss σ 0 33 x) (hdg : decode cc pc = .ok (.putfield 165, 3)) (kk : ∀ (H1 : Heap) (locs1 : List Loc), va_P D vwCl (wM ad cI cZ σ1) H1 → va_S (aw ad 30) s.heap H1 locs1 → W p l e R s m args below meth c H1 locs1 0 0 Q (F0 m (pc + 3) ls rest)) : W p l e R s m args below meth c H locs 0 0 Q (F0 m pc ls (.int x :: .ref (ad 0) :: rest)) := by
  subst hv
  refine va_put (D := D) (ci := 7) (v := .int x) (ty := .int) (C := RX7) (T := TX7) (N := 34) X.1 X.2.1 X.2.2.2.2.1 inlX7 tyX7 tyX7_ok nmX7 X.2.2.2.1 X.2.2.2.2.2.2.2 hP (wM_D hN) hS 0 rfl rfl 33 (by decide) (X.2.2.2.2.1 (.fieldLink RX7 165 "StoryColumnsModel" "laid" "I") (List.mem_of_getElem? (i := 557) (by decide +kernel))) (fun _ h9 => h9) rfl (by decide +kernel) rfl rfl (Nat.le_of_ble_eq_true rfl) hdg (fun H1 locs1 h1 h2 h3 => ?_)
  exact kk H1 locs1 (show va_P D vwCl (wM ad cI cZ (ss σ 0 33 x)) H1 from h1) h3
theorem mm_X1_41 {x y : Int32} {lv : List (Nat × Value)} (X : cx p s m meth c args cc nL ret RX1 D [(cI, .int)]) (hl : lv_has ls nL lv) (hfr : 1 ≤ R.frames) (hlo : (rest.map fun v => v.category).sum + 13 ≤ R.locals) (hdg : decode cc pc = .ok (.invokestatic 41, 3)) (kk : W p l e R s m args below meth c H locs 0 0 Q (F0 m (pc + 3) ls (.int (jmin x y) :: rest))) : W p l e R s m args below meth c H locs 0 0 Q (F0 m pc ls (.int y :: .int x :: rest)) :=
  va_mmin X.1 X.2.1 (X.2.2.1.trans hl.1.symm) X.2.2.2.1 (X.2.2.2.2.1 (.methodLink RX1 41 Lib.Math.min.name) (List.mem_of_getElem? (i := 316) (by decide +kernel))) (X.2.2.2.2.1 (.static Lib.Math.min.name) (List.mem_of_getElem? (i := 300) (by decide +kernel))) (X.2.2.2.2.1 (.initialized "java/lang/Math") (List.mem_of_getElem? (i := 301) (by decide +kernel))) (X.2.2.2.2.1 (.code Lib.Math.min.name Lib.Math.min.code 2 (some .int)) (List.mem_of_getElem? (i := 302) (by decide +kernel))) hfr hlo (Nat.zero_le _) (Nat.zero_le _) hdg kk
theorem mm_X2_31 {x y : Int32} {lv : List (Nat × Value)} (X : cx p s m meth c args cc nL ret RX2 D [(cI, .int)]) (hl : lv_has ls nL lv) (hfr : 1 ≤ R.frames) (hlo : (rest.map fun v => v.category).sum + 13 ≤ R.locals) (hdg : decode cc pc = .ok (.invokestatic 31, 3)) (kk : W p l e R s m args below meth c H locs 0 0 Q (F0 m (pc + 3) ls (.int (jmin x y) :: rest))) : W p l e R s m args below meth c H locs 0 0 Q (F0 m pc ls (.int y :: .int x :: rest)) :=
  va_mmin X.1 X.2.1 (X.2.2.1.trans hl.1.symm) X.2.2.2.1 (X.2.2.2.2.1 (.methodLink RX2 31 Lib.Math.min.name) (List.mem_of_getElem? (i := 321) (by decide +kernel))) (X.2.2.2.2.1 (.static Lib.Math.min.name) (List.mem_of_getElem? (i := 300) (by decide +kernel))) (X.2.2.2.2.1 (.initialized "java/lang/Math") (List.mem_of_getElem? (i := 301) (by decide +kernel))) (X.2.2.2.2.1 (.code Lib.Math.min.name Lib.Math.min.code 2 (some .int)) (List.mem_of_getElem? (i := 302) (by decide +kernel))) hfr hlo (Nat.zero_le _) (Nat.zero_le _) hdg kk
theorem mm_X4_51 {x y : Int32} {lv : List (Nat × Value)} (X : cx p s m meth c args cc nL ret RX4 D [(cI, .int)]) (hl : lv_has ls nL lv) (hfr : 1 ≤ R.frames) (hlo : (rest.map fun v => v.category).sum + 13 ≤ R.locals) (hdg : decode cc pc = .ok (.invokestatic 51, 3)) (kk : W p l e R s m args below meth c H locs 0 0 Q (F0 m (pc + 3) ls (.int (jmin x y) :: rest))) : W p l e R s m args below meth c H locs 0 0 Q (F0 m pc ls (.int y :: .int x :: rest)) :=
  va_mmin X.1 X.2.1 (X.2.2.1.trans hl.1.symm) X.2.2.2.1 (X.2.2.2.2.1 (.methodLink RX4 51 Lib.Math.min.name) (List.mem_of_getElem? (i := 299) (by decide +kernel))) (X.2.2.2.2.1 (.static Lib.Math.min.name) (List.mem_of_getElem? (i := 300) (by decide +kernel))) (X.2.2.2.2.1 (.initialized "java/lang/Math") (List.mem_of_getElem? (i := 301) (by decide +kernel))) (X.2.2.2.2.1 (.code Lib.Math.min.name Lib.Math.min.code 2 (some .int)) (List.mem_of_getElem? (i := 302) (by decide +kernel))) hfr hlo (Nat.zero_le _) (Nat.zero_le _) hdg kk
theorem mm_X5_103 {x y : Int32} {lv : List (Nat × Value)} (X : cx p s m meth c args cc nL ret RX5 D [(cI, .int)]) (hl : lv_has ls nL lv) (hfr : 1 ≤ R.frames) (hlo : (rest.map fun v => v.category).sum + 13 ≤ R.locals) (hdg : decode cc pc = .ok (.invokestatic 103, 3)) (kk : W p l e R s m args below meth c H locs 0 0 Q (F0 m (pc + 3) ls (.int (jmax x y) :: rest))) : W p l e R s m args below meth c H locs 0 0 Q (F0 m pc ls (.int y :: .int x :: rest)) :=
  va_mmax X.1 X.2.1 (X.2.2.1.trans hl.1.symm) X.2.2.2.1 (X.2.2.2.2.1 (.methodLink RX5 103 Lib.Math.max.name) (List.mem_of_getElem? (i := 398) (by decide +kernel))) (X.2.2.2.2.1 (.static Lib.Math.max.name) (List.mem_of_getElem? (i := 399) (by decide +kernel))) (X.2.2.2.2.1 (.initialized "java/lang/Math") (List.mem_of_getElem? (i := 301) (by decide +kernel))) (X.2.2.2.2.1 (.code Lib.Math.max.name Lib.Math.max.code 2 (some .int)) (List.mem_of_getElem? (i := 400) (by decide +kernel))) hfr hlo (Nat.zero_le _) (Nat.zero_le _) hdg kk
theorem mm_X5_112 {x y : Int32} {lv : List (Nat × Value)} (X : cx p s m meth c args cc nL ret RX5 D [(cI, .int)]) (hl : lv_has ls nL lv) (hfr : 1 ≤ R.frames) (hlo : (rest.map fun v => v.category).sum + 13 ≤ R.locals) (hdg : decode cc pc = .ok (.invokestatic 112, 3)) (kk : W p l e R s m args below meth c H locs 0 0 Q (F0 m (pc + 3) ls (.int (jmin x y) :: rest))) : W p l e R s m args below meth c H locs 0 0 Q (F0 m pc ls (.int y :: .int x :: rest)) :=
  va_mmin X.1 X.2.1 (X.2.2.1.trans hl.1.symm) X.2.2.2.1 (X.2.2.2.2.1 (.methodLink RX5 112 Lib.Math.min.name) (List.mem_of_getElem? (i := 402) (by decide +kernel))) (X.2.2.2.2.1 (.static Lib.Math.min.name) (List.mem_of_getElem? (i := 300) (by decide +kernel))) (X.2.2.2.2.1 (.initialized "java/lang/Math") (List.mem_of_getElem? (i := 301) (by decide +kernel))) (X.2.2.2.2.1 (.code Lib.Math.min.name Lib.Math.min.code 2 (some .int)) (List.mem_of_getElem? (i := 302) (by decide +kernel))) hfr hlo (Nat.zero_le _) (Nat.zero_le _) hdg kk
theorem gw_X0_52 : GoodIn wsL_law (wsV RX0 52 RX0 yX0_lastOnward (.code yX0_lastOnward cX0_lastOnward 5 (some .int) :: wsL_law)) := goodIn_app (goodIn_r _ [419, 420, 421, 34] (by decide +kernel) (by decide +kernel)) (good_code (List.mem_of_getElem? (i := 422) (by decide +kernel)))
theorem cw_X0_52 (hts : ∀ w ∈ wsL_law, w.before args s = true) (hR : rm_X0_lastOnward.frames + 1 ≤ R.frames ∧ 8 + (5 + 11) + rm_X0_lastOnward.locals ≤ R.locals) : CallW R s args RX0 RX0 52 yX0_lastOnward cX0_lastOnward 5 (some .int) (.code yX0_lastOnward cX0_lastOnward 5 (some .int) :: wsL_law) rm_X0_lastOnward 0 0 1 := cwV 1 hts gw_X0_52 rfl rfl rfl (by decide +kernel) hR
theorem gw_X0_56 : GoodIn wsL_law (wsV RX0 56 RX0 yX0_linkToAim (.code yX0_linkToAim cX0_linkToAim 3 none :: wsL_law)) := goodIn_app (goodIn_r _ [434, 435, 436, 34] (by decide +kernel) (by decide +kernel)) (good_code (List.mem_of_getElem? (i := 437) (by decide +kernel)))
theorem cw_X0_56 (hts : ∀ w ∈ wsL_law, w.before args s = true) (hR : rm_X0_linkToAim.frames + 1 ≤ R.frames ∧ 8 + (3 + 11) + rm_X0_linkToAim.locals ≤ R.locals) : CallW R s args RX0 RX0 56 yX0_linkToAim cX0_linkToAim 3 none (.code yX0_linkToAim cX0_linkToAim 3 none :: wsL_law) rm_X0_linkToAim 0 0 1 := cwV 1 hts gw_X0_56 rfl rfl rfl (by decide +kernel) hR
theorem gw_X0_60 : GoodIn wsL_law (wsV RX0 60 RX0 yX0_addFrom (.code yX0_addFrom cX0_addFrom 5 none :: wsL_law)) := goodIn_app (goodIn_r _ [449, 450, 451, 34] (by decide +kernel) (by decide +kernel)) (good_code (List.mem_of_getElem? (i := 452) (by decide +kernel)))
theorem cw_X0_60 (hts : ∀ w ∈ wsL_law, w.before args s = true) (hR : rm_X0_addFrom.frames + 1 ≤ R.frames ∧ 8 + (5 + 11) + rm_X0_addFrom.locals ≤ R.locals) : CallW R s args RX0 RX0 60 yX0_addFrom cX0_addFrom 5 none (.code yX0_addFrom cX0_addFrom 5 none :: wsL_law) rm_X0_addFrom 0 0 1 := cwV 1 hts gw_X0_60 rfl rfl rfl (by decide +kernel) hR
theorem gw_X0_72 : GoodIn wsL_law (wsV RX0 72 RX3 yX3_has (.code yX3_has cX3_has 3 (some .boolean) :: wsL_law)) := goodIn_app (goodIn_r _ [426, 427, 428, 18] (by decide +kernel) (by decide +kernel)) (good_code (List.mem_of_getElem? (i := 429) (by decide +kernel)))
theorem cw_X0_72 (hts : ∀ w ∈ wsL_law, w.before args s = true) (hR : rm_X3_has.frames + 1 ≤ R.frames ∧ 8 + (3 + 11) + rm_X3_has.locals ≤ R.locals) : CallW R s args RX0 RX3 72 yX3_has cX3_has 3 (some .boolean) (.code yX3_has cX3_has 3 (some .boolean) :: wsL_law) rm_X3_has 0 0 2 := cwV 2 hts gw_X0_72 rfl rfl rfl (by decide +kernel) hR
theorem gw_X0_78 : GoodIn wsL_law (wsV RX0 78 RX0 yX0_aimOf (.code yX0_aimOf cX0_aimOf 6 (some .int) :: wsL_law)) := goodIn_app (goodIn_r _ [438, 439, 440, 34] (by decide +kernel) (by decide +kernel)) (good_code (List.mem_of_getElem? (i := 441) (by decide +kernel)))
theorem cw_X0_78 (hts : ∀ w ∈ wsL_law, w.before args s = true) (hR : rm_X0_aimOf.frames + 1 ≤ R.frames ∧ 8 + (6 + 11) + rm_X0_aimOf.locals ≤ R.locals) : CallW R s args RX0 RX0 78 yX0_aimOf cX0_aimOf 6 (some .int) (.code yX0_aimOf cX0_aimOf 6 (some .int) :: wsL_law) rm_X0_aimOf 0 0 1 := cwV 1 hts gw_X0_78 rfl rfl rfl (by decide +kernel) hR
theorem gw_X0_81 : GoodIn wsL_law (wsV RX0 81 RX3 yX3_pageOf (.code yX3_pageOf cX3_pageOf 3 (some .int) :: wsL_law)) := goodIn_app (goodIn_r _ [444, 431, 432, 18] (by decide +kernel) (by decide +kernel)) (good_code (List.mem_of_getElem? (i := 433) (by decide +kernel)))
theorem cw_X0_81 (hts : ∀ w ∈ wsL_law, w.before args s = true) (hR : rm_X3_pageOf.frames + 1 ≤ R.frames ∧ 8 + (3 + 11) + rm_X3_pageOf.locals ≤ R.locals) : CallW R s args RX0 RX3 81 yX3_pageOf cX3_pageOf 3 (some .int) (.code yX3_pageOf cX3_pageOf 3 (some .int) :: wsL_law) rm_X3_pageOf 0 0 2 := cwV 2 hts gw_X0_81 rfl rfl rfl (by decide +kernel) hR
theorem gw_X0_85 : GoodIn wsL_law (wsV RX0 85 RX3 yX3_wordOf (.code yX3_wordOf cX3_wordOf 3 (some .int) :: wsL_law)) := goodIn_app (goodIn_r _ [445, 446, 447, 18] (by decide +kernel) (by decide +kernel)) (good_code (List.mem_of_getElem? (i := 448) (by decide +kernel)))
theorem cw_X0_85 (hts : ∀ w ∈ wsL_law, w.before args s = true) (hR : rm_X3_wordOf.frames + 1 ≤ R.frames ∧ 8 + (3 + 11) + rm_X3_wordOf.locals ≤ R.locals) : CallW R s args RX0 RX3 85 yX3_wordOf cX3_wordOf 3 (some .int) (.code yX3_wordOf cX3_wordOf 3 (some .int) :: wsL_law) rm_X3_wordOf 0 0 2 := cwV 2 hts gw_X0_85 rfl rfl rfl (by decide +kernel) hR
theorem gw_X0_97 : GoodIn wsL_law (wsV RX0 97 RX0 yX0_isReadIn (.code yX0_isReadIn cX0_isReadIn 4 (some .boolean) :: wsL_law)) := goodIn_app (goodIn_r _ [639, 640, 641, 34] (by decide +kernel) (by decide +kernel)) (good_code (List.mem_of_getElem? (i := 642) (by decide +kernel)))
theorem cw_X0_97 (hts : ∀ w ∈ wsL_law, w.before args s = true) (hR : rm_X0_isReadIn.frames + 1 ≤ R.frames ∧ 8 + (4 + 11) + rm_X0_isReadIn.locals ≤ R.locals) : CallW R s args RX0 RX0 97 yX0_isReadIn cX0_isReadIn 4 (some .boolean) (.code yX0_isReadIn cX0_isReadIn 4 (some .boolean) :: wsL_law) rm_X0_isReadIn 0 0 2 := cwV 2 hts gw_X0_97 rfl rfl rfl (by decide +kernel) hR
theorem gw_X0_103 : GoodIn wsL_law (wsV RX0 103 RX5 yX5_headOf (.code yX5_headOf cX5_headOf 2 (some .int) :: wsL_law)) := goodIn_app (goodIn_r _ [680, 520, 521, 30] (by decide +kernel) (by decide +kernel)) (good_code (List.mem_of_getElem? (i := 522) (by decide +kernel)))
theorem cw_X0_103 (hts : ∀ w ∈ wsL_law, w.before args s = true) (hR : rm_X5_headOf.frames + 1 ≤ R.frames ∧ 8 + (2 + 11) + rm_X5_headOf.locals ≤ R.locals) : CallW R s args RX0 RX5 103 yX5_headOf cX5_headOf 2 (some .int) (.code yX5_headOf cX5_headOf 2 (some .int) :: wsL_law) rm_X5_headOf 0 0 1 := cwV 1 hts gw_X0_103 rfl rfl rfl (by decide +kernel) hR
theorem gw_X0_106 : GoodIn wsL_law (wsV RX0 106 RX5 yX5_textAt (.code yX5_textAt cX5_textAt 5 (some .int) :: wsL_law)) := goodIn_app (goodIn_r _ [681, 587, 588, 30] (by decide +kernel) (by decide +kernel)) (good_code (List.mem_of_getElem? (i := 589) (by decide +kernel)))
theorem cw_X0_106 (hts : ∀ w ∈ wsL_law, w.before args s = true) (hR : rm_X5_textAt.frames + 1 ≤ R.frames ∧ 8 + (5 + 11) + rm_X5_textAt.locals ≤ R.locals) : CallW R s args RX0 RX5 106 yX5_textAt cX5_textAt 5 (some .int) (.code yX5_textAt cX5_textAt 5 (some .int) :: wsL_law) rm_X5_textAt 0 0 2 := cwV 2 hts gw_X0_106 rfl rfl rfl (by decide +kernel) hR
theorem gw_X0_109 : GoodIn wsL_law (wsV RX0 109 RX5 yX5_textsOf (.code yX5_textsOf cX5_textsOf 4 (some .int) :: wsL_law)) := goodIn_app (goodIn_r _ [682, 524, 525, 30] (by decide +kernel) (by decide +kernel)) (good_code (List.mem_of_getElem? (i := 526) (by decide +kernel)))
theorem cw_X0_109 (hts : ∀ w ∈ wsL_law, w.before args s = true) (hR : rm_X5_textsOf.frames + 1 ≤ R.frames ∧ 8 + (4 + 11) + rm_X5_textsOf.locals ≤ R.locals) : CallW R s args RX0 RX5 109 yX5_textsOf cX5_textsOf 4 (some .int) (.code yX5_textsOf cX5_textsOf 4 (some .int) :: wsL_law) rm_X5_textsOf 0 0 1 := cwV 1 hts gw_X0_109 rfl rfl rfl (by decide +kernel) hR
theorem gw_X0_112 : GoodIn wsL_law (wsV RX0 112 RX0 yX0_isRing (.code yX0_isRing cX0_isRing 2 (some .boolean) :: wsL_law)) := goodIn_app (goodIn_r _ [710, 653, 654, 34] (by decide +kernel) (by decide +kernel)) (good_code (List.mem_of_getElem? (i := 655) (by decide +kernel)))
theorem cw_X0_112 (hts : ∀ w ∈ wsL_law, w.before args s = true) (hR : rm_X0_isRing.frames + 1 ≤ R.frames ∧ 8 + (2 + 11) + rm_X0_isRing.locals ≤ R.locals) : CallW R s args RX0 RX0 112 yX0_isRing cX0_isRing 2 (some .boolean) (.code yX0_isRing cX0_isRing 2 (some .boolean) :: wsL_law) rm_X0_isRing 0 0 1 := cwV 1 hts gw_X0_112 rfl rfl rfl (by decide +kernel) hR
theorem gw_X0_116 : GoodIn wsL_law (wsV RX0 116 RX0 yX0_isBroken (.code yX0_isBroken cX0_isBroken 2 (some .boolean) :: wsL_law)) := goodIn_app (goodIn_r _ [715, 541, 542, 34] (by decide +kernel) (by decide +kernel)) (good_code (List.mem_of_getElem? (i := 543) (by decide +kernel)))
theorem cw_X0_116 (hts : ∀ w ∈ wsL_law, w.before args s = true) (hR : rm_X0_isBroken.frames + 1 ≤ R.frames ∧ 8 + (2 + 11) + rm_X0_isBroken.locals ≤ R.locals) : CallW R s args RX0 RX0 116 yX0_isBroken cX0_isBroken 2 (some .boolean) (.code yX0_isBroken cX0_isBroken 2 (some .boolean) :: wsL_law) rm_X0_isBroken 0 0 1 := cwV 1 hts gw_X0_116 rfl rfl rfl (by decide +kernel) hR
theorem gw_X1_37 : GoodIn wsL_law (wsV RX1 37 RX1 yX1_firstIn (.code yX1_firstIn cX1_firstIn 9 (some .int) :: wsL_law)) := goodIn_app (goodIn_r _ [143, 144, 145, 14] (by decide +kernel) (by decide +kernel)) (good_code (List.mem_of_getElem? (i := 146) (by decide +kernel)))
theorem cw_X1_37 (hts : ∀ w ∈ wsL_law, w.before args s = true) (hR : rm_X1_firstIn.frames + 1 ≤ R.frames ∧ 8 + (9 + 11) + rm_X1_firstIn.locals ≤ R.locals) : CallW R s args RX1 RX1 37 yX1_firstIn cX1_firstIn 9 (some .int) (.code yX1_firstIn cX1_firstIn 9 (some .int) :: wsL_law) rm_X1_firstIn 0 0 5 := cwV 5 hts gw_X1_37 rfl rfl rfl (by decide +kernel) hR
theorem gw_X3_18 : GoodIn wsL_law (wsV RX3 18 RX3 yX3_pageOf (.code yX3_pageOf cX3_pageOf 3 (some .int) :: wsL_law)) := goodIn_app (goodIn_r _ [430, 431, 432, 18] (by decide +kernel) (by decide +kernel)) (good_code (List.mem_of_getElem? (i := 433) (by decide +kernel)))
theorem cw_X3_18 (hts : ∀ w ∈ wsL_law, w.before args s = true) (hR : rm_X3_pageOf.frames + 1 ≤ R.frames ∧ 8 + (3 + 11) + rm_X3_pageOf.locals ≤ R.locals) : CallW R s args RX3 RX3 18 yX3_pageOf cX3_pageOf 3 (some .int) (.code yX3_pageOf cX3_pageOf 3 (some .int) :: wsL_law) rm_X3_pageOf 0 0 2 := cwV 2 hts gw_X3_18 rfl rfl rfl (by decide +kernel) hR
theorem gw_X3_22 : GoodIn wsL_law (wsV RX3 22 RX3 yX3_put (.code yX3_put cX3_put 5 none :: wsL_law)) := goodIn_app (goodIn_r _ [156, 157, 158, 18] (by decide +kernel) (by decide +kernel)) (good_code (List.mem_of_getElem? (i := 159) (by decide +kernel)))
theorem cw_X3_22 (hts : ∀ w ∈ wsL_law, w.before args s = true) (hR : rm_X3_put.frames + 1 ≤ R.frames ∧ 8 + (5 + 11) + rm_X3_put.locals ≤ R.locals) : CallW R s args RX3 RX3 22 yX3_put cX3_put 5 none (.code yX3_put cX3_put 5 none :: wsL_law) rm_X3_put 0 0 4 := cwV 4 hts gw_X3_22 rfl rfl rfl (by decide +kernel) hR
theorem gw_X3_26 : GoodIn wsL_law (wsV RX3 26 RX3 yX3_forget (.code yX3_forget cX3_forget 3 none :: wsL_law)) := goodIn_app (goodIn_r _ [152, 153, 154, 18] (by decide +kernel) (by decide +kernel)) (good_code (List.mem_of_getElem? (i := 155) (by decide +kernel)))
theorem cw_X3_26 (hts : ∀ w ∈ wsL_law, w.before args s = true) (hR : rm_X3_forget.frames + 1 ≤ R.frames ∧ 8 + (3 + 11) + rm_X3_forget.locals ≤ R.locals) : CallW R s args RX3 RX3 26 yX3_forget cX3_forget 3 none (.code yX3_forget cX3_forget 3 none :: wsL_law) rm_X3_forget 0 0 2 := cwV 2 hts gw_X3_26 rfl rfl rfl (by decide +kernel) hR
theorem gw_X4_34 : GoodIn wsL_law (wsV RX4 34 RX2 yX2_hasUpright (.code yX2_hasUpright cX2_hasUpright 7 (some .boolean) :: wsL_law)) := goodIn_app (goodIn_r _ [308, 309, 310, 22] (by decide +kernel) (by decide +kernel)) (good_code (List.mem_of_getElem? (i := 311) (by decide +kernel)))
theorem cw_X4_34 (hts : ∀ w ∈ wsL_law, w.before args s = true) (hR : rm_X2_hasUpright.frames + 1 ≤ R.frames ∧ 8 + (7 + 11) + rm_X2_hasUpright.locals ≤ R.locals) : CallW R s args RX4 RX2 34 yX2_hasUpright cX2_hasUpright 7 (some .boolean) (.code yX2_hasUpright cX2_hasUpright 7 (some .boolean) :: wsL_law) rm_X2_hasUpright 0 0 4 := cwV 4 hts gw_X4_34 rfl rfl rfl (by decide +kernel) hR
theorem gw_X4_40 : GoodIn wsL_law (wsV RX4 40 RX4 yX4_lastColumn (.code yX4_lastColumn cX4_lastColumn 4 (some .int) :: wsL_law)) := goodIn_app (goodIn_r _ [303, 304, 305, 26] (by decide +kernel) (by decide +kernel)) (good_code (List.mem_of_getElem? (i := 306) (by decide +kernel)))
theorem cw_X4_40 (hts : ∀ w ∈ wsL_law, w.before args s = true) (hR : rm_X4_lastColumn.frames + 1 ≤ R.frames ∧ 8 + (4 + 11) + rm_X4_lastColumn.locals ≤ R.locals) : CallW R s args RX4 RX4 40 yX4_lastColumn cX4_lastColumn 4 (some .int) (.code yX4_lastColumn cX4_lastColumn 4 (some .int) :: wsL_law) rm_X4_lastColumn 0 0 1 := cwV 1 hts gw_X4_40 rfl rfl rfl (by decide +kernel) hR
theorem gw_X4_44 : GoodIn wsL_law (wsV RX4 44 RX1 yX1_headBelow (.code yX1_headBelow cX1_headBelow 7 (some .int) :: wsL_law)) := goodIn_app (goodIn_r _ [312, 313, 314, 14] (by decide +kernel) (by decide +kernel)) (good_code (List.mem_of_getElem? (i := 315) (by decide +kernel)))
theorem cw_X4_44 (hts : ∀ w ∈ wsL_law, w.before args s = true) (hR : rm_X1_headBelow.frames + 1 ≤ R.frames ∧ 8 + (7 + 11) + rm_X1_headBelow.locals ≤ R.locals) : CallW R s args RX4 RX1 44 yX1_headBelow cX1_headBelow 7 (some .int) (.code yX1_headBelow cX1_headBelow 7 (some .int) :: wsL_law) rm_X1_headBelow 0 0 3 := cwV 3 hts gw_X4_44 rfl rfl rfl (by decide +kernel) hR
theorem gw_X4_48 : GoodIn wsL_law (wsV RX4 48 RX2 yX2_flatBelow (.code yX2_flatBelow cX2_flatBelow 7 (some .int) :: wsL_law)) := goodIn_app (goodIn_r _ [317, 318, 319, 22] (by decide +kernel) (by decide +kernel)) (good_code (List.mem_of_getElem? (i := 320) (by decide +kernel)))
theorem cw_X4_48 (hts : ∀ w ∈ wsL_law, w.before args s = true) (hR : rm_X2_flatBelow.frames + 1 ≤ R.frames ∧ 8 + (7 + 11) + rm_X2_flatBelow.locals ≤ R.locals) : CallW R s args RX4 RX2 48 yX2_flatBelow cX2_flatBelow 7 (some .int) (.code yX2_flatBelow cX2_flatBelow 7 (some .int) :: wsL_law) rm_X2_flatBelow 0 0 3 := cwV 3 hts gw_X4_48 rfl rfl rfl (by decide +kernel) hR
theorem gw_X4_67 : GoodIn wsL_law (wsV RX4 67 RX4 yX4_lastRow (.code yX4_lastRow cX4_lastRow 6 (some .int) :: wsL_law)) := goodIn_app (goodIn_r _ [365, 293, 294, 26] (by decide +kernel) (by decide +kernel)) (good_code (List.mem_of_getElem? (i := 295) (by decide +kernel)))
theorem cw_X4_67 (hts : ∀ w ∈ wsL_law, w.before args s = true) (hR : rm_X4_lastRow.frames + 1 ≤ R.frames ∧ 8 + (6 + 11) + rm_X4_lastRow.locals ≤ R.locals) : CallW R s args RX4 RX4 67 yX4_lastRow cX4_lastRow 6 (some .int) (.code yX4_lastRow cX4_lastRow 6 (some .int) :: wsL_law) rm_X4_lastRow 0 0 2 := cwV 2 hts gw_X4_67 rfl rfl rfl (by decide +kernel) hR
theorem gw_X5_54 : GoodIn wsL_law (wsV RX5 54 RX4 yX4_headOver (.code yX4_headOver cX4_headOver 4 (some .int) :: wsL_law)) := goodIn_app (goodIn_r _ [358, 359, 360, 26] (by decide +kernel) (by decide +kernel)) (good_code (List.mem_of_getElem? (i := 361) (by decide +kernel)))
theorem cw_X5_54 (hts : ∀ w ∈ wsL_law, w.before args s = true) (hR : rm_X4_headOver.frames + 1 ≤ R.frames ∧ 8 + (4 + 11) + rm_X4_headOver.locals ≤ R.locals) : CallW R s args RX5 RX4 54 yX4_headOver cX4_headOver 4 (some .int) (.code yX4_headOver cX4_headOver 4 (some .int) :: wsL_law) rm_X4_headOver 0 0 1 := cwV 1 hts gw_X5_54 rfl rfl rfl (by decide +kernel) hR
theorem gw_X5_60 : GoodIn wsL_law (wsV RX5 60 RX5 yX5_putUnderHead (.code yX5_putUnderHead cX5_putUnderHead 2 none :: wsL_law)) := goodIn_app (goodIn_r _ [366, 367, 368, 30] (by decide +kernel) (by decide +kernel)) (good_code (List.mem_of_getElem? (i := 369) (by decide +kernel)))
theorem cw_X5_60 (hts : ∀ w ∈ wsL_law, w.before args s = true) (hR : rm_X5_putUnderHead.frames + 1 ≤ R.frames ∧ 8 + (2 + 11) + rm_X5_putUnderHead.locals ≤ R.locals) : CallW R s args RX5 RX5 60 yX5_putUnderHead cX5_putUnderHead 2 none (.code yX5_putUnderHead cX5_putUnderHead 2 none :: wsL_law) rm_X5_putUnderHead 0 0 1 := cwV 1 hts gw_X5_60 rfl rfl rfl (by decide +kernel) hR
theorem gw_X5_64 : GoodIn wsL_law (wsV RX5 64 RX5 yX5_joinNext (.code yX5_joinNext cX5_joinNext 3 (some .boolean) :: wsL_law)) := goodIn_app (goodIn_r _ [378, 379, 380, 30] (by decide +kernel) (by decide +kernel)) (good_code (List.mem_of_getElem? (i := 381) (by decide +kernel)))
theorem cw_X5_64 (hts : ∀ w ∈ wsL_law, w.before args s = true) (hR : rm_X5_joinNext.frames + 1 ≤ R.frames ∧ 8 + (3 + 11) + rm_X5_joinNext.locals ≤ R.locals) : CallW R s args RX5 RX5 64 yX5_joinNext cX5_joinNext 3 (some .boolean) (.code yX5_joinNext cX5_joinNext 3 (some .boolean) :: wsL_law) rm_X5_joinNext 0 0 0 := cwV 0 hts gw_X5_64 rfl rfl rfl (by decide +kernel) hR
theorem gw_X5_68 : GoodIn wsL_law (wsV RX5 68 RX5 yX5_isWithoutStory (.code yX5_isWithoutStory cX5_isWithoutStory 2 (some .boolean) :: wsL_law)) := goodIn_app (goodIn_r _ [382, 383, 384, 30] (by decide +kernel) (by decide +kernel)) (good_code (List.mem_of_getElem? (i := 385) (by decide +kernel)))
theorem cw_X5_68 (hts : ∀ w ∈ wsL_law, w.before args s = true) (hR : rm_X5_isWithoutStory.frames + 1 ≤ R.frames ∧ 8 + (2 + 11) + rm_X5_isWithoutStory.locals ≤ R.locals) : CallW R s args RX5 RX5 68 yX5_isWithoutStory cX5_isWithoutStory 2 (some .boolean) (.code yX5_isWithoutStory cX5_isWithoutStory 2 (some .boolean) :: wsL_law) rm_X5_isWithoutStory 0 0 1 := cwV 1 hts gw_X5_68 rfl rfl rfl (by decide +kernel) hR
theorem gw_X5_72 : GoodIn wsL_law (wsV RX5 72 RX5 yX5_append (.code yX5_append cX5_append 2 none :: wsL_law)) := goodIn_app (goodIn_r _ [404, 405, 406, 30] (by decide +kernel) (by decide +kernel)) (good_code (List.mem_of_getElem? (i := 407) (by decide +kernel)))
theorem cw_X5_72 (hts : ∀ w ∈ wsL_law, w.before args s = true) (hR : rm_X5_append.frames + 1 ≤ R.frames ∧ 8 + (2 + 11) + rm_X5_append.locals ≤ R.locals) : CallW R s args RX5 RX5 72 yX5_append cX5_append 2 none (.code yX5_append cX5_append 2 none :: wsL_law) rm_X5_append 0 0 1 := cwV 1 hts gw_X5_72 rfl rfl rfl (by decide +kernel) hR
theorem gw_X5_75 : GoodIn wsL_law (wsV RX5 75 RX5 yX5_giveNumbers (.code yX5_giveNumbers cX5_giveNumbers 2 none :: wsL_law)) := goodIn_app (goodIn_r _ [408, 409, 410, 30] (by decide +kernel) (by decide +kernel)) (good_code (List.mem_of_getElem? (i := 411) (by decide +kernel)))
theorem cw_X5_75 (hts : ∀ w ∈ wsL_law, w.before args s = true) (hR : rm_X5_giveNumbers.frames + 1 ≤ R.frames ∧ 8 + (2 + 11) + rm_X5_giveNumbers.locals ≤ R.locals) : CallW R s args RX5 RX5 75 yX5_giveNumbers cX5_giveNumbers 2 none (.code yX5_giveNumbers cX5_giveNumbers 2 none :: wsL_law) rm_X5_giveNumbers 0 0 0 := cwV 0 hts gw_X5_75 rfl rfl rfl (by decide +kernel) hR
theorem gw_X5_78 : GoodIn wsL_law (wsV RX5 78 RX5 yX5_insert (.code yX5_insert cX5_insert 3 none :: wsL_law)) := goodIn_app (goodIn_r _ [370, 371, 372, 30] (by decide +kernel) (by decide +kernel)) (good_code (List.mem_of_getElem? (i := 373) (by decide +kernel)))
theorem cw_X5_78 (hts : ∀ w ∈ wsL_law, w.before args s = true) (hR : rm_X5_insert.frames + 1 ≤ R.frames ∧ 8 + (3 + 11) + rm_X5_insert.locals ≤ R.locals) : CallW R s args RX5 RX5 78 yX5_insert cX5_insert 3 none (.code yX5_insert cX5_insert 3 none :: wsL_law) rm_X5_insert 0 0 1 := cwV 1 hts gw_X5_78 rfl rfl rfl (by decide +kernel) hR
theorem gw_X5_81 : GoodIn wsL_law (wsV RX5 81 RX1 yX1_isAhead (.code yX1_isAhead cX1_isAhead 3 (some .boolean) :: wsL_law)) := goodIn_app (goodIn_r _ [374, 375, 376, 14] (by decide +kernel) (by decide +kernel)) (good_code (List.mem_of_getElem? (i := 377) (by decide +kernel)))
theorem cw_X5_81 (hts : ∀ w ∈ wsL_law, w.before args s = true) (hR : rm_X1_isAhead.frames + 1 ≤ R.frames ∧ 8 + (3 + 11) + rm_X1_isAhead.locals ≤ R.locals) : CallW R s args RX5 RX1 81 yX1_isAhead cX1_isAhead 3 (some .boolean) (.code yX1_isAhead cX1_isAhead 3 (some .boolean) :: wsL_law) rm_X1_isAhead 0 0 2 := cwV 2 hts gw_X5_81 rfl rfl rfl (by decide +kernel) hR
theorem gw_X5_85 : GoodIn wsL_law (wsV RX5 85 RX5 yX5_takerFor (.code yX5_takerFor cX5_takerFor 4 (some .int) :: wsL_law)) := goodIn_app (goodIn_r _ [386, 387, 388, 30] (by decide +kernel) (by decide +kernel)) (good_code (List.mem_of_getElem? (i := 389) (by decide +kernel)))
theorem cw_X5_85 (hts : ∀ w ∈ wsL_law, w.before args s = true) (hR : rm_X5_takerFor.frames + 1 ≤ R.frames ∧ 8 + (4 + 11) + rm_X5_takerFor.locals ≤ R.locals) : CallW R s args RX5 RX5 85 yX5_takerFor cX5_takerFor 4 (some .int) (.code yX5_takerFor cX5_takerFor 4 (some .int) :: wsL_law) rm_X5_takerFor 0 0 1 := cwV 1 hts gw_X5_85 rfl rfl rfl (by decide +kernel) hR
theorem gw_X5_88 : GoodIn wsL_law (wsV RX5 88 RX5 yX5_takes (.code yX5_takes cX5_takes 7 (some .boolean) :: wsL_law)) := goodIn_app (goodIn_r _ [391, 392, 393, 30] (by decide +kernel) (by decide +kernel)) (good_code (List.mem_of_getElem? (i := 394) (by decide +kernel)))
theorem cw_X5_88 (hts : ∀ w ∈ wsL_law, w.before args s = true) (hR : rm_X5_takes.frames + 1 ≤ R.frames ∧ 8 + (7 + 11) + rm_X5_takes.locals ≤ R.locals) : CallW R s args RX5 RX5 88 yX5_takes cX5_takes 7 (some .boolean) (.code yX5_takes cX5_takes 7 (some .boolean) :: wsL_law) rm_X5_takes 0 0 2 := cwV 2 hts gw_X5_88 rfl rfl rfl (by decide +kernel) hR
theorem gw_X5_115 : GoodIn wsL_law (wsV RX5 115 RX2 yX2_hasUpright (.code yX2_hasUpright cX2_hasUpright 7 (some .boolean) :: wsL_law)) := goodIn_app (goodIn_r _ [403, 309, 310, 22] (by decide +kernel) (by decide +kernel)) (good_code (List.mem_of_getElem? (i := 311) (by decide +kernel)))
theorem cw_X5_115 (hts : ∀ w ∈ wsL_law, w.before args s = true) (hR : rm_X2_hasUpright.frames + 1 ≤ R.frames ∧ 8 + (7 + 11) + rm_X2_hasUpright.locals ≤ R.locals) : CallW R s args RX5 RX2 115 yX2_hasUpright cX2_hasUpright 7 (some .boolean) (.code yX2_hasUpright cX2_hasUpright 7 (some .boolean) :: wsL_law) rm_X2_hasUpright 0 0 4 := cwV 4 hts gw_X5_115 rfl rfl rfl (by decide +kernel) hR
theorem gw_X5_125 : GoodIn wsL_law (wsV RX5 125 RX1 yX1_manyOf (.code yX1_manyOf cX1_manyOf 4 (some .int) :: wsL_law)) := goodIn_app (goodIn_r _ [705, 694, 695, 14] (by decide +kernel) (by decide +kernel)) (good_code (List.mem_of_getElem? (i := 696) (by decide +kernel)))
theorem cw_X5_125 (hts : ∀ w ∈ wsL_law, w.before args s = true) (hR : rm_X1_manyOf.frames + 1 ≤ R.frames ∧ 8 + (4 + 11) + rm_X1_manyOf.locals ≤ R.locals) : CallW R s args RX5 RX1 125 yX1_manyOf cX1_manyOf 4 (some .int) (.code yX1_manyOf cX1_manyOf 4 (some .int) :: wsL_law) rm_X1_manyOf 0 0 1 := cwV 1 hts gw_X5_125 rfl rfl rfl (by decide +kernel) hR
theorem gw_X6_61 : GoodIn wsL_law (wsS RX6 61 yX6_isBelow (.code yX6_isBelow cX6_isBelow 2 (some .boolean) :: wsL_law)) := goodIn_app (goodIn_r _ [133, 134, 2] (by decide +kernel) (by decide +kernel)) (good_code (List.mem_of_getElem? (i := 135) (by decide +kernel)))
theorem cw_X6_61 (hts : ∀ w ∈ wsL_law, w.before args s = true) (hR : rm_X6_isBelow.frames + 1 ≤ R.frames ∧ 8 + (2 + 11) + rm_X6_isBelow.locals ≤ R.locals) : CallB R s args RX6 61 yX6_isBelow cX6_isBelow 2 (some .boolean) (.code yX6_isBelow cX6_isBelow 2 (some .boolean) :: wsL_law) rm_X6_isBelow 0 0 2 ∧ (Cond.static yX6_isBelow).before args s = true := cwS 2 hts gw_X6_61 rfl rfl rfl (by decide +kernel) hR
theorem gw_X6_65 : GoodIn wsL_law (wsS RX6 65 yX6_isSpan (.code yX6_isSpan cX6_isSpan 3 (some .boolean) :: wsL_law)) := goodIn_app (goodIn_r _ [136, 137, 2] (by decide +kernel) (by decide +kernel)) (good_code (List.mem_of_getElem? (i := 138) (by decide +kernel)))
theorem cw_X6_65 (hts : ∀ w ∈ wsL_law, w.before args s = true) (hR : rm_X6_isSpan.frames + 1 ≤ R.frames ∧ 8 + (3 + 11) + rm_X6_isSpan.locals ≤ R.locals) : CallB R s args RX6 65 yX6_isSpan cX6_isSpan 3 (some .boolean) (.code yX6_isSpan cX6_isSpan 3 (some .boolean) :: wsL_law) rm_X6_isSpan 0 0 3 ∧ (Cond.static yX6_isSpan).before args s = true := cwS 3 hts gw_X6_65 rfl rfl rfl (by decide +kernel) hR
theorem gw_X6_69 : GoodIn wsL_law (wsV RX6 69 RX1 yX1_meets (.code yX1_meets cX1_meets 6 (some .boolean) :: wsL_law)) := goodIn_app (goodIn_r _ [139, 140, 141, 14] (by decide +kernel) (by decide +kernel)) (good_code (List.mem_of_getElem? (i := 142) (by decide +kernel)))
theorem cw_X6_69 (hts : ∀ w ∈ wsL_law, w.before args s = true) (hR : rm_X1_meets.frames + 1 ≤ R.frames ∧ 8 + (6 + 11) + rm_X1_meets.locals ≤ R.locals) : CallW R s args RX6 RX1 69 yX1_meets cX1_meets 6 (some .boolean) (.code yX1_meets cX1_meets 6 (some .boolean) :: wsL_law) rm_X1_meets 0 0 5 := cwV 5 hts gw_X6_69 rfl rfl rfl (by decide +kernel) hR
theorem gw_X6_77 : GoodIn wsL_law (wsV RX6 77 RX3 yX3_forgetAllOf (.code yX3_forgetAllOf cX3_forgetAllOf 2 none :: wsL_law)) := goodIn_app (goodIn_r _ [148, 149, 150, 18] (by decide +kernel) (by decide +kernel)) (good_code (List.mem_of_getElem? (i := 151) (by decide +kernel)))
theorem cw_X6_77 (hts : ∀ w ∈ wsL_law, w.before args s = true) (hR : rm_X3_forgetAllOf.frames + 1 ≤ R.frames ∧ 8 + (2 + 11) + rm_X3_forgetAllOf.locals ≤ R.locals) : CallW R s args RX6 RX3 77 yX3_forgetAllOf cX3_forgetAllOf 2 none (.code yX3_forgetAllOf cX3_forgetAllOf 2 none :: wsL_law) rm_X3_forgetAllOf 0 0 1 := cwV 1 hts gw_X6_77 rfl rfl rfl (by decide +kernel) hR
theorem gw_X6_81 : GoodIn wsL_law (wsV RX6 81 RX1 yX1_add (.code yX1_add cX1_add 8 (some .int) :: wsL_law)) := goodIn_app (goodIn_r _ [160, 161, 162, 14] (by decide +kernel) (by decide +kernel)) (good_code (List.mem_of_getElem? (i := 163) (by decide +kernel)))
theorem cw_X6_81 (hts : ∀ w ∈ wsL_law, w.before args s = true) (hR : rm_X1_add.frames + 1 ≤ R.frames ∧ 8 + (8 + 11) + rm_X1_add.locals ≤ R.locals) : CallW R s args RX6 RX1 81 yX1_add cX1_add 8 (some .int) (.code yX1_add cX1_add 8 (some .int) :: wsL_law) rm_X1_add 0 0 6 := cwV 6 hts gw_X6_81 rfl rfl rfl (by decide +kernel) hR
theorem gw_X6_85 : GoodIn wsL_law (wsV RX6 85 RX1 yX1_has (.code yX1_has cX1_has 2 (some .boolean) :: wsL_law)) := goodIn_app (goodIn_r _ [182, 183, 184, 14] (by decide +kernel) (by decide +kernel)) (good_code (List.mem_of_getElem? (i := 185) (by decide +kernel)))
theorem cw_X6_85 (hts : ∀ w ∈ wsL_law, w.before args s = true) (hR : rm_X1_has.frames + 1 ≤ R.frames ∧ 8 + (2 + 11) + rm_X1_has.locals ≤ R.locals) : CallW R s args RX6 RX1 85 yX1_has cX1_has 2 (some .boolean) (.code yX1_has cX1_has 2 (some .boolean) :: wsL_law) rm_X1_has 0 0 1 := cwV 1 hts gw_X6_85 rfl rfl rfl (by decide +kernel) hR
theorem gw_X6_97 : GoodIn wsL_law (wsV RX6 97 RX2 yX2_add (.code yX2_add cX2_add 7 (some .int) :: wsL_law)) := goodIn_app (goodIn_r _ [199, 200, 201, 22] (by decide +kernel) (by decide +kernel)) (good_code (List.mem_of_getElem? (i := 202) (by decide +kernel)))
theorem cw_X6_97 (hts : ∀ w ∈ wsL_law, w.before args s = true) (hR : rm_X2_add.frames + 1 ≤ R.frames ∧ 8 + (7 + 11) + rm_X2_add.locals ≤ R.locals) : CallW R s args RX6 RX2 97 yX2_add cX2_add 7 (some .int) (.code yX2_add cX2_add 7 (some .int) :: wsL_law) rm_X2_add 0 0 5 := cwV 5 hts gw_X6_97 rfl rfl rfl (by decide +kernel) hR
theorem gw_X6_100 : GoodIn wsL_law (wsV RX6 100 RX2 yX2_turnAbout (.code yX2_turnAbout cX2_turnAbout 3 none :: wsL_law)) := goodIn_app (goodIn_r _ [237, 238, 239, 22] (by decide +kernel) (by decide +kernel)) (good_code (List.mem_of_getElem? (i := 240) (by decide +kernel)))
theorem cw_X6_100 (hts : ∀ w ∈ wsL_law, w.before args s = true) (hR : rm_X2_turnAbout.frames + 1 ≤ R.frames ∧ 8 + (3 + 11) + rm_X2_turnAbout.locals ≤ R.locals) : CallW R s args RX6 RX2 100 yX2_turnAbout cX2_turnAbout 3 none (.code yX2_turnAbout cX2_turnAbout 3 none :: wsL_law) rm_X2_turnAbout 0 0 0 := cwV 0 hts gw_X6_100 rfl rfl rfl (by decide +kernel) hR
theorem gw_X6_103 : GoodIn wsL_law (wsV RX6 103 RX1 yX1_turnAbout (.code yX1_turnAbout cX1_turnAbout 5 (some .int) :: wsL_law)) := goodIn_app (goodIn_r _ [241, 242, 243, 14] (by decide +kernel) (by decide +kernel)) (good_code (List.mem_of_getElem? (i := 244) (by decide +kernel)))
theorem cw_X6_103 (hts : ∀ w ∈ wsL_law, w.before args s = true) (hR : rm_X1_turnAbout.frames + 1 ≤ R.frames ∧ 8 + (5 + 11) + rm_X1_turnAbout.locals ≤ R.locals) : CallW R s args RX6 RX1 103 yX1_turnAbout cX1_turnAbout 5 (some .int) (.code yX1_turnAbout cX1_turnAbout 5 (some .int) :: wsL_law) rm_X1_turnAbout 0 0 0 := cwV 0 hts gw_X6_103 rfl rfl rfl (by decide +kernel) hR
theorem gw_X6_121 : GoodIn wsL_law (wsV RX6 121 RX2 yX2_has (.code yX2_has cX2_has 2 (some .boolean) :: wsL_law)) := goodIn_app (goodIn_r _ [271, 272, 273, 22] (by decide +kernel) (by decide +kernel)) (good_code (List.mem_of_getElem? (i := 274) (by decide +kernel)))
theorem cw_X6_121 (hts : ∀ w ∈ wsL_law, w.before args s = true) (hR : rm_X2_has.frames + 1 ≤ R.frames ∧ 8 + (2 + 11) + rm_X2_has.locals ≤ R.locals) : CallW R s args RX6 RX2 121 yX2_has cX2_has 2 (some .boolean) (.code yX2_has cX2_has 2 (some .boolean) :: wsL_law) rm_X2_has 0 0 1 := cwV 1 hts gw_X6_121 rfl rfl rfl (by decide +kernel) hR
theorem gw_X6_135 : GoodIn wsL_law (wsV RX6 135 RX1 yX1_firstIn (.code yX1_firstIn cX1_firstIn 9 (some .int) :: wsL_law)) := goodIn_app (goodIn_r _ [283, 144, 145, 14] (by decide +kernel) (by decide +kernel)) (good_code (List.mem_of_getElem? (i := 146) (by decide +kernel)))
theorem cw_X6_135 (hts : ∀ w ∈ wsL_law, w.before args s = true) (hR : rm_X1_firstIn.frames + 1 ≤ R.frames ∧ 8 + (9 + 11) + rm_X1_firstIn.locals ≤ R.locals) : CallW R s args RX6 RX1 135 yX1_firstIn cX1_firstIn 9 (some .int) (.code yX1_firstIn cX1_firstIn 9 (some .int) :: wsL_law) rm_X1_firstIn 0 0 5 := cwV 5 hts gw_X6_135 rfl rfl rfl (by decide +kernel) hR
theorem gw_X6_138 : GoodIn wsL_law (wsV RX6 138 RX4 yX4_lastRow (.code yX4_lastRow cX4_lastRow 6 (some .int) :: wsL_law)) := goodIn_app (goodIn_r _ [292, 293, 294, 26] (by decide +kernel) (by decide +kernel)) (good_code (List.mem_of_getElem? (i := 295) (by decide +kernel)))
theorem cw_X6_138 (hts : ∀ w ∈ wsL_law, w.before args s = true) (hR : rm_X4_lastRow.frames + 1 ≤ R.frames ∧ 8 + (6 + 11) + rm_X4_lastRow.locals ≤ R.locals) : CallW R s args RX6 RX4 138 yX4_lastRow cX4_lastRow 6 (some .int) (.code yX4_lastRow cX4_lastRow 6 (some .int) :: wsL_law) rm_X4_lastRow 0 0 2 := cwV 2 hts gw_X6_138 rfl rfl rfl (by decide +kernel) hR
theorem gw_X6_142 : GoodIn wsL_law (wsV RX6 142 RX6 yX6_refresh (.code yX6_refresh cX6_refresh 1 none :: wsL_law)) := goodIn_app (goodIn_r _ [347, 348, 349, 2] (by decide +kernel) (by decide +kernel)) (good_code (List.mem_of_getElem? (i := 350) (by decide +kernel)))
theorem cw_X6_142 (hts : ∀ w ∈ wsL_law, w.before args s = true) (hR : rm_X6_refresh.frames + 1 ≤ R.frames ∧ 8 + (1 + 11) + rm_X6_refresh.locals ≤ R.locals) : CallW R s args RX6 RX6 142 yX6_refresh cX6_refresh 1 none (.code yX6_refresh cX6_refresh 1 none :: wsL_law) rm_X6_refresh 0 0 0 := cwV 0 hts gw_X6_142 rfl rfl rfl (by decide +kernel) hR
theorem gw_X6_154 : GoodIn wsL_law (wsV RX6 154 RX5 yX5_has (.code yX5_has cX5_has 2 (some .boolean) :: wsL_law)) := goodIn_app (goodIn_r _ [515, 516, 517, 30] (by decide +kernel) (by decide +kernel)) (good_code (List.mem_of_getElem? (i := 518) (by decide +kernel)))
theorem cw_X6_154 (hts : ∀ w ∈ wsL_law, w.before args s = true) (hR : rm_X5_has.frames + 1 ≤ R.frames ∧ 8 + (2 + 11) + rm_X5_has.locals ≤ R.locals) : CallW R s args RX6 RX5 154 yX5_has cX5_has 2 (some .boolean) (.code yX5_has cX5_has 2 (some .boolean) :: wsL_law) rm_X5_has 0 0 1 := cwV 1 hts gw_X6_154 rfl rfl rfl (by decide +kernel) hR
theorem gw_X6_155 : GoodIn wsL_law (wsV RX6 155 RX5 yX5_headOf (.code yX5_headOf cX5_headOf 2 (some .int) :: wsL_law)) := goodIn_app (goodIn_r _ [519, 520, 521, 30] (by decide +kernel) (by decide +kernel)) (good_code (List.mem_of_getElem? (i := 522) (by decide +kernel)))
theorem cw_X6_155 (hts : ∀ w ∈ wsL_law, w.before args s = true) (hR : rm_X5_headOf.frames + 1 ≤ R.frames ∧ 8 + (2 + 11) + rm_X5_headOf.locals ≤ R.locals) : CallW R s args RX6 RX5 155 yX5_headOf cX5_headOf 2 (some .int) (.code yX5_headOf cX5_headOf 2 (some .int) :: wsL_law) rm_X5_headOf 0 0 1 := cwV 1 hts gw_X6_155 rfl rfl rfl (by decide +kernel) hR
theorem gw_X6_159 : GoodIn wsL_law (wsV RX6 159 RX5 yX5_textsOf (.code yX5_textsOf cX5_textsOf 4 (some .int) :: wsL_law)) := goodIn_app (goodIn_r _ [523, 524, 525, 30] (by decide +kernel) (by decide +kernel)) (good_code (List.mem_of_getElem? (i := 526) (by decide +kernel)))
theorem cw_X6_159 (hts : ∀ w ∈ wsL_law, w.before args s = true) (hR : rm_X5_textsOf.frames + 1 ≤ R.frames ∧ 8 + (4 + 11) + rm_X5_textsOf.locals ≤ R.locals) : CallW R s args RX6 RX5 159 yX5_textsOf cX5_textsOf 4 (some .int) (.code yX5_textsOf cX5_textsOf 4 (some .int) :: wsL_law) rm_X5_textsOf 0 0 1 := cwV 1 hts gw_X6_159 rfl rfl rfl (by decide +kernel) hR
theorem gw_X6_162 : GoodIn wsL_law (wsV RX6 162 RX5 yX5_wordsOf (.code yX5_wordsOf cX5_wordsOf 4 (some .int) :: wsL_law)) := goodIn_app (goodIn_r _ [527, 528, 529, 30] (by decide +kernel) (by decide +kernel)) (good_code (List.mem_of_getElem? (i := 530) (by decide +kernel)))
theorem cw_X6_162 (hts : ∀ w ∈ wsL_law, w.before args s = true) (hR : rm_X5_wordsOf.frames + 1 ≤ R.frames ∧ 8 + (4 + 11) + rm_X5_wordsOf.locals ≤ R.locals) : CallW R s args RX6 RX5 162 yX5_wordsOf cX5_wordsOf 4 (some .int) (.code yX5_wordsOf cX5_wordsOf 4 (some .int) :: wsL_law) rm_X5_wordsOf 0 0 1 := cwV 1 hts gw_X6_162 rfl rfl rfl (by decide +kernel) hR
theorem gw_X6_165 : GoodIn wsL_law (wsV RX6 165 RX5 yX5_picturesOf (.code yX5_picturesOf cX5_picturesOf 4 (some .int) :: wsL_law)) := goodIn_app (goodIn_r _ [532, 533, 534, 30] (by decide +kernel) (by decide +kernel)) (good_code (List.mem_of_getElem? (i := 535) (by decide +kernel)))
theorem cw_X6_165 (hts : ∀ w ∈ wsL_law, w.before args s = true) (hR : rm_X5_picturesOf.frames + 1 ≤ R.frames ∧ 8 + (4 + 11) + rm_X5_picturesOf.locals ≤ R.locals) : CallW R s args RX6 RX5 165 yX5_picturesOf cX5_picturesOf 4 (some .int) (.code yX5_picturesOf cX5_picturesOf 4 (some .int) :: wsL_law) rm_X5_picturesOf 0 0 1 := cwV 1 hts gw_X6_165 rfl rfl rfl (by decide +kernel) hR
theorem gw_X6_168 : GoodIn wsL_law (wsV RX6 168 RX5 yX5_joinedOf (.code yX5_joinedOf cX5_joinedOf 4 (some .int) :: wsL_law)) := goodIn_app (goodIn_r _ [536, 537, 538, 30] (by decide +kernel) (by decide +kernel)) (good_code (List.mem_of_getElem? (i := 539) (by decide +kernel)))
theorem cw_X6_168 (hts : ∀ w ∈ wsL_law, w.before args s = true) (hR : rm_X5_joinedOf.frames + 1 ≤ R.frames ∧ 8 + (4 + 11) + rm_X5_joinedOf.locals ≤ R.locals) : CallW R s args RX6 RX5 168 yX5_joinedOf cX5_joinedOf 4 (some .int) (.code yX5_joinedOf cX5_joinedOf 4 (some .int) :: wsL_law) rm_X5_joinedOf 0 0 1 := cwV 1 hts gw_X6_168 rfl rfl rfl (by decide +kernel) hR
theorem gw_X6_180 : GoodIn wsL_law (wsV RX6 180 RX0 yX0_isBroken (.code yX0_isBroken cX0_isBroken 2 (some .boolean) :: wsL_law)) := goodIn_app (goodIn_r _ [540, 541, 542, 34] (by decide +kernel) (by decide +kernel)) (good_code (List.mem_of_getElem? (i := 543) (by decide +kernel)))
theorem cw_X6_180 (hts : ∀ w ∈ wsL_law, w.before args s = true) (hR : rm_X0_isBroken.frames + 1 ≤ R.frames ∧ 8 + (2 + 11) + rm_X0_isBroken.locals ≤ R.locals) : CallW R s args RX6 RX0 180 yX0_isBroken cX0_isBroken 2 (some .boolean) (.code yX0_isBroken cX0_isBroken 2 (some .boolean) :: wsL_law) rm_X0_isBroken 0 0 1 := cwV 1 hts gw_X6_180 rfl rfl rfl (by decide +kernel) hR
theorem gw_X6_183 : GoodIn wsL_law (wsV RX6 183 RX5 yX5_textAt (.code yX5_textAt cX5_textAt 5 (some .int) :: wsL_law)) := goodIn_app (goodIn_r _ [586, 587, 588, 30] (by decide +kernel) (by decide +kernel)) (good_code (List.mem_of_getElem? (i := 589) (by decide +kernel)))
theorem cw_X6_183 (hts : ∀ w ∈ wsL_law, w.before args s = true) (hR : rm_X5_textAt.frames + 1 ≤ R.frames ∧ 8 + (5 + 11) + rm_X5_textAt.locals ≤ R.locals) : CallW R s args RX6 RX5 183 yX5_textAt cX5_textAt 5 (some .int) (.code yX5_textAt cX5_textAt 5 (some .int) :: wsL_law) rm_X5_textAt 0 0 2 := cwV 2 hts gw_X6_183 rfl rfl rfl (by decide +kernel) hR
theorem gw_X6_186 : GoodIn wsL_law (wsV RX6 186 RX3 yX3_has (.code yX3_has cX3_has 3 (some .boolean) :: wsL_law)) := goodIn_app (goodIn_r _ [598, 427, 428, 18] (by decide +kernel) (by decide +kernel)) (good_code (List.mem_of_getElem? (i := 429) (by decide +kernel)))
theorem cw_X6_186 (hts : ∀ w ∈ wsL_law, w.before args s = true) (hR : rm_X3_has.frames + 1 ≤ R.frames ∧ 8 + (3 + 11) + rm_X3_has.locals ≤ R.locals) : CallW R s args RX6 RX3 186 yX3_has cX3_has 3 (some .boolean) (.code yX3_has cX3_has 3 (some .boolean) :: wsL_law) rm_X3_has 0 0 2 := cwV 2 hts gw_X6_186 rfl rfl rfl (by decide +kernel) hR
theorem gw_X6_188 : GoodIn wsL_law (wsV RX6 188 RX3 yX3_put (.code yX3_put cX3_put 5 none :: wsL_law)) := goodIn_app (goodIn_r _ [599, 157, 158, 18] (by decide +kernel) (by decide +kernel)) (good_code (List.mem_of_getElem? (i := 159) (by decide +kernel)))
theorem cw_X6_188 (hts : ∀ w ∈ wsL_law, w.before args s = true) (hR : rm_X3_put.frames + 1 ≤ R.frames ∧ 8 + (5 + 11) + rm_X3_put.locals ≤ R.locals) : CallW R s args RX6 RX3 188 yX3_put cX3_put 5 none (.code yX3_put cX3_put 5 none :: wsL_law) rm_X3_put 0 0 4 := cwV 4 hts gw_X6_188 rfl rfl rfl (by decide +kernel) hR
theorem gw_X6_192 : GoodIn wsL_law (wsV RX6 192 RX3 yX3_forget (.code yX3_forget cX3_forget 3 none :: wsL_law)) := goodIn_app (goodIn_r _ [608, 153, 154, 18] (by decide +kernel) (by decide +kernel)) (good_code (List.mem_of_getElem? (i := 155) (by decide +kernel)))
theorem cw_X6_192 (hts : ∀ w ∈ wsL_law, w.before args s = true) (hR : rm_X3_forget.frames + 1 ≤ R.frames ∧ 8 + (3 + 11) + rm_X3_forget.locals ≤ R.locals) : CallW R s args RX6 RX3 192 yX3_forget cX3_forget 3 none (.code yX3_forget cX3_forget 3 none :: wsL_law) rm_X3_forget 0 0 2 := cwV 2 hts gw_X6_192 rfl rfl rfl (by decide +kernel) hR
theorem gw_X6_196 : GoodIn wsL_law (wsV RX6 196 RX3 yX3_pageOf (.code yX3_pageOf cX3_pageOf 3 (some .int) :: wsL_law)) := goodIn_app (goodIn_r _ [617, 431, 432, 18] (by decide +kernel) (by decide +kernel)) (good_code (List.mem_of_getElem? (i := 433) (by decide +kernel)))
theorem cw_X6_196 (hts : ∀ w ∈ wsL_law, w.before args s = true) (hR : rm_X3_pageOf.frames + 1 ≤ R.frames ∧ 8 + (3 + 11) + rm_X3_pageOf.locals ≤ R.locals) : CallW R s args RX6 RX3 196 yX3_pageOf cX3_pageOf 3 (some .int) (.code yX3_pageOf cX3_pageOf 3 (some .int) :: wsL_law) rm_X3_pageOf 0 0 2 := cwV 2 hts gw_X6_196 rfl rfl rfl (by decide +kernel) hR
theorem gw_X6_199 : GoodIn wsL_law (wsV RX6 199 RX3 yX3_wordOf (.code yX3_wordOf cX3_wordOf 3 (some .int) :: wsL_law)) := goodIn_app (goodIn_r _ [618, 446, 447, 18] (by decide +kernel) (by decide +kernel)) (good_code (List.mem_of_getElem? (i := 448) (by decide +kernel)))
theorem cw_X6_199 (hts : ∀ w ∈ wsL_law, w.before args s = true) (hR : rm_X3_wordOf.frames + 1 ≤ R.frames ∧ 8 + (3 + 11) + rm_X3_wordOf.locals ≤ R.locals) : CallW R s args RX6 RX3 199 yX3_wordOf cX3_wordOf 3 (some .int) (.code yX3_wordOf cX3_wordOf 3 (some .int) :: wsL_law) rm_X3_wordOf 0 0 2 := cwV 2 hts gw_X6_199 rfl rfl rfl (by decide +kernel) hR
theorem gw_X6_202 : GoodIn wsL_law (wsV RX6 202 RX0 yX0_has (.code yX0_has cX0_has 2 (some .boolean) :: wsL_law)) := goodIn_app (goodIn_r _ [630, 631, 632, 34] (by decide +kernel) (by decide +kernel)) (good_code (List.mem_of_getElem? (i := 633) (by decide +kernel)))
theorem cw_X6_202 (hts : ∀ w ∈ wsL_law, w.before args s = true) (hR : rm_X0_has.frames + 1 ≤ R.frames ∧ 8 + (2 + 11) + rm_X0_has.locals ≤ R.locals) : CallW R s args RX6 RX0 202 yX0_has cX0_has 2 (some .boolean) (.code yX0_has cX0_has 2 (some .boolean) :: wsL_law) rm_X0_has 0 0 1 := cwV 1 hts gw_X6_202 rfl rfl rfl (by decide +kernel) hR
theorem gw_X6_209 : GoodIn wsL_law (wsV RX6 209 RX0 yX0_textsOf (.code yX0_textsOf cX0_textsOf 4 (some .int) :: wsL_law)) := goodIn_app (goodIn_r _ [634, 635, 636, 34] (by decide +kernel) (by decide +kernel)) (good_code (List.mem_of_getElem? (i := 637) (by decide +kernel)))
theorem cw_X6_209 (hts : ∀ w ∈ wsL_law, w.before args s = true) (hR : rm_X0_textsOf.frames + 1 ≤ R.frames ∧ 8 + (4 + 11) + rm_X0_textsOf.locals ≤ R.locals) : CallW R s args RX6 RX0 209 yX0_textsOf cX0_textsOf 4 (some .int) (.code yX0_textsOf cX0_textsOf 4 (some .int) :: wsL_law) rm_X0_textsOf 0 0 1 := cwV 1 hts gw_X6_209 rfl rfl rfl (by decide +kernel) hR
theorem gw_X6_210 : GoodIn wsL_law (wsV RX6 210 RX0 yX0_wordsOf (.code yX0_wordsOf cX0_wordsOf 4 (some .int) :: wsL_law)) := goodIn_app (goodIn_r _ [643, 644, 645, 34] (by decide +kernel) (by decide +kernel)) (good_code (List.mem_of_getElem? (i := 646) (by decide +kernel)))
theorem cw_X6_210 (hts : ∀ w ∈ wsL_law, w.before args s = true) (hR : rm_X0_wordsOf.frames + 1 ≤ R.frames ∧ 8 + (4 + 11) + rm_X0_wordsOf.locals ≤ R.locals) : CallW R s args RX6 RX0 210 yX0_wordsOf cX0_wordsOf 4 (some .int) (.code yX0_wordsOf cX0_wordsOf 4 (some .int) :: wsL_law) rm_X0_wordsOf 0 0 1 := cwV 1 hts gw_X6_210 rfl rfl rfl (by decide +kernel) hR
theorem gw_X6_211 : GoodIn wsL_law (wsV RX6 211 RX0 yX0_pagesOf (.code yX0_pagesOf cX0_pagesOf 4 (some .int) :: wsL_law)) := goodIn_app (goodIn_r _ [648, 649, 650, 34] (by decide +kernel) (by decide +kernel)) (good_code (List.mem_of_getElem? (i := 651) (by decide +kernel)))
theorem cw_X6_211 (hts : ∀ w ∈ wsL_law, w.before args s = true) (hR : rm_X0_pagesOf.frames + 1 ≤ R.frames ∧ 8 + (4 + 11) + rm_X0_pagesOf.locals ≤ R.locals) : CallW R s args RX6 RX0 211 yX0_pagesOf cX0_pagesOf 4 (some .int) (.code yX0_pagesOf cX0_pagesOf 4 (some .int) :: wsL_law) rm_X0_pagesOf 0 0 1 := cwV 1 hts gw_X6_211 rfl rfl rfl (by decide +kernel) hR
theorem gw_X6_214 : GoodIn wsL_law (wsV RX6 214 RX0 yX0_isRing (.code yX0_isRing cX0_isRing 2 (some .boolean) :: wsL_law)) := goodIn_app (goodIn_r _ [652, 653, 654, 34] (by decide +kernel) (by decide +kernel)) (good_code (List.mem_of_getElem? (i := 655) (by decide +kernel)))
theorem cw_X6_214 (hts : ∀ w ∈ wsL_law, w.before args s = true) (hR : rm_X0_isRing.frames + 1 ≤ R.frames ∧ 8 + (2 + 11) + rm_X0_isRing.locals ≤ R.locals) : CallW R s args RX6 RX0 214 yX0_isRing cX0_isRing 2 (some .boolean) (.code yX0_isRing cX0_isRing 2 (some .boolean) :: wsL_law) rm_X0_isRing 0 0 1 := cwV 1 hts gw_X6_214 rfl rfl rfl (by decide +kernel) hR
theorem gw_X6_220 : GoodIn wsL_law (wsV RX6 220 RX0 yX0_blockAt (.code yX0_blockAt cX0_blockAt 8 (some .int) :: wsL_law)) := goodIn_app (goodIn_r _ [676, 677, 678, 34] (by decide +kernel) (by decide +kernel)) (good_code (List.mem_of_getElem? (i := 679) (by decide +kernel)))
theorem cw_X6_220 (hts : ∀ w ∈ wsL_law, w.before args s = true) (hR : rm_X0_blockAt.frames + 1 ≤ R.frames ∧ 8 + (8 + 11) + rm_X0_blockAt.locals ≤ R.locals) : CallW R s args RX6 RX0 220 yX0_blockAt cX0_blockAt 8 (some .int) (.code yX0_blockAt cX0_blockAt 8 (some .int) :: wsL_law) rm_X0_blockAt 0 0 2 := cwV 2 hts gw_X6_220 rfl rfl rfl (by decide +kernel) hR
theorem gw_X6_223 : GoodIn wsL_law (wsV RX6 223 RX1 yX1_manyOf (.code yX1_manyOf cX1_manyOf 4 (some .int) :: wsL_law)) := goodIn_app (goodIn_r _ [693, 694, 695, 14] (by decide +kernel) (by decide +kernel)) (good_code (List.mem_of_getElem? (i := 696) (by decide +kernel)))
theorem cw_X6_223 (hts : ∀ w ∈ wsL_law, w.before args s = true) (hR : rm_X1_manyOf.frames + 1 ≤ R.frames ∧ 8 + (4 + 11) + rm_X1_manyOf.locals ≤ R.locals) : CallW R s args RX6 RX1 223 yX1_manyOf cX1_manyOf 4 (some .int) (.code yX1_manyOf cX1_manyOf 4 (some .int) :: wsL_law) rm_X1_manyOf 0 0 1 := cwV 1 hts gw_X6_223 rfl rfl rfl (by decide +kernel) hR
theorem gw_X6_227 : GoodIn wsL_law (wsV RX6 227 RX5 yX5_manyJoined (.code yX5_manyJoined cX5_manyJoined 3 (some .int) :: wsL_law)) := goodIn_app (goodIn_r _ [697, 698, 699, 30] (by decide +kernel) (by decide +kernel)) (good_code (List.mem_of_getElem? (i := 700) (by decide +kernel)))
theorem cw_X6_227 (hts : ∀ w ∈ wsL_law, w.before args s = true) (hR : rm_X5_manyJoined.frames + 1 ≤ R.frames ∧ 8 + (3 + 11) + rm_X5_manyJoined.locals ≤ R.locals) : CallW R s args RX6 RX5 227 yX5_manyJoined cX5_manyJoined 3 (some .int) (.code yX5_manyJoined cX5_manyJoined 3 (some .int) :: wsL_law) rm_X5_manyJoined 0 0 0 := cwV 0 hts gw_X6_227 rfl rfl rfl (by decide +kernel) hR
theorem gw_X6_230 : GoodIn wsL_law (wsV RX6 230 RX5 yX5_manyLeftOver (.code yX5_manyLeftOver cX5_manyLeftOver 1 (some .int) :: wsL_law)) := goodIn_app (goodIn_r _ [701, 702, 703, 30] (by decide +kernel) (by decide +kernel)) (good_code (List.mem_of_getElem? (i := 704) (by decide +kernel)))
theorem cw_X6_230 (hts : ∀ w ∈ wsL_law, w.before args s = true) (hR : rm_X5_manyLeftOver.frames + 1 ≤ R.frames ∧ 8 + (1 + 11) + rm_X5_manyLeftOver.locals ≤ R.locals) : CallW R s args RX6 RX5 230 yX5_manyLeftOver cX5_manyLeftOver 1 (some .int) (.code yX5_manyLeftOver cX5_manyLeftOver 1 (some .int) :: wsL_law) rm_X5_manyLeftOver 0 0 0 := cwV 0 hts gw_X6_230 rfl rfl rfl (by decide +kernel) hR
theorem gw_X6_234 : GoodIn wsL_law (wsV RX6 234 RX0 yX0_manyRings (.code yX0_manyRings cX0_manyRings 3 (some .int) :: wsL_law)) := goodIn_app (goodIn_r _ [706, 707, 708, 34] (by decide +kernel) (by decide +kernel)) (good_code (List.mem_of_getElem? (i := 709) (by decide +kernel)))
theorem cw_X6_234 (hts : ∀ w ∈ wsL_law, w.before args s = true) (hR : rm_X0_manyRings.frames + 1 ≤ R.frames ∧ 8 + (3 + 11) + rm_X0_manyRings.locals ≤ R.locals) : CallW R s args RX6 RX0 234 yX0_manyRings cX0_manyRings 3 (some .int) (.code yX0_manyRings cX0_manyRings 3 (some .int) :: wsL_law) rm_X0_manyRings 0 0 0 := cwV 0 hts gw_X6_234 rfl rfl rfl (by decide +kernel) hR
theorem gw_X6_237 : GoodIn wsL_law (wsV RX6 237 RX0 yX0_manyBroken (.code yX0_manyBroken cX0_manyBroken 3 (some .int) :: wsL_law)) := goodIn_app (goodIn_r _ [711, 712, 713, 34] (by decide +kernel) (by decide +kernel)) (good_code (List.mem_of_getElem? (i := 714) (by decide +kernel)))
theorem cw_X6_237 (hts : ∀ w ∈ wsL_law, w.before args s = true) (hR : rm_X0_manyBroken.frames + 1 ≤ R.frames ∧ 8 + (3 + 11) + rm_X0_manyBroken.locals ≤ R.locals) : CallW R s args RX6 RX0 237 yX0_manyBroken cX0_manyBroken 3 (some .int) (.code yX0_manyBroken cX0_manyBroken 3 (some .int) :: wsL_law) rm_X0_manyBroken 0 0 0 := cwV 0 hts gw_X6_237 rfl rfl rfl (by decide +kernel) hR
theorem gw_X6_240 : GoodIn wsL_law (wsV RX6 240 RX0 yX0_manyIdleFrom (.code yX0_manyIdleFrom cX0_manyIdleFrom 4 (some .int) :: wsL_law)) := goodIn_app (goodIn_r _ [716, 717, 718, 34] (by decide +kernel) (by decide +kernel)) (good_code (List.mem_of_getElem? (i := 719) (by decide +kernel)))
theorem cw_X6_240 (hts : ∀ w ∈ wsL_law, w.before args s = true) (hR : rm_X0_manyIdleFrom.frames + 1 ≤ R.frames ∧ 8 + (4 + 11) + rm_X0_manyIdleFrom.locals ≤ R.locals) : CallW R s args RX6 RX0 240 yX0_manyIdleFrom cX0_manyIdleFrom 4 (some .int) (.code yX0_manyIdleFrom cX0_manyIdleFrom 4 (some .int) :: wsL_law) rm_X0_manyIdleFrom 0 0 0 := cwV 0 hts gw_X6_240 rfl rfl rfl (by decide +kernel) hR
theorem gw_X6_243 : GoodIn wsL_law (wsV RX6 243 RX5 yX5_manyLoosePictures (.code yX5_manyLoosePictures cX5_manyLoosePictures 3 (some .int) :: wsL_law)) := goodIn_app (goodIn_r _ [720, 721, 722, 30] (by decide +kernel) (by decide +kernel)) (good_code (List.mem_of_getElem? (i := 723) (by decide +kernel)))
theorem cw_X6_243 (hts : ∀ w ∈ wsL_law, w.before args s = true) (hR : rm_X5_manyLoosePictures.frames + 1 ≤ R.frames ∧ 8 + (3 + 11) + rm_X5_manyLoosePictures.locals ≤ R.locals) : CallW R s args RX6 RX5 243 yX5_manyLoosePictures cX5_manyLoosePictures 3 (some .int) (.code yX5_manyLoosePictures cX5_manyLoosePictures 3 (some .int) :: wsL_law) rm_X5_manyLoosePictures 0 0 0 := cwV 0 hts gw_X6_243 rfl rfl rfl (by decide +kernel) hR
theorem gw_X6_246 : GoodIn wsL_law (wsV RX6 246 RX5 yX5_build (.code yX5_build cX5_build 3 none :: wsL_law)) := goodIn_app (goodIn_r _ [351, 352, 353, 30] (by decide +kernel) (by decide +kernel)) (good_code (List.mem_of_getElem? (i := 354) (by decide +kernel)))
theorem cw_X6_246 (hts : ∀ w ∈ wsL_law, w.before args s = true) (hR : rm_X5_build.frames + 1 ≤ R.frames ∧ 8 + (3 + 11) + rm_X5_build.locals ≤ R.locals) : CallW R s args RX6 RX5 246 yX5_build cX5_build 3 none (.code yX5_build cX5_build 3 none :: wsL_law) rm_X5_build 0 0 0 := cwV 0 hts gw_X6_246 rfl rfl rfl (by decide +kernel) hR
theorem gw_X6_249 : GoodIn wsL_law (wsV RX6 249 RX0 yX0_build (.code yX0_build cX0_build 2 none :: wsL_law)) := goodIn_app (goodIn_r _ [413, 414, 415, 34] (by decide +kernel) (by decide +kernel)) (good_code (List.mem_of_getElem? (i := 416) (by decide +kernel)))
theorem cw_X6_249 (hts : ∀ w ∈ wsL_law, w.before args s = true) (hR : rm_X0_build.frames + 1 ≤ R.frames ∧ 8 + (2 + 11) + rm_X0_build.locals ≤ R.locals) : CallW R s args RX6 RX0 249 yX0_build cX0_build 2 none (.code yX0_build cX0_build 2 none :: wsL_law) rm_X0_build 0 0 0 := cwV 0 hts gw_X6_249 rfl rfl rfl (by decide +kernel) hR
theorem gw_X7_102 : GoodIn wsL_law (wsS RX7 102 yX7_within (.code yX7_within cX7_within 3 (some .boolean) :: wsL_law)) := goodIn_app (goodIn_r _ [169, 170, 5] (by decide +kernel) (by decide +kernel)) (good_code (List.mem_of_getElem? (i := 171) (by decide +kernel)))
theorem cw_X7_102 (hts : ∀ w ∈ wsL_law, w.before args s = true) (hR : rm_X7_within.frames + 1 ≤ R.frames ∧ 8 + (3 + 11) + rm_X7_within.locals ≤ R.locals) : CallB R s args RX7 102 yX7_within cX7_within 3 (some .boolean) (.code yX7_within cX7_within 3 (some .boolean) :: wsL_law) rm_X7_within 0 0 3 ∧ (Cond.static yX7_within).before args s = true := cwS 3 hts gw_X7_102 rfl rfl rfl (by decide +kernel) hR
theorem gw_X7_106 : GoodIn wsL_law (wsV RX7 106 RX7 yX7_isMeeting (.code yX7_isMeeting cX7_isMeeting 6 (some .boolean) :: wsL_law)) := goodIn_app (goodIn_r _ [172, 173, 174, 5] (by decide +kernel) (by decide +kernel)) (good_code (List.mem_of_getElem? (i := 175) (by decide +kernel)))
theorem cw_X7_106 (hts : ∀ w ∈ wsL_law, w.before args s = true) (hR : rm_X7_isMeeting.frames + 1 ≤ R.frames ∧ 8 + (6 + 11) + rm_X7_isMeeting.locals ≤ R.locals) : CallW R s args RX7 RX7 106 yX7_isMeeting cX7_isMeeting 6 (some .boolean) (.code yX7_isMeeting cX7_isMeeting 6 (some .boolean) :: wsL_law) rm_X7_isMeeting 0 0 5 := cwV 5 hts gw_X7_106 rfl rfl rfl (by decide +kernel) hR
theorem gw_X7_110 : GoodIn wsL_law (wsV RX7 110 RX7 yX7_isBlock (.code yX7_isBlock cX7_isBlock 2 (some .boolean) :: wsL_law)) := goodIn_app (goodIn_r _ [190, 191, 192, 5] (by decide +kernel) (by decide +kernel)) (good_code (List.mem_of_getElem? (i := 193) (by decide +kernel)))
theorem cw_X7_110 (hts : ∀ w ∈ wsL_law, w.before args s = true) (hR : rm_X7_isBlock.frames + 1 ≤ R.frames ∧ 8 + (2 + 11) + rm_X7_isBlock.locals ≤ R.locals) : CallW R s args RX7 RX7 110 yX7_isBlock cX7_isBlock 2 (some .boolean) (.code yX7_isBlock cX7_isBlock 2 (some .boolean) :: wsL_law) rm_X7_isBlock 0 0 1 := cwV 1 hts gw_X7_110 rfl rfl rfl (by decide +kernel) hR
theorem gw_X7_117 : GoodIn wsL_law (wsV RX7 117 RX7 yX7_isUpright (.code yX7_isUpright cX7_isUpright 6 (some .boolean) :: wsL_law)) := goodIn_app (goodIn_r _ [338, 339, 340, 5] (by decide +kernel) (by decide +kernel)) (good_code (List.mem_of_getElem? (i := 341) (by decide +kernel)))
theorem cw_X7_117 (hts : ∀ w ∈ wsL_law, w.before args s = true) (hR : rm_X7_isUpright.frames + 1 ≤ R.frames ∧ 8 + (6 + 11) + rm_X7_isUpright.locals ≤ R.locals) : CallW R s args RX7 RX7 117 yX7_isUpright cX7_isUpright 6 (some .boolean) (.code yX7_isUpright cX7_isUpright 6 (some .boolean) :: wsL_law) rm_X7_isUpright 0 0 4 := cwV 4 hts gw_X7_117 rfl rfl rfl (by decide +kernel) hR
theorem gw_X7_121 : GoodIn wsL_law (wsV RX7 121 RX7 yX7_reachesAcross (.code yX7_reachesAcross cX7_reachesAcross 4 (some .boolean) :: wsL_law)) := goodIn_app (goodIn_r _ [334, 335, 336, 5] (by decide +kernel) (by decide +kernel)) (good_code (List.mem_of_getElem? (i := 337) (by decide +kernel)))
theorem cw_X7_121 (hts : ∀ w ∈ wsL_law, w.before args s = true) (hR : rm_X7_reachesAcross.frames + 1 ≤ R.frames ∧ 8 + (4 + 11) + rm_X7_reachesAcross.locals ≤ R.locals) : CallW R s args RX7 RX7 121 yX7_reachesAcross cX7_reachesAcross 4 (some .boolean) (.code yX7_reachesAcross cX7_reachesAcross 4 (some .boolean) :: wsL_law) rm_X7_reachesAcross 0 0 2 := cwV 2 hts gw_X7_121 rfl rfl rfl (by decide +kernel) hR
theorem gw_X7_125 : GoodIn wsL_law (wsV RX7 125 RX7 yX7_lastRow (.code yX7_lastRow cX7_lastRow 7 (some .int) :: wsL_law)) := goodIn_app (goodIn_r _ [330, 331, 332, 5] (by decide +kernel) (by decide +kernel)) (good_code (List.mem_of_getElem? (i := 333) (by decide +kernel)))
theorem cw_X7_125 (hts : ∀ w ∈ wsL_law, w.before args s = true) (hR : rm_X7_lastRow.frames + 1 ≤ R.frames ∧ 8 + (7 + 11) + rm_X7_lastRow.locals ≤ R.locals) : CallW R s args RX7 RX7 125 yX7_lastRow cX7_lastRow 7 (some .int) (.code yX7_lastRow cX7_lastRow 7 (some .int) :: wsL_law) rm_X7_lastRow 0 0 2 := cwV 2 hts gw_X7_125 rfl rfl rfl (by decide +kernel) hR
theorem gw_X7_129 : GoodIn wsL_law (wsV RX7 129 RX7 yX7_comesBehind (.code yX7_comesBehind cX7_comesBehind 3 none :: wsL_law)) := goodIn_app (goodIn_r _ [479, 480, 481, 5] (by decide +kernel) (by decide +kernel)) (good_code (List.mem_of_getElem? (i := 482) (by decide +kernel)))
theorem cw_X7_129 (hts : ∀ w ∈ wsL_law, w.before args s = true) (hR : rm_X7_comesBehind.frames + 1 ≤ R.frames ∧ 8 + (3 + 11) + rm_X7_comesBehind.locals ≤ R.locals) : CallW R s args RX7 RX7 129 yX7_comesBehind cX7_comesBehind 3 none (.code yX7_comesBehind cX7_comesBehind 3 none :: wsL_law) rm_X7_comesBehind 0 0 2 := cwV 2 hts gw_X7_129 rfl rfl rfl (by decide +kernel) hR
theorem gw_X7_133 : GoodIn wsL_law (wsV RX7 133 RX7 yX7_isAhead (.code yX7_isAhead cX7_isAhead 3 (some .boolean) :: wsL_law)) := goodIn_app (goodIn_r _ [483, 484, 485, 5] (by decide +kernel) (by decide +kernel)) (good_code (List.mem_of_getElem? (i := 486) (by decide +kernel)))
theorem cw_X7_133 (hts : ∀ w ∈ wsL_law, w.before args s = true) (hR : rm_X7_isAhead.frames + 1 ≤ R.frames ∧ 8 + (3 + 11) + rm_X7_isAhead.locals ≤ R.locals) : CallW R s args RX7 RX7 133 yX7_isAhead cX7_isAhead 3 (some .boolean) (.code yX7_isAhead cX7_isAhead 3 (some .boolean) :: wsL_law) rm_X7_isAhead 0 0 2 := cwV 2 hts gw_X7_133 rfl rfl rfl (by decide +kernel) hR
theorem gw_X7_136 : GoodIn wsL_law (wsV RX7 136 RX7 yX7_takes (.code yX7_takes cX7_takes 5 (some .boolean) :: wsL_law)) := goodIn_app (goodIn_r _ [495, 496, 497, 5] (by decide +kernel) (by decide +kernel)) (good_code (List.mem_of_getElem? (i := 498) (by decide +kernel)))
theorem cw_X7_136 (hts : ∀ w ∈ wsL_law, w.before args s = true) (hR : rm_X7_takes.frames + 1 ≤ R.frames ∧ 8 + (5 + 11) + rm_X7_takes.locals ≤ R.locals) : CallW R s args RX7 RX7 136 yX7_takes cX7_takes 5 (some .boolean) (.code yX7_takes cX7_takes 5 (some .boolean) :: wsL_law) rm_X7_takes 0 0 2 := cwV 2 hts gw_X7_136 rfl rfl rfl (by decide +kernel) hR
theorem gw_X7_139 : GoodIn wsL_law (wsV RX7 139 RX7 yX7_takerNow (.code yX7_takerNow cX7_takerNow 4 (some .int) :: wsL_law)) := goodIn_app (goodIn_r _ [491, 492, 493, 5] (by decide +kernel) (by decide +kernel)) (good_code (List.mem_of_getElem? (i := 494) (by decide +kernel)))
theorem cw_X7_139 (hts : ∀ w ∈ wsL_law, w.before args s = true) (hR : rm_X7_takerNow.frames + 1 ≤ R.frames ∧ 8 + (4 + 11) + rm_X7_takerNow.locals ≤ R.locals) : CallW R s args RX7 RX7 139 yX7_takerNow cX7_takerNow 4 (some .int) (.code yX7_takerNow cX7_takerNow 4 (some .int) :: wsL_law) rm_X7_takerNow 0 0 1 := cwV 1 hts gw_X7_139 rfl rfl rfl (by decide +kernel) hR
theorem gw_X7_143 : GoodIn wsL_law (wsV RX7 143 RX7 yX7_headOver (.code yX7_headOver cX7_headOver 4 (some .int) :: wsL_law)) := goodIn_app (goodIn_r _ [457, 458, 459, 5] (by decide +kernel) (by decide +kernel)) (good_code (List.mem_of_getElem? (i := 460) (by decide +kernel)))
theorem cw_X7_143 (hts : ∀ w ∈ wsL_law, w.before args s = true) (hR : rm_X7_headOver.frames + 1 ≤ R.frames ∧ 8 + (4 + 11) + rm_X7_headOver.locals ≤ R.locals) : CallW R s args RX7 RX7 143 yX7_headOver cX7_headOver 4 (some .int) (.code yX7_headOver cX7_headOver 4 (some .int) :: wsL_law) rm_X7_headOver 0 0 1 := cwV 1 hts gw_X7_143 rfl rfl rfl (by decide +kernel) hR
theorem gw_X7_146 : GoodIn wsL_law (wsV RX7 146 RX7 yX7_comesUnder (.code yX7_comesUnder cX7_comesUnder 4 none :: wsL_law)) := goodIn_app (goodIn_r _ [475, 476, 477, 5] (by decide +kernel) (by decide +kernel)) (good_code (List.mem_of_getElem? (i := 478) (by decide +kernel)))
theorem cw_X7_146 (hts : ∀ w ∈ wsL_law, w.before args s = true) (hR : rm_X7_comesUnder.frames + 1 ≤ R.frames ∧ 8 + (4 + 11) + rm_X7_comesUnder.locals ≤ R.locals) : CallW R s args RX7 RX7 146 yX7_comesUnder cX7_comesUnder 4 none (.code yX7_comesUnder cX7_comesUnder 4 none :: wsL_law) rm_X7_comesUnder 0 0 2 := cwV 2 hts gw_X7_146 rfl rfl rfl (by decide +kernel) hR
theorem gw_X7_149 : GoodIn wsL_law (wsV RX7 149 RX7 yX7_joins (.code yX7_joins cX7_joins 3 (some .boolean) :: wsL_law)) := goodIn_app (goodIn_r _ [487, 488, 489, 5] (by decide +kernel) (by decide +kernel)) (good_code (List.mem_of_getElem? (i := 490) (by decide +kernel)))
theorem cw_X7_149 (hts : ∀ w ∈ wsL_law, w.before args s = true) (hR : rm_X7_joins.frames + 1 ≤ R.frames ∧ 8 + (3 + 11) + rm_X7_joins.locals ≤ R.locals) : CallW R s args RX7 RX7 149 yX7_joins cX7_joins 3 (some .boolean) (.code yX7_joins cX7_joins 3 (some .boolean) :: wsL_law) rm_X7_joins 0 0 0 := cwV 0 hts gw_X7_149 rfl rfl rfl (by decide +kernel) hR
theorem gw_X7_156 : GoodIn wsL_law (wsV RX7 156 RX7 yX7_isHead (.code yX7_isHead cX7_isHead 2 (some .boolean) :: wsL_law)) := goodIn_app (goodIn_r _ [326, 327, 328, 5] (by decide +kernel) (by decide +kernel)) (good_code (List.mem_of_getElem? (i := 329) (by decide +kernel)))
theorem cw_X7_156 (hts : ∀ w ∈ wsL_law, w.before args s = true) (hR : rm_X7_isHead.frames + 1 ≤ R.frames ∧ 8 + (2 + 11) + rm_X7_isHead.locals ≤ R.locals) : CallW R s args RX7 RX7 156 yX7_isHead cX7_isHead 2 (some .boolean) (.code yX7_isHead cX7_isHead 2 (some .boolean) :: wsL_law) rm_X7_isHead 0 0 1 := cwV 1 hts gw_X7_156 rfl rfl rfl (by decide +kernel) hR
theorem gw_X7_159 : GoodIn wsL_law (wsV RX7 159 RX7 yX7_findStories (.code yX7_findStories cX7_findStories 4 none :: wsL_law)) := goodIn_app (goodIn_r _ [470, 471, 472, 5] (by decide +kernel) (by decide +kernel)) (good_code (List.mem_of_getElem? (i := 473) (by decide +kernel)))
theorem cw_X7_159 (hts : ∀ w ∈ wsL_law, w.before args s = true) (hR : rm_X7_findStories.frames + 1 ≤ R.frames ∧ 8 + (4 + 11) + rm_X7_findStories.locals ≤ R.locals) : CallW R s args RX7 RX7 159 yX7_findStories cX7_findStories 4 none (.code yX7_findStories cX7_findStories 4 none :: wsL_law) rm_X7_findStories 0 0 0 := cwV 0 hts gw_X7_159 rfl rfl rfl (by decide +kernel) hR
theorem gw_X7_168 : GoodIn wsL_law (wsV RX7 168 RX7 yX7_onwardOf (.code yX7_onwardOf cX7_onwardOf 6 (some .int) :: wsL_law)) := goodIn_app (goodIn_r _ [558, 559, 560, 5] (by decide +kernel) (by decide +kernel)) (good_code (List.mem_of_getElem? (i := 561) (by decide +kernel)))
theorem cw_X7_168 (hts : ∀ w ∈ wsL_law, w.before args s = true) (hR : rm_X7_onwardOf.frames + 1 ≤ R.frames ∧ 8 + (6 + 11) + rm_X7_onwardOf.locals ≤ R.locals) : CallW R s args RX7 RX7 168 yX7_onwardOf cX7_onwardOf 6 (some .int) (.code yX7_onwardOf cX7_onwardOf 6 (some .int) :: wsL_law) rm_X7_onwardOf 0 0 1 := cwV 1 hts gw_X7_168 rfl rfl rfl (by decide +kernel) hR
theorem gw_X7_171 : GoodIn wsL_law (wsV RX7 171 RX7 yX7_aimBy (.code yX7_aimBy cX7_aimBy 4 (some .int) :: wsL_law)) := goodIn_app (goodIn_r _ [562, 563, 564, 5] (by decide +kernel) (by decide +kernel)) (good_code (List.mem_of_getElem? (i := 565) (by decide +kernel)))
theorem cw_X7_171 (hts : ∀ w ∈ wsL_law, w.before args s = true) (hR : rm_X7_aimBy.frames + 1 ≤ R.frames ∧ 8 + (4 + 11) + rm_X7_aimBy.locals ≤ R.locals) : CallW R s args RX7 RX7 171 yX7_aimBy cX7_aimBy 4 (some .int) (.code yX7_aimBy cX7_aimBy 4 (some .int) :: wsL_law) rm_X7_aimBy 0 0 1 := cwV 1 hts gw_X7_171 rfl rfl rfl (by decide +kernel) hR
theorem gw_X7_174 : GoodIn wsL_law (wsV RX7 174 RX7 yX7_lays (.code yX7_lays cX7_lays 4 none :: wsL_law)) := goodIn_app (goodIn_r _ [566, 567, 568, 5] (by decide +kernel) (by decide +kernel)) (good_code (List.mem_of_getElem? (i := 569) (by decide +kernel)))
theorem cw_X7_174 (hts : ∀ w ∈ wsL_law, w.before args s = true) (hR : rm_X7_lays.frames + 1 ≤ R.frames ∧ 8 + (4 + 11) + rm_X7_lays.locals ≤ R.locals) : CallW R s args RX7 RX7 174 yX7_lays cX7_lays 4 none (.code yX7_lays cX7_lays 4 none :: wsL_law) rm_X7_lays 0 0 2 := cwV 2 hts gw_X7_174 rfl rfl rfl (by decide +kernel) hR
theorem gw_X7_178 : GoodIn wsL_law (wsV RX7 178 RX7 yX7_findArticles (.code yX7_findArticles cX7_findArticles 3 none :: wsL_law)) := goodIn_app (goodIn_r _ [552, 553, 554, 5] (by decide +kernel) (by decide +kernel)) (good_code (List.mem_of_getElem? (i := 555) (by decide +kernel)))
theorem cw_X7_178 (hts : ∀ w ∈ wsL_law, w.before args s = true) (hR : rm_X7_findArticles.frames + 1 ≤ R.frames ∧ 8 + (3 + 11) + rm_X7_findArticles.locals ≤ R.locals) : CallW R s args RX7 RX7 178 yX7_findArticles cX7_findArticles 3 none (.code yX7_findArticles cX7_findArticles 3 none :: wsL_law) rm_X7_findArticles 0 0 0 := cwV 0 hts gw_X7_178 rfl rfl rfl (by decide +kernel) hR
theorem gw_X7_181 : GoodIn wsL_law (wsV RX7 181 RX7 yX7_isStory (.code yX7_isStory cX7_isStory 2 (some .boolean) :: wsL_law)) := goodIn_app (goodIn_r _ [548, 549, 550, 5] (by decide +kernel) (by decide +kernel)) (good_code (List.mem_of_getElem? (i := 551) (by decide +kernel)))
theorem cw_X7_181 (hts : ∀ w ∈ wsL_law, w.before args s = true) (hR : rm_X7_isStory.frames + 1 ≤ R.frames ∧ 8 + (2 + 11) + rm_X7_isStory.locals ≤ R.locals) : CallW R s args RX7 RX7 181 yX7_isStory cX7_isStory 2 (some .boolean) (.code yX7_isStory cX7_isStory 2 (some .boolean) :: wsL_law) rm_X7_isStory 0 0 1 := cwV 1 hts gw_X7_181 rfl rfl rfl (by decide +kernel) hR
theorem gw_X7_184 : GoodIn wsL_law (wsV RX7 184 RX7 yX7_wordsIn (.code yX7_wordsIn cX7_wordsIn 5 (some .int) :: wsL_law)) := goodIn_app (goodIn_r _ [570, 571, 572, 5] (by decide +kernel) (by decide +kernel)) (good_code (List.mem_of_getElem? (i := 573) (by decide +kernel)))
theorem cw_X7_184 (hts : ∀ w ∈ wsL_law, w.before args s = true) (hR : rm_X7_wordsIn.frames + 1 ≤ R.frames ∧ 8 + (5 + 11) + rm_X7_wordsIn.locals ≤ R.locals) : CallW R s args RX7 RX7 184 yX7_wordsIn cX7_wordsIn 5 (some .int) (.code yX7_wordsIn cX7_wordsIn 5 (some .int) :: wsL_law) rm_X7_wordsIn 0 0 1 := cwV 1 hts gw_X7_184 rfl rfl rfl (by decide +kernel) hR
theorem gw_X7_187 : GoodIn wsL_law (wsV RX7 187 RX7 yX7_manyIn (.code yX7_manyIn cX7_manyIn 6 (some .int) :: wsL_law)) := goodIn_app (goodIn_r _ [574, 575, 576, 5] (by decide +kernel) (by decide +kernel)) (good_code (List.mem_of_getElem? (i := 577) (by decide +kernel)))
theorem cw_X7_187 (hts : ∀ w ∈ wsL_law, w.before args s = true) (hR : rm_X7_manyIn.frames + 1 ≤ R.frames ∧ 8 + (6 + 11) + rm_X7_manyIn.locals ≤ R.locals) : CallW R s args RX7 RX7 187 yX7_manyIn cX7_manyIn 6 (some .int) (.code yX7_manyIn cX7_manyIn 6 (some .int) :: wsL_law) rm_X7_manyIn 0 0 2 := cwV 2 hts gw_X7_187 rfl rfl rfl (by decide +kernel) hR
theorem gw_X7_191 : GoodIn wsL_law (wsV RX7 191 RX7 yX7_isBroken (.code yX7_isBroken cX7_isBroken 2 (some .boolean) :: wsL_law)) := goodIn_app (goodIn_r _ [578, 579, 580, 5] (by decide +kernel) (by decide +kernel)) (good_code (List.mem_of_getElem? (i := 581) (by decide +kernel)))
theorem cw_X7_191 (hts : ∀ w ∈ wsL_law, w.before args s = true) (hR : rm_X7_isBroken.frames + 1 ≤ R.frames ∧ 8 + (2 + 11) + rm_X7_isBroken.locals ≤ R.locals) : CallW R s args RX7 RX7 191 yX7_isBroken cX7_isBroken 2 (some .boolean) (.code yX7_isBroken cX7_isBroken 2 (some .boolean) :: wsL_law) rm_X7_isBroken 0 0 1 := cwV 1 hts gw_X7_191 rfl rfl rfl (by decide +kernel) hR
theorem gw_X7_194 : GoodIn wsL_law (wsV RX7 194 RX7 yX7_isArticle (.code yX7_isArticle cX7_isArticle 2 (some .boolean) :: wsL_law)) := goodIn_app (goodIn_r _ [660, 661, 662, 5] (by decide +kernel) (by decide +kernel)) (good_code (List.mem_of_getElem? (i := 663) (by decide +kernel)))
theorem cw_X7_194 (hts : ∀ w ∈ wsL_law, w.before args s = true) (hR : rm_X7_isArticle.frames + 1 ≤ R.frames ∧ 8 + (2 + 11) + rm_X7_isArticle.locals ≤ R.locals) : CallW R s args RX7 RX7 194 yX7_isArticle cX7_isArticle 2 (some .boolean) (.code yX7_isArticle cX7_isArticle 2 (some .boolean) :: wsL_law) rm_X7_isArticle 0 0 1 := cwV 1 hts gw_X7_194 rfl rfl rfl (by decide +kernel) hR
theorem gw_X7_197 : GoodIn wsL_law (wsV RX7 197 RX7 yX7_sumOf (.code yX7_sumOf cX7_sumOf 5 (some .int) :: wsL_law)) := goodIn_app (goodIn_r _ [664, 665, 666, 5] (by decide +kernel) (by decide +kernel)) (good_code (List.mem_of_getElem? (i := 667) (by decide +kernel)))
theorem cw_X7_197 (hts : ∀ w ∈ wsL_law, w.before args s = true) (hR : rm_X7_sumOf.frames + 1 ≤ R.frames ∧ 8 + (5 + 11) + rm_X7_sumOf.locals ≤ R.locals) : CallW R s args RX7 RX7 197 yX7_sumOf cX7_sumOf 5 (some .int) (.code yX7_sumOf cX7_sumOf 5 (some .int) :: wsL_law) rm_X7_sumOf 0 0 2 := cwV 2 hts gw_X7_197 rfl rfl rfl (by decide +kernel) hR
theorem gw_X7_200 : GoodIn wsL_law (wsV RX7 200 RX7 yX7_pagesOf (.code yX7_pagesOf cX7_pagesOf 5 (some .int) :: wsL_law)) := goodIn_app (goodIn_r _ [668, 669, 670, 5] (by decide +kernel) (by decide +kernel)) (good_code (List.mem_of_getElem? (i := 671) (by decide +kernel)))
theorem cw_X7_200 (hts : ∀ w ∈ wsL_law, w.before args s = true) (hR : rm_X7_pagesOf.frames + 1 ≤ R.frames ∧ 8 + (5 + 11) + rm_X7_pagesOf.locals ≤ R.locals) : CallW R s args RX7 RX7 200 yX7_pagesOf cX7_pagesOf 5 (some .int) (.code yX7_pagesOf cX7_pagesOf 5 (some .int) :: wsL_law) rm_X7_pagesOf 0 0 1 := cwV 1 hts gw_X7_200 rfl rfl rfl (by decide +kernel) hR
theorem gw_X7_203 : GoodIn wsL_law (wsV RX7 203 RX7 yX7_manyOfKind (.code yX7_manyOfKind cX7_manyOfKind 4 (some .int) :: wsL_law)) := goodIn_app (goodIn_r _ [728, 729, 730, 5] (by decide +kernel) (by decide +kernel)) (good_code (List.mem_of_getElem? (i := 731) (by decide +kernel)))
theorem cw_X7_203 (hts : ∀ w ∈ wsL_law, w.before args s = true) (hR : rm_X7_manyOfKind.frames + 1 ≤ R.frames ∧ 8 + (4 + 11) + rm_X7_manyOfKind.locals ≤ R.locals) : CallW R s args RX7 RX7 203 yX7_manyOfKind cX7_manyOfKind 4 (some .int) (.code yX7_manyOfKind cX7_manyOfKind 4 (some .int) :: wsL_law) rm_X7_manyOfKind 0 0 1 := cwV 1 hts gw_X7_203 rfl rfl rfl (by decide +kernel) hR
theorem gw_X7_206 : GoodIn wsL_law (wsV RX7 206 RX7 yX7_manyTexts (.code yX7_manyTexts cX7_manyTexts 5 (some .int) :: wsL_law)) := goodIn_app (goodIn_r _ [732, 733, 734, 5] (by decide +kernel) (by decide +kernel)) (good_code (List.mem_of_getElem? (i := 735) (by decide +kernel)))
theorem cw_X7_206 (hts : ∀ w ∈ wsL_law, w.before args s = true) (hR : rm_X7_manyTexts.frames + 1 ≤ R.frames ∧ 8 + (5 + 11) + rm_X7_manyTexts.locals ≤ R.locals) : CallW R s args RX7 RX7 206 yX7_manyTexts cX7_manyTexts 5 (some .int) (.code yX7_manyTexts cX7_manyTexts 5 (some .int) :: wsL_law) rm_X7_manyTexts 0 0 1 := cwV 1 hts gw_X7_206 rfl rfl rfl (by decide +kernel) hR
theorem gw_X7_210 : GoodIn wsL_law (wsV RX7 210 RX7 yX7_manyRings (.code yX7_manyRings cX7_manyRings 3 (some .int) :: wsL_law)) := goodIn_app (goodIn_r _ [736, 737, 738, 5] (by decide +kernel) (by decide +kernel)) (good_code (List.mem_of_getElem? (i := 739) (by decide +kernel)))
theorem cw_X7_210 (hts : ∀ w ∈ wsL_law, w.before args s = true) (hR : rm_X7_manyRings.frames + 1 ≤ R.frames ∧ 8 + (3 + 11) + rm_X7_manyRings.locals ≤ R.locals) : CallW R s args RX7 RX7 210 yX7_manyRings cX7_manyRings 3 (some .int) (.code yX7_manyRings cX7_manyRings 3 (some .int) :: wsL_law) rm_X7_manyRings 0 0 0 := cwV 0 hts gw_X7_210 rfl rfl rfl (by decide +kernel) hR
theorem gw_X7_214 : GoodIn wsL_law (wsV RX7 214 RX7 yX7_manyBroken (.code yX7_manyBroken cX7_manyBroken 3 (some .int) :: wsL_law)) := goodIn_app (goodIn_r _ [740, 741, 742, 5] (by decide +kernel) (by decide +kernel)) (good_code (List.mem_of_getElem? (i := 743) (by decide +kernel)))
theorem cw_X7_214 (hts : ∀ w ∈ wsL_law, w.before args s = true) (hR : rm_X7_manyBroken.frames + 1 ≤ R.frames ∧ 8 + (3 + 11) + rm_X7_manyBroken.locals ≤ R.locals) : CallW R s args RX7 RX7 214 yX7_manyBroken cX7_manyBroken 3 (some .int) (.code yX7_manyBroken cX7_manyBroken 3 (some .int) :: wsL_law) rm_X7_manyBroken 0 0 0 := cwV 0 hts gw_X7_214 rfl rfl rfl (by decide +kernel) hR
theorem gw_X7_217 : GoodIn wsL_law (wsV RX7 217 RX7 yX7_manyIdle (.code yX7_manyIdle cX7_manyIdle 4 (some .int) :: wsL_law)) := goodIn_app (goodIn_r _ [744, 745, 746, 5] (by decide +kernel) (by decide +kernel)) (good_code (List.mem_of_getElem? (i := 747) (by decide +kernel)))
theorem cw_X7_217 (hts : ∀ w ∈ wsL_law, w.before args s = true) (hR : rm_X7_manyIdle.frames + 1 ≤ R.frames ∧ 8 + (4 + 11) + rm_X7_manyIdle.locals ≤ R.locals) : CallW R s args RX7 RX7 217 yX7_manyIdle cX7_manyIdle 4 (some .int) (.code yX7_manyIdle cX7_manyIdle 4 (some .int) :: wsL_law) rm_X7_manyIdle 0 0 0 := cwV 0 hts gw_X7_217 rfl rfl rfl (by decide +kernel) hR
theorem gw_X7_220 : GoodIn wsL_law (wsV RX7 220 RX7 yX7_manyLost (.code yX7_manyLost cX7_manyLost 3 (some .int) :: wsL_law)) := goodIn_app (goodIn_r _ [748, 749, 750, 5] (by decide +kernel) (by decide +kernel)) (good_code (List.mem_of_getElem? (i := 751) (by decide +kernel)))
theorem cw_X7_220 (hts : ∀ w ∈ wsL_law, w.before args s = true) (hR : rm_X7_manyLost.frames + 1 ≤ R.frames ∧ 8 + (3 + 11) + rm_X7_manyLost.locals ≤ R.locals) : CallW R s args RX7 RX7 220 yX7_manyLost cX7_manyLost 3 (some .int) (.code yX7_manyLost cX7_manyLost 3 (some .int) :: wsL_law) rm_X7_manyLost 0 0 0 := cwV 0 hts gw_X7_220 rfl rfl rfl (by decide +kernel) hR
end ROWS
end
section
-- X3_pageOf
def f_X3_pageOf (a1 a2 : Int32) (σ : St) : Option Int32 := ld σ 14 48 ((2 * a1) + a2) (fun x1 => some x1)
-- X3_has
def f_X3_has (a1 a2 : Int32) (σ : St) : Option Int32 := bi (f_X3_pageOf a1 a2 σ) (fun x1 => if x1 = (-9) then gb 0 (some 0) else gb 1 (some 1))
-- X0_lastOnward
def f_X0_lastOnward_L5 (σ : St) : Nat → Int32 → Int32 → Int32 → Option Int32
  | 0, _, _, _ => none
  | n + 1, a1, a2, a3 => lf σ 5 10 (fun x1 => if x1 ≤ a3 then some a2 else ld σ 26 24 a3 (fun x2 => ld σ 24 24 x2 (fun x3 => if x3 = a1 then bi (f_X3_has x2 0 σ) (fun x4 => if x4 = 0 then f_X0_lastOnward_L5 σ n a1 a2 (a3 + 1) else f_X0_lastOnward_L5 σ n a1 x2 (a3 + 1)) else f_X0_lastOnward_L5 σ n a1 a2 (a3 + 1))))
def f_X0_lastOnward (a1 : Int32) (σ : St) : Option Int32 := f_X0_lastOnward_L5 σ 64 a1 (-9) 0
-- X3_wordOf
def f_X3_wordOf (a1 a2 : Int32) (σ : St) : Option Int32 := ld σ 15 48 ((2 * a1) + a2) (fun x1 => some x1)
-- X0_aimOf
def f_X0_aimOf_B76 (σ : St) (K : Int32 → Int32 → Int32 → Int32 → Option Int32) (a1 a2 a3 a4 t0 : Int32) : Option Int32 := ld σ 7 24 a4 (fun x1 => if x1 = a2 then if t0 = 0 then K a1 a2 a3 (a4 + 1) else ld σ 24 24 a4 (fun x2 => some x2) else K a1 a2 a3 (a4 + 1))
def f_X0_aimOf_B75 (σ : St) (K : Int32 → Int32 → Int32 → Int32 → Option Int32) (a1 a2 a3 a4 : Int32) : Option Int32 := f_X0_aimOf_B76 σ K a1 a2 a3 a4 0
def f_X0_aimOf_L23 (σ : St) : Nat → Int32 → Int32 → Int32 → Int32 → Option Int32
  | 0, _, _, _, _ => none
  | n + 1, a1, a2, a3, a4 => lf σ 1 0 (fun x1 => if x1 ≤ a4 then some (-9) else bi (f_X3_pageOf a4 1 σ) (fun x2 => ld σ 7 24 a1 (fun x3 => if x2 = x3 then bi (f_X3_wordOf a4 1 σ) (fun x4 => if x4 = a3 then f_X0_aimOf_B76 σ (f_X0_aimOf_L23 σ n) a1 a2 a3 a4 1 else f_X0_aimOf_B75 σ (f_X0_aimOf_L23 σ n) a1 a2 a3 a4) else f_X0_aimOf_B75 σ (f_X0_aimOf_L23 σ n) a1 a2 a3 a4)))
def f_X0_aimOf (a1 : Int32) (σ : St) : Option Int32 := bi (f_X3_pageOf a1 0 σ) (fun x1 => bi (f_X3_wordOf a1 0 σ) (fun x2 => f_X0_aimOf_L23 σ 64 a1 x1 x2 0))
-- X0_linkToAim
def f_X0_linkToAim_B26 (a1 t0 : Int32) (σ : St) : Option St := if t0 = (-9) then some σ else if t0 = a1 then some σ else ld σ 29 24 t0 (fun x1 => if x1 = (-9) then sd σ 28 24 a1 t0 (fun σ2 => sd σ2 29 24 t0 a1 (fun σ3 => some σ3)) else some σ)
def f_X0_linkToAim (a1 : Int32) (σ : St) : Option St := ld σ 27 24 a1 (fun x1 => if x1 = (-9) then f_X0_linkToAim_B26 a1 (-9) σ else ld σ 27 24 a1 (fun x2 => bi (f_X0_aimOf x2 σ) (fun x3 => f_X0_linkToAim_B26 a1 x3 σ)))
-- X0_addFrom
def f_X0_addFrom_B93  (σ : St) : Option St := lf σ 6 3 (fun x1 => sf σ 6 3 (x1 + 1) (fun σ2 => some σ2))
def f_X0_addFrom_L24 : Nat → Int32 → Int32 → Int32 → St → Option St
  | 0, _, _, _, _ => none
  | n + 1, a2, a3, a4, σ => lf σ 5 3 (fun x1 => if x1 ≤ a4 then f_X0_addFrom_B93 σ else if a3 = (-9) then f_X0_addFrom_B93 σ else ld σ 30 24 a3 (fun x2 => if x2 = (-9) then sd σ 30 24 a3 a2 (fun σ3 => sd σ3 32 24 a2 a3 (fun σ4 => ld σ4 33 24 a2 (fun x5 => sd σ4 33 24 a2 (x5 + 1) (fun σ6 => ld σ6 28 24 a3 (fun x7 => f_X0_addFrom_L24 n a2 x7 (a4 + 1) σ6))))) else f_X0_addFrom_B93 σ))
def f_X0_addFrom (a1 : Int32) (σ : St) : Option St := lf σ 6 3 (fun x1 => sd σ 31 24 x1 a1 (fun σ2 => sd σ2 33 24 x1 0 (fun σ3 => f_X0_addFrom_L24 64 x1 a1 0 σ3)))
-- X0_build
def f_X0_build_L120 : Nat → Int32 → St → Option St
  | 0, _, _ => none
  | n + 1, a1, σ => lf σ 5 3 (fun x1 => if x1 ≤ a1 then some σ else ld σ 30 24 a1 (fun x2 => if x2 = (-9) then bs (f_X0_addFrom a1 σ) (fun σ3 => f_X0_build_L120 n (a1 + 1) σ3) else f_X0_build_L120 n (a1 + 1) σ))
def f_X0_build_L85 : Nat → Int32 → St → Option St
  | 0, _, _ => none
  | n + 1, a1, σ => lf σ 5 3 (fun x1 => if x1 ≤ a1 then f_X0_build_L120 64 0 σ else ld σ 29 24 a1 (fun x2 => if x2 = (-9) then bs (f_X0_addFrom a1 σ) (fun σ3 => f_X0_build_L85 n (a1 + 1) σ3) else f_X0_build_L85 n (a1 + 1) σ))
def f_X0_build_L61 : Nat → Int32 → St → Option St
  | 0, _, _ => none
  | n + 1, a1, σ => lf σ 5 3 (fun x1 => if x1 ≤ a1 then f_X0_build_L85 64 0 σ else bs (f_X0_linkToAim a1 σ) (fun σ2 => f_X0_build_L61 n (a1 + 1) σ2))
def f_X0_build_L7 : Nat → Int32 → St → Option St
  | 0, _, _ => none
  | n + 1, a1, σ => lf σ 5 3 (fun x1 => if x1 ≤ a1 then f_X0_build_L61 64 0 σ else bi (f_X0_lastOnward a1 σ) (fun x2 => sd σ 27 24 a1 x2 (fun σ3 => sd σ3 28 24 a1 (-9) (fun σ4 => sd σ4 29 24 a1 (-9) (fun σ5 => sd σ5 30 24 a1 (-9) (fun σ6 => f_X0_build_L7 n (a1 + 1) σ6))))))
def f_X0_build (σ : St) : Option St := sf σ 6 3 0 (fun σ1 => f_X0_build_L7 64 0 σ1)
-- X0_has
def f_X0_has (a1 : Int32) (σ : St) : Option Int32 := if a1 < 0 then gb 0 (some 0) else lf σ 6 3 (fun x1 => if x1 ≤ a1 then gb 0 (some 0) else gb 1 (some 1))
-- X0_isBroken
def f_X0_isBroken (a1 : Int32) (σ : St) : Option Int32 := ld σ 27 24 a1 (fun x1 => if x1 = (-9) then gb 0 (some 0) else ld σ 28 24 a1 (fun x2 => if x2 = (-9) then gb 1 (some 1) else gb 0 (some 0)))
-- X0_isRing
def f_X0_isRing (a1 : Int32) (σ : St) : Option Int32 := ld σ 31 24 a1 (fun x1 => ld σ 29 24 x1 (fun x2 => if x2 = (-9) then gb 0 (some 0) else gb 1 (some 1)))
-- X0_isReadIn
def f_X0_isReadIn (a1 a2 : Int32) (σ : St) : Option Int32 := ld σ 24 24 a2 (fun x1 => ld σ 8 24 a2 (fun x2 => if x2 = 2 then gb 0 (some 0) else if x1 = (-9) then gb 0 (some 0) else ld σ 30 24 x1 (fun x3 => if x3 = a1 then gb 1 (some 1) else gb 0 (some 0))))
-- X0_textsOf
def f_X0_textsOf_L4 (σ : St) : Nat → Int32 → Int32 → Int32 → Option Int32
  | 0, _, _, _ => none
  | n + 1, a1, a2, a3 => lf σ 1 0 (fun x1 => if x1 ≤ a3 then some a2 else ld σ 8 24 a3 (fun x2 => if x2 = 1 then bi (f_X0_isReadIn a1 a3 σ) (fun x3 => if x3 = 0 then f_X0_textsOf_L4 σ n a1 a2 (a3 + 1) else f_X0_textsOf_L4 σ n a1 (a2 + 1) (a3 + 1)) else f_X0_textsOf_L4 σ n a1 a2 (a3 + 1)))
def f_X0_textsOf (a1 : Int32) (σ : St) : Option Int32 := f_X0_textsOf_L4 σ 64 a1 0 0
-- X0_wordsOf
def f_X0_wordsOf_L4 (σ : St) : Nat → Int32 → Int32 → Int32 → Option Int32
  | 0, _, _, _ => none
  | n + 1, a1, a2, a3 => lf σ 1 0 (fun x1 => if x1 ≤ a3 then some a2 else ld σ 8 24 a3 (fun x2 => if x2 = 1 then bi (f_X0_isReadIn a1 a3 σ) (fun x3 => if x3 = 0 then f_X0_wordsOf_L4 σ n a1 a2 (a3 + 1) else ld σ 13 24 a3 (fun x4 => f_X0_wordsOf_L4 σ n a1 (a2 + x4) (a3 + 1))) else f_X0_wordsOf_L4 σ n a1 a2 (a3 + 1)))
def f_X0_wordsOf (a1 : Int32) (σ : St) : Option Int32 := f_X0_wordsOf_L4 σ 64 a1 0 0
-- X0_pagesOf
def f_X0_pagesOf_L4 (σ : St) : Nat → Int32 → Int32 → Int32 → Option Int32
  | 0, _, _, _ => none
  | n + 1, a1, a2, a3 => lf σ 1 0 (fun x1 => if x1 ≤ a3 then some a2 else bi (f_X0_isReadIn a1 a3 σ) (fun x2 => if x2 = 0 then f_X0_pagesOf_L4 σ n a1 a2 (a3 + 1) else ld σ 7 24 a3 (fun x3 => f_X0_pagesOf_L4 σ n a1 (a2 ||| (1 <<< (x3 &&& 31))) (a3 + 1))))
def f_X0_pagesOf (a1 : Int32) (σ : St) : Option Int32 := f_X0_pagesOf_L4 σ 64 a1 0 0
-- X5_headOf
def f_X5_headOf (a1 : Int32) (σ : St) : Option Int32 := ld σ 25 24 a1 (fun x1 => ld σ 8 24 x1 (fun x2 => if x2 = 0 then ld σ 25 24 a1 (fun x3 => some x3) else some (-9)))
-- X5_textAt
def f_X5_textAt_L5 (σ : St) : Nat → Int32 → Int32 → Int32 → Int32 → Option Int32
  | 0, _, _, _, _ => none
  | n + 1, a1, a2, a3, a4 => lf σ 5 10 (fun x1 => if x1 ≤ a4 then some (-9) else ld σ 26 24 a4 (fun x2 => ld σ 24 24 x2 (fun x3 => if x3 = a1 then if a3 = a2 then ld σ 26 24 a4 (fun x4 => some x4) else f_X5_textAt_L5 σ n a1 a2 (a3 + 1) (a4 + 1) else f_X5_textAt_L5 σ n a1 a2 a3 (a4 + 1))))
def f_X5_textAt (a1 a2 : Int32) (σ : St) : Option Int32 := f_X5_textAt_L5 σ 64 a1 a2 0 0
-- X5_textsOf
def f_X5_textsOf_L4 (σ : St) : Nat → Int32 → Int32 → Int32 → Option Int32
  | 0, _, _, _ => none
  | n + 1, a1, a2, a3 => lf σ 5 10 (fun x1 => if x1 ≤ a3 then some a2 else ld σ 26 24 a3 (fun x2 => ld σ 24 24 x2 (fun x3 => if x3 = a1 then f_X5_textsOf_L4 σ n a1 (a2 + 1) (a3 + 1) else f_X5_textsOf_L4 σ n a1 a2 (a3 + 1))))
def f_X5_textsOf (a1 : Int32) (σ : St) : Option Int32 := f_X5_textsOf_L4 σ 64 a1 0 0
-- X0_blockAt
def f_X0_blockAt_B59 (σ : St) (K : Int32 → Int32 → Int32 → Int32 → Option Int32) (a1 a3 a4 a5 : Int32) : Option Int32 := bi (f_X5_textAt a4 a3 σ) (fun x1 => if x1 = (-9) then bi (f_X5_textsOf a4 σ) (fun x2 => ld σ 28 24 a4 (fun x3 => K a1 (a3 - x2) x3 (a5 + 1))) else some x1)
def f_X0_blockAt_L13 (σ : St) : Nat → Int32 → Int32 → Int32 → Int32 → Option Int32
  | 0, _, _, _, _ => none
  | n + 1, a1, a3, a4, a5 => ld σ 33 24 a1 (fun x1 => if x1 ≤ a5 then some (-9) else if a4 = (-9) then some (-9) else bi (f_X5_headOf a4 σ) (fun x2 => if x2 = (-9) then f_X0_blockAt_B59 σ (f_X0_blockAt_L13 σ n) a1 a3 a4 a5 else if a3 = 0 then some x2 else f_X0_blockAt_B59 σ (f_X0_blockAt_L13 σ n) a1 (a3 + (-1)) a4 a5))
def f_X0_blockAt (a1 a2 : Int32) (σ : St) : Option Int32 := ld σ 31 24 a1 (fun x1 => f_X0_blockAt_L13 σ 64 a1 a2 x1 0)
-- X0_manyRings
def f_X0_manyRings_L4 (σ : St) : Nat → Int32 → Int32 → Option Int32
  | 0, _, _ => none
  | n + 1, a1, a2 => lf σ 6 3 (fun x1 => if x1 ≤ a2 then some a1 else bi (f_X0_isRing a2 σ) (fun x2 => if x2 = 0 then f_X0_manyRings_L4 σ n a1 (a2 + 1) else f_X0_manyRings_L4 σ n (a1 + 1) (a2 + 1)))
def f_X0_manyRings (σ : St) : Option Int32 := f_X0_manyRings_L4 σ 64 0 0
-- X0_manyBroken
def f_X0_manyBroken_L4 (σ : St) : Nat → Int32 → Int32 → Option Int32
  | 0, _, _ => none
  | n + 1, a1, a2 => lf σ 5 3 (fun x1 => if x1 ≤ a2 then some a1 else bi (f_X0_isBroken a2 σ) (fun x2 => if x2 = 0 then f_X0_manyBroken_L4 σ n a1 (a2 + 1) else f_X0_manyBroken_L4 σ n (a1 + 1) (a2 + 1)))
def f_X0_manyBroken (σ : St) : Option Int32 := f_X0_manyBroken_L4 σ 64 0 0
-- X0_manyIdleFrom
def f_X0_manyIdleFrom_L4 (σ : St) : Nat → Int32 → Int32 → Option Int32
  | 0, _, _ => none
  | n + 1, a1, a2 => lf σ 1 0 (fun x1 => if x1 ≤ a2 then some a1 else ld σ 24 24 a2 (fun x2 => bi (f_X3_has a2 1 σ) (fun x3 => if x3 = 0 then f_X0_manyIdleFrom_L4 σ n a1 (a2 + 1) else if x2 = (-9) then f_X0_manyIdleFrom_L4 σ n a1 (a2 + 1) else ld σ 29 24 x2 (fun x4 => if x4 = (-9) then f_X0_manyIdleFrom_L4 σ n (a1 + 1) (a2 + 1) else f_X0_manyIdleFrom_L4 σ n a1 (a2 + 1)))))
def f_X0_manyIdleFrom (σ : St) : Option Int32 := f_X0_manyIdleFrom_L4 σ 64 0 0
-- X1_has
def f_X1_has (a1 : Int32) (σ : St) : Option Int32 := if a1 < 0 then gb 0 (some 0) else lf σ 1 0 (fun x1 => if x1 ≤ a1 then gb 0 (some 0) else gb 1 (some 1))
-- X1_add
def f_X1_add (a1 a2 a3 a4 a5 a6 : Int32) (σ : St) : Option (Int32 × St) := lf σ 1 0 (fun x1 => sd σ 7 24 x1 a1 (fun σ2 => sd σ2 8 24 x1 a2 (fun σ3 => sd σ3 9 24 x1 a3 (fun σ4 => sd σ4 10 24 x1 a4 (fun σ5 => sd σ5 11 24 x1 a5 (fun σ6 => sd σ6 12 24 x1 a6 (fun σ7 => sd σ7 13 24 x1 1 (fun σ8 => lf σ8 1 0 (fun x9 => sf σ8 1 0 (x9 + 1) (fun σ10 => some (x1, σ10)))))))))))
-- X1_firstIn
def f_X1_firstIn_B70 (σ : St) (K : Int32 → Int32 → Int32 → Int32 → Int32 → Int32 → Option Int32) (a1 a2 a3 a4 a5 a6 a7 t0 : Int32) : Option Int32 := ld σ 7 24 a6 (fun x1 => if x1 = a1 then if a7 = 0 then K a1 a2 a3 a4 a5 (a6 + 1) else if t0 = 0 then K a1 a2 a3 a4 a5 (a6 + 1) else some a6 else K a1 a2 a3 a4 a5 (a6 + 1))
def f_X1_firstIn_B69 (σ : St) (K : Int32 → Int32 → Int32 → Int32 → Int32 → Int32 → Option Int32) (a1 a2 a3 a4 a5 a6 a7 : Int32) : Option Int32 := f_X1_firstIn_B70 σ K a1 a2 a3 a4 a5 a6 a7 0
def f_X1_firstIn_B39 (σ : St) (K : Int32 → Int32 → Int32 → Int32 → Int32 → Int32 → Option Int32) (a1 a2 a3 a4 a5 a6 t0 : Int32) : Option Int32 := ld σ 11 24 a6 (fun x1 => if a5 < x1 then f_X1_firstIn_B69 σ K a1 a2 a3 a4 a5 a6 t0 else ld σ 12 24 a6 (fun x2 => if x2 < a4 then f_X1_firstIn_B69 σ K a1 a2 a3 a4 a5 a6 t0 else f_X1_firstIn_B70 σ K a1 a2 a3 a4 a5 a6 t0 1))
def f_X1_firstIn_B38 (σ : St) (K : Int32 → Int32 → Int32 → Int32 → Int32 → Int32 → Option Int32) (a1 a2 a3 a4 a5 a6 : Int32) : Option Int32 := f_X1_firstIn_B39 σ K a1 a2 a3 a4 a5 a6 0
def f_X1_firstIn_L3 (σ : St) : Nat → Int32 → Int32 → Int32 → Int32 → Int32 → Int32 → Option Int32
  | 0, _, _, _, _, _, _ => none
  | n + 1, a1, a2, a3, a4, a5, a6 => lf σ 1 0 (fun x1 => if x1 ≤ a6 then some (-9) else ld σ 9 24 a6 (fun x2 => if a3 < x2 then f_X1_firstIn_B38 σ (f_X1_firstIn_L3 σ n) a1 a2 a3 a4 a5 a6 else ld σ 10 24 a6 (fun x3 => if x3 < a2 then f_X1_firstIn_B38 σ (f_X1_firstIn_L3 σ n) a1 a2 a3 a4 a5 a6 else f_X1_firstIn_B39 σ (f_X1_firstIn_L3 σ n) a1 a2 a3 a4 a5 a6 1)))
def f_X1_firstIn (a1 a2 a3 a4 a5 : Int32) (σ : St) : Option Int32 := f_X1_firstIn_L3 σ 64 a1 a2 a3 a4 a5 0
-- X1_meets
def f_X1_meets (a1 a2 a3 a4 a5 : Int32) (σ : St) : Option Int32 := bi (f_X1_firstIn a1 a2 a3 a4 a5 σ) (fun x1 => if x1 = (-9) then gb 0 (some 0) else gb 1 (some 1))
-- X1_turnAbout
def f_X1_turnAbout_B46 (K : Int32 → Int32 → St → Option (Int32 × St)) (a1 a2 a3 a4 : Int32) (σ : St) : Option (Int32 × St) := sd σ 9 24 a2 a3 (fun σ1 => sd σ1 10 24 a2 a4 (fun σ2 => K a1 (a2 + 1) σ2))
def f_X1_turnAbout_L4 : Nat → Int32 → Int32 → St → Option (Int32 × St)
  | 0, _, _, _ => none
  | n + 1, a1, a2, σ => lf σ 1 0 (fun x1 => if x1 ≤ a2 then some (a1, σ) else ld σ 10 24 a2 (fun x2 => ld σ 9 24 a2 (fun x3 => ld σ 9 24 a2 (fun x4 => if (7 - x2) = x4 then f_X1_turnAbout_B46 (f_X1_turnAbout_L4 n) a1 a2 (7 - x2) (7 - x3) σ else f_X1_turnAbout_B46 (f_X1_turnAbout_L4 n) (a1 + 1) a2 (7 - x2) (7 - x3) σ))))
def f_X1_turnAbout (σ : St) : Option (Int32 × St) := f_X1_turnAbout_L4 64 0 0 σ
-- X1_manyOf
def f_X1_manyOf_L4 (σ : St) : Nat → Int32 → Int32 → Int32 → Option Int32
  | 0, _, _, _ => none
  | n + 1, a1, a2, a3 => lf σ 1 0 (fun x1 => if x1 ≤ a3 then some a2 else ld σ 8 24 a3 (fun x2 => if x2 = a1 then f_X1_manyOf_L4 σ n a1 (a2 + 1) (a3 + 1) else f_X1_manyOf_L4 σ n a1 a2 (a3 + 1)))
def f_X1_manyOf (a1 : Int32) (σ : St) : Option Int32 := f_X1_manyOf_L4 σ 64 a1 0 0
-- X1_headBelow
def f_X1_headBelow_B43 (σ : St) (K : Int32 → Int32 → Int32 → Int32 → Int32 → Option Int32) (a1 a2 a3 a4 a5 t0 : Int32) : Option Int32 := ld σ 8 24 a5 (fun x1 => if x1 = 0 then ld σ 7 24 a5 (fun x2 => if x2 = a1 then if t0 = 0 then K a1 a2 a3 a4 (a5 + 1) else ld σ 11 24 a5 (fun x3 => if x3 ≤ a3 then K a1 a2 a3 a4 (a5 + 1) else ld σ 11 24 a5 (fun x4 => K a1 a2 a3 (jmin a4 x4) (a5 + 1))) else K a1 a2 a3 a4 (a5 + 1)) else K a1 a2 a3 a4 (a5 + 1))
def f_X1_headBelow_B42 (σ : St) (K : Int32 → Int32 → Int32 → Int32 → Int32 → Option Int32) (a1 a2 a3 a4 a5 : Int32) : Option Int32 := f_X1_headBelow_B43 σ K a1 a2 a3 a4 a5 0
def f_X1_headBelow_L7 (σ : St) : Nat → Int32 → Int32 → Int32 → Int32 → Int32 → Option Int32
  | 0, _, _, _, _, _ => none
  | n + 1, a1, a2, a3, a4, a5 => lf σ 1 0 (fun x1 => if x1 ≤ a5 then some a4 else ld σ 9 24 a5 (fun x2 => if a2 < x2 then f_X1_headBelow_B42 σ (f_X1_headBelow_L7 σ n) a1 a2 a3 a4 a5 else ld σ 10 24 a5 (fun x3 => if x3 < a2 then f_X1_headBelow_B42 σ (f_X1_headBelow_L7 σ n) a1 a2 a3 a4 a5 else f_X1_headBelow_B43 σ (f_X1_headBelow_L7 σ n) a1 a2 a3 a4 a5 1)))
def f_X1_headBelow (a1 a2 a3 : Int32) (σ : St) : Option Int32 := f_X1_headBelow_L7 σ 64 a1 a2 a3 30 0
-- X1_isAhead
def f_X1_isAhead (a1 a2 : Int32) (σ : St) : Option Int32 := ld σ 9 24 a1 (fun x1 => ld σ 9 24 a2 (fun x2 => if x1 < x2 then gb 1 (some 1) else ld σ 9 24 a1 (fun x3 => ld σ 9 24 a2 (fun x4 => if x3 = x4 then ld σ 11 24 a1 (fun x5 => ld σ 11 24 a2 (fun x6 => if x6 ≤ x5 then gb 0 (some 0) else gb 1 (some 1))) else gb 0 (some 0)))))
-- X2_has
def f_X2_has (a1 : Int32) (σ : St) : Option Int32 := if a1 < 0 then gb 0 (some 0) else lf σ 3 0 (fun x1 => if x1 ≤ a1 then gb 0 (some 0) else gb 1 (some 1))
-- X2_add
def f_X2_add (a1 a2 a3 a4 a5 : Int32) (σ : St) : Option (Int32 × St) := lf σ 3 0 (fun x1 => sd σ 16 12 x1 a1 (fun σ2 => sd σ2 17 12 x1 a2 (fun σ3 => sd σ3 18 12 x1 a3 (fun σ4 => sd σ4 19 12 x1 a4 (fun σ5 => sd σ5 20 12 x1 a5 (fun σ6 => lf σ6 3 0 (fun x7 => sf σ6 3 0 (x7 + 1) (fun σ8 => some (x1, σ8)))))))))
-- X2_turnAbout
def f_X2_turnAbout_L2 : Nat → Int32 → St → Option St
  | 0, _, _ => none
  | n + 1, a1, σ => lf σ 3 0 (fun x1 => if x1 ≤ a1 then some σ else ld σ 17 12 a1 (fun x2 => if x2 = 0 then ld σ 18 12 a1 (fun x7 => sd σ 18 12 a1 (8 - x7) (fun σ8 => f_X2_turnAbout_L2 n (a1 + 1) σ8)) else ld σ 20 12 a1 (fun x3 => ld σ 19 12 a1 (fun x4 => sd σ 20 12 a1 (7 - x4) (fun σ5 => sd σ5 19 12 a1 (7 - x3) (fun σ6 => f_X2_turnAbout_L2 n (a1 + 1) σ6))))))
def f_X2_turnAbout (σ : St) : Option St := f_X2_turnAbout_L2 64 0 σ
-- X2_hasUpright
def f_X2_hasUpright_B49 (σ : St) (K : Int32 → Int32 → Int32 → Int32 → Int32 → Option Int32) (a1 a2 a3 a4 a5 t0 : Int32) : Option Int32 := if t0 = 0 then K a1 a2 a3 a4 (a5 + 1) else ld σ 19 12 a5 (fun x1 => if a4 < x1 then K a1 a2 a3 a4 (a5 + 1) else ld σ 20 12 a5 (fun x2 => if x2 < a3 then K a1 a2 a3 a4 (a5 + 1) else gb 1 (some 1)))
def f_X2_hasUpright_B48 (σ : St) (K : Int32 → Int32 → Int32 → Int32 → Int32 → Option Int32) (a1 a2 a3 a4 a5 : Int32) : Option Int32 := f_X2_hasUpright_B49 σ K a1 a2 a3 a4 a5 0
def f_X2_hasUpright_L3 (σ : St) : Nat → Int32 → Int32 → Int32 → Int32 → Int32 → Option Int32
  | 0, _, _, _, _, _ => none
  | n + 1, a1, a2, a3, a4, a5 => lf σ 3 0 (fun x1 => if x1 ≤ a5 then gb 0 (some 0) else ld σ 17 12 a5 (fun x2 => if x2 = 0 then ld σ 16 12 a5 (fun x3 => if x3 = a1 then ld σ 18 12 a5 (fun x4 => if x4 = a2 then f_X2_hasUpright_B49 σ (f_X2_hasUpright_L3 σ n) a1 a2 a3 a4 a5 1 else f_X2_hasUpright_B48 σ (f_X2_hasUpright_L3 σ n) a1 a2 a3 a4 a5) else f_X2_hasUpright_B48 σ (f_X2_hasUpright_L3 σ n) a1 a2 a3 a4 a5) else f_X2_hasUpright_B48 σ (f_X2_hasUpright_L3 σ n) a1 a2 a3 a4 a5))
def f_X2_hasUpright (a1 a2 a3 a4 : Int32) (σ : St) : Option Int32 := f_X2_hasUpright_L3 σ 64 a1 a2 a3 a4 0
-- X2_flatBelow
def f_X2_flatBelow_B54 (σ : St) (K : Int32 → Int32 → Int32 → Int32 → Int32 → Option Int32) (a1 a2 a3 a4 a5 t0 : Int32) : Option Int32 := if t0 = 0 then K a1 a2 a3 a4 (a5 + 1) else ld σ 16 12 a5 (fun x1 => if x1 = a1 then ld σ 18 12 a5 (fun x2 => if x2 ≤ a3 then K a1 a2 a3 a4 (a5 + 1) else ld σ 18 12 a5 (fun x3 => K a1 a2 a3 (jmin a4 x3) (a5 + 1))) else K a1 a2 a3 a4 (a5 + 1))
def f_X2_flatBelow_B53 (σ : St) (K : Int32 → Int32 → Int32 → Int32 → Int32 → Option Int32) (a1 a2 a3 a4 a5 : Int32) : Option Int32 := f_X2_flatBelow_B54 σ K a1 a2 a3 a4 a5 0
def f_X2_flatBelow_L7 (σ : St) : Nat → Int32 → Int32 → Int32 → Int32 → Int32 → Option Int32
  | 0, _, _, _, _, _ => none
  | n + 1, a1, a2, a3, a4, a5 => lf σ 3 0 (fun x1 => if x1 ≤ a5 then some a4 else ld σ 17 12 a5 (fun x2 => if x2 = 1 then ld σ 19 12 a5 (fun x3 => if a2 < x3 then f_X2_flatBelow_B53 σ (f_X2_flatBelow_L7 σ n) a1 a2 a3 a4 a5 else ld σ 20 12 a5 (fun x4 => if x4 < a2 then f_X2_flatBelow_B53 σ (f_X2_flatBelow_L7 σ n) a1 a2 a3 a4 a5 else f_X2_flatBelow_B54 σ (f_X2_flatBelow_L7 σ n) a1 a2 a3 a4 a5 1)) else f_X2_flatBelow_B53 σ (f_X2_flatBelow_L7 σ n) a1 a2 a3 a4 a5))
def f_X2_flatBelow (a1 a2 a3 : Int32) (σ : St) : Option Int32 := f_X2_flatBelow_L7 σ 64 a1 a2 a3 30 0
-- X3_put
def f_X3_put (a1 a2 a3 a4 : Int32) (σ : St) : Option St := sd σ 14 48 ((2 * a1) + a2) a3 (fun σ1 => sd σ1 15 48 ((2 * a1) + a2) a4 (fun σ2 => some σ2))
-- X3_forget
def f_X3_forget (a1 a2 : Int32) (σ : St) : Option St := bs (f_X3_put a1 a2 (-9) (-9) σ) (fun σ1 => some σ1)
-- X3_forgetAllOf
def f_X3_forgetAllOf (a1 : Int32) (σ : St) : Option St := bs (f_X3_forget a1 0 σ) (fun σ1 => bs (f_X3_forget a1 1 σ1) (fun σ2 => some σ2))
-- X4_lastColumn
def f_X4_lastColumn_L24 (σ : St) : Nat → Int32 → Int32 → Int32 → Option Int32
  | 0, _, _, _ => none
  | n + 1, a1, a2, a3 => ld σ 10 24 a1 (fun x1 => if x1 < a3 then ld σ 10 24 a1 (fun x2 => some x2) else ld σ 7 24 a1 (fun x3 => bi (f_X2_hasUpright x3 a3 a2 a2 σ) (fun x4 => if x4 = 0 then f_X4_lastColumn_L24 σ n a1 a2 (a3 + 1) else some (a3 - 1))))
def f_X4_lastColumn (a1 : Int32) (σ : St) : Option Int32 := ld σ 12 24 a1 (fun x1 => ld σ 9 24 a1 (fun x2 => f_X4_lastColumn_L24 σ 64 a1 (x1 + 1) (x2 + 1)))
-- X4_lastRow
def f_X4_lastRow (a1 a2 : Int32) (σ : St) : Option Int32 := ld σ 9 24 a1 (fun x1 => if a2 < x1 then some (-9) else bi (f_X4_lastColumn a1 σ) (fun x2 => if a2 ≤ x2 then ld σ 7 24 a1 (fun x3 => ld σ 12 24 a1 (fun x4 => bi (f_X1_headBelow x3 a2 x4 σ) (fun x5 => bi (f_X2_flatBelow x3 a2 x4 σ) (fun x6 => if ((jmin x5 x6) - 1) ≤ x4 then some (-9) else some ((jmin x5 x6) - 1))))) else some (-9)))
-- X4_headOver
def f_X4_headOver_B60 (σ : St) (K : Int32 → Int32 → Option Int32) (a1 a2 t0 : Int32) : Option Int32 := ld σ 8 24 a2 (fun x1 => if x1 = 0 then if t0 = 0 then K a1 (a2 + 1) else ld σ 9 24 a1 (fun x2 => bi (f_X4_lastRow a2 x2 σ) (fun x3 => ld σ 11 24 a1 (fun x4 => if x3 < x4 then K a1 (a2 + 1) else some a2))) else K a1 (a2 + 1))
def f_X4_headOver_B59 (σ : St) (K : Int32 → Int32 → Option Int32) (a1 a2 : Int32) : Option Int32 := f_X4_headOver_B60 σ K a1 a2 0
def f_X4_headOver_L2 (σ : St) : Nat → Int32 → Int32 → Option Int32
  | 0, _, _ => none
  | n + 1, a1, a2 => lf σ 1 0 (fun x1 => if x1 ≤ a2 then some (-9) else ld σ 7 24 a2 (fun x2 => ld σ 7 24 a1 (fun x3 => if x2 = x3 then ld σ 12 24 a2 (fun x4 => ld σ 11 24 a1 (fun x5 => if x5 ≤ x4 then f_X4_headOver_B59 σ (f_X4_headOver_L2 σ n) a1 a2 else f_X4_headOver_B60 σ (f_X4_headOver_L2 σ n) a1 a2 1)) else f_X4_headOver_B59 σ (f_X4_headOver_L2 σ n) a1 a2)))
def f_X4_headOver (a1 : Int32) (σ : St) : Option Int32 := f_X4_headOver_L2 σ 64 a1 0
-- X5_insert
def f_X5_insert_B48 (a1 a2 : Int32) (σ : St) : Option St := sd σ 26 24 a2 a1 (fun σ1 => lf σ1 5 10 (fun x2 => sf σ1 5 10 (x2 + 1) (fun σ3 => some σ3)))
def f_X5_insert_L5 : Nat → Int32 → Int32 → St → Option St
  | 0, _, _, _ => none
  | n + 1, a1, a2, σ => if a2 ≤ 0 then f_X5_insert_B48 a1 a2 σ else ld σ 26 24 (a2 - 1) (fun x1 => bi (f_X1_isAhead a1 x1 σ) (fun x2 => if x2 = 0 then f_X5_insert_B48 a1 a2 σ else ld σ 26 24 (a2 - 1) (fun x3 => sd σ 26 24 a2 x3 (fun σ4 => f_X5_insert_L5 n a1 (a2 + (-1)) σ4))))
def f_X5_insert (a1 : Int32) (σ : St) : Option St := lf σ 5 10 (fun x1 => f_X5_insert_L5 64 a1 x1 σ)
-- X5_putUnderHead
def f_X5_putUnderHead_B35 (a1 t0 t1 : Int32) (σ : St) : Option St := sd σ 23 24 t1 t0 (fun σ1 => ld σ1 8 24 a1 (fun x2 => if x2 = 1 then ld σ1 21 24 a1 (fun x3 => if x3 = (-9) then some σ1 else bs (f_X5_insert a1 σ1) (fun σ4 => some σ4)) else some σ1))
def f_X5_putUnderHead (a1 : Int32) (σ : St) : Option St := sd σ 22 24 a1 (-9) (fun σ1 => ld σ1 8 24 a1 (fun x2 => if x2 = 0 then f_X5_putUnderHead_B35 a1 a1 a1 σ1 else ld σ1 21 24 a1 (fun x3 => f_X5_putUnderHead_B35 a1 x3 a1 σ1)))
-- X5_isWithoutStory
def f_X5_isWithoutStory (a1 : Int32) (σ : St) : Option Int32 := ld σ 8 24 a1 (fun x1 => if x1 = 1 then ld σ 23 24 a1 (fun x2 => if x2 = (-9) then gb 1 (some 1) else gb 0 (some 0)) else gb 0 (some 0))
-- X5_takes
def f_X5_takes_B79 (σ : St) (a1 a2 a3 t0 : Int32) : Option Int32 := if a3 = 0 then gb 0 (some 0) else if t0 = 0 then gb 0 (some 0) else ld σ 11 24 a1 (fun x1 => ld σ 11 24 a2 (fun x2 => ld σ 12 24 a1 (fun x3 => ld σ 12 24 a2 (fun x4 => if (jmin x3 x4) < (jmax x1 x2) then gb 0 (some 0) else ld σ 7 24 a2 (fun x5 => ld σ 9 24 a2 (fun x6 => bi (f_X2_hasUpright x5 x6 (jmax x1 x2) (jmin x3 x4) σ) (fun x7 => if x7 = 0 then gb 1 (some 1) else gb 0 (some 0))))))))
def f_X5_takes_B78 (σ : St) (a1 a2 a3 : Int32) : Option Int32 := f_X5_takes_B79 σ a1 a2 a3 0
def f_X5_takes_B29 (σ : St) (a1 a2 t0 : Int32) : Option Int32 := ld σ 7 24 a1 (fun x1 => ld σ 7 24 a2 (fun x2 => if x1 = x2 then ld σ 10 24 a1 (fun x3 => ld σ 9 24 a2 (fun x4 => if (x3 + 1) = x4 then f_X5_takes_B79 σ a1 a2 t0 1 else f_X5_takes_B78 σ a1 a2 t0)) else f_X5_takes_B78 σ a1 a2 t0))
def f_X5_takes_B28 (σ : St) (a1 a2 : Int32) : Option Int32 := f_X5_takes_B29 σ a1 a2 0
def f_X5_takes (a1 a2 : Int32) (σ : St) : Option Int32 := ld σ 8 24 a1 (fun x1 => if x1 = 1 then ld σ 23 24 a1 (fun x2 => if x2 = (-9) then f_X5_takes_B28 σ a1 a2 else f_X5_takes_B29 σ a1 a2 1) else f_X5_takes_B28 σ a1 a2)
-- X5_takerFor
def f_X5_takerFor_L5 (σ : St) : Nat → Int32 → Int32 → Int32 → Option Int32
  | 0, _, _, _ => none
  | n + 1, a1, a2, a3 => lf σ 1 0 (fun x1 => if x1 ≤ a3 then some a2 else bi (f_X5_takes a3 a1 σ) (fun x2 => if x2 = 0 then f_X5_takerFor_L5 σ n a1 a2 (a3 + 1) else if a2 = (-9) then f_X5_takerFor_L5 σ n a1 a3 (a3 + 1) else ld σ 11 24 a3 (fun x3 => ld σ 11 24 a2 (fun x4 => if x4 ≤ x3 then f_X5_takerFor_L5 σ n a1 a2 (a3 + 1) else f_X5_takerFor_L5 σ n a1 a3 (a3 + 1)))))
def f_X5_takerFor (a1 : Int32) (σ : St) : Option Int32 := f_X5_takerFor_L5 σ 64 a1 (-9) 0
-- X5_append
def f_X5_append (a1 : Int32) (σ : St) : Option St := lf σ 5 10 (fun x1 => sd σ 26 24 x1 a1 (fun σ2 => lf σ2 5 10 (fun x3 => sf σ2 5 10 (x3 + 1) (fun σ4 => some σ4))))
-- X5_joinNext
def f_X5_joinNext_B31 (K : Int32 → St → Option (Int32 × St)) (a1 t0 : Int32) (σ : St) : Option (Int32 × St) := if t0 = (-9) then K (a1 + 1) σ else sd σ 22 24 a1 t0 (fun σ1 => ld σ1 23 24 t0 (fun x2 => sd σ1 23 24 a1 x2 (fun σ3 => bs (f_X5_append a1 σ3) (fun σ4 => gb 1 (some (1, σ4))))))
def f_X5_joinNext_L2 : Nat → Int32 → St → Option (Int32 × St)
  | 0, _, _ => none
  | n + 1, a1, σ => lf σ 1 0 (fun x1 => if x1 ≤ a1 then gb 0 (some (0, σ)) else bi (f_X5_isWithoutStory a1 σ) (fun x2 => if x2 = 0 then f_X5_joinNext_B31 (f_X5_joinNext_L2 n) a1 (-9) σ else bi (f_X5_takerFor a1 σ) (fun x3 => f_X5_joinNext_B31 (f_X5_joinNext_L2 n) a1 x3 σ)))
def f_X5_joinNext (σ : St) : Option (Int32 × St) := f_X5_joinNext_L2 64 0 σ
-- X5_giveNumbers
def f_X5_giveNumbers_B109 (K : Int32 → St → Option St) (a1 t0 t1 : Int32) (σ : St) : Option St := sd σ 24 24 t1 t0 (fun σ1 => K (a1 + 1) σ1)
def f_X5_giveNumbers_L66 : Nat → Int32 → St → Option St
  | 0, _, _ => none
  | n + 1, a1, σ => lf σ 1 0 (fun x1 => if x1 ≤ a1 then some σ else ld σ 23 24 a1 (fun x2 => if x2 = (-9) then f_X5_giveNumbers_B109 (f_X5_giveNumbers_L66 n) a1 (-9) a1 σ else ld σ 23 24 a1 (fun x3 => ld σ 24 24 x3 (fun x4 => f_X5_giveNumbers_B109 (f_X5_giveNumbers_L66 n) a1 x4 a1 σ))))
def f_X5_giveNumbers_L7 : Nat → Int32 → St → Option St
  | 0, _, _ => none
  | n + 1, a1, σ => lf σ 1 0 (fun x1 => if x1 ≤ a1 then f_X5_giveNumbers_L66 64 0 σ else ld σ 23 24 a1 (fun x2 => if x2 = a1 then lf σ 5 3 (fun x3 => sd σ 25 24 x3 a1 (fun σ4 => lf σ4 5 3 (fun x5 => sd σ4 24 24 a1 x5 (fun σ6 => lf σ6 5 3 (fun x7 => sf σ6 5 3 (x7 + 1) (fun σ8 => f_X5_giveNumbers_L7 n (a1 + 1) σ8)))))) else f_X5_giveNumbers_L7 n (a1 + 1) σ))
def f_X5_giveNumbers (σ : St) : Option St := sf σ 5 3 0 (fun σ1 => f_X5_giveNumbers_L7 64 0 σ1)
-- X5_build
def f_X5_build_L88 : Nat → Int32 → St → Option St
  | 0, _, _ => none
  | n + 1, a2, σ => lf σ 1 0 (fun x1 => if x1 ≤ a2 then bs (f_X5_giveNumbers σ) (fun σ2 => some σ2) else bi (f_X5_isWithoutStory a2 σ) (fun x3 => if x3 = 0 then f_X5_build_L88 n (a2 + 1) σ else sd σ 23 24 a2 a2 (fun σ4 => bs (f_X5_append a2 σ4) (fun σ5 => f_X5_build_L88 n (a2 + 1) σ5))))
def f_X5_build_L62 : Nat → Int32 → St → Option St
  | 0, _, _ => none
  | n + 1, a1, σ => lf σ 1 0 (fun x1 => if x1 ≤ a1 then f_X5_build_L88 64 0 σ else bp (f_X5_joinNext σ) (fun x2 σ3 => if x2 = 0 then f_X5_build_L88 64 0 σ3 else f_X5_build_L62 n (a1 + 1) σ3))
def f_X5_build_B48 (K : Int32 → St → Option St) (a1 t0 t1 : Int32) (σ : St) : Option St := sd σ 21 24 t1 t0 (fun σ1 => bs (f_X5_putUnderHead a1 σ1) (fun σ2 => K (a1 + 1) σ2))
def f_X5_build_L7 : Nat → Int32 → St → Option St
  | 0, _, _ => none
  | n + 1, a1, σ => lf σ 1 0 (fun x1 => if x1 ≤ a1 then f_X5_build_L62 64 0 σ else ld σ 8 24 a1 (fun x2 => if x2 = 0 then f_X5_build_B48 (f_X5_build_L7 n) a1 (-9) a1 σ else bi (f_X4_headOver a1 σ) (fun x3 => f_X5_build_B48 (f_X5_build_L7 n) a1 x3 a1 σ)))
def f_X5_build (σ : St) : Option St := sf σ 5 10 0 (fun σ1 => f_X5_build_L7 64 0 σ1)
-- X5_has
def f_X5_has (a1 : Int32) (σ : St) : Option Int32 := if a1 < 0 then gb 0 (some 0) else lf σ 5 3 (fun x1 => if x1 ≤ a1 then gb 0 (some 0) else gb 1 (some 1))
-- X5_wordsOf
def f_X5_wordsOf_L4 (σ : St) : Nat → Int32 → Int32 → Int32 → Option Int32
  | 0, _, _, _ => none
  | n + 1, a1, a2, a3 => lf σ 5 10 (fun x1 => if x1 ≤ a3 then some a2 else ld σ 26 24 a3 (fun x2 => ld σ 24 24 x2 (fun x3 => if x3 = a1 then ld σ 26 24 a3 (fun x4 => ld σ 13 24 x4 (fun x5 => f_X5_wordsOf_L4 σ n a1 (a2 + x5) (a3 + 1))) else f_X5_wordsOf_L4 σ n a1 a2 (a3 + 1))))
def f_X5_wordsOf (a1 : Int32) (σ : St) : Option Int32 := f_X5_wordsOf_L4 σ 64 a1 0 0
-- X5_picturesOf
def f_X5_picturesOf_L4 (σ : St) : Nat → Int32 → Int32 → Int32 → Option Int32
  | 0, _, _, _ => none
  | n + 1, a1, a2, a3 => lf σ 1 0 (fun x1 => if x1 ≤ a3 then some a2 else ld σ 8 24 a3 (fun x2 => if x2 = 2 then ld σ 24 24 a3 (fun x3 => if x3 = a1 then f_X5_picturesOf_L4 σ n a1 (a2 + 1) (a3 + 1) else f_X5_picturesOf_L4 σ n a1 a2 (a3 + 1)) else f_X5_picturesOf_L4 σ n a1 a2 (a3 + 1)))
def f_X5_picturesOf (a1 : Int32) (σ : St) : Option Int32 := f_X5_picturesOf_L4 σ 64 a1 0 0
-- X5_joinedOf
def f_X5_joinedOf_L4 (σ : St) : Nat → Int32 → Int32 → Int32 → Option Int32
  | 0, _, _, _ => none
  | n + 1, a1, a2, a3 => lf σ 1 0 (fun x1 => if x1 ≤ a3 then some a2 else ld σ 22 24 a3 (fun x2 => if x2 = (-9) then f_X5_joinedOf_L4 σ n a1 a2 (a3 + 1) else ld σ 24 24 a3 (fun x3 => if x3 = a1 then f_X5_joinedOf_L4 σ n a1 (a2 + 1) (a3 + 1) else f_X5_joinedOf_L4 σ n a1 a2 (a3 + 1))))
def f_X5_joinedOf (a1 : Int32) (σ : St) : Option Int32 := f_X5_joinedOf_L4 σ 64 a1 0 0
-- X5_manyJoined
def f_X5_manyJoined_L4 (σ : St) : Nat → Int32 → Int32 → Option Int32
  | 0, _, _ => none
  | n + 1, a1, a2 => lf σ 1 0 (fun x1 => if x1 ≤ a2 then some a1 else ld σ 22 24 a2 (fun x2 => if x2 = (-9) then f_X5_manyJoined_L4 σ n a1 (a2 + 1) else f_X5_manyJoined_L4 σ n (a1 + 1) (a2 + 1)))
def f_X5_manyJoined (σ : St) : Option Int32 := f_X5_manyJoined_L4 σ 64 0 0
-- X5_manyLeftOver
def f_X5_manyLeftOver (σ : St) : Option Int32 := lf σ 5 3 (fun x1 => bi (f_X1_manyOf 0 σ) (fun x2 => some (x1 - x2)))
-- X5_manyLoosePictures
def f_X5_manyLoosePictures_L4 (σ : St) : Nat → Int32 → Int32 → Option Int32
  | 0, _, _ => none
  | n + 1, a1, a2 => lf σ 1 0 (fun x1 => if x1 ≤ a2 then some a1 else ld σ 8 24 a2 (fun x2 => if x2 = 2 then ld σ 21 24 a2 (fun x3 => if x3 = (-9) then f_X5_manyLoosePictures_L4 σ n (a1 + 1) (a2 + 1) else f_X5_manyLoosePictures_L4 σ n a1 (a2 + 1)) else f_X5_manyLoosePictures_L4 σ n a1 (a2 + 1)))
def f_X5_manyLoosePictures (σ : St) : Option Int32 := f_X5_manyLoosePictures_L4 σ 64 0 0
-- X6_isBelow
def f_X6_isBelow (a0 a1 : Int32) : Option Int32 := if a0 < 0 then gb 0 (some 0) else if a1 ≤ a0 then gb 0 (some 0) else gb 1 (some 1)
-- X6_isSpan
def f_X6_isSpan (a0 a1 a2 : Int32) : Option Int32 := if a0 < 0 then gb 0 (some 0) else if a1 < a0 then gb 0 (some 0) else if a2 ≤ a1 then gb 0 (some 0) else gb 1 (some 1)
-- X6_block
def f_X6_block (a1 a2 a3 a4 a5 a6 : Int32) (σ : St) : Option (Int32 × St) := bi (f_X6_isBelow a1 4) (fun x1 => if x1 = 0 then some ((-2), σ) else bi (f_X6_isBelow a2 3) (fun x2 => if x2 = 0 then some ((-2), σ) else bi (f_X6_isSpan a3 a4 8) (fun x3 => if x3 = 0 then some ((-2), σ) else bi (f_X6_isSpan a5 a6 30) (fun x4 => if x4 = 0 then some ((-2), σ) else bi (f_X1_meets a1 a3 a4 a5 a6 σ) (fun x5 => if x5 = 0 then lf σ 1 0 (fun x6 => if x6 < 24 then lf σ 1 0 (fun x7 => bs (f_X3_forgetAllOf x7 σ) (fun σ8 => gb 1 (sf σ8 0 6 1 (fun σ9 => bp (f_X1_add a1 a2 a3 a4 a5 a6 σ9) (fun x10 σ11 => some (x10, σ11)))))) else some ((-4), σ)) else some ((-3), σ))))))
-- X6_words
def f_X6_words (a1 a2 : Int32) (σ : St) : Option (Int32 × St) := bi (f_X1_has a1 σ) (fun x1 => if x1 = 0 then some ((-1), σ) else if a2 < 1 then some ((-2), σ) else if a2 ≤ 99 then ld σ 8 24 a1 (fun x2 => if x2 = 1 then ld σ 13 24 a1 (fun x3 => sd σ 13 24 a1 a2 (fun σ4 => some (x3, σ4))) else some ((-3), σ)) else some ((-2), σ))
-- X6_line
def f_X6_line_B43 (a1 a2 a3 a4 a5 a6 t0 : Int32) (σ : St) : Option (Int32 × St) := if a3 < 1 then some ((-2), σ) else if a6 ≤ a3 then some ((-2), σ) else bi (f_X6_isSpan a4 a5 t0) (fun x1 => if x1 = 0 then some ((-2), σ) else lf σ 3 0 (fun x2 => if x2 < 12 then gb 1 (sf σ 0 6 1 (fun σ3 => bp (f_X2_add a1 a2 a3 a4 a5 σ3) (fun x4 σ5 => some (x4, σ5)))) else some ((-4), σ)))
def f_X6_line_B30 (a1 a2 a3 a4 a5 t0 : Int32) (σ : St) : Option (Int32 × St) := if a2 = 0 then f_X6_line_B43 a1 a2 a3 a4 a5 t0 30 σ else f_X6_line_B43 a1 a2 a3 a4 a5 t0 8 σ
def f_X6_line (a1 a2 a3 a4 a5 : Int32) (σ : St) : Option (Int32 × St) := bi (f_X6_isBelow a1 4) (fun x1 => if x1 = 0 then some ((-2), σ) else bi (f_X6_isBelow a2 2) (fun x2 => if x2 = 0 then some ((-2), σ) else if a2 = 0 then f_X6_line_B30 a1 a2 a3 a4 a5 8 σ else f_X6_line_B30 a1 a2 a3 a4 a5 30 σ))
-- X6_back
def f_X6_back (σ : St) : Option (Int32 × St) := lf σ 1 0 (fun x1 => if 1 ≤ x1 then lf σ 1 0 (fun x2 => sf σ 1 0 (x2 - 1) (fun σ3 => gb 1 (sf σ3 0 6 1 (fun σ4 => lf σ4 1 0 (fun x5 => some (x5, σ4)))))) else some ((-3), σ))
-- X6_erase
def f_X6_erase (σ : St) : Option (Int32 × St) := lf σ 3 0 (fun x1 => if 1 ≤ x1 then lf σ 3 0 (fun x2 => sf σ 3 0 (x2 - 1) (fun σ3 => gb 1 (sf σ3 0 6 1 (fun σ4 => lf σ4 3 0 (fun x5 => some (x5, σ4)))))) else some ((-3), σ))
-- X6_clear
def f_X6_clear (σ : St) : Option (Int32 × St) := lf σ 1 0 (fun x1 => sf σ 1 0 0 (fun σ2 => sf σ2 3 0 0 (fun σ3 => gb 1 (sf σ3 0 6 1 (fun σ4 => some (x1, σ4))))))
-- X6_turn
def f_X6_turn (σ : St) : Option (Int32 × St) := bs (f_X2_turnAbout σ) (fun σ1 => gb 1 (sf σ1 0 6 1 (fun σ2 => bp (f_X1_turnAbout σ2) (fun x3 σ4 => some (x3, σ4)))))
-- X6_ofBlock
def f_X6_ofBlock (a1 a2 : Int32) (σ : St) : Option Int32 := bi (f_X1_has a1 σ) (fun x1 => if x1 = 0 then some (-1) else if a2 = 0 then ld σ 7 24 a1 (fun x2 => some x2) else if a2 = 1 then ld σ 8 24 a1 (fun x3 => some x3) else if a2 = 2 then ld σ 9 24 a1 (fun x4 => some x4) else if a2 = 3 then ld σ 10 24 a1 (fun x5 => some x5) else if a2 = 4 then ld σ 11 24 a1 (fun x6 => some x6) else if a2 = 5 then ld σ 12 24 a1 (fun x7 => some x7) else if a2 = 6 then ld σ 8 24 a1 (fun x8 => if x8 = 1 then ld σ 13 24 a1 (fun x9 => some x9) else some (-9)) else some (-2))
-- X6_ofLine
def f_X6_ofLine (a1 a2 : Int32) (σ : St) : Option Int32 := bi (f_X2_has a1 σ) (fun x1 => if x1 = 0 then some (-1) else if a2 = 0 then ld σ 16 12 a1 (fun x2 => some x2) else if a2 = 1 then ld σ 17 12 a1 (fun x3 => some x3) else if a2 = 2 then ld σ 18 12 a1 (fun x4 => some x4) else if a2 = 3 then ld σ 19 12 a1 (fun x5 => some x5) else if a2 = 4 then ld σ 20 12 a1 (fun x6 => some x6) else some (-2))
-- X6_at
def f_X6_at (a1 a2 a3 : Int32) (σ : St) : Option Int32 := bi (f_X6_isBelow a1 4) (fun x1 => if x1 = 0 then some (-2) else bi (f_X6_isBelow a2 8) (fun x2 => if x2 = 0 then some (-2) else bi (f_X6_isBelow a3 30) (fun x3 => if x3 = 0 then some (-2) else bi (f_X1_firstIn a1 a2 a2 a3 a3 σ) (fun x4 => some x4))))
-- X6_reach
def f_X6_reach (a1 a2 : Int32) (σ : St) : Option Int32 := bi (f_X1_has a1 σ) (fun x1 => if x1 = 0 then some (-1) else ld σ 8 24 a1 (fun x2 => if x2 = 0 then bi (f_X6_isBelow a2 8) (fun x3 => if x3 = 0 then some (-2) else bi (f_X4_lastRow a1 a2 σ) (fun x4 => some x4)) else some (-1)))
-- X6_refresh
def f_X6_refresh (σ : St) : Option St := lf σ 0 6 (fun x1 => if x1 = 0 then some σ else bs (f_X5_build σ) (fun σ2 => bs (f_X0_build σ2) (fun σ3 => gb 0 (sf σ3 0 6 0 (fun σ4 => some σ4)))))
-- X6_under
def f_X6_under (a1 : Int32) (σ : St) : Option (Int32 × St) := bi (f_X1_has a1 σ) (fun x1 => if x1 = 0 then some ((-1), σ) else ld σ 8 24 a1 (fun x2 => if x2 = 0 then some ((-3), σ) else bs (f_X6_refresh σ) (fun σ3 => ld σ3 21 24 a1 (fun x4 => some (x4, σ3)))))
-- X6_story
def f_X6_story (a1 : Int32) (σ : St) : Option (Int32 × St) := bi (f_X1_has a1 σ) (fun x1 => if x1 = 0 then some ((-1), σ) else bs (f_X6_refresh σ) (fun σ2 => ld σ2 24 24 a1 (fun x3 => some (x3, σ2))))
-- X6_takenBy
def f_X6_takenBy (a1 : Int32) (σ : St) : Option (Int32 × St) := bi (f_X1_has a1 σ) (fun x1 => if x1 = 0 then some ((-1), σ) else ld σ 8 24 a1 (fun x2 => if x2 = 1 then bs (f_X6_refresh σ) (fun σ3 => ld σ3 22 24 a1 (fun x4 => some (x4, σ3))) else some ((-3), σ)))
-- X6_ofStory
def f_X6_ofStory (a1 a2 : Int32) (σ : St) : Option (Int32 × St) := bs (f_X6_refresh σ) (fun σ1 => bi (f_X5_has a1 σ1) (fun x2 => if x2 = 0 then some ((-1), σ1) else if a2 = 0 then bi (f_X5_headOf a1 σ1) (fun x3 => some (x3, σ1)) else if a2 = 1 then bi (f_X5_textsOf a1 σ1) (fun x4 => some (x4, σ1)) else if a2 = 2 then bi (f_X5_wordsOf a1 σ1) (fun x5 => some (x5, σ1)) else if a2 = 3 then bi (f_X5_picturesOf a1 σ1) (fun x6 => some (x6, σ1)) else if a2 = 4 then bi (f_X5_joinedOf a1 σ1) (fun x7 => some (x7, σ1)) else if a2 = 5 then ld σ1 28 24 a1 (fun x8 => some (x8, σ1)) else if a2 = 6 then ld σ1 29 24 a1 (fun x9 => some (x9, σ1)) else if a2 = 7 then ld σ1 30 24 a1 (fun x10 => some (x10, σ1)) else if a2 = 8 then bi (f_X0_isBroken a1 σ1) (fun x11 => if x11 = 0 then some (0, σ1) else some (1, σ1)) else some ((-2), σ1)))
-- X6_text
def f_X6_text (a1 a2 : Int32) (σ : St) : Option (Int32 × St) := bs (f_X6_refresh σ) (fun σ1 => bi (f_X5_has a1 σ1) (fun x2 => if x2 = 0 then some ((-1), σ1) else bi (f_X6_isBelow a2 24) (fun x3 => if x3 = 0 then some ((-2), σ1) else bi (f_X5_textAt a1 a2 σ1) (fun x4 => some (x4, σ1)))))
-- X6_mark
def f_X6_mark_B91 (a1 a2 a3 a4 t0 : Int32) (σ : St) : Option (Int32 × St) := bs (f_X3_put a1 a2 a3 a4 σ) (fun σ1 => gb 1 (sf σ1 0 6 1 (fun σ2 => some (t0, σ2))))
def f_X6_mark_B74 (a1 a2 a3 a4 : Int32) (σ : St) : Option (Int32 × St) := bi (f_X3_has a1 a2 σ) (fun x1 => if x1 = 0 then f_X6_mark_B91 a1 a2 a3 a4 0 σ else f_X6_mark_B91 a1 a2 a3 a4 1 σ)
def f_X6_mark (a1 a2 a3 a4 : Int32) (σ : St) : Option (Int32 × St) := bi (f_X1_has a1 σ) (fun x1 => if x1 = 0 then some ((-1), σ) else bi (f_X6_isBelow a2 2) (fun x2 => if x2 = 0 then some ((-2), σ) else bi (f_X6_isBelow a3 4) (fun x3 => if x3 = 0 then some ((-2), σ) else bi (f_X6_isBelow a4 100) (fun x4 => if x4 = 0 then some ((-2), σ) else ld σ 8 24 a1 (fun x5 => if x5 = 2 then some ((-3), σ) else ld σ 8 24 a1 (fun x6 => if x6 = 0 then if a2 = 0 then some ((-3), σ) else f_X6_mark_B74 a1 a2 a3 a4 σ else f_X6_mark_B74 a1 a2 a3 a4 σ))))))
-- X6_unmark
def f_X6_unmark_B41 (a1 a2 t0 : Int32) (σ : St) : Option (Int32 × St) := bs (f_X3_forget a1 a2 σ) (fun σ1 => gb 1 (sf σ1 0 6 1 (fun σ2 => some (t0, σ2))))
def f_X6_unmark (a1 a2 : Int32) (σ : St) : Option (Int32 × St) := bi (f_X1_has a1 σ) (fun x1 => if x1 = 0 then some ((-1), σ) else bi (f_X6_isBelow a2 2) (fun x2 => if x2 = 0 then some ((-2), σ) else bi (f_X3_has a1 a2 σ) (fun x3 => if x3 = 0 then f_X6_unmark_B41 a1 a2 0 σ else f_X6_unmark_B41 a1 a2 1 σ)))
-- X6_ofMark
def f_X6_ofMark (a1 a2 a3 : Int32) (σ : St) : Option Int32 := bi (f_X1_has a1 σ) (fun x1 => if x1 = 0 then some (-1) else bi (f_X6_isBelow a2 2) (fun x2 => if x2 = 0 then some (-2) else bi (f_X6_isBelow a3 2) (fun x3 => if x3 = 0 then some (-2) else if a3 = 0 then bi (f_X3_pageOf a1 a2 σ) (fun x5 => some x5) else bi (f_X3_wordOf a1 a2 σ) (fun x4 => some x4))))
-- X6_ofArticle
def f_X6_ofArticle (a1 a2 : Int32) (σ : St) : Option (Int32 × St) := bs (f_X6_refresh σ) (fun σ1 => bi (f_X0_has a1 σ1) (fun x2 => if x2 = 0 then some ((-1), σ1) else if a2 = 0 then ld σ1 31 24 a1 (fun x3 => some (x3, σ1)) else if a2 = 1 then ld σ1 33 24 a1 (fun x4 => some (x4, σ1)) else if a2 = 2 then bi (f_X0_textsOf a1 σ1) (fun x5 => some (x5, σ1)) else if a2 = 3 then bi (f_X0_wordsOf a1 σ1) (fun x6 => some (x6, σ1)) else if a2 = 4 then bi (f_X0_pagesOf a1 σ1) (fun x7 => some (x7, σ1)) else if a2 = 5 then bi (f_X0_isRing a1 σ1) (fun x8 => if x8 = 0 then some (0, σ1) else some (1, σ1)) else if a2 = 6 then ld σ1 32 24 a1 (fun x9 => bi (f_X0_isBroken x9 σ1) (fun x10 => if x10 = 0 then some (0, σ1) else some (1, σ1))) else some ((-2), σ1)))
-- X6_read
def f_X6_read (a1 a2 : Int32) (σ : St) : Option (Int32 × St) := bs (f_X6_refresh σ) (fun σ1 => bi (f_X0_has a1 σ1) (fun x2 => if x2 = 0 then some ((-1), σ1) else bi (f_X6_isBelow a2 24) (fun x3 => if x3 = 0 then some ((-2), σ1) else bi (f_X0_blockAt a1 a2 σ1) (fun x4 => some (x4, σ1)))))
-- X6_many
def f_X6_many (a1 : Int32) (σ : St) : Option (Int32 × St) := bs (f_X6_refresh σ) (fun σ1 => if a1 = 0 then lf σ1 1 0 (fun x2 => some (x2, σ1)) else if a1 = 1 then lf σ1 3 0 (fun x3 => some (x3, σ1)) else if a1 = 2 then bi (f_X1_manyOf 0 σ1) (fun x4 => some (x4, σ1)) else if a1 = 3 then bi (f_X1_manyOf 1 σ1) (fun x5 => some (x5, σ1)) else if a1 = 4 then lf σ1 5 3 (fun x6 => some (x6, σ1)) else if a1 = 5 then bi (f_X5_manyJoined σ1) (fun x7 => some (x7, σ1)) else if a1 = 6 then bi (f_X5_manyLeftOver σ1) (fun x8 => some (x8, σ1)) else if a1 = 7 then lf σ1 6 3 (fun x9 => some (x9, σ1)) else if a1 = 8 then bi (f_X0_manyRings σ1) (fun x10 => some (x10, σ1)) else if a1 = 9 then bi (f_X0_manyBroken σ1) (fun x11 => some (x11, σ1)) else if a1 = 10 then bi (f_X0_manyIdleFrom σ1) (fun x12 => some (x12, σ1)) else if a1 = 11 then bi (f_X5_manyLoosePictures σ1) (fun x13 => some (x13, σ1)) else some ((-2), σ1))
-- X7_within
def f_X7_within (a0 a1 a2 : Int32) : Option Int32 := if a0 < a1 then gb 0 (some 0) else if a2 < a0 then gb 0 (some 0) else gb 1 (some 1)
-- X7_isBlock
def f_X7_isBlock (a1 : Int32) (σ : St) : Option Int32 := lf σ 0 0 (fun x1 => bi (f_X7_within a1 0 (x1 - 1)) (fun x2 => gb x2 (some x2)))
-- X7_isMeeting
def f_X7_isMeeting (a1 a2 a3 a4 a5 : Int32) (σ : St) : Option Int32 := ld σ 3 24 a1 (fun x1 => if a3 < x1 then gb 0 (some 0) else ld σ 4 24 a1 (fun x2 => if x2 < a2 then gb 0 (some 0) else ld σ 5 24 a1 (fun x3 => if a5 < x3 then gb 0 (some 0) else ld σ 6 24 a1 (fun x4 => if x4 < a4 then gb 0 (some 0) else gb 1 (some 1)))))
-- X7_block
def f_X7_block_B219 (t0 t1 : Int32) (σ : St) : Option (Int32 × St) := sd σ 7 24 t1 t0 (fun σ1 => lf σ1 0 0 (fun x2 => sd σ1 8 48 (2 * x2) (-9) (fun σ3 => lf σ3 0 0 (fun x4 => sd σ3 8 48 ((2 * x4) + 1) (-9) (fun σ5 => lf σ5 0 0 (fun x6 => sf σ5 0 0 (x6 + 1) (fun σ7 => lf σ7 0 0 (fun x8 => some ((x8 - 1), σ7)))))))))
def f_X7_block_L80 : Nat → Int32 → Int32 → Int32 → Int32 → Int32 → Int32 → Int32 → St → Option (Int32 × St)
  | 0, _, _, _, _, _, _, _, _ => none
  | n + 1, a1, a2, a3, a4, a5, a6, a8, σ => lf σ 0 0 (fun x1 => if x1 ≤ a8 then lf σ 0 0 (fun x2 => if x2 = 24 then some ((-4), σ) else lf σ 0 0 (fun x3 => sd σ 1 24 x3 a1 (fun σ4 => lf σ4 0 0 (fun x5 => sd σ4 2 24 x5 a2 (fun σ6 => lf σ6 0 0 (fun x7 => sd σ6 3 24 x7 a3 (fun σ8 => lf σ8 0 0 (fun x9 => sd σ8 4 24 x9 a4 (fun σ10 => lf σ10 0 0 (fun x11 => sd σ10 5 24 x11 a5 (fun σ12 => lf σ12 0 0 (fun x13 => sd σ12 6 24 x13 a6 (fun σ14 => lf σ14 0 0 (fun x15 => if a2 = 1 then f_X7_block_B219 1 x15 σ14 else f_X7_block_B219 (-9) x15 σ14)))))))))))))) else ld σ 1 24 a8 (fun x16 => if x16 = a1 then bi (f_X7_isMeeting a8 a3 a4 a5 a6 σ) (fun x17 => if x17 = 0 then f_X7_block_L80 n a1 a2 a3 a4 a5 a6 (a8 + 1) σ else some ((-3), σ)) else f_X7_block_L80 n a1 a2 a3 a4 a5 a6 (a8 + 1) σ))
def f_X7_block_B49 (a1 a2 a3 a4 a5 a6 t0 : Int32) (σ : St) : Option (Int32 × St) := bi (f_X7_within a1 0 3) (fun x1 => if x1 = 0 then some ((-2), σ) else bi (f_X7_within a2 0 2) (fun x2 => if x2 = 0 then some ((-2), σ) else if t0 = 0 then some ((-2), σ) else f_X7_block_L80 64 a1 a2 a3 a4 a5 a6 0 σ))
def f_X7_block_B48 (a1 a2 a3 a4 a5 a6 : Int32) (σ : St) : Option (Int32 × St) := f_X7_block_B49 a1 a2 a3 a4 a5 a6 0 σ
def f_X7_block (a1 a2 a3 a4 a5 a6 : Int32) (σ : St) : Option (Int32 × St) := bi (f_X7_within a3 0 a4) (fun x1 => if x1 = 0 then f_X7_block_B48 a1 a2 a3 a4 a5 a6 σ else bi (f_X7_within a4 a3 7) (fun x2 => if x2 = 0 then f_X7_block_B48 a1 a2 a3 a4 a5 a6 σ else bi (f_X7_within a5 0 a6) (fun x3 => if x3 = 0 then f_X7_block_B48 a1 a2 a3 a4 a5 a6 σ else bi (f_X7_within a6 a5 29) (fun x4 => if x4 = 0 then f_X7_block_B48 a1 a2 a3 a4 a5 a6 σ else f_X7_block_B49 a1 a2 a3 a4 a5 a6 1 σ))))
-- X7_words
def f_X7_words (a1 a2 : Int32) (σ : St) : Option (Int32 × St) := bi (f_X7_isBlock a1 σ) (fun x1 => if x1 = 0 then some ((-1), σ) else bi (f_X7_within a2 1 99) (fun x2 => if x2 = 0 then some ((-2), σ) else ld σ 2 24 a1 (fun x3 => if x3 = 1 then ld σ 7 24 a1 (fun x4 => sd σ 7 24 a1 a2 (fun σ5 => some (x4, σ5))) else some ((-3), σ))))
-- X7_line
def f_X7_line_B45 (a1 a2 a3 a4 a5 a6 t0 : Int32) (σ : St) : Option (Int32 × St) := bi (f_X7_within a3 1 a6) (fun x1 => if x1 = 0 then some ((-2), σ) else bi (f_X7_within a4 0 a5) (fun x2 => if x2 = 0 then some ((-2), σ) else if a5 ≤ t0 then lf σ 0 10 (fun x3 => if x3 = 12 then some ((-4), σ) else lf σ 0 10 (fun x4 => sd σ 10 12 x4 a1 (fun σ5 => lf σ5 0 10 (fun x6 => sd σ5 11 12 x6 a2 (fun σ7 => lf σ7 0 10 (fun x8 => sd σ7 12 12 x8 a3 (fun σ9 => lf σ9 0 10 (fun x10 => sd σ9 13 12 x10 a4 (fun σ11 => lf σ11 0 10 (fun x12 => sd σ11 14 12 x12 a5 (fun σ13 => lf σ13 0 10 (fun x14 => sf σ13 0 10 (x14 + 1) (fun σ15 => lf σ15 0 10 (fun x16 => some ((x16 - 1), σ15))))))))))))))) else some ((-2), σ)))
def f_X7_line_B32 (a1 a2 a3 a4 a5 t0 : Int32) (σ : St) : Option (Int32 × St) := if a2 = 0 then f_X7_line_B45 a1 a2 a3 a4 a5 t0 29 σ else f_X7_line_B45 a1 a2 a3 a4 a5 t0 7 σ
def f_X7_line (a1 a2 a3 a4 a5 : Int32) (σ : St) : Option (Int32 × St) := bi (f_X7_within a1 0 3) (fun x1 => if x1 = 0 then some ((-2), σ) else bi (f_X7_within a2 0 1) (fun x2 => if x2 = 0 then some ((-2), σ) else if a2 = 0 then f_X7_line_B32 a1 a2 a3 a4 a5 7 σ else f_X7_line_B32 a1 a2 a3 a4 a5 29 σ))
-- X7_back
def f_X7_back (σ : St) : Option (Int32 × St) := lf σ 0 0 (fun x1 => if x1 = 0 then some ((-3), σ) else lf σ 0 0 (fun x2 => sf σ 0 0 (x2 - 1) (fun σ3 => lf σ3 0 0 (fun x4 => some (x4, σ3)))))
-- X7_erase
def f_X7_erase (σ : St) : Option (Int32 × St) := lf σ 0 10 (fun x1 => if x1 = 0 then some ((-3), σ) else lf σ 0 10 (fun x2 => sf σ 0 10 (x2 - 1) (fun σ3 => lf σ3 0 10 (fun x4 => some (x4, σ3)))))
-- X7_clear
def f_X7_clear (σ : St) : Option (Int32 × St) := lf σ 0 0 (fun x1 => sf σ 0 0 0 (fun σ2 => sf σ2 0 10 0 (fun σ3 => some (x1, σ3))))
-- X7_turn
def f_X7_turn_L70 : Nat → Int32 → Int32 → St → Option (Int32 × St)
  | 0, _, _, _ => none
  | n + 1, a1, a2, σ => lf σ 0 10 (fun x1 => if x1 ≤ a2 then some (a1, σ) else ld σ 11 12 a2 (fun x2 => if x2 = 0 then ld σ 12 12 a2 (fun x7 => sd σ 12 12 a2 (8 - x7) (fun σ8 => f_X7_turn_L70 n a1 (a2 + 1) σ8)) else ld σ 13 12 a2 (fun x3 => ld σ 14 12 a2 (fun x4 => sd σ 13 12 a2 (7 - x4) (fun σ5 => sd σ5 14 12 a2 (7 - x3) (fun σ6 => f_X7_turn_L70 n a1 (a2 + 1) σ6))))))
def f_X7_turn_L4 : Nat → Int32 → Int32 → St → Option (Int32 × St)
  | 0, _, _, _ => none
  | n + 1, a1, a2, σ => lf σ 0 0 (fun x1 => if x1 ≤ a2 then f_X7_turn_L70 64 a1 0 σ else ld σ 3 24 a2 (fun x2 => ld σ 4 24 a2 (fun x3 => sd σ 3 24 a2 (7 - x3) (fun σ4 => sd σ4 4 24 a2 (7 - x2) (fun σ5 => ld σ5 3 24 a2 (fun x6 => if x6 = x2 then f_X7_turn_L4 n (a1 + 0) (a2 + 1) σ5 else f_X7_turn_L4 n (a1 + 1) (a2 + 1) σ5))))))
def f_X7_turn (σ : St) : Option (Int32 × St) := f_X7_turn_L4 64 0 0 σ
-- X7_ofBlock
def f_X7_ofBlock (a1 a2 : Int32) (σ : St) : Option Int32 := bi (f_X7_isBlock a1 σ) (fun x1 => if x1 = 0 then some (-1) else if a2 = 0 then ld σ 1 24 a1 (fun x2 => some x2) else if a2 = 1 then ld σ 2 24 a1 (fun x3 => some x3) else if a2 = 2 then ld σ 3 24 a1 (fun x4 => some x4) else if a2 = 3 then ld σ 4 24 a1 (fun x5 => some x5) else if a2 = 4 then ld σ 5 24 a1 (fun x6 => some x6) else if a2 = 5 then ld σ 6 24 a1 (fun x7 => some x7) else if a2 = 6 then ld σ 7 24 a1 (fun x8 => some x8) else some (-2))
-- X7_ofLine
def f_X7_ofLine (a1 a2 : Int32) (σ : St) : Option Int32 := lf σ 0 10 (fun x1 => bi (f_X7_within a1 0 (x1 - 1)) (fun x2 => if x2 = 0 then some (-1) else if a2 = 0 then ld σ 10 12 a1 (fun x3 => some x3) else if a2 = 1 then ld σ 11 12 a1 (fun x4 => some x4) else if a2 = 2 then ld σ 12 12 a1 (fun x5 => some x5) else if a2 = 3 then ld σ 13 12 a1 (fun x6 => some x6) else if a2 = 4 then ld σ 14 12 a1 (fun x7 => some x7) else some (-2)))
-- X7_at
def f_X7_at_L35 (σ : St) : Nat → Int32 → Int32 → Int32 → Int32 → Option Int32
  | 0, _, _, _, _ => none
  | n + 1, a1, a2, a3, a4 => lf σ 0 0 (fun x1 => if x1 ≤ a4 then some (-9) else ld σ 1 24 a4 (fun x2 => if x2 = a1 then bi (f_X7_isMeeting a4 a2 a2 a3 a3 σ) (fun x3 => if x3 = 0 then f_X7_at_L35 σ n a1 a2 a3 (a4 + 1) else some a4) else f_X7_at_L35 σ n a1 a2 a3 (a4 + 1)))
def f_X7_at (a1 a2 a3 : Int32) (σ : St) : Option Int32 := bi (f_X7_within a1 0 3) (fun x1 => if x1 = 0 then some (-2) else bi (f_X7_within a2 0 7) (fun x2 => if x2 = 0 then some (-2) else bi (f_X7_within a3 0 29) (fun x3 => if x3 = 0 then some (-2) else f_X7_at_L35 σ 64 a1 a2 a3 0)))
-- X7_isHead
def f_X7_isHead (a1 : Int32) (σ : St) : Option Int32 := bi (f_X7_isBlock a1 σ) (fun x1 => if x1 = 0 then gb 0 (some 0) else ld σ 2 24 a1 (fun x2 => if x2 = 0 then gb 1 (some 1) else gb 0 (some 0)))
-- X7_isUpright
def f_X7_isUpright_L3 (σ : St) : Nat → Int32 → Int32 → Int32 → Int32 → Int32 → Option Int32
  | 0, _, _, _, _, _ => none
  | n + 1, a1, a2, a3, a4, a5 => lf σ 0 10 (fun x1 => if x1 ≤ a5 then gb 0 (some 0) else ld σ 10 12 a5 (fun x2 => if x2 = a1 then ld σ 11 12 a5 (fun x3 => if x3 = 0 then ld σ 12 12 a5 (fun x4 => if x4 = a2 then ld σ 13 12 a5 (fun x5 => if a4 < x5 then f_X7_isUpright_L3 σ n a1 a2 a3 a4 (a5 + 1) else ld σ 14 12 a5 (fun x6 => if x6 < a3 then f_X7_isUpright_L3 σ n a1 a2 a3 a4 (a5 + 1) else gb 1 (some 1))) else f_X7_isUpright_L3 σ n a1 a2 a3 a4 (a5 + 1)) else f_X7_isUpright_L3 σ n a1 a2 a3 a4 (a5 + 1)) else f_X7_isUpright_L3 σ n a1 a2 a3 a4 (a5 + 1)))
def f_X7_isUpright (a1 a2 a3 a4 : Int32) (σ : St) : Option Int32 := f_X7_isUpright_L3 σ 64 a1 a2 a3 a4 0
-- X7_reachesAcross
def f_X7_reachesAcross_L41 (σ : St) : Nat → Int32 → Int32 → Int32 → Option Int32
  | 0, _, _, _ => none
  | n + 1, a1, a2, a3 => if a2 < a3 then gb 1 (some 1) else ld σ 1 24 a1 (fun x1 => ld σ 6 24 a1 (fun x2 => ld σ 6 24 a1 (fun x3 => bi (f_X7_isUpright x1 a3 (x2 + 1) (x3 + 1) σ) (fun x4 => if x4 = 0 then f_X7_reachesAcross_L41 σ n a1 a2 (a3 + 1) else gb 0 (some 0)))))
def f_X7_reachesAcross (a1 a2 : Int32) (σ : St) : Option Int32 := ld σ 6 24 a1 (fun x1 => if x1 = 29 then gb 0 (some 0) else ld σ 3 24 a1 (fun x2 => ld σ 4 24 a1 (fun x3 => bi (f_X7_within a2 x2 x3) (fun x4 => if x4 = 0 then gb 0 (some 0) else ld σ 3 24 a1 (fun x5 => f_X7_reachesAcross_L41 σ 64 a1 a2 (x5 + 1))))))
-- X7_lastRow
def f_X7_lastRow_B217 (σ : St) (K : Int32 → Int32 → Int32 → Int32 → Int32 → Option Int32) (a1 a2 a3 a4 a5 t0 : Int32) : Option Int32 := if t0 = 0 then K a1 a2 a3 a4 (a5 + 1) else ld σ 12 12 a5 (fun x1 => if a4 ≤ (x1 - 1) then K a1 a2 a3 a4 (a5 + 1) else ld σ 12 12 a5 (fun x2 => K a1 a2 a3 (x2 - 1) (a5 + 1)))
def f_X7_lastRow_B216 (σ : St) (K : Int32 → Int32 → Int32 → Int32 → Int32 → Option Int32) (a1 a2 a3 a4 a5 : Int32) : Option Int32 := f_X7_lastRow_B217 σ K a1 a2 a3 a4 a5 0
def f_X7_lastRow_L144 (σ : St) : Nat → Int32 → Int32 → Int32 → Int32 → Int32 → Option Int32
  | 0, _, _, _, _, _ => none
  | n + 1, a1, a2, a3, a4, a5 => lf σ 0 10 (fun x1 => if x1 ≤ a5 then if a4 ≤ a3 then some (-9) else some a4 else ld σ 10 12 a5 (fun x2 => ld σ 1 24 a1 (fun x3 => if x2 = x3 then ld σ 11 12 a5 (fun x4 => if x4 = 1 then ld σ 13 12 a5 (fun x5 => ld σ 14 12 a5 (fun x6 => bi (f_X7_within a2 x5 x6) (fun x7 => if x7 = 0 then f_X7_lastRow_B216 σ (f_X7_lastRow_L144 σ n) a1 a2 a3 a4 a5 else ld σ 12 12 a5 (fun x8 => if x8 ≤ a3 then f_X7_lastRow_B216 σ (f_X7_lastRow_L144 σ n) a1 a2 a3 a4 a5 else f_X7_lastRow_B217 σ (f_X7_lastRow_L144 σ n) a1 a2 a3 a4 a5 1)))) else f_X7_lastRow_B216 σ (f_X7_lastRow_L144 σ n) a1 a2 a3 a4 a5) else f_X7_lastRow_B216 σ (f_X7_lastRow_L144 σ n) a1 a2 a3 a4 a5)))
def f_X7_lastRow_B98 (σ : St) (K : Int32 → Int32 → Int32 → Int32 → Int32 → Option Int32) (a1 a2 a3 a4 a5 t0 : Int32) : Option Int32 := if t0 = 0 then K a1 a2 a3 a4 (a5 + 1) else ld σ 5 24 a5 (fun x1 => if a4 ≤ (x1 - 1) then K a1 a2 a3 a4 (a5 + 1) else ld σ 5 24 a5 (fun x2 => K a1 a2 a3 (x2 - 1) (a5 + 1)))
def f_X7_lastRow_B97 (σ : St) (K : Int32 → Int32 → Int32 → Int32 → Int32 → Option Int32) (a1 a2 a3 a4 a5 : Int32) : Option Int32 := f_X7_lastRow_B98 σ K a1 a2 a3 a4 a5 0
def f_X7_lastRow_L26 (σ : St) : Nat → Int32 → Int32 → Int32 → Int32 → Int32 → Option Int32
  | 0, _, _, _, _, _ => none
  | n + 1, a1, a2, a3, a4, a5 => lf σ 0 0 (fun x1 => if x1 ≤ a5 then f_X7_lastRow_L144 σ 64 a1 a2 a3 a4 0 else ld σ 1 24 a5 (fun x2 => ld σ 1 24 a1 (fun x3 => if x2 = x3 then ld σ 2 24 a5 (fun x4 => if x4 = 0 then ld σ 3 24 a5 (fun x5 => ld σ 4 24 a5 (fun x6 => bi (f_X7_within a2 x5 x6) (fun x7 => if x7 = 0 then f_X7_lastRow_B97 σ (f_X7_lastRow_L26 σ n) a1 a2 a3 a4 a5 else ld σ 5 24 a5 (fun x8 => if x8 ≤ a3 then f_X7_lastRow_B97 σ (f_X7_lastRow_L26 σ n) a1 a2 a3 a4 a5 else f_X7_lastRow_B98 σ (f_X7_lastRow_L26 σ n) a1 a2 a3 a4 a5 1)))) else f_X7_lastRow_B97 σ (f_X7_lastRow_L26 σ n) a1 a2 a3 a4 a5) else f_X7_lastRow_B97 σ (f_X7_lastRow_L26 σ n) a1 a2 a3 a4 a5)))
def f_X7_lastRow (a1 a2 : Int32) (σ : St) : Option Int32 := bi (f_X7_reachesAcross a1 a2 σ) (fun x1 => if x1 = 0 then some (-9) else ld σ 6 24 a1 (fun x2 => f_X7_lastRow_L26 σ 64 a1 a2 x2 29 0))
-- X7_headOver
def f_X7_headOver_B63 (σ : St) (K : Int32 → Int32 → Option Int32) (a1 a2 t0 : Int32) : Option Int32 := if t0 = 0 then K a1 (a2 + 1) else ld σ 3 24 a1 (fun x1 => bi (f_X7_lastRow a2 x1 σ) (fun x2 => ld σ 5 24 a1 (fun x3 => if x2 < x3 then K a1 (a2 + 1) else some a2)))
def f_X7_headOver_B62 (σ : St) (K : Int32 → Int32 → Option Int32) (a1 a2 : Int32) : Option Int32 := f_X7_headOver_B63 σ K a1 a2 0
def f_X7_headOver_L2 (σ : St) : Nat → Int32 → Int32 → Option Int32
  | 0, _, _ => none
  | n + 1, a1, a2 => lf σ 0 0 (fun x1 => if x1 ≤ a2 then some (-9) else ld σ 2 24 a2 (fun x2 => if x2 = 0 then ld σ 1 24 a2 (fun x3 => ld σ 1 24 a1 (fun x4 => if x3 = x4 then ld σ 5 24 a1 (fun x5 => ld σ 6 24 a2 (fun x6 => if x5 ≤ x6 then f_X7_headOver_B62 σ (f_X7_headOver_L2 σ n) a1 a2 else ld σ 2 24 a1 (fun x7 => if x7 = 0 then f_X7_headOver_B62 σ (f_X7_headOver_L2 σ n) a1 a2 else f_X7_headOver_B63 σ (f_X7_headOver_L2 σ n) a1 a2 1))) else f_X7_headOver_B62 σ (f_X7_headOver_L2 σ n) a1 a2)) else f_X7_headOver_B62 σ (f_X7_headOver_L2 σ n) a1 a2))
def f_X7_headOver (a1 : Int32) (σ : St) : Option Int32 := f_X7_headOver_L2 σ 64 a1 0
-- X7_comesBehind
def f_X7_comesBehind (a1 a2 : Int32) (σ : St) : Option St := ld σ 18 24 a1 (fun x1 => sd σ 19 576 ((24 * a1) + x1) a2 (fun σ2 => ld σ2 18 24 a1 (fun x3 => sd σ2 18 24 a1 (x3 + 1) (fun σ4 => some σ4))))
-- X7_isAhead
def f_X7_isAhead (a1 a2 : Int32) (σ : St) : Option Int32 := ld σ 3 24 a1 (fun x1 => ld σ 3 24 a2 (fun x2 => if x1 = x2 then ld σ 5 24 a1 (fun x3 => ld σ 5 24 a2 (fun x4 => if x4 ≤ x3 then gb 0 (some 0) else gb 1 (some 1))) else ld σ 3 24 a1 (fun x5 => ld σ 3 24 a2 (fun x6 => if x6 ≤ x5 then gb 0 (some 0) else gb 1 (some 1)))))
-- X7_comesUnder
def f_X7_comesUnder_L15 : Nat → Int32 → Int32 → Int32 → St → Option St
  | 0, _, _, _, _ => none
  | n + 1, a1, a2, a3, σ => if a3 ≤ 0 then some σ else ld σ 19 576 (((24 * a1) + a3) - 1) (fun x1 => bi (f_X7_isAhead a2 x1 σ) (fun x2 => if x2 = 0 then some σ else ld σ 19 576 (((24 * a1) + a3) - 1) (fun x3 => sd σ 19 576 ((24 * a1) + a3) x3 (fun σ4 => sd σ4 19 576 (((24 * a1) + a3) - 1) a2 (fun σ5 => f_X7_comesUnder_L15 n a1 a2 (a3 + (-1)) σ5)))))
def f_X7_comesUnder (a1 a2 : Int32) (σ : St) : Option St := bs (f_X7_comesBehind a1 a2 σ) (fun σ1 => ld σ1 18 24 a1 (fun x2 => f_X7_comesUnder_L15 64 a1 a2 (x2 - 1) σ1))
-- X7_takes
def f_X7_takes_B116 (σ : St) (a2 a3 t0 : Int32) : Option Int32 := if t0 < a3 then gb 0 (some 0) else ld σ 1 24 a2 (fun x1 => ld σ 3 24 a2 (fun x2 => bi (f_X7_isUpright x1 x2 a3 t0 σ) (fun x3 => if x3 = 0 then gb 1 (some 1) else gb 0 (some 0))))
def f_X7_takes_B85 (σ : St) (a1 a2 t0 : Int32) : Option Int32 := ld σ 6 24 a2 (fun x1 => ld σ 6 24 a1 (fun x2 => if x2 ≤ x1 then ld σ 6 24 a1 (fun x3 => f_X7_takes_B116 σ a2 t0 x3) else ld σ 6 24 a2 (fun x4 => f_X7_takes_B116 σ a2 t0 x4)))
def f_X7_takes (a1 a2 : Int32) (σ : St) : Option Int32 := ld σ 2 24 a1 (fun x1 => if x1 = 1 then ld σ 16 24 a1 (fun x2 => if x2 = (-9) then gb 0 (some 0) else ld σ 1 24 a1 (fun x3 => ld σ 1 24 a2 (fun x4 => if x3 = x4 then ld σ 4 24 a1 (fun x5 => ld σ 3 24 a2 (fun x6 => if x5 = (x6 - 1) then ld σ 5 24 a2 (fun x7 => ld σ 5 24 a1 (fun x8 => if x7 ≤ x8 then ld σ 5 24 a1 (fun x9 => f_X7_takes_B85 σ a1 a2 x9) else ld σ 5 24 a2 (fun x10 => f_X7_takes_B85 σ a1 a2 x10))) else gb 0 (some 0))) else gb 0 (some 0)))) else gb 0 (some 0))
-- X7_takerNow
def f_X7_takerNow_B43 (σ : St) (K : Int32 → Int32 → Int32 → Option Int32) (a1 a3 : Int32) : Option Int32 := K a1 a3 (a3 + 1)
def f_X7_takerNow_L5 (σ : St) : Nat → Int32 → Int32 → Int32 → Option Int32
  | 0, _, _, _ => none
  | n + 1, a1, a2, a3 => lf σ 0 0 (fun x1 => if x1 ≤ a3 then some a2 else bi (f_X7_takes a3 a1 σ) (fun x2 => if x2 = 0 then f_X7_takerNow_L5 σ n a1 a2 (a3 + 1) else if a2 = (-9) then f_X7_takerNow_B43 σ (f_X7_takerNow_L5 σ n) a1 a3 else ld σ 5 24 a3 (fun x3 => ld σ 5 24 a2 (fun x4 => if x4 ≤ x3 then f_X7_takerNow_L5 σ n a1 a2 (a3 + 1) else f_X7_takerNow_B43 σ (f_X7_takerNow_L5 σ n) a1 a3))))
def f_X7_takerNow (a1 : Int32) (σ : St) : Option Int32 := f_X7_takerNow_L5 σ 64 a1 (-9) 0
-- X7_joins
def f_X7_joins_L2 : Nat → Int32 → St → Option (Int32 × St)
  | 0, _, _ => none
  | n + 1, a1, σ => lf σ 0 0 (fun x1 => if x1 ≤ a1 then gb 0 (some (0, σ)) else ld σ 2 24 a1 (fun x2 => if x2 = 1 then ld σ 16 24 a1 (fun x3 => if x3 = (-9) then bi (f_X7_takerNow a1 σ) (fun x4 => if x4 = (-9) then f_X7_joins_L2 n (a1 + 1) σ else sd σ 17 24 a1 x4 (fun σ5 => ld σ5 16 24 x4 (fun x6 => sd σ5 16 24 a1 x6 (fun σ7 => ld σ7 16 24 x4 (fun x8 => bs (f_X7_comesBehind x8 a1 σ7) (fun σ9 => gb 1 (some (1, σ9)))))))) else f_X7_joins_L2 n (a1 + 1) σ) else f_X7_joins_L2 n (a1 + 1) σ))
def f_X7_joins (σ : St) : Option (Int32 × St) := f_X7_joins_L2 64 0 σ
-- X7_findStories
def f_X7_findStories_B314 (K : Int32 → St → Option St) (a2 t0 t1 : Int32) (σ : St) : Option St := sd σ 21 24 t1 t0 (fun σ1 => K (a2 + 1) σ1)
def f_X7_findStories_B272 (K : Int32 → St → Option St) (a2 t0 : Int32) (σ : St) : Option St := if t0 = (-9) then ld σ 2 24 a2 (fun x1 => if x1 = 2 then f_X7_findStories_B314 K a2 (-9) a2 σ else ld σ 21 24 a2 (fun x2 => f_X7_findStories_B314 K a2 x2 a2 σ)) else ld σ 21 24 t0 (fun x3 => f_X7_findStories_B314 K a2 x3 a2 σ)
def f_X7_findStories_L224 : Nat → Int32 → St → Option St
  | 0, _, _ => none
  | n + 1, a2, σ => lf σ 0 0 (fun x1 => if x1 ≤ a2 then some σ else ld σ 2 24 a2 (fun x2 => if x2 = 1 then ld σ 16 24 a2 (fun x5 => f_X7_findStories_B272 (f_X7_findStories_L224 n) a2 x5 σ) else ld σ 2 24 a2 (fun x3 => if x3 = 2 then ld σ 15 24 a2 (fun x4 => f_X7_findStories_B272 (f_X7_findStories_L224 n) a2 x4 σ) else f_X7_findStories_B272 (f_X7_findStories_L224 n) a2 (-9) σ)))
def f_X7_findStories_B186 (K : Int32 → St → Option St) (a2 : Int32) (σ : St) : Option St := lf σ 0 21 (fun x1 => sd σ 20 24 x1 a2 (fun σ2 => lf σ2 0 21 (fun x3 => sd σ2 21 24 a2 x3 (fun σ4 => lf σ4 0 21 (fun x5 => sf σ4 0 21 (x5 + 1) (fun σ6 => K (a2 + 1) σ6))))))
def f_X7_findStories_B173 (K : Int32 → St → Option St) (a2 a3 : Int32) (σ : St) : Option St := if a3 = 0 then ld σ 2 24 a2 (fun x1 => if x1 = 0 then f_X7_findStories_B186 K a2 σ else K (a2 + 1) σ) else f_X7_findStories_B186 K a2 σ
def f_X7_findStories_B162 (K : Int32 → St → Option St) (a2 t0 : Int32) (σ : St) : Option St := if t0 = 0 then f_X7_findStories_B173 K a2 t0 σ else bs (f_X7_comesBehind a2 a2 σ) (fun σ1 => f_X7_findStories_B173 K a2 t0 σ1)
def f_X7_findStories_B161 (K : Int32 → St → Option St) (a2 : Int32) (σ : St) : Option St := f_X7_findStories_B162 K a2 0 σ
def f_X7_findStories_L128 : Nat → Int32 → St → Option St
  | 0, _, _ => none
  | n + 1, a2, σ => lf σ 0 0 (fun x1 => if x1 ≤ a2 then f_X7_findStories_L224 64 0 σ else ld σ 2 24 a2 (fun x2 => if x2 = 1 then ld σ 16 24 a2 (fun x3 => if x3 = (-9) then f_X7_findStories_B162 (f_X7_findStories_L128 n) a2 1 σ else f_X7_findStories_B161 (f_X7_findStories_L128 n) a2 σ) else f_X7_findStories_B161 (f_X7_findStories_L128 n) a2 σ))
def f_X7_findStories_L109 : Nat → Int32 → St → Option St
  | 0, _, _ => none
  | n + 1, a1, σ => if a1 = 0 then sf σ 0 21 0 (fun σ1 => f_X7_findStories_L128 64 0 σ1) else bp (f_X7_joins σ) (fun x2 σ3 => f_X7_findStories_L109 n x2 σ3)
def f_X7_findStories_L71 : Nat → Int32 → St → Option St
  | 0, _, _ => none
  | n + 1, a1, σ => lf σ 0 0 (fun x1 => if x1 ≤ a1 then f_X7_findStories_L109 64 1 σ else ld σ 16 24 a1 (fun x2 => if x2 = (-9) then f_X7_findStories_L71 n (a1 + 1) σ else ld σ 16 24 a1 (fun x3 => bs (f_X7_comesUnder x3 a1 σ) (fun σ4 => f_X7_findStories_L71 n (a1 + 1) σ4))))
def f_X7_findStories_B62 (K : Int32 → St → Option St) (a1 t0 t1 : Int32) (σ : St) : Option St := sd σ 16 24 t1 t0 (fun σ1 => K (a1 + 1) σ1)
def f_X7_findStories_L2 : Nat → Int32 → St → Option St
  | 0, _, _ => none
  | n + 1, a1, σ => lf σ 0 0 (fun x1 => if x1 ≤ a1 then f_X7_findStories_L71 64 0 σ else sd σ 18 24 a1 0 (fun σ2 => sd σ2 17 24 a1 (-9) (fun σ3 => bi (f_X7_headOver a1 σ3) (fun x4 => sd σ3 15 24 a1 x4 (fun σ5 => ld σ5 2 24 a1 (fun x6 => if x6 = 1 then ld σ5 15 24 a1 (fun x7 => f_X7_findStories_B62 (f_X7_findStories_L2 n) a1 x7 a1 σ5) else f_X7_findStories_B62 (f_X7_findStories_L2 n) a1 (-9) a1 σ5))))))
def f_X7_findStories (σ : St) : Option St := f_X7_findStories_L2 64 0 σ
-- X7_reach
def f_X7_reach (a1 a2 : Int32) (σ : St) : Option Int32 := bi (f_X7_isHead a1 σ) (fun x1 => if x1 = 0 then some (-1) else bi (f_X7_within a2 0 7) (fun x2 => if x2 = 0 then some (-2) else bi (f_X7_lastRow a1 a2 σ) (fun x3 => some x3)))
-- X7_under
def f_X7_under (a1 : Int32) (σ : St) : Option Int32 := bi (f_X7_isBlock a1 σ) (fun x1 => if x1 = 0 then some (-1) else ld σ 2 24 a1 (fun x2 => if x2 = 0 then some (-3) else bi (f_X7_headOver a1 σ) (fun x3 => some x3)))
-- X7_story
def f_X7_story (a1 : Int32) (σ : St) : Option (Int32 × St) := bi (f_X7_isBlock a1 σ) (fun x1 => if x1 = 0 then some ((-1), σ) else bs (f_X7_findStories σ) (fun σ2 => ld σ2 21 24 a1 (fun x3 => some (x3, σ2))))
-- X7_takenBy
def f_X7_takenBy (a1 : Int32) (σ : St) : Option (Int32 × St) := bi (f_X7_isBlock a1 σ) (fun x1 => if x1 = 0 then some ((-1), σ) else ld σ 2 24 a1 (fun x2 => if x2 = 1 then bs (f_X7_findStories σ) (fun σ3 => ld σ3 17 24 a1 (fun x4 => some (x4, σ3))) else some ((-3), σ)))
-- X7_mark
def f_X7_mark_B88 (a1 a2 a3 a4 t0 : Int32) (σ : St) : Option (Int32 × St) := sd σ 8 48 ((2 * a1) + a2) a3 (fun σ1 => sd σ1 9 48 ((2 * a1) + a2) a4 (fun σ2 => some (t0, σ2)))
def f_X7_mark_B68 (a1 a2 a3 a4 : Int32) (σ : St) : Option (Int32 × St) := ld σ 8 48 ((2 * a1) + a2) (fun x1 => if x1 = (-9) then f_X7_mark_B88 a1 a2 a3 a4 0 σ else f_X7_mark_B88 a1 a2 a3 a4 1 σ)
def f_X7_mark (a1 a2 a3 a4 : Int32) (σ : St) : Option (Int32 × St) := bi (f_X7_isBlock a1 σ) (fun x1 => if x1 = 0 then some ((-1), σ) else bi (f_X7_within a2 0 1) (fun x2 => if x2 = 0 then some ((-2), σ) else bi (f_X7_within a3 0 3) (fun x3 => if x3 = 0 then some ((-2), σ) else bi (f_X7_within a4 0 99) (fun x4 => if x4 = 0 then some ((-2), σ) else ld σ 2 24 a1 (fun x5 => if x5 = 2 then some ((-3), σ) else if a2 = 0 then ld σ 2 24 a1 (fun x6 => if x6 = 0 then some ((-3), σ) else f_X7_mark_B68 a1 a2 a3 a4 σ) else f_X7_mark_B68 a1 a2 a3 a4 σ)))))
-- X7_unmark
def f_X7_unmark_B42 (a1 a2 t0 : Int32) (σ : St) : Option (Int32 × St) := sd σ 8 48 ((2 * a1) + a2) (-9) (fun σ1 => some (t0, σ1))
def f_X7_unmark (a1 a2 : Int32) (σ : St) : Option (Int32 × St) := bi (f_X7_isBlock a1 σ) (fun x1 => if x1 = 0 then some ((-1), σ) else bi (f_X7_within a2 0 1) (fun x2 => if x2 = 0 then some ((-2), σ) else ld σ 8 48 ((2 * a1) + a2) (fun x3 => if x3 = (-9) then f_X7_unmark_B42 a1 a2 0 σ else f_X7_unmark_B42 a1 a2 1 σ)))
-- X7_ofMark
def f_X7_ofMark (a1 a2 a3 : Int32) (σ : St) : Option Int32 := bi (f_X7_isBlock a1 σ) (fun x1 => if x1 = 0 then some (-1) else bi (f_X7_within a2 0 1) (fun x2 => if x2 = 0 then some (-2) else bi (f_X7_within a3 0 1) (fun x3 => if x3 = 0 then some (-2) else ld σ 8 48 ((2 * a1) + a2) (fun x4 => if x4 = (-9) then some x4 else if a3 = 0 then some x4 else ld σ 9 48 ((2 * a1) + a2) (fun x5 => some x5)))))
-- X7_onwardOf
def f_X7_onwardOf_L13 (σ : St) : Nat → Int32 → Int32 → Int32 → Option Int32
  | 0, _, _, _ => none
  | n + 1, a2, a3, a4 => ld σ 18 24 a3 (fun x1 => if x1 ≤ a4 then some a2 else ld σ 19 576 ((24 * a3) + a4) (fun x2 => ld σ 8 48 (2 * x2) (fun x3 => if x3 = (-9) then f_X7_onwardOf_L13 σ n a2 a3 (a4 + 1) else f_X7_onwardOf_L13 σ n x2 a3 (a4 + 1))))
def f_X7_onwardOf (a1 : Int32) (σ : St) : Option Int32 := ld σ 20 24 a1 (fun x1 => f_X7_onwardOf_L13 σ 64 (-9) x1 0)
-- X7_aimBy
def f_X7_aimBy_B61 (σ : St) (K : Int32 → Int32 → Option Int32) (a1 a2 t0 : Int32) : Option Int32 := if t0 = 0 then K a1 (a2 + 1) else ld σ 9 48 ((2 * a2) + 1) (fun x1 => ld σ 9 48 (2 * a1) (fun x2 => if x1 = x2 then ld σ 21 24 a2 (fun x3 => some x3) else K a1 (a2 + 1)))
def f_X7_aimBy_B60 (σ : St) (K : Int32 → Int32 → Option Int32) (a1 a2 : Int32) : Option Int32 := f_X7_aimBy_B61 σ K a1 a2 0
def f_X7_aimBy_L2 (σ : St) : Nat → Int32 → Int32 → Option Int32
  | 0, _, _ => none
  | n + 1, a1, a2 => lf σ 0 0 (fun x1 => if x1 ≤ a2 then some (-9) else ld σ 2 24 a2 (fun x2 => if x2 = 2 then f_X7_aimBy_B60 σ (f_X7_aimBy_L2 σ n) a1 a2 else ld σ 1 24 a2 (fun x3 => ld σ 8 48 (2 * a1) (fun x4 => if x3 = x4 then ld σ 8 48 ((2 * a2) + 1) (fun x5 => ld σ 1 24 a1 (fun x6 => if x5 = x6 then f_X7_aimBy_B61 σ (f_X7_aimBy_L2 σ n) a1 a2 1 else f_X7_aimBy_B60 σ (f_X7_aimBy_L2 σ n) a1 a2)) else f_X7_aimBy_B60 σ (f_X7_aimBy_L2 σ n) a1 a2))))
def f_X7_aimBy (a1 : Int32) (σ : St) : Option Int32 := f_X7_aimBy_L2 σ 64 a1 0
-- X7_lays
def f_X7_lays_B82  (σ : St) : Option St := lf σ 0 28 (fun x1 => sf σ 0 28 (x1 + 1) (fun σ2 => lf σ2 0 28 (fun x3 => lf σ2 0 33 (fun x4 => sd σ2 26 25 x3 x4 (fun σ5 => some σ5)))))
def f_X7_lays_L25 : Nat → Int32 → St → Option St
  | 0, _, _ => none
  | n + 1, a3, σ => if a3 = (-9) then f_X7_lays_B82 σ else ld σ 29 24 a3 (fun x1 => if x1 = (-9) then lf σ 0 28 (fun x2 => sd σ 29 24 a3 x2 (fun σ3 => lf σ3 0 33 (fun x4 => sd σ3 28 24 x4 a3 (fun σ5 => lf σ5 0 33 (fun x6 => sf σ5 0 33 (x6 + 1) (fun σ7 => ld σ7 24 24 a3 (fun x8 => f_X7_lays_L25 n x8 σ7))))))) else f_X7_lays_B82 σ)
def f_X7_lays (a1 a2 : Int32) (σ : St) : Option St := lf σ 0 28 (fun x1 => lf σ 0 33 (fun x2 => sd σ 26 25 x1 x2 (fun σ3 => lf σ3 0 28 (fun x4 => gb a2 (sd σ3 27 24 x4 a2 (fun σ5 => f_X7_lays_L25 64 a1 σ5))))))
-- X7_findArticles
def f_X7_findArticles_L193 : Nat → Int32 → St → Option St
  | 0, _, _ => none
  | n + 1, a1, σ => lf σ 0 21 (fun x1 => if x1 ≤ a1 then some σ else ld σ 29 24 a1 (fun x2 => if x2 = (-9) then bs (f_X7_lays a1 1 σ) (fun σ3 => f_X7_findArticles_L193 n (a1 + 1) σ3) else f_X7_findArticles_L193 n (a1 + 1) σ))
def f_X7_findArticles_L160 : Nat → Int32 → St → Option St
  | 0, _, _ => none
  | n + 1, a1, σ => lf σ 0 21 (fun x1 => if x1 ≤ a1 then f_X7_findArticles_L193 64 0 σ else ld σ 25 24 a1 (fun x2 => if x2 = (-9) then bs (f_X7_lays a1 0 σ) (fun σ3 => f_X7_findArticles_L160 n (a1 + 1) σ3) else f_X7_findArticles_L160 n (a1 + 1) σ))
def f_X7_findArticles_L91 : Nat → Int32 → St → Option St
  | 0, _, _ => none
  | n + 1, a1, σ => lf σ 0 21 (fun x1 => if x1 ≤ a1 then sf σ 0 28 0 (fun σ2 => sf σ2 0 33 0 (fun σ3 => f_X7_findArticles_L160 64 0 σ3)) else ld σ 23 24 a1 (fun x4 => if x4 = (-9) then f_X7_findArticles_L91 n (a1 + 1) σ else if x4 = a1 then f_X7_findArticles_L91 n (a1 + 1) σ else ld σ 25 24 x4 (fun x5 => if x5 = (-9) then sd σ 25 24 x4 a1 (fun σ6 => sd σ6 24 24 a1 x4 (fun σ7 => f_X7_findArticles_L91 n (a1 + 1) σ7)) else f_X7_findArticles_L91 n (a1 + 1) σ)))
def f_X7_findArticles_B58 (K : Int32 → St → Option St) (a1 t0 t1 : Int32) (σ : St) : Option St := sd σ 23 24 t1 t0 (fun σ1 => sd σ1 24 24 a1 (-9) (fun σ2 => sd σ2 25 24 a1 (-9) (fun σ3 => sd σ3 29 24 a1 (-9) (fun σ4 => K (a1 + 1) σ4))))
def f_X7_findArticles_B36 (K : Int32 → St → Option St) (a1 a2 t0 t1 : Int32) (σ : St) : Option St := gb t0 (sd σ 22 24 t1 t0 (fun σ1 => if a2 = (-9) then f_X7_findArticles_B58 K a1 (-9) a1 σ1 else bi (f_X7_aimBy a2 σ1) (fun x2 => f_X7_findArticles_B58 K a1 x2 a1 σ1)))
def f_X7_findArticles_L6 : Nat → Int32 → St → Option St
  | 0, _, _ => none
  | n + 1, a1, σ => lf σ 0 21 (fun x1 => if x1 ≤ a1 then f_X7_findArticles_L91 64 0 σ else bi (f_X7_onwardOf a1 σ) (fun x2 => if x2 = (-9) then f_X7_findArticles_B36 (f_X7_findArticles_L6 n) a1 x2 0 a1 σ else f_X7_findArticles_B36 (f_X7_findArticles_L6 n) a1 x2 1 a1 σ))
def f_X7_findArticles (σ : St) : Option St := bs (f_X7_findStories σ) (fun σ1 => f_X7_findArticles_L6 64 0 σ1)
-- X7_isBroken
def f_X7_isBroken (a1 : Int32) (σ : St) : Option Int32 := ld σ 22 24 a1 (fun x1 => if x1 = 0 then gb 0 (some 0) else ld σ 24 24 a1 (fun x2 => if x2 = (-9) then gb 1 (some 1) else gb 0 (some 0)))
-- X7_wordsIn
def f_X7_wordsIn_L12 (σ : St) : Nat → Int32 → Int32 → Int32 → Option Int32
  | 0, _, _, _ => none
  | n + 1, a2, a3, a4 => ld σ 18 24 a2 (fun x1 => if x1 ≤ a4 then some a3 else ld σ 19 576 ((24 * a2) + a4) (fun x2 => ld σ 7 24 x2 (fun x3 => f_X7_wordsIn_L12 σ n a2 (a3 + x3) (a4 + 1))))
def f_X7_wordsIn (a1 : Int32) (σ : St) : Option Int32 := ld σ 20 24 a1 (fun x1 => f_X7_wordsIn_L12 σ 64 x1 0 0)
-- X7_manyIn
def f_X7_manyIn_B77 (σ : St) (K : Int32 → Int32 → Int32 → Int32 → Option Int32) (a1 a2 a4 t0 : Int32) : Option Int32 := K a1 a2 (t0 + 0) (a4 + 1)
def f_X7_manyIn_B54 (σ : St) (K : Int32 → Int32 → Int32 → Int32 → Option Int32) (a1 a2 a3 a4 t0 : Int32) : Option Int32 := if t0 = 0 then f_X7_manyIn_B77 σ K a1 a2 a4 a3 else ld σ 21 24 a4 (fun x1 => if x1 = a1 then K a1 a2 (a3 + 1) (a4 + 1) else f_X7_manyIn_B77 σ K a1 a2 a4 a3)
def f_X7_manyIn_L5 (σ : St) : Nat → Int32 → Int32 → Int32 → Int32 → Option Int32
  | 0, _, _, _, _ => none
  | n + 1, a1, a2, a3, a4 => lf σ 0 0 (fun x1 => if x1 ≤ a4 then some a3 else if a2 = 0 then ld σ 17 24 a4 (fun x2 => if x2 = (-9) then f_X7_manyIn_B54 σ (f_X7_manyIn_L5 σ n) a1 a2 a3 a4 0 else f_X7_manyIn_B54 σ (f_X7_manyIn_L5 σ n) a1 a2 a3 a4 1) else ld σ 2 24 a4 (fun x3 => if x3 = 2 then f_X7_manyIn_B54 σ (f_X7_manyIn_L5 σ n) a1 a2 a3 a4 1 else f_X7_manyIn_B54 σ (f_X7_manyIn_L5 σ n) a1 a2 a3 a4 0))
def f_X7_manyIn (a1 a2 : Int32) (σ : St) : Option Int32 := f_X7_manyIn_L5 σ 64 a1 a2 0 0
-- X7_isStory
def f_X7_isStory (a1 : Int32) (σ : St) : Option (Int32 × St) := bs (f_X7_findArticles σ) (fun σ1 => lf σ1 0 21 (fun x2 => bi (f_X7_within a1 0 (x2 - 1)) (fun x3 => gb x3 (some (x3, σ1)))))
-- X7_ofStory
def f_X7_ofStory (a1 a2 : Int32) (σ : St) : Option (Int32 × St) := bp (f_X7_isStory a1 σ) (fun x1 σ2 => if x1 = 0 then some ((-1), σ2) else ld σ2 20 24 a1 (fun x3 => if a2 = 0 then ld σ2 2 24 x3 (fun x4 => if x4 = 0 then some (x3, σ2) else some ((-9), σ2)) else if a2 = 1 then ld σ2 18 24 x3 (fun x5 => some (x5, σ2)) else if a2 = 2 then bi (f_X7_wordsIn a1 σ2) (fun x6 => some (x6, σ2)) else if a2 = 3 then bi (f_X7_manyIn a1 1 σ2) (fun x7 => some (x7, σ2)) else if a2 = 4 then bi (f_X7_manyIn a1 0 σ2) (fun x8 => some (x8, σ2)) else if a2 = 5 then ld σ2 24 24 a1 (fun x9 => some (x9, σ2)) else if a2 = 6 then ld σ2 25 24 a1 (fun x10 => some (x10, σ2)) else if a2 = 7 then ld σ2 29 24 a1 (fun x11 => some (x11, σ2)) else if a2 = 8 then bi (f_X7_isBroken a1 σ2) (fun x12 => if x12 = 0 then some (0, σ2) else some (1, σ2)) else some ((-2), σ2)))
-- X7_text
def f_X7_text (a1 a2 : Int32) (σ : St) : Option (Int32 × St) := bp (f_X7_isStory a1 σ) (fun x1 σ2 => if x1 = 0 then some ((-1), σ2) else bi (f_X7_within a2 0 23) (fun x3 => if x3 = 0 then some ((-2), σ2) else ld σ2 20 24 a1 (fun x4 => ld σ2 18 24 x4 (fun x5 => if x5 ≤ a2 then some ((-9), σ2) else ld σ2 19 576 ((24 * x4) + a2) (fun x6 => some (x6, σ2))))))
-- X7_isArticle
def f_X7_isArticle (a1 : Int32) (σ : St) : Option (Int32 × St) := bs (f_X7_findArticles σ) (fun σ1 => lf σ1 0 28 (fun x2 => bi (f_X7_within a1 0 (x2 - 1)) (fun x3 => gb x3 (some (x3, σ1)))))
-- X7_sumOf
def f_X7_sumOf_L10 (σ : St) : Nat → Int32 → Int32 → Int32 → Int32 → Option Int32
  | 0, _, _, _, _ => none
  | n + 1, a1, a2, a3, a4 => ld σ 26 25 (a1 + 1) (fun x1 => if x1 ≤ a4 then some a3 else if a2 = 0 then ld σ 28 24 a4 (fun x2 => ld σ 20 24 x2 (fun x3 => ld σ 18 24 x3 (fun x4 => f_X7_sumOf_L10 σ n a1 a2 (a3 + x4) (a4 + 1)))) else ld σ 28 24 a4 (fun x5 => bi (f_X7_wordsIn x5 σ) (fun x6 => f_X7_sumOf_L10 σ n a1 a2 (a3 + x6) (a4 + 1))))
def f_X7_sumOf (a1 a2 : Int32) (σ : St) : Option Int32 := ld σ 26 25 a1 (fun x1 => f_X7_sumOf_L10 σ 64 a1 a2 0 x1)
-- X7_pagesOf
def f_X7_pagesOf_B42 (σ : St) (K : Int32 → Int32 → Int32 → Option Int32) (a1 a2 a3 t0 : Int32) : Option Int32 := if t0 = 0 then K a1 (a2 ||| 0) (a3 + 1) else ld σ 1 24 a3 (fun x1 => K a1 (a2 ||| (1 <<< (x1 &&& 31))) (a3 + 1))
def f_X7_pagesOf_B41 (σ : St) (K : Int32 → Int32 → Int32 → Option Int32) (a1 a2 a3 : Int32) : Option Int32 := f_X7_pagesOf_B42 σ K a1 a2 a3 0
def f_X7_pagesOf_L4 (σ : St) : Nat → Int32 → Int32 → Int32 → Option Int32
  | 0, _, _, _ => none
  | n + 1, a1, a2, a3 => lf σ 0 0 (fun x1 => if x1 ≤ a3 then some a2 else ld σ 2 24 a3 (fun x2 => if x2 = 2 then f_X7_pagesOf_B41 σ (f_X7_pagesOf_L4 σ n) a1 a2 a3 else ld σ 21 24 a3 (fun x3 => ld σ 29 24 x3 (fun x4 => if x4 = a1 then f_X7_pagesOf_B42 σ (f_X7_pagesOf_L4 σ n) a1 a2 a3 1 else f_X7_pagesOf_B41 σ (f_X7_pagesOf_L4 σ n) a1 a2 a3))))
def f_X7_pagesOf (a1 : Int32) (σ : St) : Option Int32 := f_X7_pagesOf_L4 σ 64 a1 0 0
-- X7_ofArticle
def f_X7_ofArticle (a1 a2 : Int32) (σ : St) : Option (Int32 × St) := bp (f_X7_isArticle a1 σ) (fun x1 σ2 => if x1 = 0 then some ((-1), σ2) else if a2 = 0 then ld σ2 26 25 a1 (fun x3 => ld σ2 28 24 x3 (fun x4 => some (x4, σ2))) else if a2 = 1 then ld σ2 26 25 (a1 + 1) (fun x5 => ld σ2 26 25 a1 (fun x6 => some ((x5 - x6), σ2))) else if a2 = 2 then bi (f_X7_sumOf a1 0 σ2) (fun x7 => some (x7, σ2)) else if a2 = 3 then bi (f_X7_sumOf a1 1 σ2) (fun x8 => some (x8, σ2)) else if a2 = 4 then bi (f_X7_pagesOf a1 σ2) (fun x9 => some (x9, σ2)) else if a2 = 5 then ld σ2 27 24 a1 (fun x10 => if x10 = 0 then some (0, σ2) else some (1, σ2)) else if a2 = 6 then ld σ2 26 25 (a1 + 1) (fun x11 => ld σ2 28 24 (x11 - 1) (fun x12 => bi (f_X7_isBroken x12 σ2) (fun x13 => if x13 = 0 then some (0, σ2) else some (1, σ2)))) else some ((-2), σ2))
-- X7_read
def f_X7_read_B75 (K : Int32 → Int32 → Int32 → St → Option (Int32 × St)) (a1 a3 a4 a5 t0 : Int32) (σ : St) : Option (Int32 × St) := if t0 ≤ a3 then ld σ 18 24 a5 (fun x1 => if x1 ≤ (a3 - t0) then ld σ 18 24 a5 (fun x2 => K a1 ((a3 - t0) - x2) (a4 + 1) σ) else ld σ 19 576 ((24 * a5) + (a3 - t0)) (fun x3 => some (x3, σ))) else some (a5, σ)
def f_X7_read_L33 : Nat → Int32 → Int32 → Int32 → St → Option (Int32 × St)
  | 0, _, _, _, _ => none
  | n + 1, a1, a3, a4, σ => ld σ 26 25 (a1 + 1) (fun x1 => if x1 ≤ a4 then some ((-9), σ) else ld σ 28 24 a4 (fun x2 => ld σ 20 24 x2 (fun x3 => ld σ 2 24 x3 (fun x4 => if x4 = 0 then f_X7_read_B75 (f_X7_read_L33 n) a1 a3 a4 x3 1 σ else f_X7_read_B75 (f_X7_read_L33 n) a1 a3 a4 x3 0 σ))))
def f_X7_read (a1 a2 : Int32) (σ : St) : Option (Int32 × St) := bp (f_X7_isArticle a1 σ) (fun x1 σ2 => if x1 = 0 then some ((-1), σ2) else bi (f_X7_within a2 0 23) (fun x3 => if x3 = 0 then some ((-2), σ2) else ld σ2 26 25 a1 (fun x4 => f_X7_read_L33 64 a1 a2 x4 σ2)))
-- X7_manyOfKind
def f_X7_manyOfKind_L4 (σ : St) : Nat → Int32 → Int32 → Int32 → Option Int32
  | 0, _, _, _ => none
  | n + 1, a1, a2, a3 => lf σ 0 0 (fun x1 => if x1 ≤ a3 then some a2 else ld σ 2 24 a3 (fun x2 => if x2 = a1 then f_X7_manyOfKind_L4 σ n a1 (a2 + 1) (a3 + 1) else f_X7_manyOfKind_L4 σ n a1 (a2 + 0) (a3 + 1)))
def f_X7_manyOfKind (a1 : Int32) (σ : St) : Option Int32 := f_X7_manyOfKind_L4 σ 64 a1 0 0
-- X7_manyTexts
def f_X7_manyTexts_B56 (σ : St) (K : Int32 → Int32 → Int32 → Option Int32) (a1 a2 a3 t0 : Int32) : Option Int32 := if t0 = 0 then K a1 (a2 + 0) (a3 + 1) else K a1 (a2 + 1) (a3 + 1)
def f_X7_manyTexts_B55 (σ : St) (K : Int32 → Int32 → Int32 → Option Int32) (a1 a2 a3 : Int32) : Option Int32 := f_X7_manyTexts_B56 σ K a1 a2 a3 0
def f_X7_manyTexts_B51 (σ : St) (K : Int32 → Int32 → Int32 → Option Int32) (a1 a2 a3 : Int32) : Option Int32 := f_X7_manyTexts_B56 σ K a1 a2 a3 1
def f_X7_manyTexts_L4 (σ : St) : Nat → Int32 → Int32 → Int32 → Option Int32
  | 0, _, _, _ => none
  | n + 1, a1, a2, a3 => lf σ 0 0 (fun x1 => if x1 ≤ a3 then some a2 else ld σ 2 24 a3 (fun x2 => if x2 = 1 then if a1 = 0 then ld σ 16 24 a3 (fun x3 => if x3 = (-9) then f_X7_manyTexts_B51 σ (f_X7_manyTexts_L4 σ n) a1 a2 a3 else f_X7_manyTexts_B55 σ (f_X7_manyTexts_L4 σ n) a1 a2 a3) else ld σ 17 24 a3 (fun x4 => if x4 = (-9) then f_X7_manyTexts_B55 σ (f_X7_manyTexts_L4 σ n) a1 a2 a3 else f_X7_manyTexts_B51 σ (f_X7_manyTexts_L4 σ n) a1 a2 a3) else f_X7_manyTexts_B55 σ (f_X7_manyTexts_L4 σ n) a1 a2 a3))
def f_X7_manyTexts (a1 : Int32) (σ : St) : Option Int32 := f_X7_manyTexts_L4 σ 64 a1 0 0
-- X7_manyRings
def f_X7_manyRings_L4 (σ : St) : Nat → Int32 → Int32 → Option Int32
  | 0, _, _ => none
  | n + 1, a1, a2 => lf σ 0 28 (fun x1 => if x1 ≤ a2 then some a1 else ld σ 27 24 a2 (fun x2 => if x2 = 0 then f_X7_manyRings_L4 σ n (a1 + 0) (a2 + 1) else f_X7_manyRings_L4 σ n (a1 + 1) (a2 + 1)))
def f_X7_manyRings (σ : St) : Option Int32 := f_X7_manyRings_L4 σ 64 0 0
-- X7_manyBroken
def f_X7_manyBroken_L4 (σ : St) : Nat → Int32 → Int32 → Option Int32
  | 0, _, _ => none
  | n + 1, a1, a2 => lf σ 0 21 (fun x1 => if x1 ≤ a2 then some a1 else bi (f_X7_isBroken a2 σ) (fun x2 => if x2 = 0 then f_X7_manyBroken_L4 σ n (a1 + 0) (a2 + 1) else f_X7_manyBroken_L4 σ n (a1 + 1) (a2 + 1)))
def f_X7_manyBroken (σ : St) : Option Int32 := f_X7_manyBroken_L4 σ 64 0 0
-- X7_manyIdle
def f_X7_manyIdle_B58 (σ : St) (K : Int32 → Int32 → Option Int32) (a1 a2 t0 : Int32) : Option Int32 := if t0 = 0 then K (a1 + 0) (a2 + 1) else K (a1 + 1) (a2 + 1)
def f_X7_manyIdle_B57 (σ : St) (K : Int32 → Int32 → Option Int32) (a1 a2 : Int32) : Option Int32 := f_X7_manyIdle_B58 σ K a1 a2 0
def f_X7_manyIdle_L4 (σ : St) : Nat → Int32 → Int32 → Option Int32
  | 0, _, _ => none
  | n + 1, a1, a2 => lf σ 0 0 (fun x1 => if x1 ≤ a2 then some a1 else ld σ 2 24 a2 (fun x2 => if x2 = 2 then f_X7_manyIdle_B57 σ (f_X7_manyIdle_L4 σ n) a1 a2 else ld σ 8 48 ((2 * a2) + 1) (fun x3 => if x3 = (-9) then f_X7_manyIdle_B57 σ (f_X7_manyIdle_L4 σ n) a1 a2 else ld σ 21 24 a2 (fun x4 => ld σ 25 24 x4 (fun x5 => if x5 = (-9) then f_X7_manyIdle_B58 σ (f_X7_manyIdle_L4 σ n) a1 a2 1 else f_X7_manyIdle_B57 σ (f_X7_manyIdle_L4 σ n) a1 a2)))))
def f_X7_manyIdle (σ : St) : Option Int32 := f_X7_manyIdle_L4 σ 64 0 0
-- X7_manyLost
def f_X7_manyLost_B38 (σ : St) (K : Int32 → Int32 → Option Int32) (a2 t0 : Int32) : Option Int32 := K (t0 + 0) (a2 + 1)
def f_X7_manyLost_L4 (σ : St) : Nat → Int32 → Int32 → Option Int32
  | 0, _, _ => none
  | n + 1, a1, a2 => lf σ 0 0 (fun x1 => if x1 ≤ a2 then some a1 else ld σ 2 24 a2 (fun x2 => if x2 = 2 then ld σ 15 24 a2 (fun x3 => if x3 = (-9) then f_X7_manyLost_L4 σ n (a1 + 1) (a2 + 1) else f_X7_manyLost_B38 σ (f_X7_manyLost_L4 σ n) a2 a1) else f_X7_manyLost_B38 σ (f_X7_manyLost_L4 σ n) a2 a1))
def f_X7_manyLost (σ : St) : Option Int32 := f_X7_manyLost_L4 σ 64 0 0
-- X7_many
def f_X7_many (a1 : Int32) (σ : St) : Option (Int32 × St) := bs (f_X7_findArticles σ) (fun σ1 => if a1 = 0 then lf σ1 0 0 (fun x2 => some (x2, σ1)) else if a1 = 1 then lf σ1 0 10 (fun x3 => some (x3, σ1)) else if a1 = 2 then bi (f_X7_manyOfKind 0 σ1) (fun x4 => some (x4, σ1)) else if a1 = 3 then bi (f_X7_manyOfKind 1 σ1) (fun x5 => some (x5, σ1)) else if a1 = 4 then lf σ1 0 21 (fun x6 => some (x6, σ1)) else if a1 = 5 then bi (f_X7_manyTexts 1 σ1) (fun x7 => some (x7, σ1)) else if a1 = 6 then bi (f_X7_manyTexts 0 σ1) (fun x8 => some (x8, σ1)) else if a1 = 7 then lf σ1 0 28 (fun x9 => some (x9, σ1)) else if a1 = 8 then bi (f_X7_manyRings σ1) (fun x10 => some (x10, σ1)) else if a1 = 9 then bi (f_X7_manyBroken σ1) (fun x11 => some (x11, σ1)) else if a1 = 10 then bi (f_X7_manyIdle σ1) (fun x12 => some (x12, σ1)) else if a1 = 11 then bi (f_X7_manyLost σ1) (fun x13 => some (x13, σ1)) else some ((-2), σ1))
end
