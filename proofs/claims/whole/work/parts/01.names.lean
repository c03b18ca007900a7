-- ===== PART A: goes FIRST, ahead of the names: the tables' words, and 'selects' of the private methods out of them =====
/-- a private method of a class that the tables say can be made, by its rows of tables_1 -/
def lw_okq (q : MethodName × Nat) : Prop := (q.1.cls ≠ "java/lang/invoke/MethodHandle" ∧ q.1.cls ≠ "java/lang/invoke/VarHandle") ∧ Cond.instantiable q.1.cls q.2 ∈ tables_1 ∧ Cond.privateMethod q.1 ∈ tables_1 ∧ Cond.instanceMethod q.1 ∈ tables_1
theorem lw_p0 : lw_okq (⟨"PostsEnd", "refuse", "(I)I"⟩, 8) := ⟨⟨by decide +kernel, by decide +kernel⟩, List.mem_of_getElem? (i := 19) (by decide +kernel), List.mem_of_getElem? (i := 333) (by decide +kernel), List.mem_of_getElem? (i := 334) (by decide +kernel)⟩
theorem lw_p1 : lw_okq (⟨"PostsEnd", "refuseFar", "(I)I"⟩, 8) := ⟨⟨by decide +kernel, by decide +kernel⟩, List.mem_of_getElem? (i := 19) (by decide +kernel), List.mem_of_getElem? (i := 513) (by decide +kernel), List.mem_of_getElem? (i := 514) (by decide +kernel)⟩
theorem lw_p2 : lw_okq (⟨"PostsEnd$Pools", "isFree", "(LPostsEnd$Post;I)Z"⟩, 7) := ⟨⟨by decide +kernel, by decide +kernel⟩, List.mem_of_getElem? (i := 93) (by decide +kernel), List.mem_of_getElem? (i := 678) (by decide +kernel), List.mem_of_getElem? (i := 679) (by decide +kernel)⟩
theorem lw_p3 : lw_okq (⟨"PostsEnd$Pools", "spread", "(LPostsEnd$Post;I)V"⟩, 7) := ⟨⟨by decide +kernel, by decide +kernel⟩, List.mem_of_getElem? (i := 93) (by decide +kernel), List.mem_of_getElem? (i := 691) (by decide +kernel), List.mem_of_getElem? (i := 692) (by decide +kernel)⟩
theorem lw_p4 : lw_okq (⟨"PostsEnd$Pools", "reach", "(LPostsEnd$Post;I)I"⟩, 7) := ⟨⟨by decide +kernel, by decide +kernel⟩, List.mem_of_getElem? (i := 93) (by decide +kernel), List.mem_of_getElem? (i := 695) (by decide +kernel), List.mem_of_getElem? (i := 696) (by decide +kernel)⟩
theorem lw_p5 : lw_okq (⟨"PostsEnd$Pools", "gatherMembers", "()V"⟩, 7) := ⟨⟨by decide +kernel, by decide +kernel⟩, List.mem_of_getElem? (i := 93) (by decide +kernel), List.mem_of_getElem? (i := 722) (by decide +kernel), List.mem_of_getElem? (i := 723) (by decide +kernel)⟩
theorem lw_p6 : lw_okq (⟨"PostsEnd$Pools", "holdsHere", "(LPostsEnd$Person;)Z"⟩, 7) := ⟨⟨by decide +kernel, by decide +kernel⟩, List.mem_of_getElem? (i := 93) (by decide +kernel), List.mem_of_getElem? (i := 727) (by decide +kernel), List.mem_of_getElem? (i := 728) (by decide +kernel)⟩
theorem lw_p7 : lw_okq (⟨"PostsEnd$Ranks", "ahead", "([II)I"⟩, 6) := ⟨⟨by decide +kernel, by decide +kernel⟩, List.mem_of_getElem? (i := 127) (by decide +kernel), List.mem_of_getElem? (i := 751) (by decide +kernel), List.mem_of_getElem? (i := 752) (by decide +kernel)⟩
theorem lw_p8 : lw_okq (⟨"PostsEnd", "refusalOfChoice", "(I)I"⟩, 8) := ⟨⟨by decide +kernel, by decide +kernel⟩, List.mem_of_getElem? (i := 19) (by decide +kernel), List.mem_of_getElem? (i := 775) (by decide +kernel), List.mem_of_getElem? (i := 776) (by decide +kernel)⟩
theorem lw_p9 : lw_okq (⟨"PostsEnd$Chooser", "gatherOne", "(ILPostsEnd$Person;)V"⟩, 13) := ⟨⟨by decide +kernel, by decide +kernel⟩, List.mem_of_getElem? (i := 153) (by decide +kernel), List.mem_of_getElem? (i := 786) (by decide +kernel), List.mem_of_getElem? (i := 787) (by decide +kernel)⟩
theorem lw_p10 : lw_okq (⟨"PostsEnd$Chooser", "gatherLeast", "(I)V"⟩, 13) := ⟨⟨by decide +kernel, by decide +kernel⟩, List.mem_of_getElem? (i := 153) (by decide +kernel), List.mem_of_getElem? (i := 802) (by decide +kernel), List.mem_of_getElem? (i := 803) (by decide +kernel)⟩
theorem lw_p11 : lw_okq (⟨"PostsEnd$Chooser", "keepsSkills", "(I)Z"⟩, 13) := ⟨⟨by decide +kernel, by decide +kernel⟩, List.mem_of_getElem? (i := 153) (by decide +kernel), List.mem_of_getElem? (i := 811) (by decide +kernel), List.mem_of_getElem? (i := 812) (by decide +kernel)⟩
theorem lw_p12 : lw_okq (⟨"PostsEnd$Chooser", "weigh", "(I)V"⟩, 13) := ⟨⟨by decide +kernel, by decide +kernel⟩, List.mem_of_getElem? (i := 153) (by decide +kernel), List.mem_of_getElem? (i := 815) (by decide +kernel), List.mem_of_getElem? (i := 816) (by decide +kernel)⟩
theorem lw_p13 : lw_okq (⟨"PostsEnd$Chooser", "together", "([II)I"⟩, 13) := ⟨⟨by decide +kernel, by decide +kernel⟩, List.mem_of_getElem? (i := 153) (by decide +kernel), List.mem_of_getElem? (i := 819) (by decide +kernel), List.mem_of_getElem? (i := 820) (by decide +kernel)⟩
theorem lw_p14 : lw_okq (⟨"PostsEnd$Bumping", "gatherMarks", "()V"⟩, 4) := ⟨⟨by decide +kernel, by decide +kernel⟩, List.mem_of_getElem? (i := 202) (by decide +kernel), List.mem_of_getElem? (i := 844) (by decide +kernel), List.mem_of_getElem? (i := 845) (by decide +kernel)⟩
theorem lw_p15 : lw_okq (⟨"PostsEnd$Bumping", "bumpedBy", "(LPostsEnd$Person;)LPostsEnd$Person;"⟩, 4) := ⟨⟨by decide +kernel, by decide +kernel⟩, List.mem_of_getElem? (i := 202) (by decide +kernel), List.mem_of_getElem? (i := 850) (by decide +kernel), List.mem_of_getElem? (i := 851) (by decide +kernel)⟩
def lw_privs_1 : List (MethodName × Nat) := [(⟨"PostsEnd", "refuse", "(I)I"⟩, 8), (⟨"PostsEnd", "refuseFar", "(I)I"⟩, 8), (⟨"PostsEnd$Pools", "isFree", "(LPostsEnd$Post;I)Z"⟩, 7), (⟨"PostsEnd$Pools", "spread", "(LPostsEnd$Post;I)V"⟩, 7), (⟨"PostsEnd$Pools", "reach", "(LPostsEnd$Post;I)I"⟩, 7), (⟨"PostsEnd$Pools", "gatherMembers", "()V"⟩, 7), (⟨"PostsEnd$Pools", "holdsHere", "(LPostsEnd$Person;)Z"⟩, 7), (⟨"PostsEnd$Ranks", "ahead", "([II)I"⟩, 6), (⟨"PostsEnd", "refusalOfChoice", "(I)I"⟩, 8), (⟨"PostsEnd$Chooser", "gatherOne", "(ILPostsEnd$Person;)V"⟩, 13), (⟨"PostsEnd$Chooser", "gatherLeast", "(I)V"⟩, 13), (⟨"PostsEnd$Chooser", "keepsSkills", "(I)Z"⟩, 13), (⟨"PostsEnd$Chooser", "weigh", "(I)V"⟩, 13), (⟨"PostsEnd$Chooser", "together", "([II)I"⟩, 13), (⟨"PostsEnd$Bumping", "gatherMarks", "()V"⟩, 4), (⟨"PostsEnd$Bumping", "bumpedBy", "(LPostsEnd$Person;)LPostsEnd$Person;"⟩, 4)]
theorem lw_r1 : ∀ q ∈ lw_privs_1, lw_okq q := List.forall_mem_cons.mpr ⟨lw_p0, List.forall_mem_cons.mpr ⟨lw_p1, List.forall_mem_cons.mpr ⟨lw_p2, List.forall_mem_cons.mpr ⟨lw_p3, List.forall_mem_cons.mpr ⟨lw_p4, List.forall_mem_cons.mpr ⟨lw_p5, List.forall_mem_cons.mpr ⟨lw_p6, List.forall_mem_cons.mpr ⟨lw_p7, List.forall_mem_cons.mpr ⟨lw_p8, List.forall_mem_cons.mpr ⟨lw_p9, List.forall_mem_cons.mpr ⟨lw_p10, List.forall_mem_cons.mpr ⟨lw_p11, List.forall_mem_cons.mpr ⟨lw_p12, List.forall_mem_cons.mpr ⟨lw_p13, List.forall_mem_cons.mpr ⟨lw_p14, List.forall_mem_cons.mpr ⟨lw_p15, fun _ h => absurd h List.not_mem_nil⟩⟩⟩⟩⟩⟩⟩⟩⟩⟩⟩⟩⟩⟩⟩⟩
theorem lw_p16 : lw_okq (⟨"PostsEnd$Bumping", "mayBump", "(LPostsEnd$Person;LPostsEnd$Person;)Z"⟩, 4) := ⟨⟨by decide +kernel, by decide +kernel⟩, List.mem_of_getElem? (i := 202) (by decide +kernel), List.mem_of_getElem? (i := 854) (by decide +kernel), List.mem_of_getElem? (i := 855) (by decide +kernel)⟩
theorem lw_p17 : lw_okq (⟨"PostsEnd$Bumping", "markOf", "(LPostsEnd$Person;)I"⟩, 4) := ⟨⟨by decide +kernel, by decide +kernel⟩, List.mem_of_getElem? (i := 202) (by decide +kernel), List.mem_of_getElem? (i := 859) (by decide +kernel), List.mem_of_getElem? (i := 860) (by decide +kernel)⟩
theorem lw_p18 : lw_okq (⟨"PostsEnd$Bumping", "isBetter", "(LPostsEnd$Person;LPostsEnd$Person;)Z"⟩, 4) := ⟨⟨by decide +kernel, by decide +kernel⟩, List.mem_of_getElem? (i := 202) (by decide +kernel), List.mem_of_getElem? (i := 864) (by decide +kernel), List.mem_of_getElem? (i := 865) (by decide +kernel)⟩
theorem lw_p19 : lw_okq (⟨"PostsEnd$Offering", "leaverAt", "(I)LPostsEnd$Person;"⟩, 8) := ⟨⟨by decide +kernel, by decide +kernel⟩, List.mem_of_getElem? (i := 223) (by decide +kernel), List.mem_of_getElem? (i := 891) (by decide +kernel), List.mem_of_getElem? (i := 892) (by decide +kernel)⟩
theorem lw_p20 : lw_okq (⟨"PostsEnd$Offering", "gatherVacant", "()V"⟩, 8) := ⟨⟨by decide +kernel, by decide +kernel⟩, List.mem_of_getElem? (i := 223) (by decide +kernel), List.mem_of_getElem? (i := 919) (by decide +kernel), List.mem_of_getElem? (i := 920) (by decide +kernel)⟩
theorem lw_p21 : lw_okq (⟨"PostsEnd$Offering", "gatherWorth", "(I)V"⟩, 8) := ⟨⟨by decide +kernel, by decide +kernel⟩, List.mem_of_getElem? (i := 223) (by decide +kernel), List.mem_of_getElem? (i := 925) (by decide +kernel), List.mem_of_getElem? (i := 926) (by decide +kernel)⟩
theorem lw_p22 : lw_okq (⟨"PostsEnd$Offering", "vacantAt", "(I)LPostsEnd$Post;"⟩, 8) := ⟨⟨by decide +kernel, by decide +kernel⟩, List.mem_of_getElem? (i := 223) (by decide +kernel), List.mem_of_getElem? (i := 929) (by decide +kernel), List.mem_of_getElem? (i := 930) (by decide +kernel)⟩
theorem lw_p23 : lw_okq (⟨"PostsEnd$Offering", "worthTo", "(LPostsEnd$Person;LPostsEnd$Post;)I"⟩, 8) := ⟨⟨by decide +kernel, by decide +kernel⟩, List.mem_of_getElem? (i := 223) (by decide +kernel), List.mem_of_getElem? (i := 933) (by decide +kernel), List.mem_of_getElem? (i := 934) (by decide +kernel)⟩
theorem lw_p24 : lw_okq (⟨"PostsEnd$Offering", "fillRow", "(I)V"⟩, 8) := ⟨⟨by decide +kernel, by decide +kernel⟩, List.mem_of_getElem? (i := 223) (by decide +kernel), List.mem_of_getElem? (i := 942) (by decide +kernel), List.mem_of_getElem? (i := 943) (by decide +kernel)⟩
theorem lw_p25 : lw_okq (⟨"PostsEnd$Offering", "fillBest", "(II)V"⟩, 8) := ⟨⟨by decide +kernel, by decide +kernel⟩, List.mem_of_getElem? (i := 223) (by decide +kernel), List.mem_of_getElem? (i := 947) (by decide +kernel), List.mem_of_getElem? (i := 948) (by decide +kernel)⟩
theorem lw_p26 : lw_okq (⟨"PostsEnd$Offering", "bestFrom", "(II)I"⟩, 8) := ⟨⟨by decide +kernel, by decide +kernel⟩, List.mem_of_getElem? (i := 223) (by decide +kernel), List.mem_of_getElem? (i := 951) (by decide +kernel), List.mem_of_getElem? (i := 952) (by decide +kernel)⟩
theorem lw_p27 : lw_okq (⟨"PostsEnd$Offering", "bestWith", "(III)I"⟩, 8) := ⟨⟨by decide +kernel, by decide +kernel⟩, List.mem_of_getElem? (i := 223) (by decide +kernel), List.mem_of_getElem? (i := 955) (by decide +kernel), List.mem_of_getElem? (i := 956) (by decide +kernel)⟩
theorem lw_p28 : lw_okq (⟨"PostsEnd$Offering", "pickOffers", "()V"⟩, 8) := ⟨⟨by decide +kernel, by decide +kernel⟩, List.mem_of_getElem? (i := 223) (by decide +kernel), List.mem_of_getElem? (i := 960) (by decide +kernel), List.mem_of_getElem? (i := 961) (by decide +kernel)⟩
theorem lw_p29 : lw_okq (⟨"PostsEnd$Offering", "leastPick", "(II)I"⟩, 8) := ⟨⟨by decide +kernel, by decide +kernel⟩, List.mem_of_getElem? (i := 223) (by decide +kernel), List.mem_of_getElem? (i := 964) (by decide +kernel), List.mem_of_getElem? (i := 965) (by decide +kernel)⟩
theorem lw_p30 : lw_okq (⟨"PostsEnd$Endings", "fillLastWeek", "(I)V"⟩, 13) := ⟨⟨by decide +kernel, by decide +kernel⟩, List.mem_of_getElem? (i := 257) (by decide +kernel), List.mem_of_getElem? (i := 1023) (by decide +kernel), List.mem_of_getElem? (i := 1024) (by decide +kernel)⟩
theorem lw_p31 : lw_okq (⟨"PostsEnd$Endings", "fillWeek", "(I)V"⟩, 13) := ⟨⟨by decide +kernel, by decide +kernel⟩, List.mem_of_getElem? (i := 257) (by decide +kernel), List.mem_of_getElem? (i := 1032) (by decide +kernel), List.mem_of_getElem? (i := 1033) (by decide +kernel)⟩
def lw_privs_2 : List (MethodName × Nat) := [(⟨"PostsEnd$Bumping", "mayBump", "(LPostsEnd$Person;LPostsEnd$Person;)Z"⟩, 4), (⟨"PostsEnd$Bumping", "markOf", "(LPostsEnd$Person;)I"⟩, 4), (⟨"PostsEnd$Bumping", "isBetter", "(LPostsEnd$Person;LPostsEnd$Person;)Z"⟩, 4), (⟨"PostsEnd$Offering", "leaverAt", "(I)LPostsEnd$Person;"⟩, 8), (⟨"PostsEnd$Offering", "gatherVacant", "()V"⟩, 8), (⟨"PostsEnd$Offering", "gatherWorth", "(I)V"⟩, 8), (⟨"PostsEnd$Offering", "vacantAt", "(I)LPostsEnd$Post;"⟩, 8), (⟨"PostsEnd$Offering", "worthTo", "(LPostsEnd$Person;LPostsEnd$Post;)I"⟩, 8), (⟨"PostsEnd$Offering", "fillRow", "(I)V"⟩, 8), (⟨"PostsEnd$Offering", "fillBest", "(II)V"⟩, 8), (⟨"PostsEnd$Offering", "bestFrom", "(II)I"⟩, 8), (⟨"PostsEnd$Offering", "bestWith", "(III)I"⟩, 8), (⟨"PostsEnd$Offering", "pickOffers", "()V"⟩, 8), (⟨"PostsEnd$Offering", "leastPick", "(II)I"⟩, 8), (⟨"PostsEnd$Endings", "fillLastWeek", "(I)V"⟩, 13), (⟨"PostsEnd$Endings", "fillWeek", "(I)V"⟩, 13)]
theorem lw_r2 : ∀ q ∈ lw_privs_2, lw_okq q := List.forall_mem_cons.mpr ⟨lw_p16, List.forall_mem_cons.mpr ⟨lw_p17, List.forall_mem_cons.mpr ⟨lw_p18, List.forall_mem_cons.mpr ⟨lw_p19, List.forall_mem_cons.mpr ⟨lw_p20, List.forall_mem_cons.mpr ⟨lw_p21, List.forall_mem_cons.mpr ⟨lw_p22, List.forall_mem_cons.mpr ⟨lw_p23, List.forall_mem_cons.mpr ⟨lw_p24, List.forall_mem_cons.mpr ⟨lw_p25, List.forall_mem_cons.mpr ⟨lw_p26, List.forall_mem_cons.mpr ⟨lw_p27, List.forall_mem_cons.mpr ⟨lw_p28, List.forall_mem_cons.mpr ⟨lw_p29, List.forall_mem_cons.mpr ⟨lw_p30, List.forall_mem_cons.mpr ⟨lw_p31, fun _ h => absurd h List.not_mem_nil⟩⟩⟩⟩⟩⟩⟩⟩⟩⟩⟩⟩⟩⟩⟩⟩
theorem lw_p32 : lw_okq (⟨"PostsEnd$Endings", "keepLeast", "(II)V"⟩, 13) := ⟨⟨by decide +kernel, by decide +kernel⟩, List.mem_of_getElem? (i := 257) (by decide +kernel), List.mem_of_getElem? (i := 1037) (by decide +kernel), List.mem_of_getElem? (i := 1038) (by decide +kernel)⟩
theorem lw_p33 : lw_okq (⟨"PostsEnd$Endings", "takeLeast", "(II)V"⟩, 13) := ⟨⟨by decide +kernel, by decide +kernel⟩, List.mem_of_getElem? (i := 257) (by decide +kernel), List.mem_of_getElem? (i := 1041) (by decide +kernel), List.mem_of_getElem? (i := 1042) (by decide +kernel)⟩
theorem lw_p34 : lw_okq (⟨"PostsEnd$Endings", "behind", "(II)I"⟩, 13) := ⟨⟨by decide +kernel, by decide +kernel⟩, List.mem_of_getElem? (i := 257) (by decide +kernel), List.mem_of_getElem? (i := 1057) (by decide +kernel), List.mem_of_getElem? (i := 1058) (by decide +kernel)⟩
theorem lw_p35 : lw_okq (⟨"PostsEnd$Ranks", "gatherGrowth", "(I)V"⟩, 6) := ⟨⟨by decide +kernel, by decide +kernel⟩, List.mem_of_getElem? (i := 127) (by decide +kernel), List.mem_of_getElem? (i := 1073) (by decide +kernel), List.mem_of_getElem? (i := 1074) (by decide +kernel)⟩
theorem lw_p36 : lw_okq (⟨"PostsEnd$Ranks", "goesWith", "(III)Z"⟩, 6) := ⟨⟨by decide +kernel, by decide +kernel⟩, List.mem_of_getElem? (i := 127) (by decide +kernel), List.mem_of_getElem? (i := 1078) (by decide +kernel), List.mem_of_getElem? (i := 1079) (by decide +kernel)⟩
theorem lw_p37 : lw_okq (⟨"PostsEnd$Ranks", "gainOf", "(LPostsEnd$Telling;I)I"⟩, 6) := ⟨⟨by decide +kernel, by decide +kernel⟩, List.mem_of_getElem? (i := 127) (by decide +kernel), List.mem_of_getElem? (i := 1091) (by decide +kernel), List.mem_of_getElem? (i := 1092) (by decide +kernel)⟩
theorem lw_p38 : lw_okq (⟨"PostsEnd$Ranks", "goers", "([II)J"⟩, 6) := ⟨⟨by decide +kernel, by decide +kernel⟩, List.mem_of_getElem? (i := 127) (by decide +kernel), List.mem_of_getElem? (i := 1098) (by decide +kernel), List.mem_of_getElem? (i := 1099) (by decide +kernel)⟩
theorem lw_p39 : lw_okq (⟨"PostsEnd", "refusalsOf", "(I)I"⟩, 8) := ⟨⟨by decide +kernel, by decide +kernel⟩, List.mem_of_getElem? (i := 19) (by decide +kernel), List.mem_of_getElem? (i := 1146) (by decide +kernel), List.mem_of_getElem? (i := 1147) (by decide +kernel)⟩
theorem lw_p40 : lw_okq (⟨"PostsEndModel", "refuse", "(I)I"⟩, 66) := ⟨⟨by decide +kernel, by decide +kernel⟩, List.mem_of_getElem? (i := 1150) (by decide +kernel), List.mem_of_getElem? (i := 1360) (by decide +kernel), List.mem_of_getElem? (i := 1361) (by decide +kernel)⟩
theorem lw_p41 : lw_okq (⟨"PostsEndModel", "isUnit", "(I)Z"⟩, 66) := ⟨⟨by decide +kernel, by decide +kernel⟩, List.mem_of_getElem? (i := 1150) (by decide +kernel), List.mem_of_getElem? (i := 1375) (by decide +kernel), List.mem_of_getElem? (i := 1376) (by decide +kernel)⟩
theorem lw_p42 : lw_okq (⟨"PostsEndModel", "isPost", "(I)Z"⟩, 66) := ⟨⟨by decide +kernel, by decide +kernel⟩, List.mem_of_getElem? (i := 1150) (by decide +kernel), List.mem_of_getElem? (i := 1383) (by decide +kernel), List.mem_of_getElem? (i := 1384) (by decide +kernel)⟩
theorem lw_p43 : lw_okq (⟨"PostsEndModel", "holder", "(I)I"⟩, 66) := ⟨⟨by decide +kernel, by decide +kernel⟩, List.mem_of_getElem? (i := 1150) (by decide +kernel), List.mem_of_getElem? (i := 1387) (by decide +kernel), List.mem_of_getElem? (i := 1388) (by decide +kernel)⟩
theorem lw_p44 : lw_okq (⟨"PostsEndModel", "drop", "(I)V"⟩, 66) := ⟨⟨by decide +kernel, by decide +kernel⟩, List.mem_of_getElem? (i := 1150) (by decide +kernel), List.mem_of_getElem? (i := 1391) (by decide +kernel), List.mem_of_getElem? (i := 1392) (by decide +kernel)⟩
theorem lw_p45 : lw_okq (⟨"PostsEndModel", "isVacant", "(I)Z"⟩, 66) := ⟨⟨by decide +kernel, by decide +kernel⟩, List.mem_of_getElem? (i := 1150) (by decide +kernel), List.mem_of_getElem? (i := 1403) (by decide +kernel), List.mem_of_getElem? (i := 1404) (by decide +kernel)⟩
theorem lw_p46 : lw_okq (⟨"PostsEndModel", "isPerson", "(I)Z"⟩, 66) := ⟨⟨by decide +kernel, by decide +kernel⟩, List.mem_of_getElem? (i := 1150) (by decide +kernel), List.mem_of_getElem? (i := 1411) (by decide +kernel), List.mem_of_getElem? (i := 1412) (by decide +kernel)⟩
theorem lw_p47 : lw_okq (⟨"PostsEndModel", "refuseFar", "(I)I"⟩, 66) := ⟨⟨by decide +kernel, by decide +kernel⟩, List.mem_of_getElem? (i := 1150) (by decide +kernel), List.mem_of_getElem? (i := 1415) (by decide +kernel), List.mem_of_getElem? (i := 1416) (by decide +kernel)⟩
def lw_privs_3 : List (MethodName × Nat) := [(⟨"PostsEnd$Endings", "keepLeast", "(II)V"⟩, 13), (⟨"PostsEnd$Endings", "takeLeast", "(II)V"⟩, 13), (⟨"PostsEnd$Endings", "behind", "(II)I"⟩, 13), (⟨"PostsEnd$Ranks", "gatherGrowth", "(I)V"⟩, 6), (⟨"PostsEnd$Ranks", "goesWith", "(III)Z"⟩, 6), (⟨"PostsEnd$Ranks", "gainOf", "(LPostsEnd$Telling;I)I"⟩, 6), (⟨"PostsEnd$Ranks", "goers", "([II)J"⟩, 6), (⟨"PostsEnd", "refusalsOf", "(I)I"⟩, 8), (⟨"PostsEndModel", "refuse", "(I)I"⟩, 66), (⟨"PostsEndModel", "isUnit", "(I)Z"⟩, 66), (⟨"PostsEndModel", "isPost", "(I)Z"⟩, 66), (⟨"PostsEndModel", "holder", "(I)I"⟩, 66), (⟨"PostsEndModel", "drop", "(I)V"⟩, 66), (⟨"PostsEndModel", "isVacant", "(I)Z"⟩, 66), (⟨"PostsEndModel", "isPerson", "(I)Z"⟩, 66), (⟨"PostsEndModel", "refuseFar", "(I)I"⟩, 66)]
theorem lw_r3 : ∀ q ∈ lw_privs_3, lw_okq q := List.forall_mem_cons.mpr ⟨lw_p32, List.forall_mem_cons.mpr ⟨lw_p33, List.forall_mem_cons.mpr ⟨lw_p34, List.forall_mem_cons.mpr ⟨lw_p35, List.forall_mem_cons.mpr ⟨lw_p36, List.forall_mem_cons.mpr ⟨lw_p37, List.forall_mem_cons.mpr ⟨lw_p38, List.forall_mem_cons.mpr ⟨lw_p39, List.forall_mem_cons.mpr ⟨lw_p40, List.forall_mem_cons.mpr ⟨lw_p41, List.forall_mem_cons.mpr ⟨lw_p42, List.forall_mem_cons.mpr ⟨lw_p43, List.forall_mem_cons.mpr ⟨lw_p44, List.forall_mem_cons.mpr ⟨lw_p45, List.forall_mem_cons.mpr ⟨lw_p46, List.forall_mem_cons.mpr ⟨lw_p47, fun _ h => absurd h List.not_mem_nil⟩⟩⟩⟩⟩⟩⟩⟩⟩⟩⟩⟩⟩⟩⟩⟩
theorem lw_p48 : lw_okq (⟨"PostsEndModel", "isHere", "(I)Z"⟩, 66) := ⟨⟨by decide +kernel, by decide +kernel⟩, List.mem_of_getElem? (i := 1150) (by decide +kernel), List.mem_of_getElem? (i := 1424) (by decide +kernel), List.mem_of_getElem? (i := 1425) (by decide +kernel)⟩
theorem lw_p49 : lw_okq (⟨"PostsEndModel", "isTelling", "(I)Z"⟩, 66) := ⟨⟨by decide +kernel, by decide +kernel⟩, List.mem_of_getElem? (i := 1150) (by decide +kernel), List.mem_of_getElem? (i := 1444) (by decide +kernel), List.mem_of_getElem? (i := 1445) (by decide +kernel)⟩
theorem lw_p50 : lw_okq (⟨"PostsEndModel", "putRight", "(II)V"⟩, 66) := ⟨⟨by decide +kernel, by decide +kernel⟩, List.mem_of_getElem? (i := 1150) (by decide +kernel), List.mem_of_getElem? (i := 1448) (by decide +kernel), List.mem_of_getElem? (i := 1449) (by decide +kernel)⟩
theorem lw_p51 : lw_okq (⟨"PostsEndModel", "markOf", "(II)I"⟩, 66) := ⟨⟨by decide +kernel, by decide +kernel⟩, List.mem_of_getElem? (i := 1150) (by decide +kernel), List.mem_of_getElem? (i := 1456) (by decide +kernel), List.mem_of_getElem? (i := 1457) (by decide +kernel)⟩
theorem lw_p52 : lw_okq (⟨"PostsEndModel", "partOf", "(III)I"⟩, 66) := ⟨⟨by decide +kernel, by decide +kernel⟩, List.mem_of_getElem? (i := 1150) (by decide +kernel), List.mem_of_getElem? (i := 1460) (by decide +kernel), List.mem_of_getElem? (i := 1461) (by decide +kernel)⟩
theorem lw_p53 : lw_okq (⟨"PostsEndModel", "knownOf", "(III)I"⟩, 66) := ⟨⟨by decide +kernel, by decide +kernel⟩, List.mem_of_getElem? (i := 1150) (by decide +kernel), List.mem_of_getElem? (i := 1464) (by decide +kernel), List.mem_of_getElem? (i := 1465) (by decide +kernel)⟩
theorem lw_p54 : lw_okq (⟨"PostsEndModel", "skillFor", "(II)I"⟩, 66) := ⟨⟨by decide +kernel, by decide +kernel⟩, List.mem_of_getElem? (i := 1150) (by decide +kernel), List.mem_of_getElem? (i := 1468) (by decide +kernel), List.mem_of_getElem? (i := 1469) (by decide +kernel)⟩
theorem lw_p55 : lw_okq (⟨"PostsEndModel", "wholeYears", "(I)I"⟩, 66) := ⟨⟨by decide +kernel, by decide +kernel⟩, List.mem_of_getElem? (i := 1150) (by decide +kernel), List.mem_of_getElem? (i := 1475) (by decide +kernel), List.mem_of_getElem? (i := 1476) (by decide +kernel)⟩
theorem lw_p56 : lw_okq (⟨"PostsEndModel", "findPools", "(I)I"⟩, 66) := ⟨⟨by decide +kernel, by decide +kernel⟩, List.mem_of_getElem? (i := 1150) (by decide +kernel), List.mem_of_getElem? (i := 1483) (by decide +kernel), List.mem_of_getElem? (i := 1484) (by decide +kernel)⟩
theorem lw_p57 : lw_okq (⟨"PostsEndModel", "isBelow", "(II)Z"⟩, 66) := ⟨⟨by decide +kernel, by decide +kernel⟩, List.mem_of_getElem? (i := 1150) (by decide +kernel), List.mem_of_getElem? (i := 1487) (by decide +kernel), List.mem_of_getElem? (i := 1488) (by decide +kernel)⟩
theorem lw_p58 : lw_okq (⟨"PostsEndModel", "areLike", "(II)Z"⟩, 66) := ⟨⟨by decide +kernel, by decide +kernel⟩, List.mem_of_getElem? (i := 1150) (by decide +kernel), List.mem_of_getElem? (i := 1491) (by decide +kernel), List.mem_of_getElem? (i := 1492) (by decide +kernel)⟩
theorem lw_p59 : lw_okq (⟨"PostsEndModel", "isPool", "(II)Z"⟩, 66) := ⟨⟨by decide +kernel, by decide +kernel⟩, List.mem_of_getElem? (i := 1150) (by decide +kernel), List.mem_of_getElem? (i := 1503) (by decide +kernel), List.mem_of_getElem? (i := 1504) (by decide +kernel)⟩
theorem lw_p60 : lw_okq (⟨"PostsEndModel", "findCut", "(II)I"⟩, 66) := ⟨⟨by decide +kernel, by decide +kernel⟩, List.mem_of_getElem? (i := 1150) (by decide +kernel), List.mem_of_getElem? (i := 1510) (by decide +kernel), List.mem_of_getElem? (i := 1511) (by decide +kernel)⟩
theorem lw_p61 : lw_okq (⟨"PostsEndModel", "isOf", "(II)Z"⟩, 66) := ⟨⟨by decide +kernel, by decide +kernel⟩, List.mem_of_getElem? (i := 1150) (by decide +kernel), List.mem_of_getElem? (i := 1514) (by decide +kernel), List.mem_of_getElem? (i := 1515) (by decide +kernel)⟩
theorem lw_p62 : lw_okq (⟨"PostsEndModel", "isGuarded", "(I)Z"⟩, 66) := ⟨⟨by decide +kernel, by decide +kernel⟩, List.mem_of_getElem? (i := 1150) (by decide +kernel), List.mem_of_getElem? (i := 1518) (by decide +kernel), List.mem_of_getElem? (i := 1519) (by decide +kernel)⟩
theorem lw_p63 : lw_okq (⟨"PostsEndModel", "isAhead", "(III)Z"⟩, 66) := ⟨⟨by decide +kernel, by decide +kernel⟩, List.mem_of_getElem? (i := 1150) (by decide +kernel), List.mem_of_getElem? (i := 1522) (by decide +kernel), List.mem_of_getElem? (i := 1523) (by decide +kernel)⟩
def lw_privs_4 : List (MethodName × Nat) := [(⟨"PostsEndModel", "isHere", "(I)Z"⟩, 66), (⟨"PostsEndModel", "isTelling", "(I)Z"⟩, 66), (⟨"PostsEndModel", "putRight", "(II)V"⟩, 66), (⟨"PostsEndModel", "markOf", "(II)I"⟩, 66), (⟨"PostsEndModel", "partOf", "(III)I"⟩, 66), (⟨"PostsEndModel", "knownOf", "(III)I"⟩, 66), (⟨"PostsEndModel", "skillFor", "(II)I"⟩, 66), (⟨"PostsEndModel", "wholeYears", "(I)I"⟩, 66), (⟨"PostsEndModel", "findPools", "(I)I"⟩, 66), (⟨"PostsEndModel", "isBelow", "(II)Z"⟩, 66), (⟨"PostsEndModel", "areLike", "(II)Z"⟩, 66), (⟨"PostsEndModel", "isPool", "(II)Z"⟩, 66), (⟨"PostsEndModel", "findCut", "(II)I"⟩, 66), (⟨"PostsEndModel", "isOf", "(II)Z"⟩, 66), (⟨"PostsEndModel", "isGuarded", "(I)Z"⟩, 66), (⟨"PostsEndModel", "isAhead", "(III)Z"⟩, 66)]
theorem lw_r4 : ∀ q ∈ lw_privs_4, lw_okq q := List.forall_mem_cons.mpr ⟨lw_p48, List.forall_mem_cons.mpr ⟨lw_p49, List.forall_mem_cons.mpr ⟨lw_p50, List.forall_mem_cons.mpr ⟨lw_p51, List.forall_mem_cons.mpr ⟨lw_p52, List.forall_mem_cons.mpr ⟨lw_p53, List.forall_mem_cons.mpr ⟨lw_p54, List.forall_mem_cons.mpr ⟨lw_p55, List.forall_mem_cons.mpr ⟨lw_p56, List.forall_mem_cons.mpr ⟨lw_p57, List.forall_mem_cons.mpr ⟨lw_p58, List.forall_mem_cons.mpr ⟨lw_p59, List.forall_mem_cons.mpr ⟨lw_p60, List.forall_mem_cons.mpr ⟨lw_p61, List.forall_mem_cons.mpr ⟨lw_p62, List.forall_mem_cons.mpr ⟨lw_p63, fun _ h => absurd h List.not_mem_nil⟩⟩⟩⟩⟩⟩⟩⟩⟩⟩⟩⟩⟩⟩⟩⟩
theorem lw_p64 : lw_okq (⟨"PostsEndModel", "severanceOf", "(I)I"⟩, 66) := ⟨⟨by decide +kernel, by decide +kernel⟩, List.mem_of_getElem? (i := 1150) (by decide +kernel), List.mem_of_getElem? (i := 1535) (by decide +kernel), List.mem_of_getElem? (i := 1536) (by decide +kernel)⟩
theorem lw_p65 : lw_okq (⟨"PostsEndModel", "wrongChoice", "(II)I"⟩, 66) := ⟨⟨by decide +kernel, by decide +kernel⟩, List.mem_of_getElem? (i := 1150) (by decide +kernel), List.mem_of_getElem? (i := 1543) (by decide +kernel), List.mem_of_getElem? (i := 1544) (by decide +kernel)⟩
theorem lw_p66 : lw_okq (⟨"PostsEndModel", "findPeople", "(I)V"⟩, 66) := ⟨⟨by decide +kernel, by decide +kernel⟩, List.mem_of_getElem? (i := 1150) (by decide +kernel), List.mem_of_getElem? (i := 1547) (by decide +kernel), List.mem_of_getElem? (i := 1548) (by decide +kernel)⟩
theorem lw_p67 : lw_okq (⟨"PostsEndModel", "findChoice", "(I)V"⟩, 66) := ⟨⟨by decide +kernel, by decide +kernel⟩, List.mem_of_getElem? (i := 1150) (by decide +kernel), List.mem_of_getElem? (i := 1551) (by decide +kernel), List.mem_of_getElem? (i := 1552) (by decide +kernel)⟩
theorem lw_p68 : lw_okq (⟨"PostsEndModel", "mayGo", "(I)Z"⟩, 66) := ⟨⟨by decide +kernel, by decide +kernel⟩, List.mem_of_getElem? (i := 1150) (by decide +kernel), List.mem_of_getElem? (i := 1555) (by decide +kernel), List.mem_of_getElem? (i := 1556) (by decide +kernel)⟩
theorem lw_p69 : lw_okq (⟨"PostsEndModel", "findChain", "(I)V"⟩, 66) := ⟨⟨by decide +kernel, by decide +kernel⟩, List.mem_of_getElem? (i := 1150) (by decide +kernel), List.mem_of_getElem? (i := 1567) (by decide +kernel), List.mem_of_getElem? (i := 1568) (by decide +kernel)⟩
theorem lw_p70 : lw_okq (⟨"PostsEndModel", "takes", "(II)I"⟩, 66) := ⟨⟨by decide +kernel, by decide +kernel⟩, List.mem_of_getElem? (i := 1150) (by decide +kernel), List.mem_of_getElem? (i := 1571) (by decide +kernel), List.mem_of_getElem? (i := 1572) (by decide +kernel)⟩
theorem lw_p71 : lw_okq (⟨"PostsEndModel", "isMoved", "(I)Z"⟩, 66) := ⟨⟨by decide +kernel, by decide +kernel⟩, List.mem_of_getElem? (i := 1150) (by decide +kernel), List.mem_of_getElem? (i := 1575) (by decide +kernel), List.mem_of_getElem? (i := 1576) (by decide +kernel)⟩
theorem lw_p72 : lw_okq (⟨"PostsEndModel", "fitOf", "(II)I"⟩, 66) := ⟨⟨by decide +kernel, by decide +kernel⟩, List.mem_of_getElem? (i := 1150) (by decide +kernel), List.mem_of_getElem? (i := 1595) (by decide +kernel), List.mem_of_getElem? (i := 1596) (by decide +kernel)⟩
theorem lw_p73 : lw_okq (⟨"PostsEndModel", "findOffers", "()V"⟩, 66) := ⟨⟨by decide +kernel, by decide +kernel⟩, List.mem_of_getElem? (i := 1150) (by decide +kernel), List.mem_of_getElem? (i := 1606) (by decide +kernel), List.mem_of_getElem? (i := 1607) (by decide +kernel)⟩
theorem lw_p74 : lw_okq (⟨"PostsEndModel", "worth", "(III)I"⟩, 66) := ⟨⟨by decide +kernel, by decide +kernel⟩, List.mem_of_getElem? (i := 1150) (by decide +kernel), List.mem_of_getElem? (i := 1610) (by decide +kernel), List.mem_of_getElem? (i := 1611) (by decide +kernel)⟩
theorem lw_p75 : lw_okq (⟨"PostsEndModel", "endedBy", "(II)I"⟩, 66) := ⟨⟨by decide +kernel, by decide +kernel⟩, List.mem_of_getElem? (i := 1150) (by decide +kernel), List.mem_of_getElem? (i := 1627) (by decide +kernel), List.mem_of_getElem? (i := 1628) (by decide +kernel)⟩
theorem lw_p76 : lw_okq (⟨"PostsEndModel", "findWeeks", "(IIII)V"⟩, 66) := ⟨⟨by decide +kernel, by decide +kernel⟩, List.mem_of_getElem? (i := 1150) (by decide +kernel), List.mem_of_getElem? (i := 1641) (by decide +kernel), List.mem_of_getElem? (i := 1642) (by decide +kernel)⟩
theorem lw_p77 : lw_okq (⟨"PostsEndModel", "weekCost", "(IIIIII)I"⟩, 66) := ⟨⟨by decide +kernel, by decide +kernel⟩, List.mem_of_getElem? (i := 1150) (by decide +kernel), List.mem_of_getElem? (i := 1645) (by decide +kernel), List.mem_of_getElem? (i := 1646) (by decide +kernel)⟩
theorem lw_p78 : lw_okq (⟨"PostsEndModel", "isCut", "(III)Z"⟩, 66) := ⟨⟨by decide +kernel, by decide +kernel⟩, List.mem_of_getElem? (i := 1150) (by decide +kernel), List.mem_of_getElem? (i := 1657) (by decide +kernel), List.mem_of_getElem? (i := 1658) (by decide +kernel)⟩
def lw_privs_5 : List (MethodName × Nat) := [(⟨"PostsEndModel", "severanceOf", "(I)I"⟩, 66), (⟨"PostsEndModel", "wrongChoice", "(II)I"⟩, 66), (⟨"PostsEndModel", "findPeople", "(I)V"⟩, 66), (⟨"PostsEndModel", "findChoice", "(I)V"⟩, 66), (⟨"PostsEndModel", "mayGo", "(I)Z"⟩, 66), (⟨"PostsEndModel", "findChain", "(I)V"⟩, 66), (⟨"PostsEndModel", "takes", "(II)I"⟩, 66), (⟨"PostsEndModel", "isMoved", "(I)Z"⟩, 66), (⟨"PostsEndModel", "fitOf", "(II)I"⟩, 66), (⟨"PostsEndModel", "findOffers", "()V"⟩, 66), (⟨"PostsEndModel", "worth", "(III)I"⟩, 66), (⟨"PostsEndModel", "endedBy", "(II)I"⟩, 66), (⟨"PostsEndModel", "findWeeks", "(IIII)V"⟩, 66), (⟨"PostsEndModel", "weekCost", "(IIIIII)I"⟩, 66), (⟨"PostsEndModel", "isCut", "(III)Z"⟩, 66)]
theorem lw_r5 : ∀ q ∈ lw_privs_5, lw_okq q := List.forall_mem_cons.mpr ⟨lw_p64, List.forall_mem_cons.mpr ⟨lw_p65, List.forall_mem_cons.mpr ⟨lw_p66, List.forall_mem_cons.mpr ⟨lw_p67, List.forall_mem_cons.mpr ⟨lw_p68, List.forall_mem_cons.mpr ⟨lw_p69, List.forall_mem_cons.mpr ⟨lw_p70, List.forall_mem_cons.mpr ⟨lw_p71, List.forall_mem_cons.mpr ⟨lw_p72, List.forall_mem_cons.mpr ⟨lw_p73, List.forall_mem_cons.mpr ⟨lw_p74, List.forall_mem_cons.mpr ⟨lw_p75, List.forall_mem_cons.mpr ⟨lw_p76, List.forall_mem_cons.mpr ⟨lw_p77, List.forall_mem_cons.mpr ⟨lw_p78, fun _ h => absurd h List.not_mem_nil⟩⟩⟩⟩⟩⟩⟩⟩⟩⟩⟩⟩⟩⟩⟩
def lw_privs : List (MethodName × Nat) := lw_privs_1 ++ (lw_privs_2 ++ (lw_privs_3 ++ (lw_privs_4 ++ (lw_privs_5))))
def lw_tbl : List Cond := k2_sels lw_privs ++ tables_1
theorem lw_privs_ok : ∀ q ∈ lw_privs, lw_okq q := by
  show ∀ q ∈ lw_privs_1 ++ (lw_privs_2 ++ (lw_privs_3 ++ (lw_privs_4 ++ (lw_privs_5)))), lw_okq q
  exact List.forall_mem_append.mpr ⟨lw_r1, List.forall_mem_append.mpr ⟨lw_r2, List.forall_mem_append.mpr ⟨lw_r3, List.forall_mem_append.mpr ⟨lw_r4, lw_r5⟩⟩⟩⟩
def RX0 : String := "PostsEnd$Bumping"
def TX0 : u_T := fun k => match k with
  | 0 => ("PostsEnd$Bumping", "firm", "LPostsEnd$Firm;", true)
  | 1 => ("PostsEnd$Bumping", "marks", "[I", true)
  | 2 => ("PostsEnd$Bumping", "row", "[LPostsEnd$Person;", true)
  | _ => ("PostsEnd$Bumping", "moves", "I", false)
def tyX0 : Nat → FieldType := fun k => match k with
  | 0 => .object "PostsEnd$Firm"
  | 1 => .array .int
  | 2 => .array (.object "PostsEnd$Person")
  | _ => .int
theorem nmX0 : ∀ a, a < 4 → ∀ b, b < 4 → a ≠ b → (TX0 a).2.1 ≠ (TX0 b).2.1 := by decide +kernel
theorem tyX0_ok : ∀ k, k < 4 → parseFieldDescriptor (TX0 k).2.2.1 = some (tyX0 k) := by decide +kernel
abbrev cX0_init : ByteArray := prog_2_method_1_code
def yX0_init : MethodName := ⟨RX0, "<init>", "(LPostsEnd$Firm;)V"⟩
abbrev cX0_follow : ByteArray := prog_2_method_2_code
def yX0_follow : MethodName := ⟨RX0, "follow", "(LPostsEnd$Person;)V"⟩
abbrev cX0_gatherMarks : ByteArray := prog_2_method_3_code
def yX0_gatherMarks : MethodName := ⟨RX0, "gatherMarks", "()V"⟩
abbrev cX0_markOf : ByteArray := prog_2_method_4_code
def yX0_markOf : MethodName := ⟨RX0, "markOf", "(LPostsEnd$Person;)I"⟩
abbrev cX0_bumpedBy : ByteArray := prog_2_method_5_code
def yX0_bumpedBy : MethodName := ⟨RX0, "bumpedBy", "(LPostsEnd$Person;)LPostsEnd$Person;"⟩
abbrev cX0_mayBump : ByteArray := prog_2_method_6_code
def yX0_mayBump : MethodName := ⟨RX0, "mayBump", "(LPostsEnd$Person;LPostsEnd$Person;)Z"⟩
abbrev cX0_isBetter : ByteArray := prog_2_method_7_code
def yX0_isBetter : MethodName := ⟨RX0, "isBetter", "(LPostsEnd$Person;LPostsEnd$Person;)Z"⟩
abbrev cX0_gradeOf : ByteArray := prog_2_method_8_code
def yX0_gradeOf : MethodName := ⟨RX0, "gradeOf", "(LPostsEnd$Person;)I"⟩
abbrev cX0_personAfter : ByteArray := prog_2_method_9_code
def yX0_personAfter : MethodName := ⟨RX0, "personAfter", "(I)I"⟩
abbrev cX0_postOf : ByteArray := prog_2_method_10_code
def yX0_postOf : MethodName := ⟨RX0, "postOf", "(I)I"⟩
def RX1 : String := "PostsEnd$Chooser"
def TX1 : u_T := fun k => match k with
  | 0 => ("PostsEnd$Chooser", "firm", "LPostsEnd$Firm;", true)
  | 1 => ("PostsEnd$Chooser", "costs", "[I", true)
  | 2 => ("PostsEnd$Chooser", "marks", "[I", true)
  | 3 => ("PostsEnd$Chooser", "having", "[I", true)
  | 4 => ("PostsEnd$Chooser", "least", "[I", true)
  | 5 => ("PostsEnd$Chooser", "size", "I", false)
  | 6 => ("PostsEnd$Chooser", "barred", "I", false)
  | 7 => ("PostsEnd$Chooser", "willing", "I", false)
  | 8 => ("PostsEnd$Chooser", "set", "I", false)
  | 9 => ("PostsEnd$Chooser", "mark", "I", false)
  | 10 => ("PostsEnd$Chooser", "found", "Z", false)
  | 11 => ("PostsEnd$Chooser", "forced", "I", false)
  | _ => ("PostsEnd$Chooser", "cost", "I", false)
def tyX1 : Nat → FieldType := fun k => match k with
  | 0 => .object "PostsEnd$Firm"
  | 1 => .array .int
  | 2 => .array .int
  | 3 => .array .int
  | 4 => .array .int
  | 5 => .int
  | 6 => .int
  | 7 => .int
  | 8 => .int
  | 9 => .int
  | 10 => .boolean
  | 11 => .int
  | _ => .int
theorem nmX1 : ∀ a, a < 13 → ∀ b, b < 13 → a ≠ b → (TX1 a).2.1 ≠ (TX1 b).2.1 := by decide +kernel
theorem tyX1_ok : ∀ k, k < 13 → parseFieldDescriptor (TX1 k).2.2.1 = some (tyX1 k) := by decide +kernel
abbrev cX1_init : ByteArray := prog_3_method_1_code
def yX1_init : MethodName := ⟨RX1, "<init>", "(LPostsEnd$Firm;)V"⟩
abbrev cX1_gather : ByteArray := prog_3_method_2_code
def yX1_gather : MethodName := ⟨RX1, "gather", "(LPostsEnd$Pools;)V"⟩
abbrev cX1_choose : ByteArray := prog_3_method_3_code
def yX1_choose : MethodName := ⟨RX1, "choose", "(I)V"⟩
abbrev cX1_goes : ByteArray := prog_3_method_4_code
def yX1_goes : MethodName := ⟨RX1, "goes", "(I)Z"⟩
abbrev cX1_gatherOne : ByteArray := prog_3_method_5_code
def yX1_gatherOne : MethodName := ⟨RX1, "gatherOne", "(ILPostsEnd$Person;)V"⟩
abbrev cX1_gatherLeast : ByteArray := prog_3_method_6_code
def yX1_gatherLeast : MethodName := ⟨RX1, "gatherLeast", "(I)V"⟩
abbrev cX1_keepsSkills : ByteArray := prog_3_method_7_code
def yX1_keepsSkills : MethodName := ⟨RX1, "keepsSkills", "(I)Z"⟩
abbrev cX1_weigh : ByteArray := prog_3_method_8_code
def yX1_weigh : MethodName := ⟨RX1, "weigh", "(I)V"⟩
abbrev cX1_together : ByteArray := prog_3_method_9_code
def yX1_together : MethodName := ⟨RX1, "together", "([II)I"⟩
def RX2 : String := "PostsEnd$Endings"
def TX2 : u_T := fun k => match k with
  | 0 => ("PostsEnd$Endings", "placeRow", "[I", true)
  | 1 => ("PostsEnd$Endings", "dayRow", "[I", true)
  | 2 => ("PostsEnd$Endings", "numberRow", "[I", true)
  | 3 => ("PostsEnd$Endings", "told", "I", false)
  | 4 => ("PostsEnd$Endings", "cost", "[I", true)
  | 5 => ("PostsEnd$Endings", "goneAfter", "[I", true)
  | 6 => ("PostsEnd$Endings", "toldBy", "[I", true)
  | 7 => ("PostsEnd$Endings", "leastOfBand", "[I", true)
  | 8 => ("PostsEnd$Endings", "leastAt", "[I", true)
  | 9 => ("PostsEnd$Endings", "lastWeek", "I", false)
  | 10 => ("PostsEnd$Endings", "step", "I", false)
  | 11 => ("PostsEnd$Endings", "steps", "I", false)
  | _ => ("PostsEnd$Endings", "left", "I", false)
def tyX2 : Nat → FieldType := fun k => match k with
  | 0 => .array .int
  | 1 => .array .int
  | 2 => .array .int
  | 3 => .int
  | 4 => .array .int
  | 5 => .array .int
  | 6 => .array .int
  | 7 => .array .int
  | 8 => .array .int
  | 9 => .int
  | 10 => .int
  | 11 => .int
  | _ => .int
theorem nmX2 : ∀ a, a < 13 → ∀ b, b < 13 → a ≠ b → (TX2 a).2.1 ≠ (TX2 b).2.1 := by decide +kernel
theorem tyX2_ok : ∀ k, k < 13 → parseFieldDescriptor (TX2 k).2.2.1 = some (tyX2 k) := by decide +kernel
abbrev cX2_init : ByteArray := prog_4_method_1_code
def yX2_init : MethodName := ⟨RX2, "<init>", "()V"⟩
abbrev cX2_add : ByteArray := prog_4_method_2_code
def yX2_add : MethodName := ⟨RX2, "add", "(III)I"⟩
abbrev cX2_within : ByteArray := prog_4_method_3_code
def yX2_within : MethodName := ⟨RX2, "within", "(II)I"⟩
abbrev cX2_part : ByteArray := prog_4_method_4_code
def yX2_part : MethodName := ⟨RX2, "part", "(IIIII)V"⟩
abbrev cX2_fillLastWeek : ByteArray := prog_4_method_5_code
def yX2_fillLastWeek : MethodName := ⟨RX2, "fillLastWeek", "(I)V"⟩
abbrev cX2_weeksEach : ByteArray := prog_4_method_6_code
def yX2_weeksEach : MethodName := ⟨RX2, "weeksEach", "(II)I"⟩
abbrev cX2_fillWeek : ByteArray := prog_4_method_7_code
def yX2_fillWeek : MethodName := ⟨RX2, "fillWeek", "(I)V"⟩
abbrev cX2_keepLeast : ByteArray := prog_4_method_8_code
def yX2_keepLeast : MethodName := ⟨RX2, "keepLeast", "(II)V"⟩
abbrev cX2_takeLeast : ByteArray := prog_4_method_9_code
def yX2_takeLeast : MethodName := ⟨RX2, "takeLeast", "(II)V"⟩
abbrev cX2_weeksPaid : ByteArray := prog_4_method_10_code
def yX2_weeksPaid : MethodName := ⟨RX2, "weeksPaid", "()I"⟩
abbrev cX2_partIn : ByteArray := prog_4_method_11_code
def yX2_partIn : MethodName := ⟨RX2, "partIn", "(I)I"⟩
abbrev cX2_behind : ByteArray := prog_4_method_12_code
def yX2_behind : MethodName := ⟨RX2, "behind", "(II)I"⟩
def RX3 : String := "PostsEnd$Firm"
def TX3 : u_T := fun k => match k with
  | 0 => ("PostsEnd$Firm", "day", "I", false)
  | 1 => ("PostsEnd$Firm", "units", "I", false)
  | 2 => ("PostsEnd$Firm", "posts", "I", false)
  | 3 => ("PostsEnd$Firm", "people", "I", false)
  | 4 => ("PostsEnd$Firm", "tellings", "I", false)
  | 5 => ("PostsEnd$Firm", "rightings", "I", false)
  | 6 => ("PostsEnd$Firm", "upward", "[I", true)
  | 7 => ("PostsEnd$Firm", "postRow", "[LPostsEnd$Post;", true)
  | 8 => ("PostsEnd$Firm", "personRow", "[LPostsEnd$Person;", true)
  | 9 => ("PostsEnd$Firm", "tellingRow", "[LPostsEnd$Telling;", true)
  | 10 => ("PostsEnd$Firm", "weighed", "[I", true)
  | _ => ("PostsEnd$Firm", "setting", "[I", true)
def tyX3 : Nat → FieldType := fun k => match k with
  | 0 => .int
  | 1 => .int
  | 2 => .int
  | 3 => .int
  | 4 => .int
  | 5 => .int
  | 6 => .array .int
  | 7 => .array (.object "PostsEnd$Post")
  | 8 => .array (.object "PostsEnd$Person")
  | 9 => .array (.object "PostsEnd$Telling")
  | 10 => .array .int
  | _ => .array .int
theorem nmX3 : ∀ a, a < 12 → ∀ b, b < 12 → a ≠ b → (TX3 a).2.1 ≠ (TX3 b).2.1 := by decide +kernel
theorem tyX3_ok : ∀ k, k < 12 → parseFieldDescriptor (TX3 k).2.2.1 = some (tyX3 k) := by decide +kernel
abbrev cX3_init : ByteArray := prog_5_method_1_code
def yX3_init : MethodName := ⟨RX3, "<init>", "()V"⟩
abbrev cX3_isUnit : ByteArray := prog_5_method_2_code
def yX3_isUnit : MethodName := ⟨RX3, "isUnit", "(I)Z"⟩
abbrev cX3_postAt : ByteArray := prog_5_method_3_code
def yX3_postAt : MethodName := ⟨RX3, "postAt", "(I)LPostsEnd$Post;"⟩
abbrev cX3_personAt : ByteArray := prog_5_method_4_code
def yX3_personAt : MethodName := ⟨RX3, "personAt", "(I)LPostsEnd$Person;"⟩
abbrev cX3_tellingAt : ByteArray := prog_5_method_5_code
def yX3_tellingAt : MethodName := ⟨RX3, "tellingAt", "(I)LPostsEnd$Telling;"⟩
abbrev cX3_addUnit : ByteArray := prog_5_method_6_code
def yX3_addUnit : MethodName := ⟨RX3, "addUnit", "(I)I"⟩
abbrev cX3_addPost : ByteArray := prog_5_method_7_code
def yX3_addPost : MethodName := ⟨RX3, "addPost", "(LPostsEnd$Post;)I"⟩
abbrev cX3_addPerson : ByteArray := prog_5_method_8_code
def yX3_addPerson : MethodName := ⟨RX3, "addPerson", "(LPostsEnd$Person;)I"⟩
abbrev cX3_addTelling : ByteArray := prog_5_method_9_code
def yX3_addTelling : MethodName := ⟨RX3, "addTelling", "(LPostsEnd$Person;II)I"⟩
abbrev cX3_isOpenBelow : ByteArray := prog_5_method_10_code
def yX3_isOpenBelow : MethodName := ⟨RX3, "isOpenBelow", "(LPostsEnd$Post;I)Z"⟩
abbrev cX3_isAlike : ByteArray := prog_5_method_11_code
def yX3_isAlike : MethodName := ⟨RX3, "isAlike", "(LPostsEnd$Post;LPostsEnd$Post;)Z"⟩
abbrev cX3_isProtected : ByteArray := prog_5_method_12_code
def yX3_isProtected : MethodName := ⟨RX3, "isProtected", "(LPostsEnd$Person;)Z"⟩
abbrev cX3_wholeYears : ByteArray := prog_5_method_13_code
def yX3_wholeYears : MethodName := ⟨RX3, "wholeYears", "(LPostsEnd$Person;)I"⟩
abbrev cX3_severanceOf : ByteArray := prog_5_method_14_code
def yX3_severanceOf : MethodName := ⟨RX3, "severanceOf", "(LPostsEnd$Person;)I"⟩
abbrev cX3_partAsOf : ByteArray := prog_5_method_15_code
def yX3_partAsOf : MethodName := ⟨RX3, "partAsOf", "(LPostsEnd$Person;II)I"⟩
abbrev cX3_recordOf : ByteArray := prog_5_method_16_code
def yX3_recordOf : MethodName := ⟨RX3, "recordOf", "(I)I"⟩
abbrev cX3_markAsOf : ByteArray := prog_5_method_17_code
def yX3_markAsOf : MethodName := ⟨RX3, "markAsOf", "(LPostsEnd$Person;I)I"⟩
abbrev cX3_fitFor : ByteArray := prog_5_method_18_code
def yX3_fitFor : MethodName := ⟨RX3, "fitFor", "(LPostsEnd$Person;LPostsEnd$Post;)I"⟩
abbrev cX3_openPosts : ByteArray := prog_5_method_19_code
def yX3_openPosts : MethodName := ⟨RX3, "openPosts", "()I"⟩
abbrev cX3_vacantPosts : ByteArray := prog_5_method_20_code
def yX3_vacantPosts : MethodName := ⟨RX3, "vacantPosts", "()I"⟩
abbrev cX3_peopleHere : ByteArray := prog_5_method_21_code
def yX3_peopleHere : MethodName := ⟨RX3, "peopleHere", "()I"⟩
abbrev cX3_volunteersHere : ByteArray := prog_5_method_22_code
def yX3_volunteersHere : MethodName := ⟨RX3, "volunteersHere", "()I"⟩
abbrev cX3_firstToReturn : ByteArray := prog_5_method_23_code
def yX3_firstToReturn : MethodName := ⟨RX3, "firstToReturn", "(LPostsEnd$Post;)LPostsEnd$Person;"⟩
abbrev cX3_mayReturn : ByteArray := prog_5_method_24_code
def yX3_mayReturn : MethodName := ⟨RX3, "mayReturn", "(LPostsEnd$Person;LPostsEnd$Post;)Z"⟩
def RX4 : String := "PostsEnd$Offering"
def TX4 : u_T := fun k => match k with
  | 0 => ("PostsEnd$Offering", "firm", "LPostsEnd$Firm;", true)
  | 1 => ("PostsEnd$Offering", "leaverRow", "[LPostsEnd$Person;", true)
  | 2 => ("PostsEnd$Offering", "vacantRow", "[LPostsEnd$Post;", true)
  | 3 => ("PostsEnd$Offering", "worth", "[I", true)
  | 4 => ("PostsEnd$Offering", "best", "[I", true)
  | 5 => ("PostsEnd$Offering", "offerRow", "[LPostsEnd$Post;", true)
  | 6 => ("PostsEnd$Offering", "vacant", "I", false)
  | _ => ("PostsEnd$Offering", "leavers", "I", false)
def tyX4 : Nat → FieldType := fun k => match k with
  | 0 => .object "PostsEnd$Firm"
  | 1 => .array (.object "PostsEnd$Person")
  | 2 => .array (.object "PostsEnd$Post")
  | 3 => .array .int
  | 4 => .array .int
  | 5 => .array (.object "PostsEnd$Post")
  | 6 => .int
  | _ => .int
theorem nmX4 : ∀ a, a < 8 → ∀ b, b < 8 → a ≠ b → (TX4 a).2.1 ≠ (TX4 b).2.1 := by decide +kernel
theorem tyX4_ok : ∀ k, k < 8 → parseFieldDescriptor (TX4 k).2.2.1 = some (tyX4 k) := by decide +kernel
abbrev cX4_init : ByteArray := prog_6_method_1_code
def yX4_init : MethodName := ⟨RX4, "<init>", "(LPostsEnd$Firm;)V"⟩
abbrev cX4_isTold : ByteArray := prog_6_method_2_code
def yX4_isTold : MethodName := ⟨RX4, "isTold", "(LPostsEnd$Person;)Z"⟩
abbrev cX4_addLeaver : ByteArray := prog_6_method_3_code
def yX4_addLeaver : MethodName := ⟨RX4, "addLeaver", "(LPostsEnd$Person;)I"⟩
abbrev cX4_leaverAt : ByteArray := prog_6_method_4_code
def yX4_leaverAt : MethodName := ⟨RX4, "leaverAt", "(I)LPostsEnd$Person;"⟩
abbrev cX4_vacantAt : ByteArray := prog_6_method_5_code
def yX4_vacantAt : MethodName := ⟨RX4, "vacantAt", "(I)LPostsEnd$Post;"⟩
abbrev cX4_settle : ByteArray := prog_6_method_6_code
def yX4_settle : MethodName := ⟨RX4, "settle", "()V"⟩
abbrev cX4_gatherVacant : ByteArray := prog_6_method_7_code
def yX4_gatherVacant : MethodName := ⟨RX4, "gatherVacant", "()V"⟩
abbrev cX4_gatherWorth : ByteArray := prog_6_method_8_code
def yX4_gatherWorth : MethodName := ⟨RX4, "gatherWorth", "(I)V"⟩
abbrev cX4_worthTo : ByteArray := prog_6_method_9_code
def yX4_worthTo : MethodName := ⟨RX4, "worthTo", "(LPostsEnd$Person;LPostsEnd$Post;)I"⟩
abbrev cX4_bestFrom : ByteArray := prog_6_method_10_code
def yX4_bestFrom : MethodName := ⟨RX4, "bestFrom", "(II)I"⟩
abbrev cX4_bestWith : ByteArray := prog_6_method_11_code
def yX4_bestWith : MethodName := ⟨RX4, "bestWith", "(III)I"⟩
abbrev cX4_fillRow : ByteArray := prog_6_method_12_code
def yX4_fillRow : MethodName := ⟨RX4, "fillRow", "(I)V"⟩
abbrev cX4_fillBest : ByteArray := prog_6_method_13_code
def yX4_fillBest : MethodName := ⟨RX4, "fillBest", "(II)V"⟩
abbrev cX4_pickOffers : ByteArray := prog_6_method_14_code
def yX4_pickOffers : MethodName := ⟨RX4, "pickOffers", "()V"⟩
abbrev cX4_leastPick : ByteArray := prog_6_method_15_code
def yX4_leastPick : MethodName := ⟨RX4, "leastPick", "(II)I"⟩
abbrev cX4_postFor : ByteArray := prog_6_method_16_code
def yX4_postFor : MethodName := ⟨RX4, "postFor", "(I)I"⟩
abbrev cX4_total : ByteArray := prog_6_method_17_code
def yX4_total : MethodName := ⟨RX4, "total", "(I)I"⟩
def RX5 : String := "PostsEnd$Person"
def TX5 : u_T := fun k => match k with
  | 0 => ("PostsEnd$Person", "number", "I", true)
  | 1 => ("PostsEnd$Person", "skills", "I", true)
  | 2 => ("PostsEnd$Person", "came", "I", true)
  | 3 => ("PostsEnd$Person", "pay", "I", true)
  | 4 => ("PostsEnd$Person", "held", "LPostsEnd$Post;", false)
  | 5 => ("PostsEnd$Person", "heldLast", "LPostsEnd$Post;", false)
  | 6 => ("PostsEnd$Person", "leftOn", "I", false)
  | 7 => ("PostsEnd$Person", "until", "I", false)
  | 8 => ("PostsEnd$Person", "sum", "I", false)
  | 9 => ("PostsEnd$Person", "lastWork", "LPostsEnd$Telling;", false)
  | _ => ("PostsEnd$Person", "lastFaults", "LPostsEnd$Telling;", false)
def tyX5 : Nat → FieldType := fun k => match k with
  | 0 => .int
  | 1 => .int
  | 2 => .int
  | 3 => .int
  | 4 => .object "PostsEnd$Post"
  | 5 => .object "PostsEnd$Post"
  | 6 => .int
  | 7 => .int
  | 8 => .int
  | 9 => .object "PostsEnd$Telling"
  | _ => .object "PostsEnd$Telling"
theorem nmX5 : ∀ a, a < 11 → ∀ b, b < 11 → a ≠ b → (TX5 a).2.1 ≠ (TX5 b).2.1 := by decide +kernel
theorem tyX5_ok : ∀ k, k < 11 → parseFieldDescriptor (TX5 k).2.2.1 = some (tyX5 k) := by decide +kernel
abbrev cX5_init : ByteArray := prog_7_method_1_code
def yX5_init : MethodName := ⟨RX5, "<init>", "(IIII)V"⟩
abbrev cX5_isHere : ByteArray := prog_7_method_2_code
def yX5_isHere : MethodName := ⟨RX5, "isHere", "()Z"⟩
abbrev cX5_isVolunteer : ByteArray := prog_7_method_3_code
def yX5_isVolunteer : MethodName := ⟨RX5, "isVolunteer", "()Z"⟩
abbrev cX5_hold : ByteArray := prog_7_method_4_code
def yX5_hold : MethodName := ⟨RX5, "hold", "(LPostsEnd$Post;)V"⟩
abbrev cX5_lastTold : ByteArray := prog_7_method_5_code
def yX5_lastTold : MethodName := ⟨RX5, "lastTold", "(I)LPostsEnd$Telling;"⟩
abbrev cX5_add : ByteArray := prog_7_method_6_code
def yX5_add : MethodName := ⟨RX5, "add", "(LPostsEnd$Telling;)V"⟩
abbrev cX5_toldAsOf : ByteArray := prog_7_method_7_code
def yX5_toldAsOf : MethodName := ⟨RX5, "toldAsOf", "(II)I"⟩
def RX6 : String := "PostsEnd$Pools"
def TX6 : u_T := fun k => match k with
  | 0 => ("PostsEnd$Pools", "firm", "LPostsEnd$Firm;", true)
  | 1 => ("PostsEnd$Pools", "poolRow", "[I", true)
  | 2 => ("PostsEnd$Pools", "reached", "[LPostsEnd$Post;", true)
  | 3 => ("PostsEnd$Pools", "memberRow", "[LPostsEnd$Person;", true)
  | 4 => ("PostsEnd$Pools", "taken", "I", false)
  | 5 => ("PostsEnd$Pools", "found", "I", false)
  | _ => ("PostsEnd$Pools", "members", "I", false)
def tyX6 : Nat → FieldType := fun k => match k with
  | 0 => .object "PostsEnd$Firm"
  | 1 => .array .int
  | 2 => .array (.object "PostsEnd$Post")
  | 3 => .array (.object "PostsEnd$Person")
  | 4 => .int
  | 5 => .int
  | _ => .int
theorem nmX6 : ∀ a, a < 7 → ∀ b, b < 7 → a ≠ b → (TX6 a).2.1 ≠ (TX6 b).2.1 := by decide +kernel
theorem tyX6_ok : ∀ k, k < 7 → parseFieldDescriptor (TX6 k).2.2.1 = some (tyX6 k) := by decide +kernel
abbrev cX6_init : ByteArray := prog_8_method_1_code
def yX6_init : MethodName := ⟨RX6, "<init>", "(LPostsEnd$Firm;)V"⟩
abbrev cX6_join : ByteArray := prog_8_method_2_code
def yX6_join : MethodName := ⟨RX6, "join", "(I)V"⟩
abbrev cX6_isFree : ByteArray := prog_8_method_3_code
def yX6_isFree : MethodName := ⟨RX6, "isFree", "(LPostsEnd$Post;I)Z"⟩
abbrev cX6_joinedAs : ByteArray := prog_8_method_4_code
def yX6_joinedAs : MethodName := ⟨RX6, "joinedAs", "(LPostsEnd$Post;)I"⟩
abbrev cX6_spread : ByteArray := prog_8_method_5_code
def yX6_spread : MethodName := ⟨RX6, "spread", "(LPostsEnd$Post;I)V"⟩
abbrev cX6_reach : ByteArray := prog_8_method_6_code
def yX6_reach : MethodName := ⟨RX6, "reach", "(LPostsEnd$Post;I)I"⟩
abbrev cX6_take : ByteArray := prog_8_method_7_code
def yX6_take : MethodName := ⟨RX6, "take", "(II)Z"⟩
abbrev cX6_gatherMembers : ByteArray := prog_8_method_8_code
def yX6_gatherMembers : MethodName := ⟨RX6, "gatherMembers", "()V"⟩
abbrev cX6_holdsHere : ByteArray := prog_8_method_9_code
def yX6_holdsHere : MethodName := ⟨RX6, "holdsHere", "(LPostsEnd$Person;)Z"⟩
abbrev cX6_memberAt : ByteArray := prog_8_method_10_code
def yX6_memberAt : MethodName := ⟨RX6, "memberAt", "(I)LPostsEnd$Person;"⟩
abbrev cX6_placeOf : ByteArray := prog_8_method_11_code
def yX6_placeOf : MethodName := ⟨RX6, "placeOf", "(LPostsEnd$Person;)I"⟩
abbrev cX6_wanted : ByteArray := prog_8_method_12_code
def yX6_wanted : MethodName := ⟨RX6, "wanted", "()I"⟩
def RX7 : String := "PostsEnd$Post"
def TX7 : u_T := fun k => match k with
  | 0 => ("PostsEnd$Post", "number", "I", true)
  | 1 => ("PostsEnd$Post", "unit", "I", true)
  | 2 => ("PostsEnd$Post", "line", "I", true)
  | 3 => ("PostsEnd$Post", "grade", "I", true)
  | 4 => ("PostsEnd$Post", "hours", "I", true)
  | 5 => ("PostsEnd$Post", "wants", "I", true)
  | 6 => ("PostsEnd$Post", "endedOn", "I", false)
  | _ => ("PostsEnd$Post", "holder", "LPostsEnd$Person;", false)
def tyX7 : Nat → FieldType := fun k => match k with
  | 0 => .int
  | 1 => .int
  | 2 => .int
  | 3 => .int
  | 4 => .int
  | 5 => .int
  | 6 => .int
  | _ => .object "PostsEnd$Person"
theorem nmX7 : ∀ a, a < 8 → ∀ b, b < 8 → a ≠ b → (TX7 a).2.1 ≠ (TX7 b).2.1 := by decide +kernel
theorem tyX7_ok : ∀ k, k < 8 → parseFieldDescriptor (TX7 k).2.2.1 = some (tyX7 k) := by decide +kernel
abbrev cX7_init : ByteArray := prog_9_method_1_code
def yX7_init : MethodName := ⟨RX7, "<init>", "(IIIIII)V"⟩
abbrev cX7_isOpen : ByteArray := prog_9_method_2_code
def yX7_isOpen : MethodName := ⟨RX7, "isOpen", "()Z"⟩
abbrev cX7_isVacant : ByteArray := prog_9_method_3_code
def yX7_isVacant : MethodName := ⟨RX7, "isVacant", "()Z"⟩
abbrev cX7_mayBeHeldBy : ByteArray := prog_9_method_4_code
def yX7_mayBeHeldBy : MethodName := ⟨RX7, "mayBeHeldBy", "(LPostsEnd$Person;)Z"⟩
abbrev cX7_finish : ByteArray := prog_9_method_5_code
def yX7_finish : MethodName := ⟨RX7, "finish", "(I)V"⟩
def RX8 : String := "PostsEnd$Ranks"
def TX8 : u_T := fun k => match k with
  | 0 => ("PostsEnd$Ranks", "firm", "LPostsEnd$Firm;", true)
  | 1 => ("PostsEnd$Ranks", "row", "[LPostsEnd$Person;", true)
  | 2 => ("PostsEnd$Ranks", "marks", "[I", true)
  | 3 => ("PostsEnd$Ranks", "tried", "[I", true)
  | 4 => ("PostsEnd$Ranks", "growth", "[I", true)
  | _ => ("PostsEnd$Ranks", "size", "I", false)
def tyX8 : Nat → FieldType := fun k => match k with
  | 0 => .object "PostsEnd$Firm"
  | 1 => .array (.object "PostsEnd$Person")
  | 2 => .array .int
  | 3 => .array .int
  | 4 => .array .int
  | _ => .int
theorem nmX8 : ∀ a, a < 6 → ∀ b, b < 6 → a ≠ b → (TX8 a).2.1 ≠ (TX8 b).2.1 := by decide +kernel
theorem tyX8_ok : ∀ k, k < 6 → parseFieldDescriptor (TX8 k).2.2.1 = some (tyX8 k) := by decide +kernel
abbrev cX8_init : ByteArray := prog_10_method_1_code
def yX8_init : MethodName := ⟨RX8, "<init>", "(LPostsEnd$Firm;)V"⟩
abbrev cX8_gather : ByteArray := prog_10_method_2_code
def yX8_gather : MethodName := ⟨RX8, "gather", "(LPostsEnd$Pools;)V"⟩
abbrev cX8_placeOf : ByteArray := prog_10_method_3_code
def yX8_placeOf : MethodName := ⟨RX8, "placeOf", "(LPostsEnd$Person;)I"⟩
abbrev cX8_ahead : ByteArray := prog_10_method_4_code
def yX8_ahead : MethodName := ⟨RX8, "ahead", "([II)I"⟩
abbrev cX8_goesFirst : ByteArray := prog_10_method_5_code
def yX8_goesFirst : MethodName := ⟨RX8, "goesFirst", "(LPostsEnd$Person;LPostsEnd$Person;)Z"⟩
abbrev cX8_goesAt : ByteArray := prog_10_method_6_code
def yX8_goesAt : MethodName := ⟨RX8, "goesAt", "(II)I"⟩
abbrev cX8_turnedBy : ByteArray := prog_10_method_7_code
def yX8_turnedBy : MethodName := ⟨RX8, "turnedBy", "(III)I"⟩
abbrev cX8_gatherGrowth : ByteArray := prog_10_method_8_code
def yX8_gatherGrowth : MethodName := ⟨RX8, "gatherGrowth", "(I)V"⟩
abbrev cX8_goesWith : ByteArray := prog_10_method_9_code
def yX8_goesWith : MethodName := ⟨RX8, "goesWith", "(III)Z"⟩
abbrev cX8_movedBy : ByteArray := prog_10_method_10_code
def yX8_movedBy : MethodName := ⟨RX8, "movedBy", "(ILPostsEnd$Telling;I)I"⟩
abbrev cX8_gainOf : ByteArray := prog_10_method_11_code
def yX8_gainOf : MethodName := ⟨RX8, "gainOf", "(LPostsEnd$Telling;I)I"⟩
abbrev cX8_goers : ByteArray := prog_10_method_12_code
def yX8_goers : MethodName := ⟨RX8, "goers", "([II)J"⟩
def RX9 : String := "PostsEnd$Righting"
def TX9 : u_T := fun k => match k with
  | 0 => ("PostsEnd$Righting", "day", "I", true)
  | 1 => ("PostsEnd$Righting", "value", "I", true)
  | _ => ("PostsEnd$Righting", "before", "LPostsEnd$Righting;", true)
def tyX9 : Nat → FieldType := fun k => match k with
  | 0 => .int
  | 1 => .int
  | _ => .object "PostsEnd$Righting"
theorem nmX9 : ∀ a, a < 3 → ∀ b, b < 3 → a ≠ b → (TX9 a).2.1 ≠ (TX9 b).2.1 := by decide +kernel
theorem tyX9_ok : ∀ k, k < 3 → parseFieldDescriptor (TX9 k).2.2.1 = some (tyX9 k) := by decide +kernel
abbrev cX9_init : ByteArray := prog_11_method_1_code
def yX9_init : MethodName := ⟨RX9, "<init>", "(IILPostsEnd$Righting;)V"⟩
def RX10 : String := "PostsEnd$Telling"
def TX10 : u_T := fun k => match k with
  | 0 => ("PostsEnd$Telling", "who", "LPostsEnd$Person;", true)
  | 1 => ("PostsEnd$Telling", "what", "I", true)
  | 2 => ("PostsEnd$Telling", "day", "I", true)
  | 3 => ("PostsEnd$Telling", "value", "I", true)
  | 4 => ("PostsEnd$Telling", "before", "LPostsEnd$Telling;", true)
  | 5 => ("PostsEnd$Telling", "lastRight", "LPostsEnd$Righting;", false)
  | _ => ("PostsEnd$Telling", "times", "I", false)
def tyX10 : Nat → FieldType := fun k => match k with
  | 0 => .object "PostsEnd$Person"
  | 1 => .int
  | 2 => .int
  | 3 => .int
  | 4 => .object "PostsEnd$Telling"
  | 5 => .object "PostsEnd$Righting"
  | _ => .int
theorem nmX10 : ∀ a, a < 7 → ∀ b, b < 7 → a ≠ b → (TX10 a).2.1 ≠ (TX10 b).2.1 := by decide +kernel
theorem tyX10_ok : ∀ k, k < 7 → parseFieldDescriptor (TX10 k).2.2.1 = some (tyX10 k) := by decide +kernel
abbrev cX10_init : ByteArray := prog_12_method_1_code
def yX10_init : MethodName := ⟨RX10, "<init>", "(LPostsEnd$Person;IIILPostsEnd$Telling;)V"⟩
abbrev cX10_putRight : ByteArray := prog_12_method_2_code
def yX10_putRight : MethodName := ⟨RX10, "putRight", "(II)I"⟩
abbrev cX10_asOf : ByteArray := prog_12_method_3_code
def yX10_asOf : MethodName := ⟨RX10, "asOf", "(I)I"⟩
def RX11 : String := "PostsEnd"
def TX11 : u_T := fun k => match k with
  | 0 => ("PostsEnd", "firm", "LPostsEnd$Firm;", true)
  | 1 => ("PostsEnd", "pooling", "LPostsEnd$Pools;", true)
  | 2 => ("PostsEnd", "ranks", "LPostsEnd$Ranks;", true)
  | 3 => ("PostsEnd", "chooser", "LPostsEnd$Chooser;", true)
  | 4 => ("PostsEnd", "bumping", "LPostsEnd$Bumping;", true)
  | 5 => ("PostsEnd", "offering", "LPostsEnd$Offering;", true)
  | 6 => ("PostsEnd", "endings", "LPostsEnd$Endings;", true)
  | _ => ("PostsEnd", "refusals", "[I", true)
def tyX11 : Nat → FieldType := fun k => match k with
  | 0 => .object "PostsEnd$Firm"
  | 1 => .object "PostsEnd$Pools"
  | 2 => .object "PostsEnd$Ranks"
  | 3 => .object "PostsEnd$Chooser"
  | 4 => .object "PostsEnd$Bumping"
  | 5 => .object "PostsEnd$Offering"
  | 6 => .object "PostsEnd$Endings"
  | _ => .array .int
theorem nmX11 : ∀ a, a < 8 → ∀ b, b < 8 → a ≠ b → (TX11 a).2.1 ≠ (TX11 b).2.1 := by decide +kernel
theorem tyX11_ok : ∀ k, k < 8 → parseFieldDescriptor (TX11 k).2.2.1 = some (tyX11 k) := by decide +kernel
abbrev cX11_init : ByteArray := prog_1_method_1_code
def yX11_init : MethodName := ⟨RX11, "<init>", "()V"⟩
abbrev cX11_days : ByteArray := prog_1_method_2_code
def yX11_days : MethodName := ⟨RX11, "days", "(I)I"⟩
abbrev cX11_unit : ByteArray := prog_1_method_3_code
def yX11_unit : MethodName := ⟨RX11, "unit", "(II)I"⟩
abbrev cX11_post : ByteArray := prog_1_method_4_code
def yX11_post : MethodName := ⟨RX11, "post", "(IIIII)I"⟩
abbrev cX11_end : ByteArray := prog_1_method_5_code
def yX11_end : MethodName := ⟨RX11, "end", "(I)I"⟩
abbrev cX11_set : ByteArray := prog_1_method_6_code
def yX11_set : MethodName := ⟨RX11, "set", "(II)I"⟩
abbrev cX11_person : ByteArray := prog_1_method_7_code
def yX11_person : MethodName := ⟨RX11, "person", "(IIII)I"⟩
abbrev cX11_protect : ByteArray := prog_1_method_8_code
def yX11_protect : MethodName := ⟨RX11, "protect", "(II)I"⟩
abbrev cX11_move : ByteArray := prog_1_method_9_code
def yX11_move : MethodName := ⟨RX11, "move", "(II)I"⟩
abbrev cX11_leave : ByteArray := prog_1_method_10_code
def yX11_leave : MethodName := ⟨RX11, "leave", "(I)I"⟩
abbrev cX11_weight : ByteArray := prog_1_method_11_code
def yX11_weight : MethodName := ⟨RX11, "weight", "(II)I"⟩
abbrev cX11_tell : ByteArray := prog_1_method_12_code
def yX11_tell : MethodName := ⟨RX11, "tell", "(III)I"⟩
abbrev cX11_right : ByteArray := prog_1_method_13_code
def yX11_right : MethodName := ⟨RX11, "right", "(II)I"⟩
abbrev cX11_mark : ByteArray := prog_1_method_14_code
def yX11_mark : MethodName := ⟨RX11, "mark", "(III)I"⟩
abbrev cX11_pools : ByteArray := prog_1_method_15_code
def yX11_pools : MethodName := ⟨RX11, "pools", "(I)I"⟩
abbrev cX11_poolOf : ByteArray := prog_1_method_16_code
def yX11_poolOf : MethodName := ⟨RX11, "poolOf", "(II)I"⟩
abbrev cX11_cut : ByteArray := prog_1_method_17_code
def yX11_cut : MethodName := ⟨RX11, "cut", "(IIII)I"⟩
abbrev cX11_volunteer : ByteArray := prog_1_method_18_code
def yX11_volunteer : MethodName := ⟨RX11, "volunteer", "(II)I"⟩
abbrev cX11_severance : ByteArray := prog_1_method_19_code
def yX11_severance : MethodName := ⟨RX11, "severance", "(I)I"⟩
abbrev cX11_choice : ByteArray := prog_1_method_20_code
def yX11_choice : MethodName := ⟨RX11, "choice", "(IIII)I"⟩
abbrev cX11_chosen : ByteArray := prog_1_method_21_code
def yX11_chosen : MethodName := ⟨RX11, "chosen", "(IIII)I"⟩
abbrev cX11_chain : ByteArray := prog_1_method_22_code
def yX11_chain : MethodName := ⟨RX11, "chain", "(I)I"⟩
abbrev cX11_chainOf : ByteArray := prog_1_method_23_code
def yX11_chainOf : MethodName := ⟨RX11, "chainOf", "(III)I"⟩
abbrev cX11_leaver : ByteArray := prog_1_method_24_code
def yX11_leaver : MethodName := ⟨RX11, "leaver", "(I)I"⟩
abbrev cX11_clear : ByteArray := prog_1_method_25_code
def yX11_clear : MethodName := ⟨RX11, "clear", "()I"⟩
abbrev cX11_fit : ByteArray := prog_1_method_26_code
def yX11_fit : MethodName := ⟨RX11, "fit", "(II)I"⟩
abbrev cX11_offers : ByteArray := prog_1_method_27_code
def yX11_offers : MethodName := ⟨RX11, "offers", "(I)I"⟩
abbrev cX11_offered : ByteArray := prog_1_method_28_code
def yX11_offered : MethodName := ⟨RX11, "offered", "(I)I"⟩
abbrev cX11_ends : ByteArray := prog_1_method_29_code
def yX11_ends : MethodName := ⟨RX11, "ends", "(III)I"⟩
abbrev cX11_notice : ByteArray := prog_1_method_30_code
def yX11_notice : MethodName := ⟨RX11, "notice", "(II)I"⟩
abbrev cX11_weeks : ByteArray := prog_1_method_31_code
def yX11_weeks : MethodName := ⟨RX11, "weeks", "(IIIII)I"⟩
abbrev cX11_weekOf : ByteArray := prog_1_method_32_code
def yX11_weekOf : MethodName := ⟨RX11, "weekOf", "(IIIIII)I"⟩
abbrev cX11_turning : ByteArray := prog_1_method_33_code
def yX11_turning : MethodName := ⟨RX11, "turning", "(IIIII)I"⟩
abbrev cX11_moved : ByteArray := prog_1_method_34_code
def yX11_moved : MethodName := ⟨RX11, "moved", "(IIIII)I"⟩
abbrev cX11_back : ByteArray := prog_1_method_35_code
def yX11_back : MethodName := ⟨RX11, "back", "(I)I"⟩
abbrev cX11_count : ByteArray := prog_1_method_36_code
def yX11_count : MethodName := ⟨RX11, "count", "(I)I"⟩
abbrev cX11_refuse : ByteArray := prog_1_method_37_code
def yX11_refuse : MethodName := ⟨RX11, "refuse", "(I)I"⟩
abbrev cX11_refuseFar : ByteArray := prog_1_method_38_code
def yX11_refuseFar : MethodName := ⟨RX11, "refuseFar", "(I)I"⟩
abbrev cX11_refusalsOf : ByteArray := prog_1_method_39_code
def yX11_refusalsOf : MethodName := ⟨RX11, "refusalsOf", "(I)I"⟩
abbrev cX11_refusalOfNumber : ByteArray := prog_1_method_40_code
def yX11_refusalOfNumber : MethodName := ⟨RX11, "refusalOfNumber", "(I)I"⟩
abbrev cX11_refusalOfChoice : ByteArray := prog_1_method_41_code
def yX11_refusalOfChoice : MethodName := ⟨RX11, "refusalOfChoice", "(I)I"⟩
abbrev cX11_refusalOfParting : ByteArray := prog_1_method_42_code
def yX11_refusalOfParting : MethodName := ⟨RX11, "refusalOfParting", "(IIII)I"⟩
abbrev cX11_isPlace : ByteArray := prog_1_method_43_code
def yX11_isPlace : MethodName := ⟨RX11, "isPlace", "(I)Z"⟩
abbrev cX11_mostTold : ByteArray := prog_1_method_44_code
def yX11_mostTold : MethodName := ⟨RX11, "mostTold", "(I)I"⟩
abbrev cX11_bandOf : ByteArray := prog_1_method_45_code
def yX11_bandOf : MethodName := ⟨RX11, "bandOf", "(I)I"⟩
abbrev cX11_noticeOf : ByteArray := prog_1_method_46_code
def yX11_noticeOf : MethodName := ⟨RX11, "noticeOf", "(I)I"⟩
abbrev cX11_skillFor : ByteArray := prog_1_method_47_code
def yX11_skillFor : MethodName := ⟨RX11, "skillFor", "(LPostsEnd$Person;LPostsEnd$Post;)I"⟩
def RX12 : String := "PostsEndModel"
def TX12 : u_T := fun k => match k with
  | 0 => ("PostsEndModel", "day", "I", false)
  | 1 => ("PostsEndModel", "units", "I", false)
  | 2 => ("PostsEndModel", "place", "[I", true)
  | 3 => ("PostsEndModel", "unitAbove", "[I", true)
  | 4 => ("PostsEndModel", "posts", "I", false)
  | 5 => ("PostsEndModel", "unitOf", "[I", true)
  | 6 => ("PostsEndModel", "line", "[I", true)
  | 7 => ("PostsEndModel", "grade", "[I", true)
  | 8 => ("PostsEndModel", "hours", "[I", true)
  | 9 => ("PostsEndModel", "wants", "[I", true)
  | 10 => ("PostsEndModel", "endedOn", "[I", true)
  | 11 => ("PostsEndModel", "people", "I", false)
  | 12 => ("PostsEndModel", "skills", "[I", true)
  | 13 => ("PostsEndModel", "came", "[I", true)
  | 14 => ("PostsEndModel", "pay", "[I", true)
  | 15 => ("PostsEndModel", "holds", "[I", true)
  | 16 => ("PostsEndModel", "held", "[I", true)
  | 17 => ("PostsEndModel", "leftOn", "[I", true)
  | 18 => ("PostsEndModel", "guarded", "[I", true)
  | 19 => ("PostsEndModel", "asks", "[I", true)
  | 20 => ("PostsEndModel", "share", "I", false)
  | 21 => ("PostsEndModel", "need", "I", false)
  | 22 => ("PostsEndModel", "cap", "I", false)
  | 23 => ("PostsEndModel", "weights", "[I", true)
  | 24 => ("PostsEndModel", "refused", "[I", true)
  | 25 => ("PostsEndModel", "tellings", "I", false)
  | 26 => ("PostsEndModel", "tellWho", "[I", true)
  | 27 => ("PostsEndModel", "tellWhat", "[I", true)
  | 28 => ("PostsEndModel", "tellValue", "[I", true)
  | 29 => ("PostsEndModel", "tellDay", "[I", true)
  | 30 => ("PostsEndModel", "rights", "I", false)
  | 31 => ("PostsEndModel", "rightOf", "[I", true)
  | 32 => ("PostsEndModel", "rightValue", "[I", true)
  | 33 => ("PostsEndModel", "rightDay", "[I", true)
  | 34 => ("PostsEndModel", "leastOf", "[I", true)
  | 35 => ("PostsEndModel", "poolNumber", "[I", true)
  | 36 => ("PostsEndModel", "row", "[I", true)
  | 37 => ("PostsEndModel", "rowMark", "[I", true)
  | 38 => ("PostsEndModel", "rowMany", "I", false)
  | 39 => ("PostsEndModel", "poolPeople", "[I", true)
  | 40 => ("PostsEndModel", "poolMany", "I", false)
  | 41 => ("PostsEndModel", "poolWants", "I", false)
  | 42 => ("PostsEndModel", "bestSet", "I", false)
  | 43 => ("PostsEndModel", "bestForced", "I", false)
  | 44 => ("PostsEndModel", "bestCost", "I", false)
  | 45 => ("PostsEndModel", "bestMarks", "I", false)
  | 46 => ("PostsEndModel", "costOf", "[I", true)
  | 47 => ("PostsEndModel", "markAt", "[I", true)
  | 48 => ("PostsEndModel", "mover", "[I", true)
  | 49 => ("PostsEndModel", "toPost", "[I", true)
  | 50 => ("PostsEndModel", "bumped", "[I", true)
  | 51 => ("PostsEndModel", "moves", "I", false)
  | 52 => ("PostsEndModel", "last", "I", false)
  | 53 => ("PostsEndModel", "leavers", "I", false)
  | 54 => ("PostsEndModel", "leaver", "[I", true)
  | 55 => ("PostsEndModel", "vacant", "[I", true)
  | 56 => ("PostsEndModel", "vacantMany", "I", false)
  | 57 => ("PostsEndModel", "toCome", "[I", true)
  | 58 => ("PostsEndModel", "offer", "[I", true)
  | 59 => ("PostsEndModel", "endMany", "I", false)
  | 60 => ("PostsEndModel", "endPlace", "[I", true)
  | 61 => ("PostsEndModel", "endDay", "[I", true)
  | 62 => ("PostsEndModel", "endSum", "[I", true)
  | 63 => ("PostsEndModel", "costOn", "[I", true)
  | 64 => ("PostsEndModel", "toldBy", "[I", true)
  | _ => ("PostsEndModel", "isIn", "[Z", true)
def tyX12 : Nat → FieldType := fun k => match k with
  | 0 => .int
  | 1 => .int
  | 2 => .array .int
  | 3 => .array .int
  | 4 => .int
  | 5 => .array .int
  | 6 => .array .int
  | 7 => .array .int
  | 8 => .array .int
  | 9 => .array .int
  | 10 => .array .int
  | 11 => .int
  | 12 => .array .int
  | 13 => .array .int
  | 14 => .array .int
  | 15 => .array .int
  | 16 => .array .int
  | 17 => .array .int
  | 18 => .array .int
  | 19 => .array .int
  | 20 => .int
  | 21 => .int
  | 22 => .int
  | 23 => .array .int
  | 24 => .array .int
  | 25 => .int
  | 26 => .array .int
  | 27 => .array .int
  | 28 => .array .int
  | 29 => .array .int
  | 30 => .int
  | 31 => .array .int
  | 32 => .array .int
  | 33 => .array .int
  | 34 => .array .int
  | 35 => .array .int
  | 36 => .array .int
  | 37 => .array .int
  | 38 => .int
  | 39 => .array .int
  | 40 => .int
  | 41 => .int
  | 42 => .int
  | 43 => .int
  | 44 => .int
  | 45 => .int
  | 46 => .array .int
  | 47 => .array .int
  | 48 => .array .int
  | 49 => .array .int
  | 50 => .array .int
  | 51 => .int
  | 52 => .int
  | 53 => .int
  | 54 => .array .int
  | 55 => .array .int
  | 56 => .int
  | 57 => .array .int
  | 58 => .array .int
  | 59 => .int
  | 60 => .array .int
  | 61 => .array .int
  | 62 => .array .int
  | 63 => .array .int
  | 64 => .array .int
  | _ => .array .boolean
theorem nmX12 : ∀ a, a < 66 → ∀ b, b < 66 → a ≠ b → (TX12 a).2.1 ≠ (TX12 b).2.1 := by decide +kernel
theorem tyX12_ok : ∀ k, k < 66 → parseFieldDescriptor (TX12 k).2.2.1 = some (tyX12 k) := by decide +kernel
abbrev cX12_init : ByteArray := prog_14_method_1_code
def yX12_init : MethodName := ⟨RX12, "<init>", "()V"⟩
abbrev cX12_in : ByteArray := prog_14_method_3_code
def yX12_in : MethodName := ⟨RX12, "in", "(III)Z"⟩
abbrev cX12_refuse : ByteArray := prog_14_method_4_code
def yX12_refuse : MethodName := ⟨RX12, "refuse", "(I)I"⟩
abbrev cX12_refuseFar : ByteArray := prog_14_method_5_code
def yX12_refuseFar : MethodName := ⟨RX12, "refuseFar", "(I)I"⟩
abbrev cX12_ones : ByteArray := prog_14_method_6_code
def yX12_ones : MethodName := ⟨RX12, "ones", "(I)I"⟩
abbrev cX12_isUnit : ByteArray := prog_14_method_7_code
def yX12_isUnit : MethodName := ⟨RX12, "isUnit", "(I)Z"⟩
abbrev cX12_isPost : ByteArray := prog_14_method_8_code
def yX12_isPost : MethodName := ⟨RX12, "isPost", "(I)Z"⟩
abbrev cX12_isPerson : ByteArray := prog_14_method_9_code
def yX12_isPerson : MethodName := ⟨RX12, "isPerson", "(I)Z"⟩
abbrev cX12_isHere : ByteArray := prog_14_method_10_code
def yX12_isHere : MethodName := ⟨RX12, "isHere", "(I)Z"⟩
abbrev cX12_isGuarded : ByteArray := prog_14_method_11_code
def yX12_isGuarded : MethodName := ⟨RX12, "isGuarded", "(I)Z"⟩
abbrev cX12_holder : ByteArray := prog_14_method_12_code
def yX12_holder : MethodName := ⟨RX12, "holder", "(I)I"⟩
abbrev cX12_isVacant : ByteArray := prog_14_method_13_code
def yX12_isVacant : MethodName := ⟨RX12, "isVacant", "(I)Z"⟩
abbrev cX12_days : ByteArray := prog_14_method_14_code
def yX12_days : MethodName := ⟨RX12, "days", "(I)I"⟩
abbrev cX12_unit : ByteArray := prog_14_method_15_code
def yX12_unit : MethodName := ⟨RX12, "unit", "(II)I"⟩
abbrev cX12_post : ByteArray := prog_14_method_16_code
def yX12_post : MethodName := ⟨RX12, "post", "(IIIII)I"⟩
abbrev cX12_drop : ByteArray := prog_14_method_17_code
def yX12_drop : MethodName := ⟨RX12, "drop", "(I)V"⟩
abbrev cX12_end : ByteArray := prog_14_method_18_code
def yX12_end : MethodName := ⟨RX12, "end", "(I)I"⟩
abbrev cX12_set : ByteArray := prog_14_method_19_code
def yX12_set : MethodName := ⟨RX12, "set", "(II)I"⟩
abbrev cX12_person : ByteArray := prog_14_method_20_code
def yX12_person : MethodName := ⟨RX12, "person", "(IIII)I"⟩
abbrev cX12_protect : ByteArray := prog_14_method_21_code
def yX12_protect : MethodName := ⟨RX12, "protect", "(II)I"⟩
abbrev cX12_move : ByteArray := prog_14_method_22_code
def yX12_move : MethodName := ⟨RX12, "move", "(II)I"⟩
abbrev cX12_leave : ByteArray := prog_14_method_23_code
def yX12_leave : MethodName := ⟨RX12, "leave", "(I)I"⟩
abbrev cX12_weight : ByteArray := prog_14_method_24_code
def yX12_weight : MethodName := ⟨RX12, "weight", "(II)I"⟩
abbrev cX12_tell : ByteArray := prog_14_method_25_code
def yX12_tell : MethodName := ⟨RX12, "tell", "(III)I"⟩
abbrev cX12_isTelling : ByteArray := prog_14_method_26_code
def yX12_isTelling : MethodName := ⟨RX12, "isTelling", "(I)Z"⟩
abbrev cX12_putRight : ByteArray := prog_14_method_27_code
def yX12_putRight : MethodName := ⟨RX12, "putRight", "(II)V"⟩
abbrev cX12_right : ByteArray := prog_14_method_28_code
def yX12_right : MethodName := ⟨RX12, "right", "(II)I"⟩
abbrev cX12_knownOf : ByteArray := prog_14_method_29_code
def yX12_knownOf : MethodName := ⟨RX12, "knownOf", "(III)I"⟩
abbrev cX12_skillFor : ByteArray := prog_14_method_30_code
def yX12_skillFor : MethodName := ⟨RX12, "skillFor", "(II)I"⟩
abbrev cX12_wholeYears : ByteArray := prog_14_method_31_code
def yX12_wholeYears : MethodName := ⟨RX12, "wholeYears", "(I)I"⟩
abbrev cX12_partOf : ByteArray := prog_14_method_32_code
def yX12_partOf : MethodName := ⟨RX12, "partOf", "(III)I"⟩
abbrev cX12_markOf : ByteArray := prog_14_method_33_code
def yX12_markOf : MethodName := ⟨RX12, "markOf", "(II)I"⟩
abbrev cX12_mark : ByteArray := prog_14_method_34_code
def yX12_mark : MethodName := ⟨RX12, "mark", "(III)I"⟩
abbrev cX12_areLike : ByteArray := prog_14_method_35_code
def yX12_areLike : MethodName := ⟨RX12, "areLike", "(II)Z"⟩
abbrev cX12_isBelow : ByteArray := prog_14_method_36_code
def yX12_isBelow : MethodName := ⟨RX12, "isBelow", "(II)Z"⟩
abbrev cX12_findPools : ByteArray := prog_14_method_37_code
def yX12_findPools : MethodName := ⟨RX12, "findPools", "(I)I"⟩
abbrev cX12_pools : ByteArray := prog_14_method_38_code
def yX12_pools : MethodName := ⟨RX12, "pools", "(I)I"⟩
abbrev cX12_poolOf : ByteArray := prog_14_method_39_code
def yX12_poolOf : MethodName := ⟨RX12, "poolOf", "(II)I"⟩
abbrev cX12_isPool : ByteArray := prog_14_method_40_code
def yX12_isPool : MethodName := ⟨RX12, "isPool", "(II)Z"⟩
abbrev cX12_isOf : ByteArray := prog_14_method_41_code
def yX12_isOf : MethodName := ⟨RX12, "isOf", "(II)Z"⟩
abbrev cX12_isAhead : ByteArray := prog_14_method_42_code
def yX12_isAhead : MethodName := ⟨RX12, "isAhead", "(III)Z"⟩
abbrev cX12_findCut : ByteArray := prog_14_method_43_code
def yX12_findCut : MethodName := ⟨RX12, "findCut", "(II)I"⟩
abbrev cX12_wrongMany : ByteArray := prog_14_method_44_code
def yX12_wrongMany : MethodName := ⟨RX12, "wrongMany", "(I)I"⟩
abbrev cX12_cut : ByteArray := prog_14_method_45_code
def yX12_cut : MethodName := ⟨RX12, "cut", "(IIII)I"⟩
abbrev cX12_isCut : ByteArray := prog_14_method_46_code
def yX12_isCut : MethodName := ⟨RX12, "isCut", "(III)Z"⟩
abbrev cX12_volunteer : ByteArray := prog_14_method_47_code
def yX12_volunteer : MethodName := ⟨RX12, "volunteer", "(II)I"⟩
abbrev cX12_severanceOf : ByteArray := prog_14_method_48_code
def yX12_severanceOf : MethodName := ⟨RX12, "severanceOf", "(I)I"⟩
abbrev cX12_severance : ByteArray := prog_14_method_49_code
def yX12_severance : MethodName := ⟨RX12, "severance", "(I)I"⟩
abbrev cX12_findPeople : ByteArray := prog_14_method_50_code
def yX12_findPeople : MethodName := ⟨RX12, "findPeople", "(I)V"⟩
abbrev cX12_mayGo : ByteArray := prog_14_method_51_code
def yX12_mayGo : MethodName := ⟨RX12, "mayGo", "(I)Z"⟩
abbrev cX12_findChoice : ByteArray := prog_14_method_52_code
def yX12_findChoice : MethodName := ⟨RX12, "findChoice", "(I)V"⟩
abbrev cX12_wrongChoice : ByteArray := prog_14_method_53_code
def yX12_wrongChoice : MethodName := ⟨RX12, "wrongChoice", "(II)I"⟩
abbrev cX12_choice : ByteArray := prog_14_method_54_code
def yX12_choice : MethodName := ⟨RX12, "choice", "(IIII)I"⟩
abbrev cX12_chosen : ByteArray := prog_14_method_55_code
def yX12_chosen : MethodName := ⟨RX12, "chosen", "(IIII)I"⟩
abbrev cX12_takes : ByteArray := prog_14_method_56_code
def yX12_takes : MethodName := ⟨RX12, "takes", "(II)I"⟩
abbrev cX12_isMoved : ByteArray := prog_14_method_57_code
def yX12_isMoved : MethodName := ⟨RX12, "isMoved", "(I)Z"⟩
abbrev cX12_findChain : ByteArray := prog_14_method_58_code
def yX12_findChain : MethodName := ⟨RX12, "findChain", "(I)V"⟩
abbrev cX12_chain : ByteArray := prog_14_method_59_code
def yX12_chain : MethodName := ⟨RX12, "chain", "(I)I"⟩
abbrev cX12_chainOf : ByteArray := prog_14_method_60_code
def yX12_chainOf : MethodName := ⟨RX12, "chainOf", "(III)I"⟩
abbrev cX12_leaver : ByteArray := prog_14_method_61_code
def yX12_leaver : MethodName := ⟨RX12, "leaver", "(I)I"⟩
abbrev cX12_clear : ByteArray := prog_14_method_62_code
def yX12_clear : MethodName := ⟨RX12, "clear", "()I"⟩
abbrev cX12_amount : ByteArray := prog_14_method_63_code
def yX12_amount : MethodName := ⟨RX12, "amount", "(I)I"⟩
abbrev cX12_fitOf : ByteArray := prog_14_method_64_code
def yX12_fitOf : MethodName := ⟨RX12, "fitOf", "(II)I"⟩
abbrev cX12_fit : ByteArray := prog_14_method_65_code
def yX12_fit : MethodName := ⟨RX12, "fit", "(II)I"⟩
abbrev cX12_worth : ByteArray := prog_14_method_66_code
def yX12_worth : MethodName := ⟨RX12, "worth", "(III)I"⟩
abbrev cX12_findOffers : ByteArray := prog_14_method_67_code
def yX12_findOffers : MethodName := ⟨RX12, "findOffers", "()V"⟩
abbrev cX12_offers : ByteArray := prog_14_method_68_code
def yX12_offers : MethodName := ⟨RX12, "offers", "(I)I"⟩
abbrev cX12_offered : ByteArray := prog_14_method_69_code
def yX12_offered : MethodName := ⟨RX12, "offered", "(I)I"⟩
abbrev cX12_ends : ByteArray := prog_14_method_70_code
def yX12_ends : MethodName := ⟨RX12, "ends", "(III)I"⟩
abbrev cX12_endedBy : ByteArray := prog_14_method_71_code
def yX12_endedBy : MethodName := ⟨RX12, "endedBy", "(II)I"⟩
abbrev cX12_noticeBy : ByteArray := prog_14_method_72_code
def yX12_noticeBy : MethodName := ⟨RX12, "noticeBy", "(I)I"⟩
abbrev cX12_notice : ByteArray := prog_14_method_73_code
def yX12_notice : MethodName := ⟨RX12, "notice", "(II)I"⟩
abbrev cX12_weekCost : ByteArray := prog_14_method_74_code
def yX12_weekCost : MethodName := ⟨RX12, "weekCost", "(IIIIII)I"⟩
abbrev cX12_findWeeks : ByteArray := prog_14_method_75_code
def yX12_findWeeks : MethodName := ⟨RX12, "findWeeks", "(IIII)V"⟩
abbrev cX12_wrongWeeks : ByteArray := prog_14_method_76_code
def yX12_wrongWeeks : MethodName := ⟨RX12, "wrongWeeks", "(IIII)I"⟩
abbrev cX12_weeks : ByteArray := prog_14_method_77_code
def yX12_weeks : MethodName := ⟨RX12, "weeks", "(IIIII)I"⟩
abbrev cX12_weekOf : ByteArray := prog_14_method_78_code
def yX12_weekOf : MethodName := ⟨RX12, "weekOf", "(IIIIII)I"⟩
abbrev cX12_turning : ByteArray := prog_14_method_79_code
def yX12_turning : MethodName := ⟨RX12, "turning", "(IIIII)I"⟩
abbrev cX12_moved : ByteArray := prog_14_method_80_code
def yX12_moved : MethodName := ⟨RX12, "moved", "(IIIII)I"⟩
abbrev cX12_back : ByteArray := prog_14_method_81_code
def yX12_back : MethodName := ⟨RX12, "back", "(I)I"⟩
abbrev cX12_count : ByteArray := prog_14_method_82_code
def yX12_count : MethodName := ⟨RX12, "count", "(I)I"⟩
def RJ6 : String := "java/lang/Integer"
abbrev cJ6_bitCount_0f7a4 : ByteArray := prog_15_method_49_code
def yJ6_bitCount_0f7a4 : MethodName := ⟨RJ6, "bitCount", "(I)I"⟩
def RJ13 : String := "java/lang/Long"
abbrev cJ13_bitCount_95d88 : ByteArray := prog_16_method_50_code
def yJ13_bitCount_95d88 : MethodName := ⟨RJ13, "bitCount", "(J)I"⟩
def RJ9 : String := "java/lang/Math"
abbrev cJ9_abs_0f7a4 : ByteArray := prog_17_method_59_code
def yJ9_abs_0f7a4 : MethodName := ⟨RJ9, "abs", "(I)I"⟩
abbrev cJ9_max_7cf53 : ByteArray := prog_17_method_65_code
def yJ9_max_7cf53 : MethodName := ⟨RJ9, "max", "(II)I"⟩
abbrev cJ9_min_7cf53 : ByteArray := prog_17_method_69_code
def yJ9_min_7cf53 : MethodName := ⟨RJ9, "min", "(II)I"⟩
def RJ7 : String := "java/util/Arrays"
abbrev cJ7_fill_53178 : ByteArray := prog_18_method_103_code
def yJ7_fill_53178 : MethodName := ⟨RJ7, "fill", "([II)V"⟩
def RL : String := "PostsEndLaw"
abbrev cL_law : ByteArray := code
def yL_law : MethodName := ⟨RL, "law", "([I)Z"⟩
abbrev vwCl : List vw_C := [(RX0, TX0, 4), (RX1, TX1, 13), (RX2, TX2, 13), (RX3, TX3, 12), (RX4, TX4, 8), (RX5, TX5, 11), (RX6, TX6, 7), (RX7, TX7, 8), (RX8, TX8, 6), (RX9, TX9, 3), (RX10, TX10, 7), (RX11, TX11, 8), (RX12, TX12, 66)]
