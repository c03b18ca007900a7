section
-- ===== PART A: goes FIRST, ahead of the names: the tables' words, and 'selects' of the private methods out of them =====
/-- a private method of a class that the tables say can be made, by its rows of tables_1 -/
def lw_okq (q : MethodName × Nat) : Prop := (q.1.cls ≠ "java/lang/invoke/MethodHandle" ∧ q.1.cls ≠ "java/lang/invoke/VarHandle") ∧ Cond.instantiable q.1.cls q.2 ∈ tables_1 ∧ Cond.privateMethod q.1 ∈ tables_1 ∧ Cond.instanceMethod q.1 ∈ tables_1
theorem lw_p0 : lw_okq (⟨"PostsEnd", "refuse", "(I)I"⟩, 8) := ⟨⟨by decide +kernel, by decide +kernel⟩, List.mem_of_getElem? (i := 19) (by decide +kernel), List.mem_of_getElem? (i := 333) (by decide +kernel), List.mem_of_getElem? (i := 334) (by decide +kernel)⟩
theorem lw_p1 : lw_okq (⟨"PostsEnd", "refuseFar", "(I)I"⟩, 8) := ⟨⟨by decide +kernel, by decide +kernel⟩, List.mem_of_getElem? (i := 19) (by decide +kernel), List.mem_of_getElem? (i := 513) (by decide +kernel), List.mem_of_getElem? (i := 514) (by decide +kernel)⟩
theorem lw_p2 : lw_okq (⟨"PostsEnd$Pools", "isFree", "(LPostsEnd$Post;I)Z"⟩, 7) := ⟨⟨by decide +kernel, by decide +kernel⟩, List.mem_of_getElem? (i := 93) (by decide +kernel), List.mem_of_getElem? (i := 678) (by decide +kernel), List.mem_of_getElem? (i := 679) (by decide +kernel)⟩
theorem lw_p3 : lw_okq (⟨"PostsEnd$Pools", "spread", "(LPostsEnd$Post;I)V"⟩, 7) := ⟨⟨by decide +kernel, by decide +kernel⟩, List.mem_of_getElem? (i := 93) (by decide +kernel), List.mem_of_getElem? (i := 691) (by decide +kernel), List.mem_of_getElem? (i := 692) (by decide +kernel)⟩
theorem lw_p4 : lw_okq (⟨"PostsEnd$Pools", "reach", "(LPostsEnd$Post;I)I"⟩, 7) := ⟨⟨by decide +kernel, by decide +kernel⟩, List.mem_of_getElem? (i := 93) (by decide +kernel), List.mem_of_getElem? (i := 695) (by decide +kernel), List.mem_of_getElem? (i := 696) (by decide +kernel)⟩
theorem lw_p5 : lw_okq (⟨"PostsEnd$Pools", "gatherMembers", "()V"⟩, 7) := ⟨⟨by decide +kernel, by decide +kernel⟩, List.mem_of_getElem? (i := 93) (by decide +kernel), List.mem_of_getElem? (i := 722) (by decide +kernel), List.mem_of_getElem? (i := 723) (by decide +kernel)⟩
theorem lw_p6 : lw_okq (⟨"PostsEnd$Pools", "holdsHere", "(LPostsEnd$Person;)Z"⟩, 7) := ⟨⟨by decide +kernel, by decide +kernel⟩, List.mem_of_getElem? (i := 93) (by decide +kernel), List.mem_of_getElem? (i := 727) (by decide +kernel), List.mem_of_getElem? (i := 728) (by decide +kernel)⟩
theorem lw_p7 : lw_okq (⟨"PostsEnd$Ranks", "ahead", "([II)I"⟩, 6) := ⟨⟨by decide +kernel, by decide +kernel⟩, List.mem_of_getElem? (i := 127) (by decide +kernel), List.mem_of_getElem? (i := 751) (by decide +kernel), List.mem_of_getElem? (i := 752) (by decide +kernel)⟩
theorem lw_p8 : lw_okq (⟨"PostsEnd", "refusalOfChoice", "(I)I"⟩, 8) := ⟨⟨by decide +kernel, by decide +kernel⟩, List.mem_of_getElem? (i := 19) (by decide +kernel), List.mem_of_getElem? (i := 775) (by decide +kernel), List.mem_of_getElem? (i := 776) (by decide +kernel)⟩
theorem lw_p9 : lw_okq (⟨"PostsEnd$Chooser", "gatherOne", "(ILPostsEnd$Person;)V"⟩, 13) := ⟨⟨by decide +kernel, by decide +kernel⟩, List.mem_of_getElem? (i := 153) (by decide +kernel), List.mem_of_getElem? (i := 786) (by decide +kernel), List.mem_of_getElem? (i := 787) (by decide +kernel)⟩
theorem lw_p10 : lw_okq (⟨"PostsEnd$Chooser", "gatherLeast", "(I)V"⟩, 13) := ⟨⟨by decide +kernel, by decide +kernel⟩, List.mem_of_getElem? (i := 153) (by decide +kernel), List.mem_of_getElem? (i := 802) (by decide +kernel), List.mem_of_getElem? (i := 803) (by decide +kernel)⟩
theorem lw_p11 : lw_okq (⟨"PostsEnd$Chooser", "keepsSkills", "(I)Z"⟩, 13) := ⟨⟨by decide +kernel, by decide +kernel⟩, List.mem_of_getElem? (i := 153) (by decide +kernel), List.mem_of_getElem? (i := 811) (by decide +kernel), List.mem_of_getElem? (i := 812) (by decide +kernel)⟩
theorem lw_p12 : lw_okq (⟨"PostsEnd$Chooser", "weigh", "(I)V"⟩, 13) := ⟨⟨by decide +kernel, by decide +kernel⟩, List.mem_of_getElem? (i := 153) (by decide +kernel), List.mem_of_getElem? (i := 815) (by decide +kernel), List.mem_of_getElem? (i := 816) (by decide +kernel)⟩
theorem lw_p13 : lw_okq (⟨"PostsEnd$Chooser", "together", "([II)I"⟩, 13) := ⟨⟨by decide +kernel, by decide +kernel⟩, List.mem_of_getElem? (i := 153) (by decide +kernel), List.mem_of_getElem? (i := 819) (by decide +kernel), List.mem_of_getElem? (i := 820) (by decide +kernel)⟩
theorem lw_p14 : lw_okq (⟨"PostsEnd$Bumping", "gatherMarks", "()V"⟩, 4) := ⟨⟨by decide +kernel, by decide +kernel⟩, List.mem_of_getElem? (i := 202) (by decide +kernel), List.mem_of_getElem? (i := 844) (by decide +kernel), List.mem_of_getElem? (i := 845) (by decide +kernel)⟩
theorem lw_p15 : lw_okq (⟨"PostsEnd$Bumping", "bumpedBy", "(LPostsEnd$Person;)LPostsEnd$Person;"⟩, 4) := ⟨⟨by decide +kernel, by decide +kernel⟩, List.mem_of_getElem? (i := 202) (by decide +kernel), List.mem_of_getElem? (i := 850) (by decide +kernel), List.mem_of_getElem? (i := 851) (by decide +kernel)⟩
def lw_privs_1 : List (MethodName × Nat) := [(⟨"PostsEnd", "refuse", "(I)I"⟩, 8), (⟨"PostsEnd", "refuseFar", "(I)I"⟩, 8), (⟨"PostsEnd$Pools", "isFree", "(LPostsEnd$Post;I)Z"⟩, 7), (⟨"PostsEnd$Pools", "spread", "(LPostsEnd$Post;I)V"⟩, 7), (⟨"PostsEnd$Pools", "reach", "(LPostsEnd$Post;I)I"⟩, 7), (⟨"PostsEnd$Pools", "gatherMembers", "()V"⟩, 7), (⟨"PostsEnd$Pools", "holdsHere", "(LPostsEnd$Person;)Z"⟩, 7), (⟨"PostsEnd$Ranks", "ahead", "([II)I"⟩, 6), (⟨"PostsEnd", "refusalOfChoice", "(I)I"⟩, 8), (⟨"PostsEnd$Chooser", "gatherOne", "(ILPostsEnd$Person;)V"⟩, 13), (⟨"PostsEnd$Chooser", "gatherLeast", "(I)V"⟩, 13), (⟨"PostsEnd$Chooser", "keepsSkills", "(I)Z"⟩, 13), (⟨"PostsEnd$Chooser", "weigh", "(I)V"⟩, 13), (⟨"PostsEnd$Chooser", "together", "([II)I"⟩, 13), (⟨"PostsEnd$Bumping", "gatherMarks", "()V"⟩, 4), (⟨"PostsEnd$Bumping", "bumpedBy", "(LPostsEnd$Person;)LPostsEnd$Person;"⟩, 4)]
theorem lw_r1 : ∀ q ∈ lw_privs_1, lw_okq q := List.forall_mem_cons.mpr ⟨lw_p0, List.forall_mem_cons.mpr ⟨lw_p1, List.forall_mem_cons.mpr ⟨lw_p2, List.forall_mem_cons.mpr ⟨lw_p3, List.forall_mem_cons.mpr ⟨lw_p4, List.forall_mem_cons.mpr ⟨lw_p5, List.forall_mem_cons.mpr ⟨lw_p6, List.forall_mem_cons.mpr ⟨lw_p7, List.forall_mem_cons.mpr ⟨lw_p8, List.forall_mem_cons.mpr ⟨lw_p9, List.forall_mem_cons.mpr ⟨lw_p10, List.forall_mem_cons.mpr ⟨lw_p11, List.forall_mem_cons.mpr ⟨lw_p12, List.forall_mem_cons.mpr ⟨lw_p13, List.forall_mem_cons.mpr ⟨lw_p14, List.forall_mem_cons.mpr ⟨lw_p15, fun _ h => absurd h List.not_mem_nil⟩⟩⟩⟩⟩⟩⟩⟩⟩⟩⟩⟩⟩⟩⟩⟩
theorem lw_p16 : lw_okq (⟨"PostsEnd$Bumping", "mayBump", "(LPostsEnd$Person;LPostsEnd$Person;)Z"⟩, 4) := ⟨⟨by decide +kernel, by decide +kernel⟩, List.mem_of_getElem? (i := 202) (by decide +kernel), List.mem_of_getElem? (i := 854) (by decide +kernel), List.mem_of_getElem? (i := 855) (by decide +kernel)⟩
theorem lw_p17 : lw_okq (⟨"PostsEnd$Bumping", "markOf", "(LPostsEnd$Person;)I"⟩, 4) := ⟨⟨by decide +kernel, by decide +kernel⟩, List.mem_of_getElem? (i := 202) (by decide +kernel), List.mem_of_getElem? (i := 859) (by decide +kernel), List.mem_of_getElem? (i := 860) (by decide +kernel)⟩
theorem lw_p18 : lw_okq (⟨"PostsEnd$Bumping", "isBetter", "(LPostsEnd$Person;LPostsEnd$Person;)Z"⟩, 4) := ⟨⟨by decide +kernel, by decide +kernel⟩, List.mem_of_getElem? (i := 202) (by decide +kernel), List.mem_of_getElem? (i := 864) (by decide +kernel), List.mem_of_getElem? (i := 865) (by decide +kernel)⟩
theorem lw_p19 : lw_okq (⟨"PostsEnd$Offering", "leaverAt", "(I)LPostsEnd$Person;"⟩, 8) := ⟨⟨by decide +kernel, by decide +kernel⟩, List.mem_of_getElem? (i := 223) (by decide +kernel), List.mem_of_getElem? (i := 891) (by decide +kernel), List.mem_of_getElem? (i := 892) (by decide +kernel)⟩
theorem lw_p20 : lw_okq (⟨"PostsEnd$Offering", "gatherVacant", "()V"⟩, 8) := ⟨⟨by decide +kernel, by decide +kernel⟩, List.mem_of_getElem? (i := 223) (by decide +kernel), List.mem_of_getElem? (i := 919) (by decide +kernel), List.mem_of_getElem? (i := 920) (by decide +kernel)⟩
theorem lw_p21 : lw_okq (⟨"PostsEnd$Offering", "gatherWorth", "(I)V"⟩, 8) := ⟨⟨by decide +kernel, by decide +kernel⟩, List.mem_of_getElem? (i := 223) (by decide +kernel), List.mem_of_getElem? (i := 925) (by decide +kernel), List.mem_of_getElem? (i := 926) (by decide +kernel)⟩
theorem lw_p22 : lw_okq (⟨"PostsEnd$Offering", "vacantAt", "(I)LPostsEnd$Post;"⟩, 8) := ⟨⟨by decide +kernel, by decide +kernel⟩, List.mem_of_getElem? (i := 223) (by decide +kernel), List.mem_of_getElem? (i := 929) (by decide +kernel), List.mem_of_getElem? (i := 930) (by decide +kernel)⟩
theorem lw_p23 : lw_okq (⟨"PostsEnd$Offering", "worthTo", "(LPostsEnd$Person;LPostsEnd$Post;)I"⟩, 8) := ⟨⟨by decide +kernel, by decide +kernel⟩, List.mem_of_getElem? (i := 223) (by decide +kernel), List.mem_of_getElem? (i := 933) (by decide +kernel), List.mem_of_getElem? (i := 934) (by decide +kernel)⟩
theorem lw_p24 : lw_okq (⟨"PostsEnd$Offering", "fillRow", "(I)V"⟩, 8) := ⟨⟨by decide +kernel, by decide +kernel⟩, List.mem_of_getElem? (i := 223) (by decide +kernel), List.mem_of_getElem? (i := 942) (by decide +kernel), List.mem_of_getElem? (i := 943) (by decide +kernel)⟩
theorem lw_p25 : lw_okq (⟨"PostsEnd$Offering", "fillBest", "(II)V"⟩, 8) := ⟨⟨by decide +kernel, by decide +kernel⟩, List.mem_of_getElem? (i := 223) (by decide +kernel), List.mem_of_getElem? (i := 947) (by decide +kernel), List.mem_of_getElem? (i := 948) (by decide +kernel)⟩
theorem lw_p26 : lw_okq (⟨"PostsEnd$Offering", "bestFrom", "(II)I"⟩, 8) := ⟨⟨by decide +kernel, by decide +kernel⟩, List.mem_of_getElem? (i := 223) (by decide +kernel), List.mem_of_getElem? (i := 951) (by decide +kernel), List.mem_of_getElem? (i := 952) (by decide +kernel)⟩
theorem lw_p27 : lw_okq (⟨"PostsEnd$Offering", "bestWith", "(III)I"⟩, 8) := ⟨⟨by decide +kernel, by decide +kernel⟩, List.mem_of_getElem? (i := 223) (by decide +kernel), List.mem_of_getElem? (i := 955) (by decide +kernel), List.mem_of_getElem? (i := 956) (by decide +kernel)⟩
theorem lw_p28 : lw_okq (⟨"PostsEnd$Offering", "pickOffers", "()V"⟩, 8) := ⟨⟨by decide +kernel, by decide +kernel⟩, List.mem_of_getElem? (i := 223) (by decide +kernel), List.mem_of_getElem? (i := 960) (by decide +kernel), List.mem_of_getElem? (i := 961) (by decide +kernel)⟩
theorem lw_p29 : lw_okq (⟨"PostsEnd$Offering", "leastPick", "(II)I"⟩, 8) := ⟨⟨by decide +kernel, by decide +kernel⟩, List.mem_of_getElem? (i := 223) (by decide +kernel), List.mem_of_getElem? (i := 964) (by decide +kernel), List.mem_of_getElem? (i := 965) (by decide +kernel)⟩
theorem lw_p30 : lw_okq (⟨"PostsEnd$Endings", "fillLastWeek", "(I)V"⟩, 13) := ⟨⟨by decide +kernel, by decide +kernel⟩, List.mem_of_getElem? (i := 257) (by decide +kernel), List.mem_of_getElem? (i := 1023) (by decide +kernel), List.mem_of_getElem? (i := 1024) (by decide +kernel)⟩
theorem lw_p31 : lw_okq (⟨"PostsEnd$Endings", "fillWeek", "(I)V"⟩, 13) := ⟨⟨by decide +kernel, by decide +kernel⟩, List.mem_of_getElem? (i := 257) (by decide +kernel), List.mem_of_getElem? (i := 1032) (by decide +kernel), List.mem_of_getElem? (i := 1033) (by decide +kernel)⟩
def lw_privs_2 : List (MethodName × Nat) := [(⟨"PostsEnd$Bumping", "mayBump", "(LPostsEnd$Person;LPostsEnd$Person;)Z"⟩, 4), (⟨"PostsEnd$Bumping", "markOf", "(LPostsEnd$Person;)I"⟩, 4), (⟨"PostsEnd$Bumping", "isBetter", "(LPostsEnd$Person;LPostsEnd$Person;)Z"⟩, 4), (⟨"PostsEnd$Offering", "leaverAt", "(I)LPostsEnd$Person;"⟩, 8), (⟨"PostsEnd$Offering", "gatherVacant", "()V"⟩, 8), (⟨"PostsEnd$Offering", "gatherWorth", "(I)V"⟩, 8), (⟨"PostsEnd$Offering", "vacantAt", "(I)LPostsEnd$Post;"⟩, 8), (⟨"PostsEnd$Offering", "worthTo", "(LPostsEnd$Person;LPostsEnd$Post;)I"⟩, 8), (⟨"PostsEnd$Offering", "fillRow", "(I)V"⟩, 8), (⟨"PostsEnd$Offering", "fillBest", "(II)V"⟩, 8), (⟨"PostsEnd$Offering", "bestFrom", "(II)I"⟩, 8), (⟨"PostsEnd$Offering", "bestWith", "(III)I"⟩, 8), (⟨"PostsEnd$Offering", "pickOffers", "()V"⟩, 8), (⟨"PostsEnd$Offering", "leastPick", "(II)I"⟩, 8), (⟨"PostsEnd$Endings", "fillLastWeek", "(I)V"⟩, 13), (⟨"PostsEnd$Endings", "fillWeek", "(I)V"⟩, 13)]
theorem lw_r2 : ∀ q ∈ lw_privs_2, lw_okq q := List.forall_mem_cons.mpr ⟨lw_p16, List.forall_mem_cons.mpr ⟨lw_p17, List.forall_mem_cons.mpr ⟨lw_p18, List.forall_mem_cons.mpr ⟨lw_p19, List.forall_mem_cons.mpr ⟨lw_p20, List.forall_mem_cons.mpr ⟨lw_p21, List.forall_mem_cons.mpr ⟨lw_p22, List.forall_mem_cons.mpr ⟨lw_p23, List.forall_mem_cons.mpr ⟨lw_p24, List.forall_mem_cons.mpr ⟨lw_p25, List.forall_mem_cons.mpr ⟨lw_p26, List.forall_mem_cons.mpr ⟨lw_p27, List.forall_mem_cons.mpr ⟨lw_p28, List.forall_mem_cons.mpr ⟨lw_p29, List.forall_mem_cons.mpr ⟨lw_p30, List.forall_mem_cons.mpr ⟨lw_p31, fun _ h => absurd h List.not_mem_nil⟩⟩⟩⟩⟩⟩⟩⟩⟩⟩⟩⟩⟩⟩⟩⟩
theorem lw_p32 : lw_okq (⟨"PostsEnd$Endings", "keepLeast", "(II)V"⟩, 13) := ⟨⟨by decide +kernel, by decide +kernel⟩, List.mem_of_getElem? (i := 257) (by decide +kernel), List.mem_of_getElem? (i := 1037) (by decide +kernel), List.mem_of_getElem? (i := 1038) (by decide +kernel)⟩
theorem lw_p33 : lw_okq (⟨"PostsEnd$Endings", "takeLeast", "(II)V"⟩, 13) := ⟨⟨by decide +kernel, by decide +kernel⟩, List.mem_of_getElem? (i := 257) (by decide +kernel), List.mem_of_getElem? (i := 1041) (by decide +kernel), List.mem_of_getElem? (i := 1042) (by decide +kernel)⟩
theorem lw_p34 : lw_okq (⟨"PostsEnd$Endings", "behind", "(II)I"⟩, 13) := ⟨⟨by decide +kernel, by decide +kernel⟩, List.mem_of_getElem? (i := 257) (by decide +kernel), List.mem_of_getElem? (i := 1057) (by decide +kernel), List.mem_of_getElem? (i := 1058) (by decide +kernel)⟩
theorem lw_p35 : lw_okq (⟨"PostsEnd$Ranks", "gatherGrowth", "(I)V"⟩, 6) := ⟨⟨by decide +kernel, by decide +kernel⟩, List.mem_of_getElem? (i := 127) (by decide +kernel), List.mem_of_getElem? (i := 1073) (by decide +kernel), List.mem_of_getElem? (i := 1074) (by decide +kernel)⟩
theorem lw_p36 : lw_okq (⟨"PostsEnd$Ranks", "goesWith", "(III)Z"⟩, 6) := ⟨⟨by decide +kernel, by decide +kernel⟩, List.mem_of_getElem? (i := 127) (by decide +kernel), List.mem_of_getElem? (i := 1078) (by decide +kernel), List.mem_of_getElem? (i := 1079) (by decide +kernel)⟩
theorem lw_p37 : lw_okq (⟨"PostsEnd$Ranks", "gainOf", "(LPostsEnd$Telling;I)I"⟩, 6) := ⟨⟨by decide +kernel, by decide +kernel⟩, List.mem_of_getElem? (i := 127) (by decide +kernel), List.mem_of_getElem? (i := 1091) (by decide +kernel), List.mem_of_getElem? (i := 1092) (by decide +kernel)⟩
theorem lw_p38 : lw_okq (⟨"PostsEnd$Ranks", "goers", "([II)J"⟩, 6) := ⟨⟨by decide +kernel, by decide +kernel⟩, List.mem_of_getElem? (i := 127) (by decide +kernel), List.mem_of_getElem? (i := 1098) (by decide +kernel), List.mem_of_getElem? (i := 1099) (by decide +kernel)⟩
theorem lw_p39 : lw_okq (⟨"PostsEnd", "refusalsOf", "(I)I"⟩, 8) := ⟨⟨by decide +kernel, by decide +kernel⟩, List.mem_of_getElem? (i := 19) (by decide +kernel), List.mem_of_getElem? (i := 1146) (by decide +kernel), List.mem_of_getElem? (i := 1147) (by decide +kernel)⟩
theorem lw_p40 : lw_okq (⟨"PostsEndModel", "refuse", "(I)I"⟩, 66) := ⟨⟨by decide +kernel, by decide +kernel⟩, List.mem_of_getElem? (i := 1150) (by decide +kernel), List.mem_of_getElem? (i := 1360) (by decide +kernel), List.mem_of_getElem? (i := 1361) (by decide +kernel)⟩
theorem lw_p41 : lw_okq (⟨"PostsEndModel", "isUnit", "(I)Z"⟩, 66) := ⟨⟨by decide +kernel, by decide +kernel⟩, List.mem_of_getElem? (i := 1150) (by decide +kernel), List.mem_of_getElem? (i := 1375) (by decide +kernel), List.mem_of_getElem? (i := 1376) (by decide +kernel)⟩
theorem lw_p42 : lw_okq (⟨"PostsEndModel", "isPost", "(I)Z"⟩, 66) := ⟨⟨by decide +kernel, by decide +kernel⟩, List.mem_of_getElem? (i := 1150) (by decide +kernel), List.mem_of_getElem? (i := 1383) (by decide +kernel), List.mem_of_getElem? (i := 1384) (by decide +kernel)⟩
theorem lw_p43 : lw_okq (⟨"PostsEndModel", "holder", "(I)I"⟩, 66) := ⟨⟨by decide +kernel, by decide +kernel⟩, List.mem_of_getElem? (i := 1150) (by decide +kernel), List.mem_of_getElem? (i := 1387) (by decide +kernel), List.mem_of_getElem? (i := 1388) (by decide +kernel)⟩
theorem lw_p44 : lw_okq (⟨"PostsEndModel", "drop", "(I)V"⟩, 66) := ⟨⟨by decide +kernel, by decide +kernel⟩, List.mem_of_getElem? (i := 1150) (by decide +kernel), List.mem_of_getElem? (i := 1391) (by decide +kernel), List.mem_of_getElem? (i := 1392) (by decide +kernel)⟩
theorem lw_p45 : lw_okq (⟨"PostsEndModel", "isVacant", "(I)Z"⟩, 66) := ⟨⟨by decide +kernel, by decide +kernel⟩, List.mem_of_getElem? (i := 1150) (by decide +kernel), List.mem_of_getElem? (i := 1403) (by decide +kernel), List.mem_of_getElem? (i := 1404) (by decide +kernel)⟩
theorem lw_p46 : lw_okq (⟨"PostsEndModel", "isPerson", "(I)Z"⟩, 66) := ⟨⟨by decide +kernel, by decide +kernel⟩, List.mem_of_getElem? (i := 1150) (by decide +kernel), List.mem_of_getElem? (i := 1411) (by decide +kernel), List.mem_of_getElem? (i := 1412) (by decide +kernel)⟩
theorem lw_p47 : lw_okq (⟨"PostsEndModel", "refuseFar", "(I)I"⟩, 66) := ⟨⟨by decide +kernel, by decide +kernel⟩, List.mem_of_getElem? (i := 1150) (by decide +kernel), List.mem_of_getElem? (i := 1415) (by decide +kernel), List.mem_of_getElem? (i := 1416) (by decide +kernel)⟩
def lw_privs_3 : List (MethodName × Nat) := [(⟨"PostsEnd$Endings", "keepLeast", "(II)V"⟩, 13), (⟨"PostsEnd$Endings", "takeLeast", "(II)V"⟩, 13), (⟨"PostsEnd$Endings", "behind", "(II)I"⟩, 13), (⟨"PostsEnd$Ranks", "gatherGrowth", "(I)V"⟩, 6), (⟨"PostsEnd$Ranks", "goesWith", "(III)Z"⟩, 6), (⟨"PostsEnd$Ranks", "gainOf", "(LPostsEnd$Telling;I)I"⟩, 6), (⟨"PostsEnd$Ranks", "goers", "([II)J"⟩, 6), (⟨"PostsEnd", "refusalsOf", "(I)I"⟩, 8), (⟨"PostsEndModel", "refuse", "(I)I"⟩, 66), (⟨"PostsEndModel", "isUnit", "(I)Z"⟩, 66), (⟨"PostsEndModel", "isPost", "(I)Z"⟩, 66), (⟨"PostsEndModel", "holder", "(I)I"⟩, 66), (⟨"PostsEndModel", "drop", "(I)V"⟩, 66), (⟨"PostsEndModel", "isVacant", "(I)Z"⟩, 66), (⟨"PostsEndModel", "isPerson", "(I)Z"⟩, 66), (⟨"PostsEndModel", "refuseFar", "(I)I"⟩, 66)]
theorem lw_r3 : ∀ q ∈ lw_privs_3, lw_okq q := List.forall_mem_cons.mpr ⟨lw_p32, List.forall_mem_cons.mpr ⟨lw_p33, List.forall_mem_cons.mpr ⟨lw_p34, List.forall_mem_cons.mpr ⟨lw_p35, List.forall_mem_cons.mpr ⟨lw_p36, List.forall_mem_cons.mpr ⟨lw_p37, List.forall_mem_cons.mpr ⟨lw_p38, List.forall_mem_cons.mpr ⟨lw_p39, List.forall_mem_cons.mpr ⟨lw_p40, List.forall_mem_cons.mpr ⟨lw_p41, List.forall_mem_cons.mpr ⟨lw_p42, List.forall_mem_cons.mpr ⟨lw_p43, List.forall_mem_cons.mpr ⟨lw_p44, List.forall_mem_cons.mpr ⟨lw_p45, List.forall_mem_cons.mpr ⟨lw_p46, List.forall_mem_cons.mpr ⟨lw_p47, fun _ h => absurd h List.not_mem_nil⟩⟩⟩⟩⟩⟩⟩⟩⟩⟩⟩⟩⟩⟩⟩⟩
theorem lw_p48 : lw_okq (⟨"PostsEndModel", "isHere", "(I)Z"⟩, 66) := ⟨⟨by decide +kernel, by decide +kernel⟩, List.mem_of_getElem? (i := 1150) (by decide +kernel), List.mem_of_getElem? (i := 1424) (by decide +kernel), List.mem_of_getElem? (i := 1425) (by decide +kernel)⟩
theorem lw_p49 : lw_okq (⟨"PostsEndModel", "isTelling", "(I)Z"⟩, 66) := ⟨⟨by decide +kernel, by decide +kernel⟩, List.mem_of_getElem? (i := 1150) (by decide +kernel), List.mem_of_getElem? (i := 1444) (by decide +kernel), List.mem_of_getElem? (i := 1445) (by decide +kernel)⟩
theorem lw_p50 : lw_okq (⟨"PostsEndModel", "putRight", "(II)V"⟩, 66) := ⟨⟨by decide +kernel, by decide +kernel⟩, List.mem_of_getElem? (i := 1150) (by decide +kernel), List.mem_of_getElem? (i := 1448) (by decide +kernel), List.mem_of_getElem? (i := 1449) (by decide +kernel)⟩
theorem lw_p51 : lw_okq (⟨"PostsEndModel", "markOf", "(II)I"⟩, 66) := ⟨⟨by decide +kernel, by decide +kernel⟩, List.mem_of_getElem? (i := 1150) (by decide +kernel), List.mem_of_getElem? (i := 1456) (by decide +kernel), List.mem_of_getElem? (i := 1457) (by decide +kernel)⟩
theorem lw_p52 : lw_okq (⟨"PostsEndModel", "partOf", "(III)I"⟩, 66) := ⟨⟨by decide +kernel, by decide +kernel⟩, List.mem_of_getElem? (i := 1150) (by decide +kernel), List.mem_of_getElem? (i := 1460) (by decide +kernel), List.mem_of_getElem? (i := 1461) (by decide +kernel)⟩
theorem lw_p53 : lw_okq (⟨"PostsEndModel", "knownOf", "(III)I"⟩, 66) := ⟨⟨by decide +kernel, by decide +kernel⟩, List.mem_of_getElem? (i := 1150) (by decide +kernel), List.mem_of_getElem? (i := 1464) (by decide +kernel), List.mem_of_getElem? (i := 1465) (by decide +kernel)⟩
theorem lw_p54 : lw_okq (⟨"PostsEndModel", "skillFor", "(II)I"⟩, 66) := ⟨⟨by decide +kernel, by decide +kernel⟩, List.mem_of_getElem? (i := 1150) (by decide +kernel), List.mem_of_getElem? (i := 1468) (by decide +kernel), List.mem_of_getElem? (i := 1469) (by decide +kernel)⟩
theorem lw_p55 : lw_okq (⟨"PostsEndModel", "wholeYears", "(I)I"⟩, 66) := ⟨⟨by decide +kernel, by decide +kernel⟩, List.mem_of_getElem? (i := 1150) (by decide +kernel), List.mem_of_getElem? (i := 1475) (by decide +kernel), List.mem_of_getElem? (i := 1476) (by decide +kernel)⟩
theorem lw_p56 : lw_okq (⟨"PostsEndModel", "findPools", "(I)I"⟩, 66) := ⟨⟨by decide +kernel, by decide +kernel⟩, List.mem_of_getElem? (i := 1150) (by decide +kernel), List.mem_of_getElem? (i := 1483) (by decide +kernel), List.mem_of_getElem? (i := 1484) (by decide +kernel)⟩
theorem lw_p57 : lw_okq (⟨"PostsEndModel", "isBelow", "(II)Z"⟩, 66) := ⟨⟨by decide +kernel, by decide +kernel⟩, List.mem_of_getElem? (i := 1150) (by decide +kernel), List.mem_of_getElem? (i := 1487) (by decide +kernel), List.mem_of_getElem? (i := 1488) (by decide +kernel)⟩
theorem lw_p58 : lw_okq (⟨"PostsEndModel", "areLike", "(II)Z"⟩, 66) := ⟨⟨by decide +kernel, by decide +kernel⟩, List.mem_of_getElem? (i := 1150) (by decide +kernel), List.mem_of_getElem? (i := 1491) (by decide +kernel), List.mem_of_getElem? (i := 1492) (by decide +kernel)⟩
theorem lw_p59 : lw_okq (⟨"PostsEndModel", "isPool", "(II)Z"⟩, 66) := ⟨⟨by decide +kernel, by decide +kernel⟩, List.mem_of_getElem? (i := 1150) (by decide +kernel), List.mem_of_getElem? (i := 1503) (by decide +kernel), List.mem_of_getElem? (i := 1504) (by decide +kernel)⟩
theorem lw_p60 : lw_okq (⟨"PostsEndModel", "findCut", "(II)I"⟩, 66) := ⟨⟨by decide +kernel, by decide +kernel⟩, List.mem_of_getElem? (i := 1150) (by decide +kernel), List.mem_of_getElem? (i := 1510) (by decide +kernel), List.mem_of_getElem? (i := 1511) (by decide +kernel)⟩
theorem lw_p61 : lw_okq (⟨"PostsEndModel", "isOf", "(II)Z"⟩, 66) := ⟨⟨by decide +kernel, by decide +kernel⟩, List.mem_of_getElem? (i := 1150) (by decide +kernel), List.mem_of_getElem? (i := 1514) (by decide +kernel), List.mem_of_getElem? (i := 1515) (by decide +kernel)⟩
theorem lw_p62 : lw_okq (⟨"PostsEndModel", "isGuarded", "(I)Z"⟩, 66) := ⟨⟨by decide +kernel, by decide +kernel⟩, List.mem_of_getElem? (i := 1150) (by decide +kernel), List.mem_of_getElem? (i := 1518) (by decide +kernel), List.mem_of_getElem? (i := 1519) (by decide +kernel)⟩
theorem lw_p63 : lw_okq (⟨"PostsEndModel", "isAhead", "(III)Z"⟩, 66) := ⟨⟨by decide +kernel, by decide +kernel⟩, List.mem_of_getElem? (i := 1150) (by decide +kernel), List.mem_of_getElem? (i := 1522) (by decide +kernel), List.mem_of_getElem? (i := 1523) (by decide +kernel)⟩
def lw_privs_4 : List (MethodName × Nat) := [(⟨"PostsEndModel", "isHere", "(I)Z"⟩, 66), (⟨"PostsEndModel", "isTelling", "(I)Z"⟩, 66), (⟨"PostsEndModel", "putRight", "(II)V"⟩, 66), (⟨"PostsEndModel", "markOf", "(II)I"⟩, 66), (⟨"PostsEndModel", "partOf", "(III)I"⟩, 66), (⟨"PostsEndModel", "knownOf", "(III)I"⟩, 66), (⟨"PostsEndModel", "skillFor", "(II)I"⟩, 66), (⟨"PostsEndModel", "wholeYears", "(I)I"⟩, 66), (⟨"PostsEndModel", "findPools", "(I)I"⟩, 66), (⟨"PostsEndModel", "isBelow", "(II)Z"⟩, 66), (⟨"PostsEndModel", "areLike", "(II)Z"⟩, 66), (⟨"PostsEndModel", "isPool", "(II)Z"⟩, 66), (⟨"PostsEndModel", "findCut", "(II)I"⟩, 66), (⟨"PostsEndModel", "isOf", "(II)Z"⟩, 66), (⟨"PostsEndModel", "isGuarded", "(I)Z"⟩, 66), (⟨"PostsEndModel", "isAhead", "(III)Z"⟩, 66)]
theorem lw_r4 : ∀ q ∈ lw_privs_4, lw_okq q := List.forall_mem_cons.mpr ⟨lw_p48, List.forall_mem_cons.mpr ⟨lw_p49, List.forall_mem_cons.mpr ⟨lw_p50, List.forall_mem_cons.mpr ⟨lw_p51, List.forall_mem_cons.mpr ⟨lw_p52, List.forall_mem_cons.mpr ⟨lw_p53, List.forall_mem_cons.mpr ⟨lw_p54, List.forall_mem_cons.mpr ⟨lw_p55, List.forall_mem_cons.mpr ⟨lw_p56, List.forall_mem_cons.mpr ⟨lw_p57, List.forall_mem_cons.mpr ⟨lw_p58, List.forall_mem_cons.mpr ⟨lw_p59, List.forall_mem_cons.mpr ⟨lw_p60, List.forall_mem_cons.mpr ⟨lw_p61, List.forall_mem_cons.mpr ⟨lw_p62, List.forall_mem_cons.mpr ⟨lw_p63, fun _ h => absurd h List.not_mem_nil⟩⟩⟩⟩⟩⟩⟩⟩⟩⟩⟩⟩⟩⟩⟩⟩
theorem lw_p64 : lw_okq (⟨"PostsEndModel", "severanceOf", "(I)I"⟩, 66) := ⟨⟨by decide +kernel, by decide +kernel⟩, List.mem_of_getElem? (i := 1150) (by decide +kernel), List.mem_of_getElem? (i := 1535) (by decide +kernel), List.mem_of_getElem? (i := 1536) (by decide +kernel)⟩
theorem lw_p65 : lw_okq (⟨"PostsEndModel", "wrongChoice", "(II)I"⟩, 66) := ⟨⟨by decide +kernel, by decide +kernel⟩, List.mem_of_getElem? (i := 1150) (by decide +kernel), List.mem_of_getElem? (i := 1543) (by decide +kernel), List.mem_of_getElem? (i := 1544) (by decide +kernel)⟩
theorem lw_p66 : lw_okq (⟨"PostsEndModel", "findPeople", "(I)V"⟩, 66) := ⟨⟨by decide +kernel, by decide +kernel⟩, List.mem_of_getElem? (i := 1150) (by decide +kernel), List.mem_of_getElem? (i := 1547) (by decide +kernel), List.mem_of_getElem? (i := 1548) (by decide +kernel)⟩
theorem lw_p67 : lw_okq (⟨"PostsEndModel", "findChoice", "(I)V"⟩, 66) := ⟨⟨by decide +kernel, by decide +kernel⟩, List.mem_of_getElem? (i := 1150) (by decide +kernel), List.mem_of_getElem? (i := 1551) (by decide +kernel), List.mem_of_getElem? (i := 1552) (by decide +kernel)⟩
theorem lw_p68 : lw_okq (⟨"PostsEndModel", "mayGo", "(I)Z"⟩, 66) := ⟨⟨by decide +kernel, by decide +kernel⟩, List.mem_of_getElem? (i := 1150) (by decide +kernel), List.mem_of_getElem? (i := 1555) (by decide +kernel), List.mem_of_getElem? (i := 1556) (by decide +kernel)⟩
theorem lw_p69 : lw_okq (⟨"PostsEndModel", "findChain", "(I)V"⟩, 66) := ⟨⟨by decide +kernel, by decide +kernel⟩, List.mem_of_getElem? (i := 1150) (by decide +kernel), List.mem_of_getElem? (i := 1567) (by decide +kernel), List.mem_of_getElem? (i := 1568) (by decide +kernel)⟩
theorem lw_p70 : lw_okq (⟨"PostsEndModel", "takes", "(II)I"⟩, 66) := ⟨⟨by decide +kernel, by decide +kernel⟩, List.mem_of_getElem? (i := 1150) (by decide +kernel), List.mem_of_getElem? (i := 1571) (by decide +kernel), List.mem_of_getElem? (i := 1572) (by decide +kernel)⟩
theorem lw_p71 : lw_okq (⟨"PostsEndModel", "isMoved", "(I)Z"⟩, 66) := ⟨⟨by decide +kernel, by decide +kernel⟩, List.mem_of_getElem? (i := 1150) (by decide +kernel), List.mem_of_getElem? (i := 1575) (by decide +kernel), List.mem_of_getElem? (i := 1576) (by decide +kernel)⟩
theorem lw_p72 : lw_okq (⟨"PostsEndModel", "fitOf", "(II)I"⟩, 66) := ⟨⟨by decide +kernel, by decide +kernel⟩, List.mem_of_getElem? (i := 1150) (by decide +kernel), List.mem_of_getElem? (i := 1595) (by decide +kernel), List.mem_of_getElem? (i := 1596) (by decide +kernel)⟩
theorem lw_p73 : lw_okq (⟨"PostsEndModel", "findOffers", "()V"⟩, 66) := ⟨⟨by decide +kernel, by decide +kernel⟩, List.mem_of_getElem? (i := 1150) (by decide +kernel), List.mem_of_getElem? (i := 1606) (by decide +kernel), List.mem_of_getElem? (i := 1607) (by decide +kernel)⟩
theorem lw_p74 : lw_okq (⟨"PostsEndModel", "worth", "(III)I"⟩, 66) := ⟨⟨by decide +kernel, by decide +kernel⟩, List.mem_of_getElem? (i := 1150) (by decide +kernel), List.mem_of_getElem? (i := 1610) (by decide +kernel), List.mem_of_getElem? (i := 1611) (by decide +kernel)⟩
theorem lw_p75 : lw_okq (⟨"PostsEndModel", "endedBy", "(II)I"⟩, 66) := ⟨⟨by decide +kernel, by decide +kernel⟩, List.mem_of_getElem? (i := 1150) (by decide +kernel), List.mem_of_getElem? (i := 1627) (by decide +kernel), List.mem_of_getElem? (i := 1628) (by decide +kernel)⟩
theorem lw_p76 : lw_okq (⟨"PostsEndModel", "findWeeks", "(IIII)V"⟩, 66) := ⟨⟨by decide +kernel, by decide +kernel⟩, List.mem_of_getElem? (i := 1150) (by decide +kernel), List.mem_of_getElem? (i := 1641) (by decide +kernel), List.mem_of_getElem? (i := 1642) (by decide +kernel)⟩
theorem lw_p77 : lw_okq (⟨"PostsEndModel", "weekCost", "(IIIIII)I"⟩, 66) := ⟨⟨by decide +kernel, by decide +kernel⟩, List.mem_of_getElem? (i := 1150) (by decide +kernel), List.mem_of_getElem? (i := 1645) (by decide +kernel), List.mem_of_getElem? (i := 1646) (by decide +kernel)⟩
theorem lw_p78 : lw_okq (⟨"PostsEndModel", "isCut", "(III)Z"⟩, 66) := ⟨⟨by decide +kernel, by decide +kernel⟩, List.mem_of_getElem? (i := 1150) (by decide +kernel), List.mem_of_getElem? (i := 1657) (by decide +kernel), List.mem_of_getElem? (i := 1658) (by decide +kernel)⟩
def lw_privs_5 : List (MethodName × Nat) := [(⟨"PostsEndModel", "severanceOf", "(I)I"⟩, 66), (⟨"PostsEndModel", "wrongChoice", "(II)I"⟩, 66), (⟨"PostsEndModel", "findPeople", "(I)V"⟩, 66), (⟨"PostsEndModel", "findChoice", "(I)V"⟩, 66), (⟨"PostsEndModel", "mayGo", "(I)Z"⟩, 66), (⟨"PostsEndModel", "findChain", "(I)V"⟩, 66), (⟨"PostsEndModel", "takes", "(II)I"⟩, 66), (⟨"PostsEndModel", "isMoved", "(I)Z"⟩, 66), (⟨"PostsEndModel", "fitOf", "(II)I"⟩, 66), (⟨"PostsEndModel", "findOffers", "()V"⟩, 66), (⟨"PostsEndModel", "worth", "(III)I"⟩, 66), (⟨"PostsEndModel", "endedBy", "(II)I"⟩, 66), (⟨"PostsEndModel", "findWeeks", "(IIII)V"⟩, 66), (⟨"PostsEndModel", "weekCost", "(IIIIII)I"⟩, 66), (⟨"PostsEndModel", "isCut", "(III)Z"⟩, 66)]
theorem lw_r5 : ∀ q ∈ lw_privs_5, lw_okq q := List.forall_mem_cons.mpr ⟨lw_p64, List.forall_mem_cons.mpr ⟨lw_p65, List.forall_mem_cons.mpr ⟨lw_p66, List.forall_mem_cons.mpr ⟨lw_p67, List.forall_mem_cons.mpr ⟨lw_p68, List.forall_mem_cons.mpr ⟨lw_p69, List.forall_mem_cons.mpr ⟨lw_p70, List.forall_mem_cons.mpr ⟨lw_p71, List.forall_mem_cons.mpr ⟨lw_p72, List.forall_mem_cons.mpr ⟨lw_p73, List.forall_mem_cons.mpr ⟨lw_p74, List.forall_mem_cons.mpr ⟨lw_p75, List.forall_mem_cons.mpr ⟨lw_p76, List.forall_mem_cons.mpr ⟨lw_p77, List.forall_mem_cons.mpr ⟨lw_p78, fun _ h => absurd h List.not_mem_nil⟩⟩⟩⟩⟩⟩⟩⟩⟩⟩⟩⟩⟩⟩⟩
def lw_privs : List (MethodName × Nat) := lw_privs_1 ++ (lw_privs_2 ++ (lw_privs_3 ++ (lw_privs_4 ++ (lw_privs_5))))
def lw_tbl : List Cond := k2_sels lw_privs ++ tables_1
theorem lw_privs_ok : ∀ q ∈ lw_privs, lw_okq q := by
  show ∀ q ∈ lw_privs_1 ++ (lw_privs_2 ++ (lw_privs_3 ++ (lw_privs_4 ++ (lw_privs_5)))), lw_okq q
  exact List.forall_mem_append.mpr ⟨lw_r1, List.forall_mem_append.mpr ⟨lw_r2, List.forall_mem_append.mpr ⟨lw_r3, List.forall_mem_append.mpr ⟨lw_r4, lw_r5⟩⟩⟩⟩
def RX0 : String := "PostsEnd$Bumping"
def TX0 : u_T := fun k => match k with
  | 0 => ("PostsEnd$Bumping", "firm", "LPostsEnd$Firm;", true)
  | 1 => ("PostsEnd$Bumping", "marks", "[I", true)
  | 2 => ("PostsEnd$Bumping", "row", "[LPostsEnd$Person;", true)
  | _ => ("PostsEnd$Bumping", "moves", "I", false)
def tyX0 : Nat → FieldType := fun k => match k with
  | 0 => .object "PostsEnd$Firm"
  | 1 => .array .int
  | 2 => .array (.object "PostsEnd$Person")
  | _ => .int
theorem nmX0 : ∀ a, a < 4 → ∀ b, b < 4 → a ≠ b → (TX0 a).2.1 ≠ (TX0 b).2.1 := by decide +kernel
theorem tyX0_ok : ∀ k, k < 4 → parseFieldDescriptor (TX0 k).2.2.1 = some (tyX0 k) := by decide +kernel
abbrev cX0_init : ByteArray := prog_2_method_1_code
def yX0_init : MethodName := ⟨RX0, "<init>", "(LPostsEnd$Firm;)V"⟩
abbrev cX0_follow : ByteArray := prog_2_method_2_code
def yX0_follow : MethodName := ⟨RX0, "follow", "(LPostsEnd$Person;)V"⟩
abbrev cX0_gatherMarks : ByteArray := prog_2_method_3_code
def yX0_gatherMarks : MethodName := ⟨RX0, "gatherMarks", "()V"⟩
abbrev cX0_markOf : ByteArray := prog_2_method_4_code
def yX0_markOf : MethodName := ⟨RX0, "markOf", "(LPostsEnd$Person;)I"⟩
abbrev cX0_bumpedBy : ByteArray := prog_2_method_5_code
def yX0_bumpedBy : MethodName := ⟨RX0, "bumpedBy", "(LPostsEnd$Person;)LPostsEnd$Person;"⟩
abbrev cX0_mayBump : ByteArray := prog_2_method_6_code
def yX0_mayBump : MethodName := ⟨RX0, "mayBump", "(LPostsEnd$Person;LPostsEnd$Person;)Z"⟩
abbrev cX0_isBetter : ByteArray := prog_2_method_7_code
def yX0_isBetter : MethodName := ⟨RX0, "isBetter", "(LPostsEnd$Person;LPostsEnd$Person;)Z"⟩
abbrev cX0_gradeOf : ByteArray := prog_2_method_8_code
def yX0_gradeOf : MethodName := ⟨RX0, "gradeOf", "(LPostsEnd$Person;)I"⟩
abbrev cX0_personAfter : ByteArray := prog_2_method_9_code
def yX0_personAfter : MethodName := ⟨RX0, "personAfter", "(I)I"⟩
abbrev cX0_postOf : ByteArray := prog_2_method_10_code
def yX0_postOf : MethodName := ⟨RX0, "postOf", "(I)I"⟩
def RX1 : String := "PostsEnd$Chooser"
def TX1 : u_T := fun k => match k with
  | 0 => ("PostsEnd$Chooser", "firm", "LPostsEnd$Firm;", true)
  | 1 => ("PostsEnd$Chooser", "costs", "[I", true)
  | 2 => ("PostsEnd$Chooser", "marks", "[I", true)
  | 3 => ("PostsEnd$Chooser", "having", "[I", true)
  | 4 => ("PostsEnd$Chooser", "least", "[I", true)
  | 5 => ("PostsEnd$Chooser", "size", "I", false)
  | 6 => ("PostsEnd$Chooser", "barred", "I", false)
  | 7 => ("PostsEnd$Chooser", "willing", "I", false)
  | 8 => ("PostsEnd$Chooser", "set", "I", false)
  | 9 => ("PostsEnd$Chooser", "mark", "I", false)
  | 10 => ("PostsEnd$Chooser", "found", "Z", false)
  | 11 => ("PostsEnd$Chooser", "forced", "I", false)
  | _ => ("PostsEnd$Chooser", "cost", "I", false)
def tyX1 : Nat → FieldType := fun k => match k with
  | 0 => .object "PostsEnd$Firm"
  | 1 => .array .int
  | 2 => .array .int
  | 3 => .array .int
  | 4 => .array .int
  | 5 => .int
  | 6 => .int
  | 7 => .int
  | 8 => .int
  | 9 => .int
  | 10 => .boolean
  | 11 => .int
  | _ => .int
theorem nmX1 : ∀ a, a < 13 → ∀ b, b < 13 → a ≠ b → (TX1 a).2.1 ≠ (TX1 b).2.1 := by decide +kernel
theorem tyX1_ok : ∀ k, k < 13 → parseFieldDescriptor (TX1 k).2.2.1 = some (tyX1 k) := by decide +kernel
abbrev cX1_init : ByteArray := prog_3_method_1_code
def yX1_init : MethodName := ⟨RX1, "<init>", "(LPostsEnd$Firm;)V"⟩
abbrev cX1_gather : ByteArray := prog_3_method_2_code
def yX1_gather : MethodName := ⟨RX1, "gather", "(LPostsEnd$Pools;)V"⟩
abbrev cX1_choose : ByteArray := prog_3_method_3_code
def yX1_choose : MethodName := ⟨RX1, "choose", "(I)V"⟩
abbrev cX1_goes : ByteArray := prog_3_method_4_code
def yX1_goes : MethodName := ⟨RX1, "goes", "(I)Z"⟩
abbrev cX1_gatherOne : ByteArray := prog_3_method_5_code
def yX1_gatherOne : MethodName := ⟨RX1, "gatherOne", "(ILPostsEnd$Person;)V"⟩
abbrev cX1_gatherLeast : ByteArray := prog_3_method_6_code
def yX1_gatherLeast : MethodName := ⟨RX1, "gatherLeast", "(I)V"⟩
abbrev cX1_keepsSkills : ByteArray := prog_3_method_7_code
def yX1_keepsSkills : MethodName := ⟨RX1, "keepsSkills", "(I)Z"⟩
abbrev cX1_weigh : ByteArray := prog_3_method_8_code
def yX1_weigh : MethodName := ⟨RX1, "weigh", "(I)V"⟩
abbrev cX1_together : ByteArray := prog_3_method_9_code
def yX1_together : MethodName := ⟨RX1, "together", "([II)I"⟩
def RX2 : String := "PostsEnd$Endings"
def TX2 : u_T := fun k => match k with
  | 0 => ("PostsEnd$Endings", "placeRow", "[I", true)
  | 1 => ("PostsEnd$Endings", "dayRow", "[I", true)
  | 2 => ("PostsEnd$Endings", "numberRow", "[I", true)
  | 3 => ("PostsEnd$Endings", "told", "I", false)
  | 4 => ("PostsEnd$Endings", "cost", "[I", true)
  | 5 => ("PostsEnd$Endings", "goneAfter", "[I", true)
  | 6 => ("PostsEnd$Endings", "toldBy", "[I", true)
  | 7 => ("PostsEnd$Endings", "leastOfBand", "[I", true)
  | 8 => ("PostsEnd$Endings", "leastAt", "[I", true)
  | 9 => ("PostsEnd$Endings", "lastWeek", "I", false)
  | 10 => ("PostsEnd$Endings", "step", "I", false)
  | 11 => ("PostsEnd$Endings", "steps", "I", false)
  | _ => ("PostsEnd$Endings", "left", "I", false)
def tyX2 : Nat → FieldType := fun k => match k with
  | 0 => .array .int
  | 1 => .array .int
  | 2 => .array .int
  | 3 => .int
  | 4 => .array .int
  | 5 => .array .int
  | 6 => .array .int
  | 7 => .array .int
  | 8 => .array .int
  | 9 => .int
  | 10 => .int
  | 11 => .int
  | _ => .int
theorem nmX2 : ∀ a, a < 13 → ∀ b, b < 13 → a ≠ b → (TX2 a).2.1 ≠ (TX2 b).2.1 := by decide +kernel
theorem tyX2_ok : ∀ k, k < 13 → parseFieldDescriptor (TX2 k).2.2.1 = some (tyX2 k) := by decide +kernel
abbrev cX2_init : ByteArray := prog_4_method_1_code
def yX2_init : MethodName := ⟨RX2, "<init>", "()V"⟩
abbrev cX2_add : ByteArray := prog_4_method_2_code
def yX2_add : MethodName := ⟨RX2, "add", "(III)I"⟩
abbrev cX2_within : ByteArray := prog_4_method_3_code
def yX2_within : MethodName := ⟨RX2, "within", "(II)I"⟩
abbrev cX2_part : ByteArray := prog_4_method_4_code
def yX2_part : MethodName := ⟨RX2, "part", "(IIIII)V"⟩
abbrev cX2_fillLastWeek : ByteArray := prog_4_method_5_code
def yX2_fillLastWeek : MethodName := ⟨RX2, "fillLastWeek", "(I)V"⟩
abbrev cX2_weeksEach : ByteArray := prog_4_method_6_code
def yX2_weeksEach : MethodName := ⟨RX2, "weeksEach", "(II)I"⟩
abbrev cX2_fillWeek : ByteArray := prog_4_method_7_code
def yX2_fillWeek : MethodName := ⟨RX2, "fillWeek", "(I)V"⟩
abbrev cX2_keepLeast : ByteArray := prog_4_method_8_code
def yX2_keepLeast : MethodName := ⟨RX2, "keepLeast", "(II)V"⟩
abbrev cX2_takeLeast : ByteArray := prog_4_method_9_code
def yX2_takeLeast : MethodName := ⟨RX2, "takeLeast", "(II)V"⟩
abbrev cX2_weeksPaid : ByteArray := prog_4_method_10_code
def yX2_weeksPaid : MethodName := ⟨RX2, "weeksPaid", "()I"⟩
abbrev cX2_partIn : ByteArray := prog_4_method_11_code
def yX2_partIn : MethodName := ⟨RX2, "partIn", "(I)I"⟩
abbrev cX2_behind : ByteArray := prog_4_method_12_code
def yX2_behind : MethodName := ⟨RX2, "behind", "(II)I"⟩
def RX3 : String := "PostsEnd$Firm"
def TX3 : u_T := fun k => match k with
  | 0 => ("PostsEnd$Firm", "day", "I", false)
  | 1 => ("PostsEnd$Firm", "units", "I", false)
  | 2 => ("PostsEnd$Firm", "posts", "I", false)
  | 3 => ("PostsEnd$Firm", "people", "I", false)
  | 4 => ("PostsEnd$Firm", "tellings", "I", false)
  | 5 => ("PostsEnd$Firm", "rightings", "I", false)
  | 6 => ("PostsEnd$Firm", "upward", "[I", true)
  | 7 => ("PostsEnd$Firm", "postRow", "[LPostsEnd$Post;", true)
  | 8 => ("PostsEnd$Firm", "personRow", "[LPostsEnd$Person;", true)
  | 9 => ("PostsEnd$Firm", "tellingRow", "[LPostsEnd$Telling;", true)
  | 10 => ("PostsEnd$Firm", "weighed", "[I", true)
  | _ => ("PostsEnd$Firm", "setting", "[I", true)
def tyX3 : Nat → FieldType := fun k => match k with
  | 0 => .int
  | 1 => .int
  | 2 => .int
  | 3 => .int
  | 4 => .int
  | 5 => .int
  | 6 => .array .int
  | 7 => .array (.object "PostsEnd$Post")
  | 8 => .array (.object "PostsEnd$Person")
  | 9 => .array (.object "PostsEnd$Telling")
  | 10 => .array .int
  | _ => .array .int
theorem nmX3 : ∀ a, a < 12 → ∀ b, b < 12 → a ≠ b → (TX3 a).2.1 ≠ (TX3 b).2.1 := by decide +kernel
theorem tyX3_ok : ∀ k, k < 12 → parseFieldDescriptor (TX3 k).2.2.1 = some (tyX3 k) := by decide +kernel
abbrev cX3_init : ByteArray := prog_5_method_1_code
def yX3_init : MethodName := ⟨RX3, "<init>", "()V"⟩
abbrev cX3_isUnit : ByteArray := prog_5_method_2_code
def yX3_isUnit : MethodName := ⟨RX3, "isUnit", "(I)Z"⟩
abbrev cX3_postAt : ByteArray := prog_5_method_3_code
def yX3_postAt : MethodName := ⟨RX3, "postAt", "(I)LPostsEnd$Post;"⟩
abbrev cX3_personAt : ByteArray := prog_5_method_4_code
def yX3_personAt : MethodName := ⟨RX3, "personAt", "(I)LPostsEnd$Person;"⟩
abbrev cX3_tellingAt : ByteArray := prog_5_method_5_code
def yX3_tellingAt : MethodName := ⟨RX3, "tellingAt", "(I)LPostsEnd$Telling;"⟩
abbrev cX3_addUnit : ByteArray := prog_5_method_6_code
def yX3_addUnit : MethodName := ⟨RX3, "addUnit", "(I)I"⟩
abbrev cX3_addPost : ByteArray := prog_5_method_7_code
def yX3_addPost : MethodName := ⟨RX3, "addPost", "(LPostsEnd$Post;)I"⟩
abbrev cX3_addPerson : ByteArray := prog_5_method_8_code
def yX3_addPerson : MethodName := ⟨RX3, "addPerson", "(LPostsEnd$Person;)I"⟩
abbrev cX3_addTelling : ByteArray := prog_5_method_9_code
def yX3_addTelling : MethodName := ⟨RX3, "addTelling", "(LPostsEnd$Person;II)I"⟩
abbrev cX3_isOpenBelow : ByteArray := prog_5_method_10_code
def yX3_isOpenBelow : MethodName := ⟨RX3, "isOpenBelow", "(LPostsEnd$Post;I)Z"⟩
abbrev cX3_isAlike : ByteArray := prog_5_method_11_code
def yX3_isAlike : MethodName := ⟨RX3, "isAlike", "(LPostsEnd$Post;LPostsEnd$Post;)Z"⟩
abbrev cX3_isProtected : ByteArray := prog_5_method_12_code
def yX3_isProtected : MethodName := ⟨RX3, "isProtected", "(LPostsEnd$Person;)Z"⟩
abbrev cX3_wholeYears : ByteArray := prog_5_method_13_code
def yX3_wholeYears : MethodName := ⟨RX3, "wholeYears", "(LPostsEnd$Person;)I"⟩
abbrev cX3_severanceOf : ByteArray := prog_5_method_14_code
def yX3_severanceOf : MethodName := ⟨RX3, "severanceOf", "(LPostsEnd$Person;)I"⟩
abbrev cX3_partAsOf : ByteArray := prog_5_method_15_code
def yX3_partAsOf : MethodName := ⟨RX3, "partAsOf", "(LPostsEnd$Person;II)I"⟩
abbrev cX3_recordOf : ByteArray := prog_5_method_16_code
def yX3_recordOf : MethodName := ⟨RX3, "recordOf", "(I)I"⟩
abbrev cX3_markAsOf : ByteArray := prog_5_method_17_code
def yX3_markAsOf : MethodName := ⟨RX3, "markAsOf", "(LPostsEnd$Person;I)I"⟩
abbrev cX3_fitFor : ByteArray := prog_5_method_18_code
def yX3_fitFor : MethodName := ⟨RX3, "fitFor", "(LPostsEnd$Person;LPostsEnd$Post;)I"⟩
abbrev cX3_openPosts : ByteArray := prog_5_method_19_code
def yX3_openPosts : MethodName := ⟨RX3, "openPosts", "()I"⟩
abbrev cX3_vacantPosts : ByteArray := prog_5_method_20_code
def yX3_vacantPosts : MethodName := ⟨RX3, "vacantPosts", "()I"⟩
abbrev cX3_peopleHere : ByteArray := prog_5_method_21_code
def yX3_peopleHere : MethodName := ⟨RX3, "peopleHere", "()I"⟩
abbrev cX3_volunteersHere : ByteArray := prog_5_method_22_code
def yX3_volunteersHere : MethodName := ⟨RX3, "volunteersHere", "()I"⟩
abbrev cX3_firstToReturn : ByteArray := prog_5_method_23_code
def yX3_firstToReturn : MethodName := ⟨RX3, "firstToReturn", "(LPostsEnd$Post;)LPostsEnd$Person;"⟩
abbrev cX3_mayReturn : ByteArray := prog_5_method_24_code
def yX3_mayReturn : MethodName := ⟨RX3, "mayReturn", "(LPostsEnd$Person;LPostsEnd$Post;)Z"⟩
def RX4 : String := "PostsEnd$Offering"
def TX4 : u_T := fun k => match k with
  | 0 => ("PostsEnd$Offering", "firm", "LPostsEnd$Firm;", true)
  | 1 => ("PostsEnd$Offering", "leaverRow", "[LPostsEnd$Person;", true)
  | 2 => ("PostsEnd$Offering", "vacantRow", "[LPostsEnd$Post;", true)
  | 3 => ("PostsEnd$Offering", "worth", "[I", true)
  | 4 => ("PostsEnd$Offering", "best", "[I", true)
  | 5 => ("PostsEnd$Offering", "offerRow", "[LPostsEnd$Post;", true)
  | 6 => ("PostsEnd$Offering", "vacant", "I", false)
  | _ => ("PostsEnd$Offering", "leavers", "I", false)
def tyX4 : Nat → FieldType := fun k => match k with
  | 0 => .object "PostsEnd$Firm"
  | 1 => .array (.object "PostsEnd$Person")
  | 2 => .array (.object "PostsEnd$Post")
  | 3 => .array .int
  | 4 => .array .int
  | 5 => .array (.object "PostsEnd$Post")
  | 6 => .int
  | _ => .int
theorem nmX4 : ∀ a, a < 8 → ∀ b, b < 8 → a ≠ b → (TX4 a).2.1 ≠ (TX4 b).2.1 := by decide +kernel
theorem tyX4_ok : ∀ k, k < 8 → parseFieldDescriptor (TX4 k).2.2.1 = some (tyX4 k) := by decide +kernel
abbrev cX4_init : ByteArray := prog_6_method_1_code
def yX4_init : MethodName := ⟨RX4, "<init>", "(LPostsEnd$Firm;)V"⟩
abbrev cX4_isTold : ByteArray := prog_6_method_2_code
def yX4_isTold : MethodName := ⟨RX4, "isTold", "(LPostsEnd$Person;)Z"⟩
abbrev cX4_addLeaver : ByteArray := prog_6_method_3_code
def yX4_addLeaver : MethodName := ⟨RX4, "addLeaver", "(LPostsEnd$Person;)I"⟩
abbrev cX4_leaverAt : ByteArray := prog_6_method_4_code
def yX4_leaverAt : MethodName := ⟨RX4, "leaverAt", "(I)LPostsEnd$Person;"⟩
abbrev cX4_vacantAt : ByteArray := prog_6_method_5_code
def yX4_vacantAt : MethodName := ⟨RX4, "vacantAt", "(I)LPostsEnd$Post;"⟩
abbrev cX4_settle : ByteArray := prog_6_method_6_code
def yX4_settle : MethodName := ⟨RX4, "settle", "()V"⟩
abbrev cX4_gatherVacant : ByteArray := prog_6_method_7_code
def yX4_gatherVacant : MethodName := ⟨RX4, "gatherVacant", "()V"⟩
abbrev cX4_gatherWorth : ByteArray := prog_6_method_8_code
def yX4_gatherWorth : MethodName := ⟨RX4, "gatherWorth", "(I)V"⟩
abbrev cX4_worthTo : ByteArray := prog_6_method_9_code
def yX4_worthTo : MethodName := ⟨RX4, "worthTo", "(LPostsEnd$Person;LPostsEnd$Post;)I"⟩
abbrev cX4_bestFrom : ByteArray := prog_6_method_10_code
def yX4_bestFrom : MethodName := ⟨RX4, "bestFrom", "(II)I"⟩
abbrev cX4_bestWith : ByteArray := prog_6_method_11_code
def yX4_bestWith : MethodName := ⟨RX4, "bestWith", "(III)I"⟩
abbrev cX4_fillRow : ByteArray := prog_6_method_12_code
def yX4_fillRow : MethodName := ⟨RX4, "fillRow", "(I)V"⟩
abbrev cX4_fillBest : ByteArray := prog_6_method_13_code
def yX4_fillBest : MethodName := ⟨RX4, "fillBest", "(II)V"⟩
abbrev cX4_pickOffers : ByteArray := prog_6_method_14_code
def yX4_pickOffers : MethodName := ⟨RX4, "pickOffers", "()V"⟩
abbrev cX4_leastPick : ByteArray := prog_6_method_15_code
def yX4_leastPick : MethodName := ⟨RX4, "leastPick", "(II)I"⟩
abbrev cX4_postFor : ByteArray := prog_6_method_16_code
def yX4_postFor : MethodName := ⟨RX4, "postFor", "(I)I"⟩
abbrev cX4_total : ByteArray := prog_6_method_17_code
def yX4_total : MethodName := ⟨RX4, "total", "(I)I"⟩
def RX5 : String := "PostsEnd$Person"
def TX5 : u_T := fun k => match k with
  | 0 => ("PostsEnd$Person", "number", "I", true)
  | 1 => ("PostsEnd$Person", "skills", "I", true)
  | 2 => ("PostsEnd$Person", "came", "I", true)
  | 3 => ("PostsEnd$Person", "pay", "I", true)
  | 4 => ("PostsEnd$Person", "held", "LPostsEnd$Post;", false)
  | 5 => ("PostsEnd$Person", "heldLast", "LPostsEnd$Post;", false)
  | 6 => ("PostsEnd$Person", "leftOn", "I", false)
  | 7 => ("PostsEnd$Person", "until", "I", false)
  | 8 => ("PostsEnd$Person", "sum", "I", false)
  | 9 => ("PostsEnd$Person", "lastWork", "LPostsEnd$Telling;", false)
  | _ => ("PostsEnd$Person", "lastFaults", "LPostsEnd$Telling;", false)
def tyX5 : Nat → FieldType := fun k => match k with
  | 0 => .int
  | 1 => .int
  | 2 => .int
  | 3 => .int
  | 4 => .object "PostsEnd$Post"
  | 5 => .object "PostsEnd$Post"
  | 6 => .int
  | 7 => .int
  | 8 => .int
  | 9 => .object "PostsEnd$Telling"
  | _ => .object "PostsEnd$Telling"
theorem nmX5 : ∀ a, a < 11 → ∀ b, b < 11 → a ≠ b → (TX5 a).2.1 ≠ (TX5 b).2.1 := by decide +kernel
theorem tyX5_ok : ∀ k, k < 11 → parseFieldDescriptor (TX5 k).2.2.1 = some (tyX5 k) := by decide +kernel
abbrev cX5_init : ByteArray := prog_7_method_1_code
def yX5_init : MethodName := ⟨RX5, "<init>", "(IIII)V"⟩
abbrev cX5_isHere : ByteArray := prog_7_method_2_code
def yX5_isHere : MethodName := ⟨RX5, "isHere", "()Z"⟩
abbrev cX5_isVolunteer : ByteArray := prog_7_method_3_code
def yX5_isVolunteer : MethodName := ⟨RX5, "isVolunteer", "()Z"⟩
abbrev cX5_hold : ByteArray := prog_7_method_4_code
def yX5_hold : MethodName := ⟨RX5, "hold", "(LPostsEnd$Post;)V"⟩
abbrev cX5_lastTold : ByteArray := prog_7_method_5_code
def yX5_lastTold : MethodName := ⟨RX5, "lastTold", "(I)LPostsEnd$Telling;"⟩
abbrev cX5_add : ByteArray := prog_7_method_6_code
def yX5_add : MethodName := ⟨RX5, "add", "(LPostsEnd$Telling;)V"⟩
abbrev cX5_toldAsOf : ByteArray := prog_7_method_7_code
def yX5_toldAsOf : MethodName := ⟨RX5, "toldAsOf", "(II)I"⟩
def RX6 : String := "PostsEnd$Pools"
def TX6 : u_T := fun k => match k with
  | 0 => ("PostsEnd$Pools", "firm", "LPostsEnd$Firm;", true)
  | 1 => ("PostsEnd$Pools", "poolRow", "[I", true)
  | 2 => ("PostsEnd$Pools", "reached", "[LPostsEnd$Post;", true)
  | 3 => ("PostsEnd$Pools", "memberRow", "[LPostsEnd$Person;", true)
  | 4 => ("PostsEnd$Pools", "taken", "I", false)
  | 5 => ("PostsEnd$Pools", "found", "I", false)
  | _ => ("PostsEnd$Pools", "members", "I", false)
def tyX6 : Nat → FieldType := fun k => match k with
  | 0 => .object "PostsEnd$Firm"
  | 1 => .array .int
  | 2 => .array (.object "PostsEnd$Post")
  | 3 => .array (.object "PostsEnd$Person")
  | 4 => .int
  | 5 => .int
  | _ => .int
theorem nmX6 : ∀ a, a < 7 → ∀ b, b < 7 → a ≠ b → (TX6 a).2.1 ≠ (TX6 b).2.1 := by decide +kernel
theorem tyX6_ok : ∀ k, k < 7 → parseFieldDescriptor (TX6 k).2.2.1 = some (tyX6 k) := by decide +kernel
abbrev cX6_init : ByteArray := prog_8_method_1_code
def yX6_init : MethodName := ⟨RX6, "<init>", "(LPostsEnd$Firm;)V"⟩
abbrev cX6_join : ByteArray := prog_8_method_2_code
def yX6_join : MethodName := ⟨RX6, "join", "(I)V"⟩
abbrev cX6_isFree : ByteArray := prog_8_method_3_code
def yX6_isFree : MethodName := ⟨RX6, "isFree", "(LPostsEnd$Post;I)Z"⟩
abbrev cX6_joinedAs : ByteArray := prog_8_method_4_code
def yX6_joinedAs : MethodName := ⟨RX6, "joinedAs", "(LPostsEnd$Post;)I"⟩
abbrev cX6_spread : ByteArray := prog_8_method_5_code
def yX6_spread : MethodName := ⟨RX6, "spread", "(LPostsEnd$Post;I)V"⟩
abbrev cX6_reach : ByteArray := prog_8_method_6_code
def yX6_reach : MethodName := ⟨RX6, "reach", "(LPostsEnd$Post;I)I"⟩
abbrev cX6_take : ByteArray := prog_8_method_7_code
def yX6_take : MethodName := ⟨RX6, "take", "(II)Z"⟩
abbrev cX6_gatherMembers : ByteArray := prog_8_method_8_code
def yX6_gatherMembers : MethodName := ⟨RX6, "gatherMembers", "()V"⟩
abbrev cX6_holdsHere : ByteArray := prog_8_method_9_code
def yX6_holdsHere : MethodName := ⟨RX6, "holdsHere", "(LPostsEnd$Person;)Z"⟩
abbrev cX6_memberAt : ByteArray := prog_8_method_10_code
def yX6_memberAt : MethodName := ⟨RX6, "memberAt", "(I)LPostsEnd$Person;"⟩
abbrev cX6_placeOf : ByteArray := prog_8_method_11_code
def yX6_placeOf : MethodName := ⟨RX6, "placeOf", "(LPostsEnd$Person;)I"⟩
abbrev cX6_wanted : ByteArray := prog_8_method_12_code
def yX6_wanted : MethodName := ⟨RX6, "wanted", "()I"⟩
def RX7 : String := "PostsEnd$Post"
def TX7 : u_T := fun k => match k with
  | 0 => ("PostsEnd$Post", "number", "I", true)
  | 1 => ("PostsEnd$Post", "unit", "I", true)
  | 2 => ("PostsEnd$Post", "line", "I", true)
  | 3 => ("PostsEnd$Post", "grade", "I", true)
  | 4 => ("PostsEnd$Post", "hours", "I", true)
  | 5 => ("PostsEnd$Post", "wants", "I", true)
  | 6 => ("PostsEnd$Post", "endedOn", "I", false)
  | _ => ("PostsEnd$Post", "holder", "LPostsEnd$Person;", false)
def tyX7 : Nat → FieldType := fun k => match k with
  | 0 => .int
  | 1 => .int
  | 2 => .int
  | 3 => .int
  | 4 => .int
  | 5 => .int
  | 6 => .int
  | _ => .object "PostsEnd$Person"
theorem nmX7 : ∀ a, a < 8 → ∀ b, b < 8 → a ≠ b → (TX7 a).2.1 ≠ (TX7 b).2.1 := by decide +kernel
theorem tyX7_ok : ∀ k, k < 8 → parseFieldDescriptor (TX7 k).2.2.1 = some (tyX7 k) := by decide +kernel
abbrev cX7_init : ByteArray := prog_9_method_1_code
def yX7_init : MethodName := ⟨RX7, "<init>", "(IIIIII)V"⟩
abbrev cX7_isOpen : ByteArray := prog_9_method_2_code
def yX7_isOpen : MethodName := ⟨RX7, "isOpen", "()Z"⟩
abbrev cX7_isVacant : ByteArray := prog_9_method_3_code
def yX7_isVacant : MethodName := ⟨RX7, "isVacant", "()Z"⟩
abbrev cX7_mayBeHeldBy : ByteArray := prog_9_method_4_code
def yX7_mayBeHeldBy : MethodName := ⟨RX7, "mayBeHeldBy", "(LPostsEnd$Person;)Z"⟩
abbrev cX7_finish : ByteArray := prog_9_method_5_code
def yX7_finish : MethodName := ⟨RX7, "finish", "(I)V"⟩
def RX8 : String := "PostsEnd$Ranks"
def TX8 : u_T := fun k => match k with
  | 0 => ("PostsEnd$Ranks", "firm", "LPostsEnd$Firm;", true)
  | 1 => ("PostsEnd$Ranks", "row", "[LPostsEnd$Person;", true)
  | 2 => ("PostsEnd$Ranks", "marks", "[I", true)
  | 3 => ("PostsEnd$Ranks", "tried", "[I", true)
  | 4 => ("PostsEnd$Ranks", "growth", "[I", true)
  | _ => ("PostsEnd$Ranks", "size", "I", false)
def tyX8 : Nat → FieldType := fun k => match k with
  | 0 => .object "PostsEnd$Firm"
  | 1 => .array (.object "PostsEnd$Person")
  | 2 => .array .int
  | 3 => .array .int
  | 4 => .array .int
  | _ => .int
theorem nmX8 : ∀ a, a < 6 → ∀ b, b < 6 → a ≠ b → (TX8 a).2.1 ≠ (TX8 b).2.1 := by decide +kernel
theorem tyX8_ok : ∀ k, k < 6 → parseFieldDescriptor (TX8 k).2.2.1 = some (tyX8 k) := by decide +kernel
abbrev cX8_init : ByteArray := prog_10_method_1_code
def yX8_init : MethodName := ⟨RX8, "<init>", "(LPostsEnd$Firm;)V"⟩
abbrev cX8_gather : ByteArray := prog_10_method_2_code
def yX8_gather : MethodName := ⟨RX8, "gather", "(LPostsEnd$Pools;)V"⟩
abbrev cX8_placeOf : ByteArray := prog_10_method_3_code
def yX8_placeOf : MethodName := ⟨RX8, "placeOf", "(LPostsEnd$Person;)I"⟩
abbrev cX8_ahead : ByteArray := prog_10_method_4_code
def yX8_ahead : MethodName := ⟨RX8, "ahead", "([II)I"⟩
abbrev cX8_goesFirst : ByteArray := prog_10_method_5_code
def yX8_goesFirst : MethodName := ⟨RX8, "goesFirst", "(LPostsEnd$Person;LPostsEnd$Person;)Z"⟩
abbrev cX8_goesAt : ByteArray := prog_10_method_6_code
def yX8_goesAt : MethodName := ⟨RX8, "goesAt", "(II)I"⟩
abbrev cX8_turnedBy : ByteArray := prog_10_method_7_code
def yX8_turnedBy : MethodName := ⟨RX8, "turnedBy", "(III)I"⟩
abbrev cX8_gatherGrowth : ByteArray := prog_10_method_8_code
def yX8_gatherGrowth : MethodName := ⟨RX8, "gatherGrowth", "(I)V"⟩
abbrev cX8_goesWith : ByteArray := prog_10_method_9_code
def yX8_goesWith : MethodName := ⟨RX8, "goesWith", "(III)Z"⟩
abbrev cX8_movedBy : ByteArray := prog_10_method_10_code
def yX8_movedBy : MethodName := ⟨RX8, "movedBy", "(ILPostsEnd$Telling;I)I"⟩
abbrev cX8_gainOf : ByteArray := prog_10_method_11_code
def yX8_gainOf : MethodName := ⟨RX8, "gainOf", "(LPostsEnd$Telling;I)I"⟩
abbrev cX8_goers : ByteArray := prog_10_method_12_code
def yX8_goers : MethodName := ⟨RX8, "goers", "([II)J"⟩
def RX9 : String := "PostsEnd$Righting"
def TX9 : u_T := fun k => match k with
  | 0 => ("PostsEnd$Righting", "day", "I", true)
  | 1 => ("PostsEnd$Righting", "value", "I", true)
  | _ => ("PostsEnd$Righting", "before", "LPostsEnd$Righting;", true)
def tyX9 : Nat → FieldType := fun k => match k with
  | 0 => .int
  | 1 => .int
  | _ => .object "PostsEnd$Righting"
theorem nmX9 : ∀ a, a < 3 → ∀ b, b < 3 → a ≠ b → (TX9 a).2.1 ≠ (TX9 b).2.1 := by decide +kernel
theorem tyX9_ok : ∀ k, k < 3 → parseFieldDescriptor (TX9 k).2.2.1 = some (tyX9 k) := by decide +kernel
abbrev cX9_init : ByteArray := prog_11_method_1_code
def yX9_init : MethodName := ⟨RX9, "<init>", "(IILPostsEnd$Righting;)V"⟩
def RX10 : String := "PostsEnd$Telling"
def TX10 : u_T := fun k => match k with
  | 0 => ("PostsEnd$Telling", "who", "LPostsEnd$Person;", true)
  | 1 => ("PostsEnd$Telling", "what", "I", true)
  | 2 => ("PostsEnd$Telling", "day", "I", true)
  | 3 => ("PostsEnd$Telling", "value", "I", true)
  | 4 => ("PostsEnd$Telling", "before", "LPostsEnd$Telling;", true)
  | 5 => ("PostsEnd$Telling", "lastRight", "LPostsEnd$Righting;", false)
  | _ => ("PostsEnd$Telling", "times", "I", false)
def tyX10 : Nat → FieldType := fun k => match k with
  | 0 => .object "PostsEnd$Person"
  | 1 => .int
  | 2 => .int
  | 3 => .int
  | 4 => .object "PostsEnd$Telling"
  | 5 => .object "PostsEnd$Righting"
  | _ => .int
theorem nmX10 : ∀ a, a < 7 → ∀ b, b < 7 → a ≠ b → (TX10 a).2.1 ≠ (TX10 b).2.1 := by decide +kernel
theorem tyX10_ok : ∀ k, k < 7 → parseFieldDescriptor (TX10 k).2.2.1 = some (tyX10 k) := by decide +kernel
abbrev cX10_init : ByteArray := prog_12_method_1_code
def yX10_init : MethodName := ⟨RX10, "<init>", "(LPostsEnd$Person;IIILPostsEnd$Telling;)V"⟩
abbrev cX10_putRight : ByteArray := prog_12_method_2_code
def yX10_putRight : MethodName := ⟨RX10, "putRight", "(II)I"⟩
abbrev cX10_asOf : ByteArray := prog_12_method_3_code
def yX10_asOf : MethodName := ⟨RX10, "asOf", "(I)I"⟩
def RX11 : String := "PostsEnd"
def TX11 : u_T := fun k => match k with
  | 0 => ("PostsEnd", "firm", "LPostsEnd$Firm;", true)
  | 1 => ("PostsEnd", "pooling", "LPostsEnd$Pools;", true)
  | 2 => ("PostsEnd", "ranks", "LPostsEnd$Ranks;", true)
  | 3 => ("PostsEnd", "chooser", "LPostsEnd$Chooser;", true)
  | 4 => ("PostsEnd", "bumping", "LPostsEnd$Bumping;", true)
  | 5 => ("PostsEnd", "offering", "LPostsEnd$Offering;", true)
  | 6 => ("PostsEnd", "endings", "LPostsEnd$Endings;", true)
  | _ => ("PostsEnd", "refusals", "[I", true)
def tyX11 : Nat → FieldType := fun k => match k with
  | 0 => .object "PostsEnd$Firm"
  | 1 => .object "PostsEnd$Pools"
  | 2 => .object "PostsEnd$Ranks"
  | 3 => .object "PostsEnd$Chooser"
  | 4 => .object "PostsEnd$Bumping"
  | 5 => .object "PostsEnd$Offering"
  | 6 => .object "PostsEnd$Endings"
  | _ => .array .int
theorem nmX11 : ∀ a, a < 8 → ∀ b, b < 8 → a ≠ b → (TX11 a).2.1 ≠ (TX11 b).2.1 := by decide +kernel
theorem tyX11_ok : ∀ k, k < 8 → parseFieldDescriptor (TX11 k).2.2.1 = some (tyX11 k) := by decide +kernel
abbrev cX11_init : ByteArray := prog_1_method_1_code
def yX11_init : MethodName := ⟨RX11, "<init>", "()V"⟩
abbrev cX11_days : ByteArray := prog_1_method_2_code
def yX11_days : MethodName := ⟨RX11, "days", "(I)I"⟩
abbrev cX11_unit : ByteArray := prog_1_method_3_code
def yX11_unit : MethodName := ⟨RX11, "unit", "(II)I"⟩
abbrev cX11_post : ByteArray := prog_1_method_4_code
def yX11_post : MethodName := ⟨RX11, "post", "(IIIII)I"⟩
abbrev cX11_end : ByteArray := prog_1_method_5_code
def yX11_end : MethodName := ⟨RX11, "end", "(I)I"⟩
abbrev cX11_set : ByteArray := prog_1_method_6_code
def yX11_set : MethodName := ⟨RX11, "set", "(II)I"⟩
abbrev cX11_person : ByteArray := prog_1_method_7_code
def yX11_person : MethodName := ⟨RX11, "person", "(IIII)I"⟩
abbrev cX11_protect : ByteArray := prog_1_method_8_code
def yX11_protect : MethodName := ⟨RX11, "protect", "(II)I"⟩
abbrev cX11_move : ByteArray := prog_1_method_9_code
def yX11_move : MethodName := ⟨RX11, "move", "(II)I"⟩
abbrev cX11_leave : ByteArray := prog_1_method_10_code
def yX11_leave : MethodName := ⟨RX11, "leave", "(I)I"⟩
abbrev cX11_weight : ByteArray := prog_1_method_11_code
def yX11_weight : MethodName := ⟨RX11, "weight", "(II)I"⟩
abbrev cX11_tell : ByteArray := prog_1_method_12_code
def yX11_tell : MethodName := ⟨RX11, "tell", "(III)I"⟩
abbrev cX11_right : ByteArray := prog_1_method_13_code
def yX11_right : MethodName := ⟨RX11, "right", "(II)I"⟩
abbrev cX11_mark : ByteArray := prog_1_method_14_code
def yX11_mark : MethodName := ⟨RX11, "mark", "(III)I"⟩
abbrev cX11_pools : ByteArray := prog_1_method_15_code
def yX11_pools : MethodName := ⟨RX11, "pools", "(I)I"⟩
abbrev cX11_poolOf : ByteArray := prog_1_method_16_code
def yX11_poolOf : MethodName := ⟨RX11, "poolOf", "(II)I"⟩
abbrev cX11_cut : ByteArray := prog_1_method_17_code
def yX11_cut : MethodName := ⟨RX11, "cut", "(IIII)I"⟩
abbrev cX11_volunteer : ByteArray := prog_1_method_18_code
def yX11_volunteer : MethodName := ⟨RX11, "volunteer", "(II)I"⟩
abbrev cX11_severance : ByteArray := prog_1_method_19_code
def yX11_severance : MethodName := ⟨RX11, "severance", "(I)I"⟩
abbrev cX11_choice : ByteArray := prog_1_method_20_code
def yX11_choice : MethodName := ⟨RX11, "choice", "(IIII)I"⟩
abbrev cX11_chosen : ByteArray := prog_1_method_21_code
def yX11_chosen : MethodName := ⟨RX11, "chosen", "(IIII)I"⟩
abbrev cX11_chain : ByteArray := prog_1_method_22_code
def yX11_chain : MethodName := ⟨RX11, "chain", "(I)I"⟩
abbrev cX11_chainOf : ByteArray := prog_1_method_23_code
def yX11_chainOf : MethodName := ⟨RX11, "chainOf", "(III)I"⟩
abbrev cX11_leaver : ByteArray := prog_1_method_24_code
def yX11_leaver : MethodName := ⟨RX11, "leaver", "(I)I"⟩
abbrev cX11_clear : ByteArray := prog_1_method_25_code
def yX11_clear : MethodName := ⟨RX11, "clear", "()I"⟩
abbrev cX11_fit : ByteArray := prog_1_method_26_code
def yX11_fit : MethodName := ⟨RX11, "fit", "(II)I"⟩
abbrev cX11_offers : ByteArray := prog_1_method_27_code
def yX11_offers : MethodName := ⟨RX11, "offers", "(I)I"⟩
abbrev cX11_offered : ByteArray := prog_1_method_28_code
def yX11_offered : MethodName := ⟨RX11, "offered", "(I)I"⟩
abbrev cX11_ends : ByteArray := prog_1_method_29_code
def yX11_ends : MethodName := ⟨RX11, "ends", "(III)I"⟩
abbrev cX11_notice : ByteArray := prog_1_method_30_code
def yX11_notice : MethodName := ⟨RX11, "notice", "(II)I"⟩
abbrev cX11_weeks : ByteArray := prog_1_method_31_code
def yX11_weeks : MethodName := ⟨RX11, "weeks", "(IIIII)I"⟩
abbrev cX11_weekOf : ByteArray := prog_1_method_32_code
def yX11_weekOf : MethodName := ⟨RX11, "weekOf", "(IIIIII)I"⟩
abbrev cX11_turning : ByteArray := prog_1_method_33_code
def yX11_turning : MethodName := ⟨RX11, "turning", "(IIIII)I"⟩
abbrev cX11_moved : ByteArray := prog_1_method_34_code
def yX11_moved : MethodName := ⟨RX11, "moved", "(IIIII)I"⟩
abbrev cX11_back : ByteArray := prog_1_method_35_code
def yX11_back : MethodName := ⟨RX11, "back", "(I)I"⟩
abbrev cX11_count : ByteArray := prog_1_method_36_code
def yX11_count : MethodName := ⟨RX11, "count", "(I)I"⟩
abbrev cX11_refuse : ByteArray := prog_1_method_37_code
def yX11_refuse : MethodName := ⟨RX11, "refuse", "(I)I"⟩
abbrev cX11_refuseFar : ByteArray := prog_1_method_38_code
def yX11_refuseFar : MethodName := ⟨RX11, "refuseFar", "(I)I"⟩
abbrev cX11_refusalsOf : ByteArray := prog_1_method_39_code
def yX11_refusalsOf : MethodName := ⟨RX11, "refusalsOf", "(I)I"⟩
abbrev cX11_refusalOfNumber : ByteArray := prog_1_method_40_code
def yX11_refusalOfNumber : MethodName := ⟨RX11, "refusalOfNumber", "(I)I"⟩
abbrev cX11_refusalOfChoice : ByteArray := prog_1_method_41_code
def yX11_refusalOfChoice : MethodName := ⟨RX11, "refusalOfChoice", "(I)I"⟩
abbrev cX11_refusalOfParting : ByteArray := prog_1_method_42_code
def yX11_refusalOfParting : MethodName := ⟨RX11, "refusalOfParting", "(IIII)I"⟩
abbrev cX11_isPlace : ByteArray := prog_1_method_43_code
def yX11_isPlace : MethodName := ⟨RX11, "isPlace", "(I)Z"⟩
abbrev cX11_mostTold : ByteArray := prog_1_method_44_code
def yX11_mostTold : MethodName := ⟨RX11, "mostTold", "(I)I"⟩
abbrev cX11_bandOf : ByteArray := prog_1_method_45_code
def yX11_bandOf : MethodName := ⟨RX11, "bandOf", "(I)I"⟩
abbrev cX11_noticeOf : ByteArray := prog_1_method_46_code
def yX11_noticeOf : MethodName := ⟨RX11, "noticeOf", "(I)I"⟩
abbrev cX11_skillFor : ByteArray := prog_1_method_47_code
def yX11_skillFor : MethodName := ⟨RX11, "skillFor", "(LPostsEnd$Person;LPostsEnd$Post;)I"⟩
def RX12 : String := "PostsEndModel"
def TX12 : u_T := fun k => match k with
  | 0 => ("PostsEndModel", "day", "I", false)
  | 1 => ("PostsEndModel", "units", "I", false)
  | 2 => ("PostsEndModel", "place", "[I", true)
  | 3 => ("PostsEndModel", "unitAbove", "[I", true)
  | 4 => ("PostsEndModel", "posts", "I", false)
  | 5 => ("PostsEndModel", "unitOf", "[I", true)
  | 6 => ("PostsEndModel", "line", "[I", true)
  | 7 => ("PostsEndModel", "grade", "[I", true)
  | 8 => ("PostsEndModel", "hours", "[I", true)
  | 9 => ("PostsEndModel", "wants", "[I", true)
  | 10 => ("PostsEndModel", "endedOn", "[I", true)
  | 11 => ("PostsEndModel", "people", "I", false)
  | 12 => ("PostsEndModel", "skills", "[I", true)
  | 13 => ("PostsEndModel", "came", "[I", true)
  | 14 => ("PostsEndModel", "pay", "[I", true)
  | 15 => ("PostsEndModel", "holds", "[I", true)
  | 16 => ("PostsEndModel", "held", "[I", true)
  | 17 => ("PostsEndModel", "leftOn", "[I", true)
  | 18 => ("PostsEndModel", "guarded", "[I", true)
  | 19 => ("PostsEndModel", "asks", "[I", true)
  | 20 => ("PostsEndModel", "share", "I", false)
  | 21 => ("PostsEndModel", "need", "I", false)
  | 22 => ("PostsEndModel", "cap", "I", false)
  | 23 => ("PostsEndModel", "weights", "[I", true)
  | 24 => ("PostsEndModel", "refused", "[I", true)
  | 25 => ("PostsEndModel", "tellings", "I", false)
  | 26 => ("PostsEndModel", "tellWho", "[I", true)
  | 27 => ("PostsEndModel", "tellWhat", "[I", true)
  | 28 => ("PostsEndModel", "tellValue", "[I", true)
  | 29 => ("PostsEndModel", "tellDay", "[I", true)
  | 30 => ("PostsEndModel", "rights", "I", false)
  | 31 => ("PostsEndModel", "rightOf", "[I", true)
  | 32 => ("PostsEndModel", "rightValue", "[I", true)
  | 33 => ("PostsEndModel", "rightDay", "[I", true)
  | 34 => ("PostsEndModel", "leastOf", "[I", true)
  | 35 => ("PostsEndModel", "poolNumber", "[I", true)
  | 36 => ("PostsEndModel", "row", "[I", true)
  | 37 => ("PostsEndModel", "rowMark", "[I", true)
  | 38 => ("PostsEndModel", "rowMany", "I", false)
  | 39 => ("PostsEndModel", "poolPeople", "[I", true)
  | 40 => ("PostsEndModel", "poolMany", "I", false)
  | 41 => ("PostsEndModel", "poolWants", "I", false)
  | 42 => ("PostsEndModel", "bestSet", "I", false)
  | 43 => ("PostsEndModel", "bestForced", "I", false)
  | 44 => ("PostsEndModel", "bestCost", "I", false)
  | 45 => ("PostsEndModel", "bestMarks", "I", false)
  | 46 => ("PostsEndModel", "costOf", "[I", true)
  | 47 => ("PostsEndModel", "markAt", "[I", true)
  | 48 => ("PostsEndModel", "mover", "[I", true)
  | 49 => ("PostsEndModel", "toPost", "[I", true)
  | 50 => ("PostsEndModel", "bumped", "[I", true)
  | 51 => ("PostsEndModel", "moves", "I", false)
  | 52 => ("PostsEndModel", "last", "I", false)
  | 53 => ("PostsEndModel", "leavers", "I", false)
  | 54 => ("PostsEndModel", "leaver", "[I", true)
  | 55 => ("PostsEndModel", "vacant", "[I", true)
  | 56 => ("PostsEndModel", "vacantMany", "I", false)
  | 57 => ("PostsEndModel", "toCome", "[I", true)
  | 58 => ("PostsEndModel", "offer", "[I", true)
  | 59 => ("PostsEndModel", "endMany", "I", false)
  | 60 => ("PostsEndModel", "endPlace", "[I", true)
  | 61 => ("PostsEndModel", "endDay", "[I", true)
  | 62 => ("PostsEndModel", "endSum", "[I", true)
  | 63 => ("PostsEndModel", "costOn", "[I", true)
  | 64 => ("PostsEndModel", "toldBy", "[I", true)
  | _ => ("PostsEndModel", "isIn", "[Z", true)
def tyX12 : Nat → FieldType := fun k => match k with
  | 0 => .int
  | 1 => .int
  | 2 => .array .int
  | 3 => .array .int
  | 4 => .int
  | 5 => .array .int
  | 6 => .array .int
  | 7 => .array .int
  | 8 => .array .int
  | 9 => .array .int
  | 10 => .array .int
  | 11 => .int
  | 12 => .array .int
  | 13 => .array .int
  | 14 => .array .int
  | 15 => .array .int
  | 16 => .array .int
  | 17 => .array .int
  | 18 => .array .int
  | 19 => .array .int
  | 20 => .int
  | 21 => .int
  | 22 => .int
  | 23 => .array .int
  | 24 => .array .int
  | 25 => .int
  | 26 => .array .int
  | 27 => .array .int
  | 28 => .array .int
  | 29 => .array .int
  | 30 => .int
  | 31 => .array .int
  | 32 => .array .int
  | 33 => .array .int
  | 34 => .array .int
  | 35 => .array .int
  | 36 => .array .int
  | 37 => .array .int
  | 38 => .int
  | 39 => .array .int
  | 40 => .int
  | 41 => .int
  | 42 => .int
  | 43 => .int
  | 44 => .int
  | 45 => .int
  | 46 => .array .int
  | 47 => .array .int
  | 48 => .array .int
  | 49 => .array .int
  | 50 => .array .int
  | 51 => .int
  | 52 => .int
  | 53 => .int
  | 54 => .array .int
  | 55 => .array .int
  | 56 => .int
  | 57 => .array .int
  | 58 => .array .int
  | 59 => .int
  | 60 => .array .int
  | 61 => .array .int
  | 62 => .array .int
  | 63 => .array .int
  | 64 => .array .int
  | _ => .array .boolean
theorem nmX12 : ∀ a, a < 66 → ∀ b, b < 66 → a ≠ b → (TX12 a).2.1 ≠ (TX12 b).2.1 := by decide +kernel
theorem tyX12_ok : ∀ k, k < 66 → parseFieldDescriptor (TX12 k).2.2.1 = some (tyX12 k) := by decide +kernel
abbrev cX12_init : ByteArray := prog_14_method_1_code
def yX12_init : MethodName := ⟨RX12, "<init>", "()V"⟩
abbrev cX12_in : ByteArray := prog_14_method_3_code
def yX12_in : MethodName := ⟨RX12, "in", "(III)Z"⟩
abbrev cX12_refuse : ByteArray := prog_14_method_4_code
def yX12_refuse : MethodName := ⟨RX12, "refuse", "(I)I"⟩
abbrev cX12_refuseFar : ByteArray := prog_14_method_5_code
def yX12_refuseFar : MethodName := ⟨RX12, "refuseFar", "(I)I"⟩
abbrev cX12_ones : ByteArray := prog_14_method_6_code
def yX12_ones : MethodName := ⟨RX12, "ones", "(I)I"⟩
abbrev cX12_isUnit : ByteArray := prog_14_method_7_code
def yX12_isUnit : MethodName := ⟨RX12, "isUnit", "(I)Z"⟩
abbrev cX12_isPost : ByteArray := prog_14_method_8_code
def yX12_isPost : MethodName := ⟨RX12, "isPost", "(I)Z"⟩
abbrev cX12_isPerson : ByteArray := prog_14_method_9_code
def yX12_isPerson : MethodName := ⟨RX12, "isPerson", "(I)Z"⟩
abbrev cX12_isHere : ByteArray := prog_14_method_10_code
def yX12_isHere : MethodName := ⟨RX12, "isHere", "(I)Z"⟩
abbrev cX12_isGuarded : ByteArray := prog_14_method_11_code
def yX12_isGuarded : MethodName := ⟨RX12, "isGuarded", "(I)Z"⟩
abbrev cX12_holder : ByteArray := prog_14_method_12_code
def yX12_holder : MethodName := ⟨RX12, "holder", "(I)I"⟩
abbrev cX12_isVacant : ByteArray := prog_14_method_13_code
def yX12_isVacant : MethodName := ⟨RX12, "isVacant", "(I)Z"⟩
abbrev cX12_days : ByteArray := prog_14_method_14_code
def yX12_days : MethodName := ⟨RX12, "days", "(I)I"⟩
abbrev cX12_unit : ByteArray := prog_14_method_15_code
def yX12_unit : MethodName := ⟨RX12, "unit", "(II)I"⟩
abbrev cX12_post : ByteArray := prog_14_method_16_code
def yX12_post : MethodName := ⟨RX12, "post", "(IIIII)I"⟩
abbrev cX12_drop : ByteArray := prog_14_method_17_code
def yX12_drop : MethodName := ⟨RX12, "drop", "(I)V"⟩
abbrev cX12_end : ByteArray := prog_14_method_18_code
def yX12_end : MethodName := ⟨RX12, "end", "(I)I"⟩
abbrev cX12_set : ByteArray := prog_14_method_19_code
def yX12_set : MethodName := ⟨RX12, "set", "(II)I"⟩
abbrev cX12_person : ByteArray := prog_14_method_20_code
def yX12_person : MethodName := ⟨RX12, "person", "(IIII)I"⟩
abbrev cX12_protect : ByteArray := prog_14_method_21_code
def yX12_protect : MethodName := ⟨RX12, "protect", "(II)I"⟩
abbrev cX12_move : ByteArray := prog_14_method_22_code
def yX12_move : MethodName := ⟨RX12, "move", "(II)I"⟩
abbrev cX12_leave : ByteArray := prog_14_method_23_code
def yX12_leave : MethodName := ⟨RX12, "leave", "(I)I"⟩
abbrev cX12_weight : ByteArray := prog_14_method_24_code
def yX12_weight : MethodName := ⟨RX12, "weight", "(II)I"⟩
abbrev cX12_tell : ByteArray := prog_14_method_25_code
def yX12_tell : MethodName := ⟨RX12, "tell", "(III)I"⟩
abbrev cX12_isTelling : ByteArray := prog_14_method_26_code
def yX12_isTelling : MethodName := ⟨RX12, "isTelling", "(I)Z"⟩
abbrev cX12_putRight : ByteArray := prog_14_method_27_code
def yX12_putRight : MethodName := ⟨RX12, "putRight", "(II)V"⟩
abbrev cX12_right : ByteArray := prog_14_method_28_code
def yX12_right : MethodName := ⟨RX12, "right", "(II)I"⟩
abbrev cX12_knownOf : ByteArray := prog_14_method_29_code
def yX12_knownOf : MethodName := ⟨RX12, "knownOf", "(III)I"⟩
abbrev cX12_skillFor : ByteArray := prog_14_method_30_code
def yX12_skillFor : MethodName := ⟨RX12, "skillFor", "(II)I"⟩
abbrev cX12_wholeYears : ByteArray := prog_14_method_31_code
def yX12_wholeYears : MethodName := ⟨RX12, "wholeYears", "(I)I"⟩
abbrev cX12_partOf : ByteArray := prog_14_method_32_code
def yX12_partOf : MethodName := ⟨RX12, "partOf", "(III)I"⟩
abbrev cX12_markOf : ByteArray := prog_14_method_33_code
def yX12_markOf : MethodName := ⟨RX12, "markOf", "(II)I"⟩
abbrev cX12_mark : ByteArray := prog_14_method_34_code
def yX12_mark : MethodName := ⟨RX12, "mark", "(III)I"⟩
abbrev cX12_areLike : ByteArray := prog_14_method_35_code
def yX12_areLike : MethodName := ⟨RX12, "areLike", "(II)Z"⟩
abbrev cX12_isBelow : ByteArray := prog_14_method_36_code
def yX12_isBelow : MethodName := ⟨RX12, "isBelow", "(II)Z"⟩
abbrev cX12_findPools : ByteArray := prog_14_method_37_code
def yX12_findPools : MethodName := ⟨RX12, "findPools", "(I)I"⟩
abbrev cX12_pools : ByteArray := prog_14_method_38_code
def yX12_pools : MethodName := ⟨RX12, "pools", "(I)I"⟩
abbrev cX12_poolOf : ByteArray := prog_14_method_39_code
def yX12_poolOf : MethodName := ⟨RX12, "poolOf", "(II)I"⟩
abbrev cX12_isPool : ByteArray := prog_14_method_40_code
def yX12_isPool : MethodName := ⟨RX12, "isPool", "(II)Z"⟩
abbrev cX12_isOf : ByteArray := prog_14_method_41_code
def yX12_isOf : MethodName := ⟨RX12, "isOf", "(II)Z"⟩
abbrev cX12_isAhead : ByteArray := prog_14_method_42_code
def yX12_isAhead : MethodName := ⟨RX12, "isAhead", "(III)Z"⟩
abbrev cX12_findCut : ByteArray := prog_14_method_43_code
def yX12_findCut : MethodName := ⟨RX12, "findCut", "(II)I"⟩
abbrev cX12_wrongMany : ByteArray := prog_14_method_44_code
def yX12_wrongMany : MethodName := ⟨RX12, "wrongMany", "(I)I"⟩
abbrev cX12_cut : ByteArray := prog_14_method_45_code
def yX12_cut : MethodName := ⟨RX12, "cut", "(IIII)I"⟩
abbrev cX12_isCut : ByteArray := prog_14_method_46_code
def yX12_isCut : MethodName := ⟨RX12, "isCut", "(III)Z"⟩
abbrev cX12_volunteer : ByteArray := prog_14_method_47_code
def yX12_volunteer : MethodName := ⟨RX12, "volunteer", "(II)I"⟩
abbrev cX12_severanceOf : ByteArray := prog_14_method_48_code
def yX12_severanceOf : MethodName := ⟨RX12, "severanceOf", "(I)I"⟩
abbrev cX12_severance : ByteArray := prog_14_method_49_code
def yX12_severance : MethodName := ⟨RX12, "severance", "(I)I"⟩
abbrev cX12_findPeople : ByteArray := prog_14_method_50_code
def yX12_findPeople : MethodName := ⟨RX12, "findPeople", "(I)V"⟩
abbrev cX12_mayGo : ByteArray := prog_14_method_51_code
def yX12_mayGo : MethodName := ⟨RX12, "mayGo", "(I)Z"⟩
abbrev cX12_findChoice : ByteArray := prog_14_method_52_code
def yX12_findChoice : MethodName := ⟨RX12, "findChoice", "(I)V"⟩
abbrev cX12_wrongChoice : ByteArray := prog_14_method_53_code
def yX12_wrongChoice : MethodName := ⟨RX12, "wrongChoice", "(II)I"⟩
abbrev cX12_choice : ByteArray := prog_14_method_54_code
def yX12_choice : MethodName := ⟨RX12, "choice", "(IIII)I"⟩
abbrev cX12_chosen : ByteArray := prog_14_method_55_code
def yX12_chosen : MethodName := ⟨RX12, "chosen", "(IIII)I"⟩
abbrev cX12_takes : ByteArray := prog_14_method_56_code
def yX12_takes : MethodName := ⟨RX12, "takes", "(II)I"⟩
abbrev cX12_isMoved : ByteArray := prog_14_method_57_code
def yX12_isMoved : MethodName := ⟨RX12, "isMoved", "(I)Z"⟩
abbrev cX12_findChain : ByteArray := prog_14_method_58_code
def yX12_findChain : MethodName := ⟨RX12, "findChain", "(I)V"⟩
abbrev cX12_chain : ByteArray := prog_14_method_59_code
def yX12_chain : MethodName := ⟨RX12, "chain", "(I)I"⟩
abbrev cX12_chainOf : ByteArray := prog_14_method_60_code
def yX12_chainOf : MethodName := ⟨RX12, "chainOf", "(III)I"⟩
abbrev cX12_leaver : ByteArray := prog_14_method_61_code
def yX12_leaver : MethodName := ⟨RX12, "leaver", "(I)I"⟩
abbrev cX12_clear : ByteArray := prog_14_method_62_code
def yX12_clear : MethodName := ⟨RX12, "clear", "()I"⟩
abbrev cX12_amount : ByteArray := prog_14_method_63_code
def yX12_amount : MethodName := ⟨RX12, "amount", "(I)I"⟩
abbrev cX12_fitOf : ByteArray := prog_14_method_64_code
def yX12_fitOf : MethodName := ⟨RX12, "fitOf", "(II)I"⟩
abbrev cX12_fit : ByteArray := prog_14_method_65_code
def yX12_fit : MethodName := ⟨RX12, "fit", "(II)I"⟩
abbrev cX12_worth : ByteArray := prog_14_method_66_code
def yX12_worth : MethodName := ⟨RX12, "worth", "(III)I"⟩
abbrev cX12_findOffers : ByteArray := prog_14_method_67_code
def yX12_findOffers : MethodName := ⟨RX12, "findOffers", "()V"⟩
abbrev cX12_offers : ByteArray := prog_14_method_68_code
def yX12_offers : MethodName := ⟨RX12, "offers", "(I)I"⟩
abbrev cX12_offered : ByteArray := prog_14_method_69_code
def yX12_offered : MethodName := ⟨RX12, "offered", "(I)I"⟩
abbrev cX12_ends : ByteArray := prog_14_method_70_code
def yX12_ends : MethodName := ⟨RX12, "ends", "(III)I"⟩
abbrev cX12_endedBy : ByteArray := prog_14_method_71_code
def yX12_endedBy : MethodName := ⟨RX12, "endedBy", "(II)I"⟩
abbrev cX12_noticeBy : ByteArray := prog_14_method_72_code
def yX12_noticeBy : MethodName := ⟨RX12, "noticeBy", "(I)I"⟩
abbrev cX12_notice : ByteArray := prog_14_method_73_code
def yX12_notice : MethodName := ⟨RX12, "notice", "(II)I"⟩
abbrev cX12_weekCost : ByteArray := prog_14_method_74_code
def yX12_weekCost : MethodName := ⟨RX12, "weekCost", "(IIIIII)I"⟩
abbrev cX12_findWeeks : ByteArray := prog_14_method_75_code
def yX12_findWeeks : MethodName := ⟨RX12, "findWeeks", "(IIII)V"⟩
abbrev cX12_wrongWeeks : ByteArray := prog_14_method_76_code
def yX12_wrongWeeks : MethodName := ⟨RX12, "wrongWeeks", "(IIII)I"⟩
abbrev cX12_weeks : ByteArray := prog_14_method_77_code
def yX12_weeks : MethodName := ⟨RX12, "weeks", "(IIIII)I"⟩
abbrev cX12_weekOf : ByteArray := prog_14_method_78_code
def yX12_weekOf : MethodName := ⟨RX12, "weekOf", "(IIIIII)I"⟩
abbrev cX12_turning : ByteArray := prog_14_method_79_code
def yX12_turning : MethodName := ⟨RX12, "turning", "(IIIII)I"⟩
abbrev cX12_moved : ByteArray := prog_14_method_80_code
def yX12_moved : MethodName := ⟨RX12, "moved", "(IIIII)I"⟩
abbrev cX12_back : ByteArray := prog_14_method_81_code
def yX12_back : MethodName := ⟨RX12, "back", "(I)I"⟩
abbrev cX12_count : ByteArray := prog_14_method_82_code
def yX12_count : MethodName := ⟨RX12, "count", "(I)I"⟩
def RJ6 : String := "java/lang/Integer"
abbrev cJ6_bitCount_0f7a4 : ByteArray := prog_15_method_49_code
def yJ6_bitCount_0f7a4 : MethodName := ⟨RJ6, "bitCount", "(I)I"⟩
def RJ13 : String := "java/lang/Long"
abbrev cJ13_bitCount_95d88 : ByteArray := prog_16_method_50_code
def yJ13_bitCount_95d88 : MethodName := ⟨RJ13, "bitCount", "(J)I"⟩
def RJ9 : String := "java/lang/Math"
abbrev cJ9_abs_0f7a4 : ByteArray := prog_17_method_59_code
def yJ9_abs_0f7a4 : MethodName := ⟨RJ9, "abs", "(I)I"⟩
abbrev cJ9_max_7cf53 : ByteArray := prog_17_method_65_code
def yJ9_max_7cf53 : MethodName := ⟨RJ9, "max", "(II)I"⟩
abbrev cJ9_min_7cf53 : ByteArray := prog_17_method_69_code
def yJ9_min_7cf53 : MethodName := ⟨RJ9, "min", "(II)I"⟩
def RJ7 : String := "java/util/Arrays"
abbrev cJ7_fill_53178 : ByteArray := prog_18_method_103_code
def yJ7_fill_53178 : MethodName := ⟨RJ7, "fill", "([II)V"⟩
def RL : String := "PostsEndLaw"
abbrev cL_law : ByteArray := code
def yL_law : MethodName := ⟨RL, "law", "([I)Z"⟩
abbrev vwCl : List vw_C := [(RX0, TX0, 4), (RX1, TX1, 13), (RX2, TX2, 13), (RX3, TX3, 12), (RX4, TX4, 8), (RX5, TX5, 11), (RX6, TX6, 7), (RX7, TX7, 8), (RX8, TX8, 6), (RX9, TX9, 3), (RX10, TX10, 7), (RX11, TX11, 8), (RX12, TX12, 66)]
end
section
theorem dX12_init_0 : decode cX12_init 0 = .ok (.aload_n 0, 1) := by decide +kernel
theorem dX12_init_1 : decode cX12_init 1 = .ok (.invokespecial 1, 3) := by decide +kernel
theorem dX12_init_4 : decode cX12_init 4 = .ok (.aload_n 0, 1) := by decide +kernel
theorem dX12_init_5 : decode cX12_init 5 = .ok (.bipush 12, 2) := by decide +kernel
theorem dX12_init_7 : decode cX12_init 7 = .ok (.newarray .int, 2) := by decide +kernel
theorem dX12_init_9 : decode cX12_init 9 = .ok (.putfield 7, 3) := by decide +kernel
theorem dX12_init_12 : decode cX12_init 12 = .ok (.aload_n 0, 1) := by decide +kernel
theorem dX12_init_13 : decode cX12_init 13 = .ok (.bipush 12, 2) := by decide +kernel
theorem dX12_init_15 : decode cX12_init 15 = .ok (.newarray .int, 2) := by decide +kernel
theorem dX12_init_17 : decode cX12_init 17 = .ok (.putfield 13, 3) := by decide +kernel
theorem dX12_init_20 : decode cX12_init 20 = .ok (.aload_n 0, 1) := by decide +kernel
theorem dX12_init_21 : decode cX12_init 21 = .ok (.bipush 40, 2) := by decide +kernel
theorem dX12_init_23 : decode cX12_init 23 = .ok (.newarray .int, 2) := by decide +kernel
theorem dX12_init_25 : decode cX12_init 25 = .ok (.putfield 16, 3) := by decide +kernel
theorem dX12_init_28 : decode cX12_init 28 = .ok (.aload_n 0, 1) := by decide +kernel
theorem dX12_init_29 : decode cX12_init 29 = .ok (.bipush 40, 2) := by decide +kernel
theorem dX12_init_31 : decode cX12_init 31 = .ok (.newarray .int, 2) := by decide +kernel
theorem dX12_init_33 : decode cX12_init 33 = .ok (.putfield 19, 3) := by decide +kernel
theorem dX12_init_36 : decode cX12_init 36 = .ok (.aload_n 0, 1) := by decide +kernel
theorem dX12_init_37 : decode cX12_init 37 = .ok (.bipush 40, 2) := by decide +kernel
theorem dX12_init_39 : decode cX12_init 39 = .ok (.newarray .int, 2) := by decide +kernel
theorem dX12_init_41 : decode cX12_init 41 = .ok (.putfield 22, 3) := by decide +kernel
theorem dX12_init_44 : decode cX12_init 44 = .ok (.aload_n 0, 1) := by decide +kernel
theorem dX12_init_45 : decode cX12_init 45 = .ok (.bipush 40, 2) := by decide +kernel
theorem dX12_init_47 : decode cX12_init 47 = .ok (.newarray .int, 2) := by decide +kernel
theorem dX12_init_49 : decode cX12_init 49 = .ok (.putfield 25, 3) := by decide +kernel
theorem dX12_init_52 : decode cX12_init 52 = .ok (.aload_n 0, 1) := by decide +kernel
theorem dX12_init_53 : decode cX12_init 53 = .ok (.bipush 40, 2) := by decide +kernel
theorem dX12_init_55 : decode cX12_init 55 = .ok (.newarray .int, 2) := by decide +kernel
theorem dX12_init_57 : decode cX12_init 57 = .ok (.putfield 28, 3) := by decide +kernel
theorem dX12_init_60 : decode cX12_init 60 = .ok (.aload_n 0, 1) := by decide +kernel
theorem dX12_init_61 : decode cX12_init 61 = .ok (.bipush 40, 2) := by decide +kernel
theorem dX12_init_63 : decode cX12_init 63 = .ok (.newarray .int, 2) := by decide +kernel
theorem dX12_init_65 : decode cX12_init 65 = .ok (.putfield 31, 3) := by decide +kernel
theorem dX12_init_68 : decode cX12_init 68 = .ok (.aload_n 0, 1) := by decide +kernel
theorem dX12_init_69 : decode cX12_init 69 = .ok (.bipush 40, 2) := by decide +kernel
theorem dX12_init_71 : decode cX12_init 71 = .ok (.newarray .int, 2) := by decide +kernel
theorem dX12_init_73 : decode cX12_init 73 = .ok (.putfield 34, 3) := by decide +kernel
theorem dX12_init_76 : decode cX12_init 76 = .ok (.aload_n 0, 1) := by decide +kernel
theorem dX12_init_77 : decode cX12_init 77 = .ok (.bipush 40, 2) := by decide +kernel
theorem dX12_init_79 : decode cX12_init 79 = .ok (.newarray .int, 2) := by decide +kernel
theorem dX12_init_81 : decode cX12_init 81 = .ok (.putfield 37, 3) := by decide +kernel
theorem dX12_init_84 : decode cX12_init 84 = .ok (.aload_n 0, 1) := by decide +kernel
theorem dX12_init_85 : decode cX12_init 85 = .ok (.bipush 40, 2) := by decide +kernel
theorem dX12_init_87 : decode cX12_init 87 = .ok (.newarray .int, 2) := by decide +kernel
theorem dX12_init_89 : decode cX12_init 89 = .ok (.putfield 40, 3) := by decide +kernel
theorem dX12_init_92 : decode cX12_init 92 = .ok (.aload_n 0, 1) := by decide +kernel
theorem dX12_init_93 : decode cX12_init 93 = .ok (.bipush 40, 2) := by decide +kernel
theorem dX12_init_95 : decode cX12_init 95 = .ok (.newarray .int, 2) := by decide +kernel
theorem dX12_init_97 : decode cX12_init 97 = .ok (.putfield 43, 3) := by decide +kernel
theorem dX12_init_100 : decode cX12_init 100 = .ok (.aload_n 0, 1) := by decide +kernel
theorem dX12_init_101 : decode cX12_init 101 = .ok (.bipush 40, 2) := by decide +kernel
theorem dX12_init_103 : decode cX12_init 103 = .ok (.newarray .int, 2) := by decide +kernel
theorem dX12_init_105 : decode cX12_init 105 = .ok (.putfield 46, 3) := by decide +kernel
theorem dX12_init_108 : decode cX12_init 108 = .ok (.aload_n 0, 1) := by decide +kernel
theorem dX12_init_109 : decode cX12_init 109 = .ok (.bipush 40, 2) := by decide +kernel
theorem dX12_init_111 : decode cX12_init 111 = .ok (.newarray .int, 2) := by decide +kernel
theorem dX12_init_113 : decode cX12_init 113 = .ok (.putfield 49, 3) := by decide +kernel
theorem dX12_init_116 : decode cX12_init 116 = .ok (.aload_n 0, 1) := by decide +kernel
theorem dX12_init_117 : decode cX12_init 117 = .ok (.bipush 40, 2) := by decide +kernel
theorem dX12_init_119 : decode cX12_init 119 = .ok (.newarray .int, 2) := by decide +kernel
theorem dX12_init_121 : decode cX12_init 121 = .ok (.putfield 52, 3) := by decide +kernel
theorem dX12_init_124 : decode cX12_init 124 = .ok (.aload_n 0, 1) := by decide +kernel
theorem dX12_init_125 : decode cX12_init 125 = .ok (.bipush 40, 2) := by decide +kernel
theorem dX12_init_127 : decode cX12_init 127 = .ok (.newarray .int, 2) := by decide +kernel
theorem dX12_init_129 : decode cX12_init 129 = .ok (.putfield 55, 3) := by decide +kernel
theorem dX12_init_132 : decode cX12_init 132 = .ok (.aload_n 0, 1) := by decide +kernel
theorem dX12_init_133 : decode cX12_init 133 = .ok (.iconst 1, 1) := by decide +kernel
theorem dX12_init_134 : decode cX12_init 134 = .ok (.putfield 58, 3) := by decide +kernel
theorem dX12_init_137 : decode cX12_init 137 = .ok (.aload_n 0, 1) := by decide +kernel
theorem dX12_init_138 : decode cX12_init 138 = .ok (.sipush 600, 3) := by decide +kernel
theorem dX12_init_141 : decode cX12_init 141 = .ok (.putfield 62, 3) := by decide +kernel
theorem dX12_init_144 : decode cX12_init 144 = .ok (.aload_n 0, 1) := by decide +kernel
theorem dX12_init_145 : decode cX12_init 145 = .ok (.iconst 4, 1) := by decide +kernel
theorem dX12_init_146 : decode cX12_init 146 = .ok (.newarray .int, 2) := by decide +kernel
theorem dX12_init_148 : decode cX12_init 148 = .ok (.dup, 1) := by decide +kernel
theorem dX12_init_149 : decode cX12_init 149 = .ok (.iconst 0, 1) := by decide +kernel
theorem dX12_init_150 : decode cX12_init 150 = .ok (.iconst 4, 1) := by decide +kernel
theorem dX12_init_151 : decode cX12_init 151 = .ok (.iastore, 1) := by decide +kernel
theorem dX12_init_152 : decode cX12_init 152 = .ok (.dup, 1) := by decide +kernel
theorem dX12_init_153 : decode cX12_init 153 = .ok (.iconst 1, 1) := by decide +kernel
theorem dX12_init_154 : decode cX12_init 154 = .ok (.iconst 3, 1) := by decide +kernel
theorem dX12_init_155 : decode cX12_init 155 = .ok (.iastore, 1) := by decide +kernel
theorem dX12_init_156 : decode cX12_init 156 = .ok (.dup, 1) := by decide +kernel
theorem dX12_init_157 : decode cX12_init 157 = .ok (.iconst 2, 1) := by decide +kernel
theorem dX12_init_158 : decode cX12_init 158 = .ok (.iconst 2, 1) := by decide +kernel
theorem dX12_init_159 : decode cX12_init 159 = .ok (.iastore, 1) := by decide +kernel
theorem dX12_init_160 : decode cX12_init 160 = .ok (.dup, 1) := by decide +kernel
theorem dX12_init_161 : decode cX12_init 161 = .ok (.iconst 3, 1) := by decide +kernel
theorem dX12_init_162 : decode cX12_init 162 = .ok (.iconst 1, 1) := by decide +kernel
theorem dX12_init_163 : decode cX12_init 163 = .ok (.iastore, 1) := by decide +kernel
theorem dX12_init_164 : decode cX12_init 164 = .ok (.putfield 65, 3) := by decide +kernel
theorem dX12_init_167 : decode cX12_init 167 = .ok (.aload_n 0, 1) := by decide +kernel
theorem dX12_init_168 : decode cX12_init 168 = .ok (.bipush 7, 2) := by decide +kernel
theorem dX12_init_170 : decode cX12_init 170 = .ok (.newarray .int, 2) := by decide +kernel
theorem dX12_init_172 : decode cX12_init 172 = .ok (.putfield 68, 3) := by decide +kernel
theorem dX12_init_175 : decode cX12_init 175 = .ok (.aload_n 0, 1) := by decide +kernel
theorem dX12_init_176 : decode cX12_init 176 = .ok (.bipush 120, 2) := by decide +kernel
theorem dX12_init_178 : decode cX12_init 178 = .ok (.newarray .int, 2) := by decide +kernel
theorem dX12_init_180 : decode cX12_init 180 = .ok (.putfield 71, 3) := by decide +kernel
theorem dX12_init_183 : decode cX12_init 183 = .ok (.aload_n 0, 1) := by decide +kernel
theorem dX12_init_184 : decode cX12_init 184 = .ok (.bipush 120, 2) := by decide +kernel
theorem dX12_init_186 : decode cX12_init 186 = .ok (.newarray .int, 2) := by decide +kernel
theorem dX12_init_188 : decode cX12_init 188 = .ok (.putfield 74, 3) := by decide +kernel
theorem dX12_init_191 : decode cX12_init 191 = .ok (.aload_n 0, 1) := by decide +kernel
theorem dX12_init_192 : decode cX12_init 192 = .ok (.bipush 120, 2) := by decide +kernel
theorem dX12_init_194 : decode cX12_init 194 = .ok (.newarray .int, 2) := by decide +kernel
theorem dX12_init_196 : decode cX12_init 196 = .ok (.putfield 77, 3) := by decide +kernel
theorem dX12_init_199 : decode cX12_init 199 = .ok (.aload_n 0, 1) := by decide +kernel
theorem dX12_init_200 : decode cX12_init 200 = .ok (.bipush 120, 2) := by decide +kernel
theorem dX12_init_202 : decode cX12_init 202 = .ok (.newarray .int, 2) := by decide +kernel
theorem dX12_init_204 : decode cX12_init 204 = .ok (.putfield 80, 3) := by decide +kernel
theorem dX12_init_207 : decode cX12_init 207 = .ok (.aload_n 0, 1) := by decide +kernel
theorem dX12_init_208 : decode cX12_init 208 = .ok (.bipush 61, 2) := by decide +kernel
theorem dX12_init_210 : decode cX12_init 210 = .ok (.newarray .int, 2) := by decide +kernel
theorem dX12_init_212 : decode cX12_init 212 = .ok (.putfield 83, 3) := by decide +kernel
theorem dX12_init_215 : decode cX12_init 215 = .ok (.aload_n 0, 1) := by decide +kernel
theorem dX12_init_216 : decode cX12_init 216 = .ok (.bipush 61, 2) := by decide +kernel
theorem dX12_init_218 : decode cX12_init 218 = .ok (.newarray .int, 2) := by decide +kernel
theorem dX12_init_220 : decode cX12_init 220 = .ok (.putfield 86, 3) := by decide +kernel
theorem dX12_init_223 : decode cX12_init 223 = .ok (.aload_n 0, 1) := by decide +kernel
theorem dX12_init_224 : decode cX12_init 224 = .ok (.bipush 61, 2) := by decide +kernel
theorem dX12_init_226 : decode cX12_init 226 = .ok (.newarray .int, 2) := by decide +kernel
theorem dX12_init_228 : decode cX12_init 228 = .ok (.putfield 89, 3) := by decide +kernel
theorem dX12_init_231 : decode cX12_init 231 = .ok (.aload_n 0, 1) := by decide +kernel
theorem dX12_init_232 : decode cX12_init 232 = .ok (.bipush 40, 2) := by decide +kernel
theorem dX12_init_234 : decode cX12_init 234 = .ok (.newarray .int, 2) := by decide +kernel
theorem dX12_init_236 : decode cX12_init 236 = .ok (.putfield 92, 3) := by decide +kernel
theorem dX12_init_239 : decode cX12_init 239 = .ok (.aload_n 0, 1) := by decide +kernel
theorem dX12_init_240 : decode cX12_init 240 = .ok (.bipush 40, 2) := by decide +kernel
theorem dX12_init_242 : decode cX12_init 242 = .ok (.newarray .int, 2) := by decide +kernel
theorem dX12_init_244 : decode cX12_init 244 = .ok (.putfield 95, 3) := by decide +kernel
theorem dX12_init_247 : decode cX12_init 247 = .ok (.aload_n 0, 1) := by decide +kernel
theorem dX12_init_248 : decode cX12_init 248 = .ok (.bipush 40, 2) := by decide +kernel
theorem dX12_init_250 : decode cX12_init 250 = .ok (.newarray .int, 2) := by decide +kernel
theorem dX12_init_252 : decode cX12_init 252 = .ok (.putfield 98, 3) := by decide +kernel
theorem dX12_init_255 : decode cX12_init 255 = .ok (.aload_n 0, 1) := by decide +kernel
theorem dX12_init_256 : decode cX12_init 256 = .ok (.bipush 40, 2) := by decide +kernel
theorem dX12_init_258 : decode cX12_init 258 = .ok (.newarray .int, 2) := by decide +kernel
theorem dX12_init_260 : decode cX12_init 260 = .ok (.putfield 101, 3) := by decide +kernel
theorem dX12_init_263 : decode cX12_init 263 = .ok (.aload_n 0, 1) := by decide +kernel
theorem dX12_init_264 : decode cX12_init 264 = .ok (.bipush 40, 2) := by decide +kernel
theorem dX12_init_266 : decode cX12_init 266 = .ok (.newarray .int, 2) := by decide +kernel
theorem dX12_init_268 : decode cX12_init 268 = .ok (.putfield 104, 3) := by decide +kernel
theorem dX12_init_271 : decode cX12_init 271 = .ok (.aload_n 0, 1) := by decide +kernel
theorem dX12_init_272 : decode cX12_init 272 = .ok (.bipush 12, 2) := by decide +kernel
theorem dX12_init_274 : decode cX12_init 274 = .ok (.newarray .int, 2) := by decide +kernel
theorem dX12_init_276 : decode cX12_init 276 = .ok (.putfield 107, 3) := by decide +kernel
theorem dX12_init_279 : decode cX12_init 279 = .ok (.aload_n 0, 1) := by decide +kernel
theorem dX12_init_280 : decode cX12_init 280 = .ok (.bipush 12, 2) := by decide +kernel
theorem dX12_init_282 : decode cX12_init 282 = .ok (.newarray .int, 2) := by decide +kernel
theorem dX12_init_284 : decode cX12_init 284 = .ok (.putfield 110, 3) := by decide +kernel
theorem dX12_init_287 : decode cX12_init 287 = .ok (.aload_n 0, 1) := by decide +kernel
theorem dX12_init_288 : decode cX12_init 288 = .ok (.bipush 41, 2) := by decide +kernel
theorem dX12_init_290 : decode cX12_init 290 = .ok (.newarray .int, 2) := by decide +kernel
theorem dX12_init_292 : decode cX12_init 292 = .ok (.putfield 113, 3) := by decide +kernel
theorem dX12_init_295 : decode cX12_init 295 = .ok (.aload_n 0, 1) := by decide +kernel
theorem dX12_init_296 : decode cX12_init 296 = .ok (.bipush 41, 2) := by decide +kernel
theorem dX12_init_298 : decode cX12_init 298 = .ok (.newarray .int, 2) := by decide +kernel
theorem dX12_init_300 : decode cX12_init 300 = .ok (.putfield 116, 3) := by decide +kernel
theorem dX12_init_303 : decode cX12_init 303 = .ok (.aload_n 0, 1) := by decide +kernel
theorem dX12_init_304 : decode cX12_init 304 = .ok (.bipush 41, 2) := by decide +kernel
theorem dX12_init_306 : decode cX12_init 306 = .ok (.newarray .int, 2) := by decide +kernel
theorem dX12_init_308 : decode cX12_init 308 = .ok (.putfield 119, 3) := by decide +kernel
theorem dX12_init_311 : decode cX12_init 311 = .ok (.aload_n 0, 1) := by decide +kernel
theorem dX12_init_312 : decode cX12_init 312 = .ok (.bipush 8, 2) := by decide +kernel
theorem dX12_init_314 : decode cX12_init 314 = .ok (.newarray .int, 2) := by decide +kernel
theorem dX12_init_316 : decode cX12_init 316 = .ok (.putfield 122, 3) := by decide +kernel
theorem dX12_init_319 : decode cX12_init 319 = .ok (.aload_n 0, 1) := by decide +kernel
theorem dX12_init_320 : decode cX12_init 320 = .ok (.bipush 8, 2) := by decide +kernel
theorem dX12_init_322 : decode cX12_init 322 = .ok (.newarray .int, 2) := by decide +kernel
theorem dX12_init_324 : decode cX12_init 324 = .ok (.putfield 125, 3) := by decide +kernel
theorem dX12_init_327 : decode cX12_init 327 = .ok (.aload_n 0, 1) := by decide +kernel
theorem dX12_init_328 : decode cX12_init 328 = .ok (.sipush 2304, 3) := by decide +kernel
theorem dX12_init_331 : decode cX12_init 331 = .ok (.newarray .int, 2) := by decide +kernel
theorem dX12_init_333 : decode cX12_init 333 = .ok (.putfield 128, 3) := by decide +kernel
theorem dX12_init_336 : decode cX12_init 336 = .ok (.aload_n 0, 1) := by decide +kernel
theorem dX12_init_337 : decode cX12_init 337 = .ok (.bipush 8, 2) := by decide +kernel
theorem dX12_init_339 : decode cX12_init 339 = .ok (.newarray .int, 2) := by decide +kernel
theorem dX12_init_341 : decode cX12_init 341 = .ok (.putfield 131, 3) := by decide +kernel
theorem dX12_init_344 : decode cX12_init 344 = .ok (.aload_n 0, 1) := by decide +kernel
theorem dX12_init_345 : decode cX12_init 345 = .ok (.bipush 60, 2) := by decide +kernel
theorem dX12_init_347 : decode cX12_init 347 = .ok (.newarray .int, 2) := by decide +kernel
theorem dX12_init_349 : decode cX12_init 349 = .ok (.putfield 134, 3) := by decide +kernel
theorem dX12_init_352 : decode cX12_init 352 = .ok (.aload_n 0, 1) := by decide +kernel
theorem dX12_init_353 : decode cX12_init 353 = .ok (.bipush 60, 2) := by decide +kernel
theorem dX12_init_355 : decode cX12_init 355 = .ok (.newarray .int, 2) := by decide +kernel
theorem dX12_init_357 : decode cX12_init 357 = .ok (.putfield 137, 3) := by decide +kernel
theorem dX12_init_360 : decode cX12_init 360 = .ok (.aload_n 0, 1) := by decide +kernel
theorem dX12_init_361 : decode cX12_init 361 = .ok (.bipush 60, 2) := by decide +kernel
theorem dX12_init_363 : decode cX12_init 363 = .ok (.newarray .int, 2) := by decide +kernel
theorem dX12_init_365 : decode cX12_init 365 = .ok (.putfield 140, 3) := by decide +kernel
theorem dX12_init_368 : decode cX12_init 368 = .ok (.aload_n 0, 1) := by decide +kernel
theorem dX12_init_369 : decode cX12_init 369 = .ok (.sipush 1407, 3) := by decide +kernel
theorem dX12_init_372 : decode cX12_init 372 = .ok (.newarray .int, 2) := by decide +kernel
theorem dX12_init_374 : decode cX12_init 374 = .ok (.putfield 143, 3) := by decide +kernel
theorem dX12_init_377 : decode cX12_init 377 = .ok (.aload_n 0, 1) := by decide +kernel
theorem dX12_init_378 : decode cX12_init 378 = .ok (.bipush 6, 2) := by decide +kernel
theorem dX12_init_380 : decode cX12_init 380 = .ok (.newarray .int, 2) := by decide +kernel
theorem dX12_init_382 : decode cX12_init 382 = .ok (.putfield 146, 3) := by decide +kernel
theorem dX12_init_385 : decode cX12_init 385 = .ok (.aload_n 0, 1) := by decide +kernel
theorem dX12_init_386 : decode cX12_init 386 = .ok (.bipush 40, 2) := by decide +kernel
theorem dX12_init_388 : decode cX12_init 388 = .ok (.newarray .boolean, 2) := by decide +kernel
theorem dX12_init_390 : decode cX12_init 390 = .ok (.putfield 149, 3) := by decide +kernel
theorem dX12_init_393 : decode cX12_init 393 = .ok (.return_, 1) := by decide +kernel
theorem dX12_in_0 : decode cX12_in 0 = .ok (.iload_n 0, 1) := by decide +kernel
theorem dX12_in_1 : decode cX12_in 1 = .ok (.iload_n 1, 1) := by decide +kernel
theorem dX12_in_2 : decode cX12_in 2 = .ok (.if_icmp .lt 12, 3) := by decide +kernel
theorem dX12_in_5 : decode cX12_in 5 = .ok (.iload_n 0, 1) := by decide +kernel
theorem dX12_in_6 : decode cX12_in 6 = .ok (.iload_n 2, 1) := by decide +kernel
theorem dX12_in_7 : decode cX12_in 7 = .ok (.if_icmp .gt 7, 3) := by decide +kernel
theorem dX12_in_10 : decode cX12_in 10 = .ok (.iconst 1, 1) := by decide +kernel
theorem dX12_in_11 : decode cX12_in 11 = .ok (.goto 4, 3) := by decide +kernel
theorem dX12_in_14 : decode cX12_in 14 = .ok (.iconst 0, 1) := by decide +kernel
theorem dX12_in_15 : decode cX12_in 15 = .ok (.ireturn, 1) := by decide +kernel
theorem dX12_refuse_0 : decode cX12_refuse 0 = .ok (.aload_n 0, 1) := by decide +kernel
theorem dX12_refuse_1 : decode cX12_refuse 1 = .ok (.getfield 68, 3) := by decide +kernel
theorem dX12_refuse_4 : decode cX12_refuse 4 = .ok (.iload_n 1, 1) := by decide +kernel
theorem dX12_refuse_5 : decode cX12_refuse 5 = .ok (.ineg, 1) := by decide +kernel
theorem dX12_refuse_6 : decode cX12_refuse 6 = .ok (.dup2, 1) := by decide +kernel
theorem dX12_refuse_7 : decode cX12_refuse 7 = .ok (.iaload, 1) := by decide +kernel
theorem dX12_refuse_8 : decode cX12_refuse 8 = .ok (.iconst 1, 1) := by decide +kernel
theorem dX12_refuse_9 : decode cX12_refuse 9 = .ok (.iadd, 1) := by decide +kernel
theorem dX12_refuse_10 : decode cX12_refuse 10 = .ok (.iastore, 1) := by decide +kernel
theorem dX12_refuse_11 : decode cX12_refuse 11 = .ok (.iload_n 1, 1) := by decide +kernel
theorem dX12_refuse_12 : decode cX12_refuse 12 = .ok (.ireturn, 1) := by decide +kernel
theorem dX12_refuseFar_0 : decode cX12_refuseFar 0 = .ok (.aload_n 0, 1) := by decide +kernel
theorem dX12_refuseFar_1 : decode cX12_refuseFar 1 = .ok (.getfield 68, 3) := by decide +kernel
theorem dX12_refuseFar_4 : decode cX12_refuseFar 4 = .ok (.iload_n 1, 1) := by decide +kernel
theorem dX12_refuseFar_5 : decode cX12_refuseFar 5 = .ok (.ineg, 1) := by decide +kernel
theorem dX12_refuseFar_6 : decode cX12_refuseFar 6 = .ok (.dup2, 1) := by decide +kernel
theorem dX12_refuseFar_7 : decode cX12_refuseFar 7 = .ok (.iaload, 1) := by decide +kernel
theorem dX12_refuseFar_8 : decode cX12_refuseFar 8 = .ok (.iconst 1, 1) := by decide +kernel
theorem dX12_refuseFar_9 : decode cX12_refuseFar 9 = .ok (.iadd, 1) := by decide +kernel
theorem dX12_refuseFar_10 : decode cX12_refuseFar 10 = .ok (.iastore, 1) := by decide +kernel
theorem dX12_refuseFar_11 : decode cX12_refuseFar 11 = .ok (.ldc 153, 2) := by decide +kernel
theorem dX12_refuseFar_13 : decode cX12_refuseFar 13 = .ok (.iload_n 1, 1) := by decide +kernel
theorem dX12_refuseFar_14 : decode cX12_refuseFar 14 = .ok (.isub, 1) := by decide +kernel
theorem dX12_refuseFar_15 : decode cX12_refuseFar 15 = .ok (.ireturn, 1) := by decide +kernel
theorem dX12_ones_0 : decode cX12_ones 0 = .ok (.iconst 0, 1) := by decide +kernel
theorem dX12_ones_1 : decode cX12_ones 1 = .ok (.istore_n 1, 1) := by decide +kernel
theorem dX12_ones_2 : decode cX12_ones 2 = .ok (.iload_n 0, 1) := by decide +kernel
theorem dX12_ones_3 : decode cX12_ones 3 = .ok (.istore_n 2, 1) := by decide +kernel
theorem dX12_ones_4 : decode cX12_ones 4 = .ok (.iload_n 2, 1) := by decide +kernel
theorem dX12_ones_5 : decode cX12_ones 5 = .ok (.ifCond .le 16, 3) := by decide +kernel
theorem dX12_ones_8 : decode cX12_ones 8 = .ok (.iload_n 1, 1) := by decide +kernel
theorem dX12_ones_9 : decode cX12_ones 9 = .ok (.iload_n 2, 1) := by decide +kernel
theorem dX12_ones_10 : decode cX12_ones 10 = .ok (.iconst 2, 1) := by decide +kernel
theorem dX12_ones_11 : decode cX12_ones 11 = .ok (.irem, 1) := by decide +kernel
theorem dX12_ones_12 : decode cX12_ones 12 = .ok (.iadd, 1) := by decide +kernel
theorem dX12_ones_13 : decode cX12_ones 13 = .ok (.istore_n 1, 1) := by decide +kernel
theorem dX12_ones_14 : decode cX12_ones 14 = .ok (.iload_n 2, 1) := by decide +kernel
theorem dX12_ones_15 : decode cX12_ones 15 = .ok (.iconst 2, 1) := by decide +kernel
theorem dX12_ones_16 : decode cX12_ones 16 = .ok (.idiv, 1) := by decide +kernel
theorem dX12_ones_17 : decode cX12_ones 17 = .ok (.istore_n 2, 1) := by decide +kernel
theorem dX12_ones_18 : decode cX12_ones 18 = .ok (.goto (-14), 3) := by decide +kernel
theorem dX12_ones_21 : decode cX12_ones 21 = .ok (.iload_n 1, 1) := by decide +kernel
theorem dX12_ones_22 : decode cX12_ones 22 = .ok (.ireturn, 1) := by decide +kernel
theorem dX12_isUnit_0 : decode cX12_isUnit 0 = .ok (.iload_n 1, 1) := by decide +kernel
theorem dX12_isUnit_1 : decode cX12_isUnit 1 = .ok (.iconst 0, 1) := by decide +kernel
theorem dX12_isUnit_2 : decode cX12_isUnit 2 = .ok (.aload_n 0, 1) := by decide +kernel
theorem dX12_isUnit_3 : decode cX12_isUnit 3 = .ok (.getfield 154, 3) := by decide +kernel
theorem dX12_isUnit_6 : decode cX12_isUnit 6 = .ok (.iconst 1, 1) := by decide +kernel
theorem dX12_isUnit_7 : decode cX12_isUnit 7 = .ok (.isub, 1) := by decide +kernel
theorem dX12_isUnit_8 : decode cX12_isUnit 8 = .ok (.invokestatic 157, 3) := by decide +kernel
theorem dX12_isUnit_11 : decode cX12_isUnit 11 = .ok (.ireturn, 1) := by decide +kernel
theorem dX12_isPost_0 : decode cX12_isPost 0 = .ok (.iload_n 1, 1) := by decide +kernel
theorem dX12_isPost_1 : decode cX12_isPost 1 = .ok (.iconst 0, 1) := by decide +kernel
theorem dX12_isPost_2 : decode cX12_isPost 2 = .ok (.aload_n 0, 1) := by decide +kernel
theorem dX12_isPost_3 : decode cX12_isPost 3 = .ok (.getfield 161, 3) := by decide +kernel
theorem dX12_isPost_6 : decode cX12_isPost 6 = .ok (.iconst 1, 1) := by decide +kernel
theorem dX12_isPost_7 : decode cX12_isPost 7 = .ok (.isub, 1) := by decide +kernel
theorem dX12_isPost_8 : decode cX12_isPost 8 = .ok (.invokestatic 157, 3) := by decide +kernel
theorem dX12_isPost_11 : decode cX12_isPost 11 = .ok (.ireturn, 1) := by decide +kernel
theorem dX12_isPerson_0 : decode cX12_isPerson 0 = .ok (.iload_n 1, 1) := by decide +kernel
theorem dX12_isPerson_1 : decode cX12_isPerson 1 = .ok (.iconst 0, 1) := by decide +kernel
theorem dX12_isPerson_2 : decode cX12_isPerson 2 = .ok (.aload_n 0, 1) := by decide +kernel
theorem dX12_isPerson_3 : decode cX12_isPerson 3 = .ok (.getfield 164, 3) := by decide +kernel
theorem dX12_isPerson_6 : decode cX12_isPerson 6 = .ok (.iconst 1, 1) := by decide +kernel
theorem dX12_isPerson_7 : decode cX12_isPerson 7 = .ok (.isub, 1) := by decide +kernel
theorem dX12_isPerson_8 : decode cX12_isPerson 8 = .ok (.invokestatic 157, 3) := by decide +kernel
theorem dX12_isPerson_11 : decode cX12_isPerson 11 = .ok (.ireturn, 1) := by decide +kernel
theorem dX12_isHere_0 : decode cX12_isHere 0 = .ok (.aload_n 0, 1) := by decide +kernel
theorem dX12_isHere_1 : decode cX12_isHere 1 = .ok (.getfield 49, 3) := by decide +kernel
theorem dX12_isHere_4 : decode cX12_isHere 4 = .ok (.iload_n 1, 1) := by decide +kernel
theorem dX12_isHere_5 : decode cX12_isHere 5 = .ok (.iaload, 1) := by decide +kernel
theorem dX12_isHere_6 : decode cX12_isHere 6 = .ok (.ifCond .ge 7, 3) := by decide +kernel
theorem dX12_isHere_9 : decode cX12_isHere 9 = .ok (.iconst 1, 1) := by decide +kernel
theorem dX12_isHere_10 : decode cX12_isHere 10 = .ok (.goto 4, 3) := by decide +kernel
theorem dX12_isHere_13 : decode cX12_isHere 13 = .ok (.iconst 0, 1) := by decide +kernel
theorem dX12_isHere_14 : decode cX12_isHere 14 = .ok (.ireturn, 1) := by decide +kernel
theorem dX12_isGuarded_0 : decode cX12_isGuarded 0 = .ok (.aload_n 0, 1) := by decide +kernel
theorem dX12_isGuarded_1 : decode cX12_isGuarded 1 = .ok (.getfield 52, 3) := by decide +kernel
theorem dX12_isGuarded_4 : decode cX12_isGuarded 4 = .ok (.iload_n 1, 1) := by decide +kernel
theorem dX12_isGuarded_5 : decode cX12_isGuarded 5 = .ok (.iaload, 1) := by decide +kernel
theorem dX12_isGuarded_6 : decode cX12_isGuarded 6 = .ok (.aload_n 0, 1) := by decide +kernel
theorem dX12_isGuarded_7 : decode cX12_isGuarded 7 = .ok (.getfield 167, 3) := by decide +kernel
theorem dX12_isGuarded_10 : decode cX12_isGuarded 10 = .ok (.if_icmp .lt 7, 3) := by decide +kernel
theorem dX12_isGuarded_13 : decode cX12_isGuarded 13 = .ok (.iconst 1, 1) := by decide +kernel
theorem dX12_isGuarded_14 : decode cX12_isGuarded 14 = .ok (.goto 4, 3) := by decide +kernel
theorem dX12_isGuarded_17 : decode cX12_isGuarded 17 = .ok (.iconst 0, 1) := by decide +kernel
theorem dX12_isGuarded_18 : decode cX12_isGuarded 18 = .ok (.ireturn, 1) := by decide +kernel
theorem dX12_holder_0 : decode cX12_holder 0 = .ok (.iconst 0, 1) := by decide +kernel
theorem dX12_holder_1 : decode cX12_holder 1 = .ok (.istore_n 2, 1) := by decide +kernel
theorem dX12_holder_2 : decode cX12_holder 2 = .ok (.iload_n 2, 1) := by decide +kernel
theorem dX12_holder_3 : decode cX12_holder 3 = .ok (.aload_n 0, 1) := by decide +kernel
theorem dX12_holder_4 : decode cX12_holder 4 = .ok (.getfield 164, 3) := by decide +kernel
theorem dX12_holder_7 : decode cX12_holder 7 = .ok (.if_icmp .ge 21, 3) := by decide +kernel
theorem dX12_holder_10 : decode cX12_holder 10 = .ok (.aload_n 0, 1) := by decide +kernel
theorem dX12_holder_11 : decode cX12_holder 11 = .ok (.getfield 43, 3) := by decide +kernel
theorem dX12_holder_14 : decode cX12_holder 14 = .ok (.iload_n 2, 1) := by decide +kernel
theorem dX12_holder_15 : decode cX12_holder 15 = .ok (.iaload, 1) := by decide +kernel
theorem dX12_holder_16 : decode cX12_holder 16 = .ok (.iload_n 1, 1) := by decide +kernel
theorem dX12_holder_17 : decode cX12_holder 17 = .ok (.if_icmp .ne 5, 3) := by decide +kernel
theorem dX12_holder_20 : decode cX12_holder 20 = .ok (.iload_n 2, 1) := by decide +kernel
theorem dX12_holder_21 : decode cX12_holder 21 = .ok (.ireturn, 1) := by decide +kernel
theorem dX12_holder_22 : decode cX12_holder 22 = .ok (.iinc 2 1, 3) := by decide +kernel
theorem dX12_holder_25 : decode cX12_holder 25 = .ok (.goto (-23), 3) := by decide +kernel
theorem dX12_holder_28 : decode cX12_holder 28 = .ok (.iconst (-1), 1) := by decide +kernel
theorem dX12_holder_29 : decode cX12_holder 29 = .ok (.ireturn, 1) := by decide +kernel
theorem dX12_isVacant_0 : decode cX12_isVacant 0 = .ok (.aload_n 0, 1) := by decide +kernel
theorem dX12_isVacant_1 : decode cX12_isVacant 1 = .ok (.getfield 31, 3) := by decide +kernel
theorem dX12_isVacant_4 : decode cX12_isVacant 4 = .ok (.iload_n 1, 1) := by decide +kernel
theorem dX12_isVacant_5 : decode cX12_isVacant 5 = .ok (.iaload, 1) := by decide +kernel
theorem dX12_isVacant_6 : decode cX12_isVacant 6 = .ok (.ifCond .ge 15, 3) := by decide +kernel
theorem dX12_isVacant_9 : decode cX12_isVacant 9 = .ok (.aload_n 0, 1) := by decide +kernel
theorem dX12_isVacant_10 : decode cX12_isVacant 10 = .ok (.iload_n 1, 1) := by decide +kernel
theorem dX12_isVacant_11 : decode cX12_isVacant 11 = .ok (.invokevirtual 170, 3) := by decide +kernel
theorem dX12_isVacant_14 : decode cX12_isVacant 14 = .ok (.ifCond .ge 7, 3) := by decide +kernel
theorem dX12_isVacant_17 : decode cX12_isVacant 17 = .ok (.iconst 1, 1) := by decide +kernel
theorem dX12_isVacant_18 : decode cX12_isVacant 18 = .ok (.goto 4, 3) := by decide +kernel
theorem dX12_isVacant_21 : decode cX12_isVacant 21 = .ok (.iconst 0, 1) := by decide +kernel
theorem dX12_isVacant_22 : decode cX12_isVacant 22 = .ok (.ireturn, 1) := by decide +kernel
theorem dX12_days_0 : decode cX12_days 0 = .ok (.iload_n 1, 1) := by decide +kernel
theorem dX12_days_1 : decode cX12_days 1 = .ok (.iconst 1, 1) := by decide +kernel
theorem dX12_days_2 : decode cX12_days 2 = .ok (.if_icmp .ge 10, 3) := by decide +kernel
theorem dX12_days_5 : decode cX12_days 5 = .ok (.aload_n 0, 1) := by decide +kernel
theorem dX12_days_6 : decode cX12_days 6 = .ok (.bipush (-4), 2) := by decide +kernel
theorem dX12_days_8 : decode cX12_days 8 = .ok (.invokevirtual 174, 3) := by decide +kernel
theorem dX12_days_11 : decode cX12_days 11 = .ok (.ireturn, 1) := by decide +kernel
theorem dX12_days_12 : decode cX12_days 12 = .ok (.iload_n 1, 1) := by decide +kernel
theorem dX12_days_13 : decode cX12_days 13 = .ok (.sipush 3000, 3) := by decide +kernel
theorem dX12_days_16 : decode cX12_days 16 = .ok (.aload_n 0, 1) := by decide +kernel
theorem dX12_days_17 : decode cX12_days 17 = .ok (.getfield 167, 3) := by decide +kernel
theorem dX12_days_20 : decode cX12_days 20 = .ok (.isub, 1) := by decide +kernel
theorem dX12_days_21 : decode cX12_days 21 = .ok (.if_icmp .le 10, 3) := by decide +kernel
theorem dX12_days_24 : decode cX12_days 24 = .ok (.aload_n 0, 1) := by decide +kernel
theorem dX12_days_25 : decode cX12_days 25 = .ok (.bipush (-6), 2) := by decide +kernel
theorem dX12_days_27 : decode cX12_days 27 = .ok (.invokevirtual 174, 3) := by decide +kernel
theorem dX12_days_30 : decode cX12_days 30 = .ok (.ireturn, 1) := by decide +kernel
theorem dX12_days_31 : decode cX12_days 31 = .ok (.aload_n 0, 1) := by decide +kernel
theorem dX12_days_32 : decode cX12_days 32 = .ok (.dup, 1) := by decide +kernel
theorem dX12_days_33 : decode cX12_days 33 = .ok (.getfield 167, 3) := by decide +kernel
theorem dX12_days_36 : decode cX12_days 36 = .ok (.iload_n 1, 1) := by decide +kernel
theorem dX12_days_37 : decode cX12_days 37 = .ok (.iadd, 1) := by decide +kernel
theorem dX12_days_38 : decode cX12_days 38 = .ok (.putfield 167, 3) := by decide +kernel
theorem dX12_days_41 : decode cX12_days 41 = .ok (.aload_n 0, 1) := by decide +kernel
theorem dX12_days_42 : decode cX12_days 42 = .ok (.getfield 167, 3) := by decide +kernel
theorem dX12_days_45 : decode cX12_days 45 = .ok (.ireturn, 1) := by decide +kernel
theorem dX12_unit_0 : decode cX12_unit 0 = .ok (.iload_n 2, 1) := by decide +kernel
theorem dX12_unit_1 : decode cX12_unit 1 = .ok (.iconst (-1), 1) := by decide +kernel
theorem dX12_unit_2 : decode cX12_unit 2 = .ok (.aload_n 0, 1) := by decide +kernel
theorem dX12_unit_3 : decode cX12_unit 3 = .ok (.getfield 154, 3) := by decide +kernel
theorem dX12_unit_6 : decode cX12_unit 6 = .ok (.iconst 1, 1) := by decide +kernel
theorem dX12_unit_7 : decode cX12_unit 7 = .ok (.isub, 1) := by decide +kernel
theorem dX12_unit_8 : decode cX12_unit 8 = .ok (.invokestatic 157, 3) := by decide +kernel
theorem dX12_unit_11 : decode cX12_unit 11 = .ok (.ifCond .ne 9, 3) := by decide +kernel
theorem dX12_unit_14 : decode cX12_unit 14 = .ok (.aload_n 0, 1) := by decide +kernel
theorem dX12_unit_15 : decode cX12_unit 15 = .ok (.iconst (-1), 1) := by decide +kernel
theorem dX12_unit_16 : decode cX12_unit 16 = .ok (.invokevirtual 174, 3) := by decide +kernel
theorem dX12_unit_19 : decode cX12_unit 19 = .ok (.ireturn, 1) := by decide +kernel
theorem dX12_unit_20 : decode cX12_unit 20 = .ok (.iload_n 1, 1) := by decide +kernel
theorem dX12_unit_21 : decode cX12_unit 21 = .ok (.ifCond .ge 10, 3) := by decide +kernel
theorem dX12_unit_24 : decode cX12_unit 24 = .ok (.aload_n 0, 1) := by decide +kernel
theorem dX12_unit_25 : decode cX12_unit 25 = .ok (.bipush (-4), 2) := by decide +kernel
theorem dX12_unit_27 : decode cX12_unit 27 = .ok (.invokevirtual 174, 3) := by decide +kernel
theorem dX12_unit_30 : decode cX12_unit 30 = .ok (.ireturn, 1) := by decide +kernel
theorem dX12_unit_31 : decode cX12_unit 31 = .ok (.iload_n 1, 1) := by decide +kernel
theorem dX12_unit_32 : decode cX12_unit 32 = .ok (.iconst 3, 1) := by decide +kernel
theorem dX12_unit_33 : decode cX12_unit 33 = .ok (.if_icmp .gt 12, 3) := by decide +kernel
theorem dX12_unit_36 : decode cX12_unit 36 = .ok (.aload_n 0, 1) := by decide +kernel
theorem dX12_unit_37 : decode cX12_unit 37 = .ok (.getfield 154, 3) := by decide +kernel
theorem dX12_unit_40 : decode cX12_unit 40 = .ok (.bipush 12, 2) := by decide +kernel
theorem dX12_unit_42 : decode cX12_unit 42 = .ok (.if_icmp .ne 10, 3) := by decide +kernel
theorem dX12_unit_45 : decode cX12_unit 45 = .ok (.aload_n 0, 1) := by decide +kernel
theorem dX12_unit_46 : decode cX12_unit 46 = .ok (.bipush (-6), 2) := by decide +kernel
theorem dX12_unit_48 : decode cX12_unit 48 = .ok (.invokevirtual 174, 3) := by decide +kernel
theorem dX12_unit_51 : decode cX12_unit 51 = .ok (.ireturn, 1) := by decide +kernel
theorem dX12_unit_52 : decode cX12_unit 52 = .ok (.aload_n 0, 1) := by decide +kernel
theorem dX12_unit_53 : decode cX12_unit 53 = .ok (.getfield 7, 3) := by decide +kernel
theorem dX12_unit_56 : decode cX12_unit 56 = .ok (.aload_n 0, 1) := by decide +kernel
theorem dX12_unit_57 : decode cX12_unit 57 = .ok (.getfield 154, 3) := by decide +kernel
theorem dX12_unit_60 : decode cX12_unit 60 = .ok (.iload_n 1, 1) := by decide +kernel
theorem dX12_unit_61 : decode cX12_unit 61 = .ok (.iastore, 1) := by decide +kernel
theorem dX12_unit_62 : decode cX12_unit 62 = .ok (.aload_n 0, 1) := by decide +kernel
theorem dX12_unit_63 : decode cX12_unit 63 = .ok (.getfield 13, 3) := by decide +kernel
theorem dX12_unit_66 : decode cX12_unit 66 = .ok (.aload_n 0, 1) := by decide +kernel
theorem dX12_unit_67 : decode cX12_unit 67 = .ok (.getfield 154, 3) := by decide +kernel
theorem dX12_unit_70 : decode cX12_unit 70 = .ok (.iload_n 2, 1) := by decide +kernel
theorem dX12_unit_71 : decode cX12_unit 71 = .ok (.iastore, 1) := by decide +kernel
theorem dX12_unit_72 : decode cX12_unit 72 = .ok (.aload_n 0, 1) := by decide +kernel
theorem dX12_unit_73 : decode cX12_unit 73 = .ok (.dup, 1) := by decide +kernel
theorem dX12_unit_74 : decode cX12_unit 74 = .ok (.getfield 154, 3) := by decide +kernel
theorem dX12_unit_77 : decode cX12_unit 77 = .ok (.iconst 1, 1) := by decide +kernel
theorem dX12_unit_78 : decode cX12_unit 78 = .ok (.iadd, 1) := by decide +kernel
theorem dX12_unit_79 : decode cX12_unit 79 = .ok (.putfield 154, 3) := by decide +kernel
theorem dX12_unit_82 : decode cX12_unit 82 = .ok (.aload_n 0, 1) := by decide +kernel
theorem dX12_unit_83 : decode cX12_unit 83 = .ok (.getfield 154, 3) := by decide +kernel
theorem dX12_unit_86 : decode cX12_unit 86 = .ok (.iconst 1, 1) := by decide +kernel
theorem dX12_unit_87 : decode cX12_unit 87 = .ok (.isub, 1) := by decide +kernel
theorem dX12_unit_88 : decode cX12_unit 88 = .ok (.ireturn, 1) := by decide +kernel
theorem dX12_post_0 : decode cX12_post 0 = .ok (.aload_n 0, 1) := by decide +kernel
theorem dX12_post_1 : decode cX12_post 1 = .ok (.iload_n 1, 1) := by decide +kernel
theorem dX12_post_2 : decode cX12_post 2 = .ok (.invokevirtual 177, 3) := by decide +kernel
theorem dX12_post_5 : decode cX12_post 5 = .ok (.ifCond .ne 9, 3) := by decide +kernel
theorem dX12_post_8 : decode cX12_post 8 = .ok (.aload_n 0, 1) := by decide +kernel
theorem dX12_post_9 : decode cX12_post 9 = .ok (.iconst (-1), 1) := by decide +kernel
theorem dX12_post_10 : decode cX12_post 10 = .ok (.invokevirtual 174, 3) := by decide +kernel
theorem dX12_post_13 : decode cX12_post 13 = .ok (.ireturn, 1) := by decide +kernel
theorem dX12_post_14 : decode cX12_post 14 = .ok (.iload_n 2, 1) := by decide +kernel
theorem dX12_post_15 : decode cX12_post 15 = .ok (.ifCond .lt 19, 3) := by decide +kernel
theorem dX12_post_18 : decode cX12_post 18 = .ok (.iload_n 3, 1) := by decide +kernel
theorem dX12_post_19 : decode cX12_post 19 = .ok (.iconst 1, 1) := by decide +kernel
theorem dX12_post_20 : decode cX12_post 20 = .ok (.if_icmp .lt 14, 3) := by decide +kernel
theorem dX12_post_23 : decode cX12_post 23 = .ok (.iload 4, 2) := by decide +kernel
theorem dX12_post_25 : decode cX12_post 25 = .ok (.iconst 1, 1) := by decide +kernel
theorem dX12_post_26 : decode cX12_post 26 = .ok (.if_icmp .lt 8, 3) := by decide +kernel
theorem dX12_post_29 : decode cX12_post 29 = .ok (.iload 5, 2) := by decide +kernel
theorem dX12_post_31 : decode cX12_post 31 = .ok (.ifCond .ge 10, 3) := by decide +kernel
theorem dX12_post_34 : decode cX12_post 34 = .ok (.aload_n 0, 1) := by decide +kernel
theorem dX12_post_35 : decode cX12_post 35 = .ok (.bipush (-4), 2) := by decide +kernel
theorem dX12_post_37 : decode cX12_post 37 = .ok (.invokevirtual 174, 3) := by decide +kernel
theorem dX12_post_40 : decode cX12_post 40 = .ok (.ireturn, 1) := by decide +kernel
theorem dX12_post_41 : decode cX12_post 41 = .ok (.iload_n 2, 1) := by decide +kernel
theorem dX12_post_42 : decode cX12_post 42 = .ok (.bipush 7, 2) := by decide +kernel
theorem dX12_post_44 : decode cX12_post 44 = .ok (.if_icmp .gt 33, 3) := by decide +kernel
theorem dX12_post_47 : decode cX12_post 47 = .ok (.iload_n 3, 1) := by decide +kernel
theorem dX12_post_48 : decode cX12_post 48 = .ok (.bipush 9, 2) := by decide +kernel
theorem dX12_post_50 : decode cX12_post 50 = .ok (.if_icmp .gt 27, 3) := by decide +kernel
theorem dX12_post_53 : decode cX12_post 53 = .ok (.iload 4, 2) := by decide +kernel
theorem dX12_post_55 : decode cX12_post 55 = .ok (.bipush 40, 2) := by decide +kernel
theorem dX12_post_57 : decode cX12_post 57 = .ok (.if_icmp .gt 20, 3) := by decide +kernel
theorem dX12_post_60 : decode cX12_post 60 = .ok (.iload 5, 2) := by decide +kernel
theorem dX12_post_62 : decode cX12_post 62 = .ok (.sipush 1023, 3) := by decide +kernel
theorem dX12_post_65 : decode cX12_post 65 = .ok (.if_icmp .gt 12, 3) := by decide +kernel
theorem dX12_post_68 : decode cX12_post 68 = .ok (.aload_n 0, 1) := by decide +kernel
theorem dX12_post_69 : decode cX12_post 69 = .ok (.getfield 161, 3) := by decide +kernel
theorem dX12_post_72 : decode cX12_post 72 = .ok (.bipush 40, 2) := by decide +kernel
theorem dX12_post_74 : decode cX12_post 74 = .ok (.if_icmp .ne 10, 3) := by decide +kernel
theorem dX12_post_77 : decode cX12_post 77 = .ok (.aload_n 0, 1) := by decide +kernel
theorem dX12_post_78 : decode cX12_post 78 = .ok (.bipush (-6), 2) := by decide +kernel
theorem dX12_post_80 : decode cX12_post 80 = .ok (.invokevirtual 174, 3) := by decide +kernel
theorem dX12_post_83 : decode cX12_post 83 = .ok (.ireturn, 1) := by decide +kernel
theorem dX12_post_84 : decode cX12_post 84 = .ok (.aload_n 0, 1) := by decide +kernel
theorem dX12_post_85 : decode cX12_post 85 = .ok (.getfield 16, 3) := by decide +kernel
theorem dX12_post_88 : decode cX12_post 88 = .ok (.aload_n 0, 1) := by decide +kernel
theorem dX12_post_89 : decode cX12_post 89 = .ok (.getfield 161, 3) := by decide +kernel
theorem dX12_post_92 : decode cX12_post 92 = .ok (.iload_n 1, 1) := by decide +kernel
theorem dX12_post_93 : decode cX12_post 93 = .ok (.iastore, 1) := by decide +kernel
theorem dX12_post_94 : decode cX12_post 94 = .ok (.aload_n 0, 1) := by decide +kernel
theorem dX12_post_95 : decode cX12_post 95 = .ok (.getfield 19, 3) := by decide +kernel
theorem dX12_post_98 : decode cX12_post 98 = .ok (.aload_n 0, 1) := by decide +kernel
theorem dX12_post_99 : decode cX12_post 99 = .ok (.getfield 161, 3) := by decide +kernel
theorem dX12_post_102 : decode cX12_post 102 = .ok (.iload_n 2, 1) := by decide +kernel
theorem dX12_post_103 : decode cX12_post 103 = .ok (.iastore, 1) := by decide +kernel
theorem dX12_post_104 : decode cX12_post 104 = .ok (.aload_n 0, 1) := by decide +kernel
theorem dX12_post_105 : decode cX12_post 105 = .ok (.getfield 22, 3) := by decide +kernel
theorem dX12_post_108 : decode cX12_post 108 = .ok (.aload_n 0, 1) := by decide +kernel
theorem dX12_post_109 : decode cX12_post 109 = .ok (.getfield 161, 3) := by decide +kernel
theorem dX12_post_112 : decode cX12_post 112 = .ok (.iload_n 3, 1) := by decide +kernel
theorem dX12_post_113 : decode cX12_post 113 = .ok (.iastore, 1) := by decide +kernel
theorem dX12_post_114 : decode cX12_post 114 = .ok (.aload_n 0, 1) := by decide +kernel
theorem dX12_post_115 : decode cX12_post 115 = .ok (.getfield 25, 3) := by decide +kernel
theorem dX12_post_118 : decode cX12_post 118 = .ok (.aload_n 0, 1) := by decide +kernel
theorem dX12_post_119 : decode cX12_post 119 = .ok (.getfield 161, 3) := by decide +kernel
theorem dX12_post_122 : decode cX12_post 122 = .ok (.iload 4, 2) := by decide +kernel
theorem dX12_post_124 : decode cX12_post 124 = .ok (.iastore, 1) := by decide +kernel
theorem dX12_post_125 : decode cX12_post 125 = .ok (.aload_n 0, 1) := by decide +kernel
theorem dX12_post_126 : decode cX12_post 126 = .ok (.getfield 28, 3) := by decide +kernel
theorem dX12_post_129 : decode cX12_post 129 = .ok (.aload_n 0, 1) := by decide +kernel
theorem dX12_post_130 : decode cX12_post 130 = .ok (.getfield 161, 3) := by decide +kernel
theorem dX12_post_133 : decode cX12_post 133 = .ok (.iload 5, 2) := by decide +kernel
theorem dX12_post_135 : decode cX12_post 135 = .ok (.iastore, 1) := by decide +kernel
theorem dX12_post_136 : decode cX12_post 136 = .ok (.aload_n 0, 1) := by decide +kernel
theorem dX12_post_137 : decode cX12_post 137 = .ok (.getfield 31, 3) := by decide +kernel
theorem dX12_post_140 : decode cX12_post 140 = .ok (.aload_n 0, 1) := by decide +kernel
theorem dX12_post_141 : decode cX12_post 141 = .ok (.getfield 161, 3) := by decide +kernel
theorem dX12_post_144 : decode cX12_post 144 = .ok (.iconst (-1), 1) := by decide +kernel
theorem dX12_post_145 : decode cX12_post 145 = .ok (.iastore, 1) := by decide +kernel
theorem dX12_post_146 : decode cX12_post 146 = .ok (.aload_n 0, 1) := by decide +kernel
theorem dX12_post_147 : decode cX12_post 147 = .ok (.dup, 1) := by decide +kernel
theorem dX12_post_148 : decode cX12_post 148 = .ok (.getfield 161, 3) := by decide +kernel
theorem dX12_post_151 : decode cX12_post 151 = .ok (.iconst 1, 1) := by decide +kernel
theorem dX12_post_152 : decode cX12_post 152 = .ok (.iadd, 1) := by decide +kernel
theorem dX12_post_153 : decode cX12_post 153 = .ok (.putfield 161, 3) := by decide +kernel
theorem dX12_post_156 : decode cX12_post 156 = .ok (.aload_n 0, 1) := by decide +kernel
theorem dX12_post_157 : decode cX12_post 157 = .ok (.getfield 161, 3) := by decide +kernel
theorem dX12_post_160 : decode cX12_post 160 = .ok (.iconst 1, 1) := by decide +kernel
theorem dX12_post_161 : decode cX12_post 161 = .ok (.isub, 1) := by decide +kernel
theorem dX12_post_162 : decode cX12_post 162 = .ok (.ireturn, 1) := by decide +kernel
theorem dX12_drop_0 : decode cX12_drop 0 = .ok (.aload_n 0, 1) := by decide +kernel
theorem dX12_drop_1 : decode cX12_drop 1 = .ok (.getfield 46, 3) := by decide +kernel
theorem dX12_drop_4 : decode cX12_drop 4 = .ok (.iload_n 1, 1) := by decide +kernel
theorem dX12_drop_5 : decode cX12_drop 5 = .ok (.aload_n 0, 1) := by decide +kernel
theorem dX12_drop_6 : decode cX12_drop 6 = .ok (.getfield 43, 3) := by decide +kernel
theorem dX12_drop_9 : decode cX12_drop 9 = .ok (.iload_n 1, 1) := by decide +kernel
theorem dX12_drop_10 : decode cX12_drop 10 = .ok (.iaload, 1) := by decide +kernel
theorem dX12_drop_11 : decode cX12_drop 11 = .ok (.ifCond .lt 12, 3) := by decide +kernel
theorem dX12_drop_14 : decode cX12_drop 14 = .ok (.aload_n 0, 1) := by decide +kernel
theorem dX12_drop_15 : decode cX12_drop 15 = .ok (.getfield 43, 3) := by decide +kernel
theorem dX12_drop_18 : decode cX12_drop 18 = .ok (.iload_n 1, 1) := by decide +kernel
theorem dX12_drop_19 : decode cX12_drop 19 = .ok (.iaload, 1) := by decide +kernel
theorem dX12_drop_20 : decode cX12_drop 20 = .ok (.goto 9, 3) := by decide +kernel
theorem dX12_drop_23 : decode cX12_drop 23 = .ok (.aload_n 0, 1) := by decide +kernel
theorem dX12_drop_24 : decode cX12_drop 24 = .ok (.getfield 46, 3) := by decide +kernel
theorem dX12_drop_27 : decode cX12_drop 27 = .ok (.iload_n 1, 1) := by decide +kernel
theorem dX12_drop_28 : decode cX12_drop 28 = .ok (.iaload, 1) := by decide +kernel
theorem dX12_drop_29 : decode cX12_drop 29 = .ok (.iastore, 1) := by decide +kernel
theorem dX12_drop_30 : decode cX12_drop 30 = .ok (.aload_n 0, 1) := by decide +kernel
theorem dX12_drop_31 : decode cX12_drop 31 = .ok (.getfield 43, 3) := by decide +kernel
theorem dX12_drop_34 : decode cX12_drop 34 = .ok (.iload_n 1, 1) := by decide +kernel
theorem dX12_drop_35 : decode cX12_drop 35 = .ok (.iconst (-1), 1) := by decide +kernel
theorem dX12_drop_36 : decode cX12_drop 36 = .ok (.iastore, 1) := by decide +kernel
theorem dX12_drop_37 : decode cX12_drop 37 = .ok (.return_, 1) := by decide +kernel
theorem dX12_end_0 : decode cX12_end 0 = .ok (.aload_n 0, 1) := by decide +kernel
theorem dX12_end_1 : decode cX12_end 1 = .ok (.iload_n 1, 1) := by decide +kernel
theorem dX12_end_2 : decode cX12_end 2 = .ok (.invokevirtual 181, 3) := by decide +kernel
theorem dX12_end_5 : decode cX12_end 5 = .ok (.ifCond .ne 9, 3) := by decide +kernel
theorem dX12_end_8 : decode cX12_end 8 = .ok (.aload_n 0, 1) := by decide +kernel
theorem dX12_end_9 : decode cX12_end 9 = .ok (.iconst (-1), 1) := by decide +kernel
theorem dX12_end_10 : decode cX12_end 10 = .ok (.invokevirtual 174, 3) := by decide +kernel
theorem dX12_end_13 : decode cX12_end 13 = .ok (.ireturn, 1) := by decide +kernel
theorem dX12_end_14 : decode cX12_end 14 = .ok (.aload_n 0, 1) := by decide +kernel
theorem dX12_end_15 : decode cX12_end 15 = .ok (.getfield 31, 3) := by decide +kernel
theorem dX12_end_18 : decode cX12_end 18 = .ok (.iload_n 1, 1) := by decide +kernel
theorem dX12_end_19 : decode cX12_end 19 = .ok (.iaload, 1) := by decide +kernel
theorem dX12_end_20 : decode cX12_end 20 = .ok (.ifCond .lt 10, 3) := by decide +kernel
theorem dX12_end_23 : decode cX12_end 23 = .ok (.aload_n 0, 1) := by decide +kernel
theorem dX12_end_24 : decode cX12_end 24 = .ok (.bipush (-3), 2) := by decide +kernel
theorem dX12_end_26 : decode cX12_end 26 = .ok (.invokevirtual 174, 3) := by decide +kernel
theorem dX12_end_29 : decode cX12_end 29 = .ok (.ireturn, 1) := by decide +kernel
theorem dX12_end_30 : decode cX12_end 30 = .ok (.aload_n 0, 1) := by decide +kernel
theorem dX12_end_31 : decode cX12_end 31 = .ok (.getfield 31, 3) := by decide +kernel
theorem dX12_end_34 : decode cX12_end 34 = .ok (.iload_n 1, 1) := by decide +kernel
theorem dX12_end_35 : decode cX12_end 35 = .ok (.aload_n 0, 1) := by decide +kernel
theorem dX12_end_36 : decode cX12_end 36 = .ok (.getfield 167, 3) := by decide +kernel
theorem dX12_end_39 : decode cX12_end 39 = .ok (.iastore, 1) := by decide +kernel
theorem dX12_end_40 : decode cX12_end 40 = .ok (.aload_n 0, 1) := by decide +kernel
theorem dX12_end_41 : decode cX12_end 41 = .ok (.iload_n 1, 1) := by decide +kernel
theorem dX12_end_42 : decode cX12_end 42 = .ok (.invokevirtual 170, 3) := by decide +kernel
theorem dX12_end_45 : decode cX12_end 45 = .ok (.istore_n 2, 1) := by decide +kernel
theorem dX12_end_46 : decode cX12_end 46 = .ok (.iload_n 2, 1) := by decide +kernel
theorem dX12_end_47 : decode cX12_end 47 = .ok (.ifCond .lt 8, 3) := by decide +kernel
theorem dX12_end_50 : decode cX12_end 50 = .ok (.aload_n 0, 1) := by decide +kernel
theorem dX12_end_51 : decode cX12_end 51 = .ok (.iload_n 2, 1) := by decide +kernel
theorem dX12_end_52 : decode cX12_end 52 = .ok (.invokevirtual 184, 3) := by decide +kernel
theorem dX12_end_55 : decode cX12_end 55 = .ok (.iconst 1, 1) := by decide +kernel
theorem dX12_end_56 : decode cX12_end 56 = .ok (.ireturn, 1) := by decide +kernel
theorem dX12_set_0 : decode cX12_set 0 = .ok (.iload_n 1, 1) := by decide +kernel
theorem dX12_set_1 : decode cX12_set 1 = .ok (.iconst 0, 1) := by decide +kernel
theorem dX12_set_2 : decode cX12_set 2 = .ok (.iconst 2, 1) := by decide +kernel
theorem dX12_set_3 : decode cX12_set 3 = .ok (.invokestatic 157, 3) := by decide +kernel
theorem dX12_set_6 : decode cX12_set 6 = .ok (.ifCond .ne 10, 3) := by decide +kernel
theorem dX12_set_9 : decode cX12_set 9 = .ok (.aload_n 0, 1) := by decide +kernel
theorem dX12_set_10 : decode cX12_set 10 = .ok (.bipush (-2), 2) := by decide +kernel
theorem dX12_set_12 : decode cX12_set 12 = .ok (.invokevirtual 174, 3) := by decide +kernel
theorem dX12_set_15 : decode cX12_set 15 = .ok (.ireturn, 1) := by decide +kernel
theorem dX12_set_16 : decode cX12_set 16 = .ok (.iload_n 2, 1) := by decide +kernel
theorem dX12_set_17 : decode cX12_set 17 = .ok (.iload_n 1, 1) := by decide +kernel
theorem dX12_set_18 : decode cX12_set 18 = .ok (.iconst 2, 1) := by decide +kernel
theorem dX12_set_19 : decode cX12_set 19 = .ok (.if_icmp .ne 8, 3) := by decide +kernel
theorem dX12_set_22 : decode cX12_set 22 = .ok (.bipush 100, 2) := by decide +kernel
theorem dX12_set_24 : decode cX12_set 24 = .ok (.goto 4, 3) := by decide +kernel
theorem dX12_set_27 : decode cX12_set 27 = .ok (.iconst 0, 1) := by decide +kernel
theorem dX12_set_28 : decode cX12_set 28 = .ok (.if_icmp .ge 10, 3) := by decide +kernel
theorem dX12_set_31 : decode cX12_set 31 = .ok (.aload_n 0, 1) := by decide +kernel
theorem dX12_set_32 : decode cX12_set 32 = .ok (.bipush (-4), 2) := by decide +kernel
theorem dX12_set_34 : decode cX12_set 34 = .ok (.invokevirtual 174, 3) := by decide +kernel
theorem dX12_set_37 : decode cX12_set 37 = .ok (.ireturn, 1) := by decide +kernel
theorem dX12_set_38 : decode cX12_set 38 = .ok (.iload_n 2, 1) := by decide +kernel
theorem dX12_set_39 : decode cX12_set 39 = .ok (.iload_n 1, 1) := by decide +kernel
theorem dX12_set_40 : decode cX12_set 40 = .ok (.ifCond .ne 8, 3) := by decide +kernel
theorem dX12_set_43 : decode cX12_set 43 = .ok (.bipush 10, 2) := by decide +kernel
theorem dX12_set_45 : decode cX12_set 45 = .ok (.goto 15, 3) := by decide +kernel
theorem dX12_set_48 : decode cX12_set 48 = .ok (.iload_n 1, 1) := by decide +kernel
theorem dX12_set_49 : decode cX12_set 49 = .ok (.iconst 1, 1) := by decide +kernel
theorem dX12_set_50 : decode cX12_set 50 = .ok (.if_icmp .ne 7, 3) := by decide +kernel
theorem dX12_set_53 : decode cX12_set 53 = .ok (.iconst 5, 1) := by decide +kernel
theorem dX12_set_54 : decode cX12_set 54 = .ok (.goto 6, 3) := by decide +kernel
theorem dX12_set_57 : decode cX12_set 57 = .ok (.sipush 9999, 3) := by decide +kernel
theorem dX12_set_60 : decode cX12_set 60 = .ok (.if_icmp .le 10, 3) := by decide +kernel
theorem dX12_set_63 : decode cX12_set 63 = .ok (.aload_n 0, 1) := by decide +kernel
theorem dX12_set_64 : decode cX12_set 64 = .ok (.bipush (-6), 2) := by decide +kernel
theorem dX12_set_66 : decode cX12_set 66 = .ok (.invokevirtual 174, 3) := by decide +kernel
theorem dX12_set_69 : decode cX12_set 69 = .ok (.ireturn, 1) := by decide +kernel
theorem dX12_set_70 : decode cX12_set 70 = .ok (.iload_n 1, 1) := by decide +kernel
theorem dX12_set_71 : decode cX12_set 71 = .ok (.ifCond .ne 10, 3) := by decide +kernel
theorem dX12_set_74 : decode cX12_set 74 = .ok (.aload_n 0, 1) := by decide +kernel
theorem dX12_set_75 : decode cX12_set 75 = .ok (.getfield 58, 3) := by decide +kernel
theorem dX12_set_78 : decode cX12_set 78 = .ok (.goto 19, 3) := by decide +kernel
theorem dX12_set_81 : decode cX12_set 81 = .ok (.iload_n 1, 1) := by decide +kernel
theorem dX12_set_82 : decode cX12_set 82 = .ok (.iconst 1, 1) := by decide +kernel
theorem dX12_set_83 : decode cX12_set 83 = .ok (.if_icmp .ne 10, 3) := by decide +kernel
theorem dX12_set_86 : decode cX12_set 86 = .ok (.aload_n 0, 1) := by decide +kernel
theorem dX12_set_87 : decode cX12_set 87 = .ok (.getfield 188, 3) := by decide +kernel
theorem dX12_set_90 : decode cX12_set 90 = .ok (.goto 7, 3) := by decide +kernel
theorem dX12_set_93 : decode cX12_set 93 = .ok (.aload_n 0, 1) := by decide +kernel
theorem dX12_set_94 : decode cX12_set 94 = .ok (.getfield 62, 3) := by decide +kernel
theorem dX12_set_97 : decode cX12_set 97 = .ok (.istore_n 3, 1) := by decide +kernel
theorem dX12_set_98 : decode cX12_set 98 = .ok (.aload_n 0, 1) := by decide +kernel
theorem dX12_set_99 : decode cX12_set 99 = .ok (.iload_n 1, 1) := by decide +kernel
theorem dX12_set_100 : decode cX12_set 100 = .ok (.ifCond .ne 7, 3) := by decide +kernel
theorem dX12_set_103 : decode cX12_set 103 = .ok (.iload_n 2, 1) := by decide +kernel
theorem dX12_set_104 : decode cX12_set 104 = .ok (.goto 7, 3) := by decide +kernel
theorem dX12_set_107 : decode cX12_set 107 = .ok (.aload_n 0, 1) := by decide +kernel
theorem dX12_set_108 : decode cX12_set 108 = .ok (.getfield 58, 3) := by decide +kernel
theorem dX12_set_111 : decode cX12_set 111 = .ok (.putfield 58, 3) := by decide +kernel
theorem dX12_set_114 : decode cX12_set 114 = .ok (.aload_n 0, 1) := by decide +kernel
theorem dX12_set_115 : decode cX12_set 115 = .ok (.iload_n 1, 1) := by decide +kernel
theorem dX12_set_116 : decode cX12_set 116 = .ok (.iconst 1, 1) := by decide +kernel
theorem dX12_set_117 : decode cX12_set 117 = .ok (.if_icmp .ne 7, 3) := by decide +kernel
theorem dX12_set_120 : decode cX12_set 120 = .ok (.iload_n 2, 1) := by decide +kernel
theorem dX12_set_121 : decode cX12_set 121 = .ok (.goto 7, 3) := by decide +kernel
theorem dX12_set_124 : decode cX12_set 124 = .ok (.aload_n 0, 1) := by decide +kernel
theorem dX12_set_125 : decode cX12_set 125 = .ok (.getfield 188, 3) := by decide +kernel
theorem dX12_set_128 : decode cX12_set 128 = .ok (.putfield 188, 3) := by decide +kernel
theorem dX12_set_131 : decode cX12_set 131 = .ok (.aload_n 0, 1) := by decide +kernel
theorem dX12_set_132 : decode cX12_set 132 = .ok (.iload_n 1, 1) := by decide +kernel
theorem dX12_set_133 : decode cX12_set 133 = .ok (.iconst 2, 1) := by decide +kernel
theorem dX12_set_134 : decode cX12_set 134 = .ok (.if_icmp .ne 7, 3) := by decide +kernel
theorem dX12_set_137 : decode cX12_set 137 = .ok (.iload_n 2, 1) := by decide +kernel
theorem dX12_set_138 : decode cX12_set 138 = .ok (.goto 7, 3) := by decide +kernel
theorem dX12_set_141 : decode cX12_set 141 = .ok (.aload_n 0, 1) := by decide +kernel
theorem dX12_set_142 : decode cX12_set 142 = .ok (.getfield 62, 3) := by decide +kernel
theorem dX12_set_145 : decode cX12_set 145 = .ok (.putfield 62, 3) := by decide +kernel
theorem dX12_set_148 : decode cX12_set 148 = .ok (.iload_n 3, 1) := by decide +kernel
theorem dX12_set_149 : decode cX12_set 149 = .ok (.ireturn, 1) := by decide +kernel
theorem dX12_person_0 : decode cX12_person 0 = .ok (.iload_n 1, 1) := by decide +kernel
theorem dX12_person_1 : decode cX12_person 1 = .ok (.iconst (-1), 1) := by decide +kernel
theorem dX12_person_2 : decode cX12_person 2 = .ok (.if_icmp .eq 17, 3) := by decide +kernel
theorem dX12_person_5 : decode cX12_person 5 = .ok (.aload_n 0, 1) := by decide +kernel
theorem dX12_person_6 : decode cX12_person 6 = .ok (.iload_n 1, 1) := by decide +kernel
theorem dX12_person_7 : decode cX12_person 7 = .ok (.invokevirtual 181, 3) := by decide +kernel
theorem dX12_person_10 : decode cX12_person 10 = .ok (.ifCond .ne 9, 3) := by decide +kernel
theorem dX12_person_13 : decode cX12_person 13 = .ok (.aload_n 0, 1) := by decide +kernel
theorem dX12_person_14 : decode cX12_person 14 = .ok (.iconst (-1), 1) := by decide +kernel
theorem dX12_person_15 : decode cX12_person 15 = .ok (.invokevirtual 174, 3) := by decide +kernel
theorem dX12_person_18 : decode cX12_person 18 = .ok (.ireturn, 1) := by decide +kernel
theorem dX12_person_19 : decode cX12_person 19 = .ok (.iload_n 1, 1) := by decide +kernel
theorem dX12_person_20 : decode cX12_person 20 = .ok (.ifCond .lt 18, 3) := by decide +kernel
theorem dX12_person_23 : decode cX12_person 23 = .ok (.aload_n 0, 1) := by decide +kernel
theorem dX12_person_24 : decode cX12_person 24 = .ok (.iload_n 1, 1) := by decide +kernel
theorem dX12_person_25 : decode cX12_person 25 = .ok (.invokevirtual 191, 3) := by decide +kernel
theorem dX12_person_28 : decode cX12_person 28 = .ok (.ifCond .ne 10, 3) := by decide +kernel
theorem dX12_person_31 : decode cX12_person 31 = .ok (.aload_n 0, 1) := by decide +kernel
theorem dX12_person_32 : decode cX12_person 32 = .ok (.bipush (-3), 2) := by decide +kernel
theorem dX12_person_34 : decode cX12_person 34 = .ok (.invokevirtual 174, 3) := by decide +kernel
theorem dX12_person_37 : decode cX12_person 37 = .ok (.ireturn, 1) := by decide +kernel
theorem dX12_person_38 : decode cX12_person 38 = .ok (.iload_n 2, 1) := by decide +kernel
theorem dX12_person_39 : decode cX12_person 39 = .ok (.ifCond .lt 17, 3) := by decide +kernel
theorem dX12_person_42 : decode cX12_person 42 = .ok (.iload_n 3, 1) := by decide +kernel
theorem dX12_person_43 : decode cX12_person 43 = .ok (.sipush (-20000), 3) := by decide +kernel
theorem dX12_person_46 : decode cX12_person 46 = .ok (.if_icmp .lt 10, 3) := by decide +kernel
theorem dX12_person_49 : decode cX12_person 49 = .ok (.iload 4, 2) := by decide +kernel
theorem dX12_person_51 : decode cX12_person 51 = .ok (.bipush 100, 2) := by decide +kernel
theorem dX12_person_53 : decode cX12_person 53 = .ok (.if_icmp .ge 10, 3) := by decide +kernel
theorem dX12_person_56 : decode cX12_person 56 = .ok (.aload_n 0, 1) := by decide +kernel
theorem dX12_person_57 : decode cX12_person 57 = .ok (.bipush (-4), 2) := by decide +kernel
theorem dX12_person_59 : decode cX12_person 59 = .ok (.invokevirtual 174, 3) := by decide +kernel
theorem dX12_person_62 : decode cX12_person 62 = .ok (.ireturn, 1) := by decide +kernel
theorem dX12_person_63 : decode cX12_person 63 = .ok (.iload_n 2, 1) := by decide +kernel
theorem dX12_person_64 : decode cX12_person 64 = .ok (.sipush 1023, 3) := by decide +kernel
theorem dX12_person_67 : decode cX12_person 67 = .ok (.if_icmp .gt 28, 3) := by decide +kernel
theorem dX12_person_70 : decode cX12_person 70 = .ok (.iload_n 3, 1) := by decide +kernel
theorem dX12_person_71 : decode cX12_person 71 = .ok (.aload_n 0, 1) := by decide +kernel
theorem dX12_person_72 : decode cX12_person 72 = .ok (.getfield 167, 3) := by decide +kernel
theorem dX12_person_75 : decode cX12_person 75 = .ok (.if_icmp .gt 20, 3) := by decide +kernel
theorem dX12_person_78 : decode cX12_person 78 = .ok (.iload 4, 2) := by decide +kernel
theorem dX12_person_80 : decode cX12_person 80 = .ok (.sipush 9999, 3) := by decide +kernel
theorem dX12_person_83 : decode cX12_person 83 = .ok (.if_icmp .gt 12, 3) := by decide +kernel
theorem dX12_person_86 : decode cX12_person 86 = .ok (.aload_n 0, 1) := by decide +kernel
theorem dX12_person_87 : decode cX12_person 87 = .ok (.getfield 164, 3) := by decide +kernel
theorem dX12_person_90 : decode cX12_person 90 = .ok (.bipush 40, 2) := by decide +kernel
theorem dX12_person_92 : decode cX12_person 92 = .ok (.if_icmp .ne 10, 3) := by decide +kernel
theorem dX12_person_95 : decode cX12_person 95 = .ok (.aload_n 0, 1) := by decide +kernel
theorem dX12_person_96 : decode cX12_person 96 = .ok (.bipush (-6), 2) := by decide +kernel
theorem dX12_person_98 : decode cX12_person 98 = .ok (.invokevirtual 174, 3) := by decide +kernel
theorem dX12_person_101 : decode cX12_person 101 = .ok (.ireturn, 1) := by decide +kernel
theorem dX12_person_102 : decode cX12_person 102 = .ok (.aload_n 0, 1) := by decide +kernel
theorem dX12_person_103 : decode cX12_person 103 = .ok (.getfield 43, 3) := by decide +kernel
theorem dX12_person_106 : decode cX12_person 106 = .ok (.aload_n 0, 1) := by decide +kernel
theorem dX12_person_107 : decode cX12_person 107 = .ok (.getfield 164, 3) := by decide +kernel
theorem dX12_person_110 : decode cX12_person 110 = .ok (.iload_n 1, 1) := by decide +kernel
theorem dX12_person_111 : decode cX12_person 111 = .ok (.iastore, 1) := by decide +kernel
theorem dX12_person_112 : decode cX12_person 112 = .ok (.aload_n 0, 1) := by decide +kernel
theorem dX12_person_113 : decode cX12_person 113 = .ok (.getfield 46, 3) := by decide +kernel
theorem dX12_person_116 : decode cX12_person 116 = .ok (.aload_n 0, 1) := by decide +kernel
theorem dX12_person_117 : decode cX12_person 117 = .ok (.getfield 164, 3) := by decide +kernel
theorem dX12_person_120 : decode cX12_person 120 = .ok (.iconst (-1), 1) := by decide +kernel
theorem dX12_person_121 : decode cX12_person 121 = .ok (.iastore, 1) := by decide +kernel
theorem dX12_person_122 : decode cX12_person 122 = .ok (.aload_n 0, 1) := by decide +kernel
theorem dX12_person_123 : decode cX12_person 123 = .ok (.getfield 34, 3) := by decide +kernel
theorem dX12_person_126 : decode cX12_person 126 = .ok (.aload_n 0, 1) := by decide +kernel
theorem dX12_person_127 : decode cX12_person 127 = .ok (.getfield 164, 3) := by decide +kernel
theorem dX12_person_130 : decode cX12_person 130 = .ok (.iload_n 2, 1) := by decide +kernel
theorem dX12_person_131 : decode cX12_person 131 = .ok (.iastore, 1) := by decide +kernel
theorem dX12_person_132 : decode cX12_person 132 = .ok (.aload_n 0, 1) := by decide +kernel
theorem dX12_person_133 : decode cX12_person 133 = .ok (.getfield 37, 3) := by decide +kernel
theorem dX12_person_136 : decode cX12_person 136 = .ok (.aload_n 0, 1) := by decide +kernel
theorem dX12_person_137 : decode cX12_person 137 = .ok (.getfield 164, 3) := by decide +kernel
theorem dX12_person_140 : decode cX12_person 140 = .ok (.iload_n 3, 1) := by decide +kernel
theorem dX12_person_141 : decode cX12_person 141 = .ok (.iastore, 1) := by decide +kernel
theorem dX12_person_142 : decode cX12_person 142 = .ok (.aload_n 0, 1) := by decide +kernel
theorem dX12_person_143 : decode cX12_person 143 = .ok (.getfield 40, 3) := by decide +kernel
theorem dX12_person_146 : decode cX12_person 146 = .ok (.aload_n 0, 1) := by decide +kernel
theorem dX12_person_147 : decode cX12_person 147 = .ok (.getfield 164, 3) := by decide +kernel
theorem dX12_person_150 : decode cX12_person 150 = .ok (.iload 4, 2) := by decide +kernel
theorem dX12_person_152 : decode cX12_person 152 = .ok (.iastore, 1) := by decide +kernel
theorem dX12_person_153 : decode cX12_person 153 = .ok (.aload_n 0, 1) := by decide +kernel
theorem dX12_person_154 : decode cX12_person 154 = .ok (.getfield 49, 3) := by decide +kernel
theorem dX12_person_157 : decode cX12_person 157 = .ok (.aload_n 0, 1) := by decide +kernel
theorem dX12_person_158 : decode cX12_person 158 = .ok (.getfield 164, 3) := by decide +kernel
theorem dX12_person_161 : decode cX12_person 161 = .ok (.iconst (-1), 1) := by decide +kernel
theorem dX12_person_162 : decode cX12_person 162 = .ok (.iastore, 1) := by decide +kernel
theorem dX12_person_163 : decode cX12_person 163 = .ok (.aload_n 0, 1) := by decide +kernel
theorem dX12_person_164 : decode cX12_person 164 = .ok (.getfield 52, 3) := by decide +kernel
theorem dX12_person_167 : decode cX12_person 167 = .ok (.aload_n 0, 1) := by decide +kernel
theorem dX12_person_168 : decode cX12_person 168 = .ok (.getfield 164, 3) := by decide +kernel
theorem dX12_person_171 : decode cX12_person 171 = .ok (.iconst (-1), 1) := by decide +kernel
theorem dX12_person_172 : decode cX12_person 172 = .ok (.iastore, 1) := by decide +kernel
theorem dX12_person_173 : decode cX12_person 173 = .ok (.aload_n 0, 1) := by decide +kernel
theorem dX12_person_174 : decode cX12_person 174 = .ok (.getfield 55, 3) := by decide +kernel
theorem dX12_person_177 : decode cX12_person 177 = .ok (.aload_n 0, 1) := by decide +kernel
theorem dX12_person_178 : decode cX12_person 178 = .ok (.getfield 164, 3) := by decide +kernel
theorem dX12_person_181 : decode cX12_person 181 = .ok (.iconst (-1), 1) := by decide +kernel
theorem dX12_person_182 : decode cX12_person 182 = .ok (.iastore, 1) := by decide +kernel
theorem dX12_person_183 : decode cX12_person 183 = .ok (.aload_n 0, 1) := by decide +kernel
theorem dX12_person_184 : decode cX12_person 184 = .ok (.dup, 1) := by decide +kernel
theorem dX12_person_185 : decode cX12_person 185 = .ok (.getfield 164, 3) := by decide +kernel
theorem dX12_person_188 : decode cX12_person 188 = .ok (.iconst 1, 1) := by decide +kernel
theorem dX12_person_189 : decode cX12_person 189 = .ok (.iadd, 1) := by decide +kernel
theorem dX12_person_190 : decode cX12_person 190 = .ok (.putfield 164, 3) := by decide +kernel
theorem dX12_person_193 : decode cX12_person 193 = .ok (.aload_n 0, 1) := by decide +kernel
theorem dX12_person_194 : decode cX12_person 194 = .ok (.getfield 164, 3) := by decide +kernel
theorem dX12_person_197 : decode cX12_person 197 = .ok (.iconst 1, 1) := by decide +kernel
theorem dX12_person_198 : decode cX12_person 198 = .ok (.isub, 1) := by decide +kernel
theorem dX12_person_199 : decode cX12_person 199 = .ok (.ireturn, 1) := by decide +kernel
theorem dX12_protect_0 : decode cX12_protect 0 = .ok (.aload_n 0, 1) := by decide +kernel
theorem dX12_protect_1 : decode cX12_protect 1 = .ok (.iload_n 1, 1) := by decide +kernel
theorem dX12_protect_2 : decode cX12_protect 2 = .ok (.invokevirtual 194, 3) := by decide +kernel
theorem dX12_protect_5 : decode cX12_protect 5 = .ok (.ifCond .ne 9, 3) := by decide +kernel
theorem dX12_protect_8 : decode cX12_protect 8 = .ok (.aload_n 0, 1) := by decide +kernel
theorem dX12_protect_9 : decode cX12_protect 9 = .ok (.iconst (-1), 1) := by decide +kernel
theorem dX12_protect_10 : decode cX12_protect 10 = .ok (.invokevirtual 197, 3) := by decide +kernel
theorem dX12_protect_13 : decode cX12_protect 13 = .ok (.ireturn, 1) := by decide +kernel
theorem dX12_protect_14 : decode cX12_protect 14 = .ok (.iload_n 2, 1) := by decide +kernel
theorem dX12_protect_15 : decode cX12_protect 15 = .ok (.iconst (-1), 1) := by decide +kernel
theorem dX12_protect_16 : decode cX12_protect 16 = .ok (.if_icmp .ge 10, 3) := by decide +kernel
theorem dX12_protect_19 : decode cX12_protect 19 = .ok (.aload_n 0, 1) := by decide +kernel
theorem dX12_protect_20 : decode cX12_protect 20 = .ok (.bipush (-4), 2) := by decide +kernel
theorem dX12_protect_22 : decode cX12_protect 22 = .ok (.invokevirtual 197, 3) := by decide +kernel
theorem dX12_protect_25 : decode cX12_protect 25 = .ok (.ireturn, 1) := by decide +kernel
theorem dX12_protect_26 : decode cX12_protect 26 = .ok (.iload_n 2, 1) := by decide +kernel
theorem dX12_protect_27 : decode cX12_protect 27 = .ok (.sipush 9000, 3) := by decide +kernel
theorem dX12_protect_30 : decode cX12_protect 30 = .ok (.if_icmp .le 10, 3) := by decide +kernel
theorem dX12_protect_33 : decode cX12_protect 33 = .ok (.aload_n 0, 1) := by decide +kernel
theorem dX12_protect_34 : decode cX12_protect 34 = .ok (.bipush (-6), 2) := by decide +kernel
theorem dX12_protect_36 : decode cX12_protect 36 = .ok (.invokevirtual 197, 3) := by decide +kernel
theorem dX12_protect_39 : decode cX12_protect 39 = .ok (.ireturn, 1) := by decide +kernel
theorem dX12_protect_40 : decode cX12_protect 40 = .ok (.aload_n 0, 1) := by decide +kernel
theorem dX12_protect_41 : decode cX12_protect 41 = .ok (.getfield 52, 3) := by decide +kernel
theorem dX12_protect_44 : decode cX12_protect 44 = .ok (.iload_n 1, 1) := by decide +kernel
theorem dX12_protect_45 : decode cX12_protect 45 = .ok (.iaload, 1) := by decide +kernel
theorem dX12_protect_46 : decode cX12_protect 46 = .ok (.istore_n 3, 1) := by decide +kernel
theorem dX12_protect_47 : decode cX12_protect 47 = .ok (.aload_n 0, 1) := by decide +kernel
theorem dX12_protect_48 : decode cX12_protect 48 = .ok (.getfield 52, 3) := by decide +kernel
theorem dX12_protect_51 : decode cX12_protect 51 = .ok (.iload_n 1, 1) := by decide +kernel
theorem dX12_protect_52 : decode cX12_protect 52 = .ok (.iload_n 2, 1) := by decide +kernel
theorem dX12_protect_53 : decode cX12_protect 53 = .ok (.iastore, 1) := by decide +kernel
theorem dX12_protect_54 : decode cX12_protect 54 = .ok (.iload_n 3, 1) := by decide +kernel
theorem dX12_protect_55 : decode cX12_protect 55 = .ok (.ireturn, 1) := by decide +kernel
theorem dX12_move_0 : decode cX12_move 0 = .ok (.aload_n 0, 1) := by decide +kernel
theorem dX12_move_1 : decode cX12_move 1 = .ok (.iload_n 1, 1) := by decide +kernel
theorem dX12_move_2 : decode cX12_move 2 = .ok (.invokevirtual 194, 3) := by decide +kernel
theorem dX12_move_5 : decode cX12_move 5 = .ok (.ifCond .eq 16, 3) := by decide +kernel
theorem dX12_move_8 : decode cX12_move 8 = .ok (.iload_n 2, 1) := by decide +kernel
theorem dX12_move_9 : decode cX12_move 9 = .ok (.iconst (-1), 1) := by decide +kernel
theorem dX12_move_10 : decode cX12_move 10 = .ok (.if_icmp .eq 17, 3) := by decide +kernel
theorem dX12_move_13 : decode cX12_move 13 = .ok (.aload_n 0, 1) := by decide +kernel
theorem dX12_move_14 : decode cX12_move 14 = .ok (.iload_n 2, 1) := by decide +kernel
theorem dX12_move_15 : decode cX12_move 15 = .ok (.invokevirtual 181, 3) := by decide +kernel
theorem dX12_move_18 : decode cX12_move 18 = .ok (.ifCond .ne 9, 3) := by decide +kernel
theorem dX12_move_21 : decode cX12_move 21 = .ok (.aload_n 0, 1) := by decide +kernel
theorem dX12_move_22 : decode cX12_move 22 = .ok (.iconst (-1), 1) := by decide +kernel
theorem dX12_move_23 : decode cX12_move 23 = .ok (.invokevirtual 197, 3) := by decide +kernel
theorem dX12_move_26 : decode cX12_move 26 = .ok (.ireturn, 1) := by decide +kernel
theorem dX12_move_27 : decode cX12_move 27 = .ok (.aload_n 0, 1) := by decide +kernel
theorem dX12_move_28 : decode cX12_move 28 = .ok (.iload_n 1, 1) := by decide +kernel
theorem dX12_move_29 : decode cX12_move 29 = .ok (.invokevirtual 200, 3) := by decide +kernel
theorem dX12_move_32 : decode cX12_move 32 = .ok (.ifCond .eq 25, 3) := by decide +kernel
theorem dX12_move_35 : decode cX12_move 35 = .ok (.iload_n 2, 1) := by decide +kernel
theorem dX12_move_36 : decode cX12_move 36 = .ok (.ifCond .lt 28, 3) := by decide +kernel
theorem dX12_move_39 : decode cX12_move 39 = .ok (.aload_n 0, 1) := by decide +kernel
theorem dX12_move_40 : decode cX12_move 40 = .ok (.getfield 43, 3) := by decide +kernel
theorem dX12_move_43 : decode cX12_move 43 = .ok (.iload_n 1, 1) := by decide +kernel
theorem dX12_move_44 : decode cX12_move 44 = .ok (.iaload, 1) := by decide +kernel
theorem dX12_move_45 : decode cX12_move 45 = .ok (.iload_n 2, 1) := by decide +kernel
theorem dX12_move_46 : decode cX12_move 46 = .ok (.if_icmp .eq 18, 3) := by decide +kernel
theorem dX12_move_49 : decode cX12_move 49 = .ok (.aload_n 0, 1) := by decide +kernel
theorem dX12_move_50 : decode cX12_move 50 = .ok (.iload_n 2, 1) := by decide +kernel
theorem dX12_move_51 : decode cX12_move 51 = .ok (.invokevirtual 191, 3) := by decide +kernel
theorem dX12_move_54 : decode cX12_move 54 = .ok (.ifCond .ne 10, 3) := by decide +kernel
theorem dX12_move_57 : decode cX12_move 57 = .ok (.aload_n 0, 1) := by decide +kernel
theorem dX12_move_58 : decode cX12_move 58 = .ok (.bipush (-3), 2) := by decide +kernel
theorem dX12_move_60 : decode cX12_move 60 = .ok (.invokevirtual 197, 3) := by decide +kernel
theorem dX12_move_63 : decode cX12_move 63 = .ok (.ireturn, 1) := by decide +kernel
theorem dX12_move_64 : decode cX12_move 64 = .ok (.aload_n 0, 1) := by decide +kernel
theorem dX12_move_65 : decode cX12_move 65 = .ok (.getfield 43, 3) := by decide +kernel
theorem dX12_move_68 : decode cX12_move 68 = .ok (.iload_n 1, 1) := by decide +kernel
theorem dX12_move_69 : decode cX12_move 69 = .ok (.iaload, 1) := by decide +kernel
theorem dX12_move_70 : decode cX12_move 70 = .ok (.istore_n 3, 1) := by decide +kernel
theorem dX12_move_71 : decode cX12_move 71 = .ok (.aload_n 0, 1) := by decide +kernel
theorem dX12_move_72 : decode cX12_move 72 = .ok (.iload_n 1, 1) := by decide +kernel
theorem dX12_move_73 : decode cX12_move 73 = .ok (.invokevirtual 184, 3) := by decide +kernel
theorem dX12_move_76 : decode cX12_move 76 = .ok (.aload_n 0, 1) := by decide +kernel
theorem dX12_move_77 : decode cX12_move 77 = .ok (.getfield 43, 3) := by decide +kernel
theorem dX12_move_80 : decode cX12_move 80 = .ok (.iload_n 1, 1) := by decide +kernel
theorem dX12_move_81 : decode cX12_move 81 = .ok (.iload_n 2, 1) := by decide +kernel
theorem dX12_move_82 : decode cX12_move 82 = .ok (.iastore, 1) := by decide +kernel
theorem dX12_move_83 : decode cX12_move 83 = .ok (.iload_n 3, 1) := by decide +kernel
theorem dX12_move_84 : decode cX12_move 84 = .ok (.ireturn, 1) := by decide +kernel
theorem dX12_leave_0 : decode cX12_leave 0 = .ok (.aload_n 0, 1) := by decide +kernel
theorem dX12_leave_1 : decode cX12_leave 1 = .ok (.iload_n 1, 1) := by decide +kernel
theorem dX12_leave_2 : decode cX12_leave 2 = .ok (.invokevirtual 194, 3) := by decide +kernel
theorem dX12_leave_5 : decode cX12_leave 5 = .ok (.ifCond .ne 9, 3) := by decide +kernel
theorem dX12_leave_8 : decode cX12_leave 8 = .ok (.aload_n 0, 1) := by decide +kernel
theorem dX12_leave_9 : decode cX12_leave 9 = .ok (.iconst (-1), 1) := by decide +kernel
theorem dX12_leave_10 : decode cX12_leave 10 = .ok (.invokevirtual 174, 3) := by decide +kernel
theorem dX12_leave_13 : decode cX12_leave 13 = .ok (.ireturn, 1) := by decide +kernel
theorem dX12_leave_14 : decode cX12_leave 14 = .ok (.aload_n 0, 1) := by decide +kernel
theorem dX12_leave_15 : decode cX12_leave 15 = .ok (.iload_n 1, 1) := by decide +kernel
theorem dX12_leave_16 : decode cX12_leave 16 = .ok (.invokevirtual 200, 3) := by decide +kernel
theorem dX12_leave_19 : decode cX12_leave 19 = .ok (.ifCond .ne 10, 3) := by decide +kernel
theorem dX12_leave_22 : decode cX12_leave 22 = .ok (.aload_n 0, 1) := by decide +kernel
theorem dX12_leave_23 : decode cX12_leave 23 = .ok (.bipush (-3), 2) := by decide +kernel
theorem dX12_leave_25 : decode cX12_leave 25 = .ok (.invokevirtual 174, 3) := by decide +kernel
theorem dX12_leave_28 : decode cX12_leave 28 = .ok (.ireturn, 1) := by decide +kernel
theorem dX12_leave_29 : decode cX12_leave 29 = .ok (.aload_n 0, 1) := by decide +kernel
theorem dX12_leave_30 : decode cX12_leave 30 = .ok (.iload_n 1, 1) := by decide +kernel
theorem dX12_leave_31 : decode cX12_leave 31 = .ok (.invokevirtual 184, 3) := by decide +kernel
theorem dX12_leave_34 : decode cX12_leave 34 = .ok (.aload_n 0, 1) := by decide +kernel
theorem dX12_leave_35 : decode cX12_leave 35 = .ok (.getfield 49, 3) := by decide +kernel
theorem dX12_leave_38 : decode cX12_leave 38 = .ok (.iload_n 1, 1) := by decide +kernel
theorem dX12_leave_39 : decode cX12_leave 39 = .ok (.aload_n 0, 1) := by decide +kernel
theorem dX12_leave_40 : decode cX12_leave 40 = .ok (.getfield 167, 3) := by decide +kernel
theorem dX12_leave_43 : decode cX12_leave 43 = .ok (.iastore, 1) := by decide +kernel
theorem dX12_leave_44 : decode cX12_leave 44 = .ok (.iconst 1, 1) := by decide +kernel
theorem dX12_leave_45 : decode cX12_leave 45 = .ok (.ireturn, 1) := by decide +kernel
theorem dX12_weight_0 : decode cX12_weight 0 = .ok (.iload_n 1, 1) := by decide +kernel
theorem dX12_weight_1 : decode cX12_weight 1 = .ok (.iconst 0, 1) := by decide +kernel
theorem dX12_weight_2 : decode cX12_weight 2 = .ok (.iconst 3, 1) := by decide +kernel
theorem dX12_weight_3 : decode cX12_weight 3 = .ok (.invokestatic 157, 3) := by decide +kernel
theorem dX12_weight_6 : decode cX12_weight 6 = .ok (.ifCond .ne 10, 3) := by decide +kernel
theorem dX12_weight_9 : decode cX12_weight 9 = .ok (.aload_n 0, 1) := by decide +kernel
theorem dX12_weight_10 : decode cX12_weight 10 = .ok (.bipush (-2), 2) := by decide +kernel
theorem dX12_weight_12 : decode cX12_weight 12 = .ok (.invokevirtual 174, 3) := by decide +kernel
theorem dX12_weight_15 : decode cX12_weight 15 = .ok (.ireturn, 1) := by decide +kernel
theorem dX12_weight_16 : decode cX12_weight 16 = .ok (.iload_n 2, 1) := by decide +kernel
theorem dX12_weight_17 : decode cX12_weight 17 = .ok (.ifCond .ge 10, 3) := by decide +kernel
theorem dX12_weight_20 : decode cX12_weight 20 = .ok (.aload_n 0, 1) := by decide +kernel
theorem dX12_weight_21 : decode cX12_weight 21 = .ok (.bipush (-4), 2) := by decide +kernel
theorem dX12_weight_23 : decode cX12_weight 23 = .ok (.invokevirtual 174, 3) := by decide +kernel
theorem dX12_weight_26 : decode cX12_weight 26 = .ok (.ireturn, 1) := by decide +kernel
theorem dX12_weight_27 : decode cX12_weight 27 = .ok (.iload_n 2, 1) := by decide +kernel
theorem dX12_weight_28 : decode cX12_weight 28 = .ok (.bipush 20, 2) := by decide +kernel
theorem dX12_weight_30 : decode cX12_weight 30 = .ok (.if_icmp .le 10, 3) := by decide +kernel
theorem dX12_weight_33 : decode cX12_weight 33 = .ok (.aload_n 0, 1) := by decide +kernel
theorem dX12_weight_34 : decode cX12_weight 34 = .ok (.bipush (-6), 2) := by decide +kernel
theorem dX12_weight_36 : decode cX12_weight 36 = .ok (.invokevirtual 174, 3) := by decide +kernel
theorem dX12_weight_39 : decode cX12_weight 39 = .ok (.ireturn, 1) := by decide +kernel
theorem dX12_weight_40 : decode cX12_weight 40 = .ok (.aload_n 0, 1) := by decide +kernel
theorem dX12_weight_41 : decode cX12_weight 41 = .ok (.getfield 65, 3) := by decide +kernel
theorem dX12_weight_44 : decode cX12_weight 44 = .ok (.iload_n 1, 1) := by decide +kernel
theorem dX12_weight_45 : decode cX12_weight 45 = .ok (.iaload, 1) := by decide +kernel
theorem dX12_weight_46 : decode cX12_weight 46 = .ok (.istore_n 3, 1) := by decide +kernel
theorem dX12_weight_47 : decode cX12_weight 47 = .ok (.aload_n 0, 1) := by decide +kernel
theorem dX12_weight_48 : decode cX12_weight 48 = .ok (.getfield 65, 3) := by decide +kernel
theorem dX12_weight_51 : decode cX12_weight 51 = .ok (.iload_n 1, 1) := by decide +kernel
theorem dX12_weight_52 : decode cX12_weight 52 = .ok (.iload_n 2, 1) := by decide +kernel
theorem dX12_weight_53 : decode cX12_weight 53 = .ok (.iastore, 1) := by decide +kernel
theorem dX12_weight_54 : decode cX12_weight 54 = .ok (.iload_n 3, 1) := by decide +kernel
theorem dX12_weight_55 : decode cX12_weight 55 = .ok (.ireturn, 1) := by decide +kernel
theorem dX12_tell_0 : decode cX12_tell 0 = .ok (.aload_n 0, 1) := by decide +kernel
theorem dX12_tell_1 : decode cX12_tell 1 = .ok (.iload_n 1, 1) := by decide +kernel
theorem dX12_tell_2 : decode cX12_tell 2 = .ok (.invokevirtual 194, 3) := by decide +kernel
theorem dX12_tell_5 : decode cX12_tell 5 = .ok (.ifCond .ne 9, 3) := by decide +kernel
theorem dX12_tell_8 : decode cX12_tell 8 = .ok (.aload_n 0, 1) := by decide +kernel
theorem dX12_tell_9 : decode cX12_tell 9 = .ok (.iconst (-1), 1) := by decide +kernel
theorem dX12_tell_10 : decode cX12_tell 10 = .ok (.invokevirtual 174, 3) := by decide +kernel
theorem dX12_tell_13 : decode cX12_tell 13 = .ok (.ireturn, 1) := by decide +kernel
theorem dX12_tell_14 : decode cX12_tell 14 = .ok (.iload_n 2, 1) := by decide +kernel
theorem dX12_tell_15 : decode cX12_tell 15 = .ok (.iconst 0, 1) := by decide +kernel
theorem dX12_tell_16 : decode cX12_tell 16 = .ok (.iconst 1, 1) := by decide +kernel
theorem dX12_tell_17 : decode cX12_tell 17 = .ok (.invokestatic 157, 3) := by decide +kernel
theorem dX12_tell_20 : decode cX12_tell 20 = .ok (.ifCond .ne 10, 3) := by decide +kernel
theorem dX12_tell_23 : decode cX12_tell 23 = .ok (.aload_n 0, 1) := by decide +kernel
theorem dX12_tell_24 : decode cX12_tell 24 = .ok (.bipush (-2), 2) := by decide +kernel
theorem dX12_tell_26 : decode cX12_tell 26 = .ok (.invokevirtual 174, 3) := by decide +kernel
theorem dX12_tell_29 : decode cX12_tell 29 = .ok (.ireturn, 1) := by decide +kernel
theorem dX12_tell_30 : decode cX12_tell 30 = .ok (.iload_n 3, 1) := by decide +kernel
theorem dX12_tell_31 : decode cX12_tell 31 = .ok (.ifCond .ge 10, 3) := by decide +kernel
theorem dX12_tell_34 : decode cX12_tell 34 = .ok (.aload_n 0, 1) := by decide +kernel
theorem dX12_tell_35 : decode cX12_tell 35 = .ok (.bipush (-4), 2) := by decide +kernel
theorem dX12_tell_37 : decode cX12_tell 37 = .ok (.invokevirtual 174, 3) := by decide +kernel
theorem dX12_tell_40 : decode cX12_tell 40 = .ok (.ireturn, 1) := by decide +kernel
theorem dX12_tell_41 : decode cX12_tell 41 = .ok (.iload_n 3, 1) := by decide +kernel
theorem dX12_tell_42 : decode cX12_tell 42 = .ok (.iload_n 2, 1) := by decide +kernel
theorem dX12_tell_43 : decode cX12_tell 43 = .ok (.ifCond .ne 8, 3) := by decide +kernel
theorem dX12_tell_46 : decode cX12_tell 46 = .ok (.bipush 100, 2) := by decide +kernel
theorem dX12_tell_48 : decode cX12_tell 48 = .ok (.goto 5, 3) := by decide +kernel
theorem dX12_tell_51 : decode cX12_tell 51 = .ok (.bipush 9, 2) := by decide +kernel
theorem dX12_tell_53 : decode cX12_tell 53 = .ok (.if_icmp .gt 12, 3) := by decide +kernel
theorem dX12_tell_56 : decode cX12_tell 56 = .ok (.aload_n 0, 1) := by decide +kernel
theorem dX12_tell_57 : decode cX12_tell 57 = .ok (.getfield 203, 3) := by decide +kernel
theorem dX12_tell_60 : decode cX12_tell 60 = .ok (.bipush 120, 2) := by decide +kernel
theorem dX12_tell_62 : decode cX12_tell 62 = .ok (.if_icmp .ne 10, 3) := by decide +kernel
theorem dX12_tell_65 : decode cX12_tell 65 = .ok (.aload_n 0, 1) := by decide +kernel
theorem dX12_tell_66 : decode cX12_tell 66 = .ok (.bipush (-6), 2) := by decide +kernel
theorem dX12_tell_68 : decode cX12_tell 68 = .ok (.invokevirtual 174, 3) := by decide +kernel
theorem dX12_tell_71 : decode cX12_tell 71 = .ok (.ireturn, 1) := by decide +kernel
theorem dX12_tell_72 : decode cX12_tell 72 = .ok (.aload_n 0, 1) := by decide +kernel
theorem dX12_tell_73 : decode cX12_tell 73 = .ok (.getfield 71, 3) := by decide +kernel
theorem dX12_tell_76 : decode cX12_tell 76 = .ok (.aload_n 0, 1) := by decide +kernel
theorem dX12_tell_77 : decode cX12_tell 77 = .ok (.getfield 203, 3) := by decide +kernel
theorem dX12_tell_80 : decode cX12_tell 80 = .ok (.iload_n 1, 1) := by decide +kernel
theorem dX12_tell_81 : decode cX12_tell 81 = .ok (.iastore, 1) := by decide +kernel
theorem dX12_tell_82 : decode cX12_tell 82 = .ok (.aload_n 0, 1) := by decide +kernel
theorem dX12_tell_83 : decode cX12_tell 83 = .ok (.getfield 74, 3) := by decide +kernel
theorem dX12_tell_86 : decode cX12_tell 86 = .ok (.aload_n 0, 1) := by decide +kernel
theorem dX12_tell_87 : decode cX12_tell 87 = .ok (.getfield 203, 3) := by decide +kernel
theorem dX12_tell_90 : decode cX12_tell 90 = .ok (.iload_n 2, 1) := by decide +kernel
theorem dX12_tell_91 : decode cX12_tell 91 = .ok (.iastore, 1) := by decide +kernel
theorem dX12_tell_92 : decode cX12_tell 92 = .ok (.aload_n 0, 1) := by decide +kernel
theorem dX12_tell_93 : decode cX12_tell 93 = .ok (.getfield 77, 3) := by decide +kernel
theorem dX12_tell_96 : decode cX12_tell 96 = .ok (.aload_n 0, 1) := by decide +kernel
theorem dX12_tell_97 : decode cX12_tell 97 = .ok (.getfield 203, 3) := by decide +kernel
theorem dX12_tell_100 : decode cX12_tell 100 = .ok (.iload_n 3, 1) := by decide +kernel
theorem dX12_tell_101 : decode cX12_tell 101 = .ok (.iastore, 1) := by decide +kernel
theorem dX12_tell_102 : decode cX12_tell 102 = .ok (.aload_n 0, 1) := by decide +kernel
theorem dX12_tell_103 : decode cX12_tell 103 = .ok (.getfield 80, 3) := by decide +kernel
theorem dX12_tell_106 : decode cX12_tell 106 = .ok (.aload_n 0, 1) := by decide +kernel
theorem dX12_tell_107 : decode cX12_tell 107 = .ok (.getfield 203, 3) := by decide +kernel
theorem dX12_tell_110 : decode cX12_tell 110 = .ok (.aload_n 0, 1) := by decide +kernel
theorem dX12_tell_111 : decode cX12_tell 111 = .ok (.getfield 167, 3) := by decide +kernel
theorem dX12_tell_114 : decode cX12_tell 114 = .ok (.iastore, 1) := by decide +kernel
theorem dX12_tell_115 : decode cX12_tell 115 = .ok (.aload_n 0, 1) := by decide +kernel
theorem dX12_tell_116 : decode cX12_tell 116 = .ok (.dup, 1) := by decide +kernel
theorem dX12_tell_117 : decode cX12_tell 117 = .ok (.getfield 203, 3) := by decide +kernel
theorem dX12_tell_120 : decode cX12_tell 120 = .ok (.iconst 1, 1) := by decide +kernel
theorem dX12_tell_121 : decode cX12_tell 121 = .ok (.iadd, 1) := by decide +kernel
theorem dX12_tell_122 : decode cX12_tell 122 = .ok (.putfield 203, 3) := by decide +kernel
theorem dX12_tell_125 : decode cX12_tell 125 = .ok (.aload_n 0, 1) := by decide +kernel
theorem dX12_tell_126 : decode cX12_tell 126 = .ok (.getfield 203, 3) := by decide +kernel
theorem dX12_tell_129 : decode cX12_tell 129 = .ok (.iconst 1, 1) := by decide +kernel
theorem dX12_tell_130 : decode cX12_tell 130 = .ok (.isub, 1) := by decide +kernel
theorem dX12_tell_131 : decode cX12_tell 131 = .ok (.ireturn, 1) := by decide +kernel
theorem dX12_isTelling_0 : decode cX12_isTelling 0 = .ok (.iload_n 1, 1) := by decide +kernel
theorem dX12_isTelling_1 : decode cX12_isTelling 1 = .ok (.iconst 0, 1) := by decide +kernel
theorem dX12_isTelling_2 : decode cX12_isTelling 2 = .ok (.aload_n 0, 1) := by decide +kernel
theorem dX12_isTelling_3 : decode cX12_isTelling 3 = .ok (.getfield 203, 3) := by decide +kernel
theorem dX12_isTelling_6 : decode cX12_isTelling 6 = .ok (.iconst 1, 1) := by decide +kernel
theorem dX12_isTelling_7 : decode cX12_isTelling 7 = .ok (.isub, 1) := by decide +kernel
theorem dX12_isTelling_8 : decode cX12_isTelling 8 = .ok (.invokestatic 157, 3) := by decide +kernel
theorem dX12_isTelling_11 : decode cX12_isTelling 11 = .ok (.ireturn, 1) := by decide +kernel
theorem dX12_putRight_0 : decode cX12_putRight 0 = .ok (.aload_n 0, 1) := by decide +kernel
theorem dX12_putRight_1 : decode cX12_putRight 1 = .ok (.getfield 83, 3) := by decide +kernel
theorem dX12_putRight_4 : decode cX12_putRight 4 = .ok (.aload_n 0, 1) := by decide +kernel
theorem dX12_putRight_5 : decode cX12_putRight 5 = .ok (.getfield 206, 3) := by decide +kernel
theorem dX12_putRight_8 : decode cX12_putRight 8 = .ok (.iload_n 1, 1) := by decide +kernel
theorem dX12_putRight_9 : decode cX12_putRight 9 = .ok (.iastore, 1) := by decide +kernel
theorem dX12_putRight_10 : decode cX12_putRight 10 = .ok (.aload_n 0, 1) := by decide +kernel
theorem dX12_putRight_11 : decode cX12_putRight 11 = .ok (.getfield 86, 3) := by decide +kernel
theorem dX12_putRight_14 : decode cX12_putRight 14 = .ok (.aload_n 0, 1) := by decide +kernel
theorem dX12_putRight_15 : decode cX12_putRight 15 = .ok (.getfield 206, 3) := by decide +kernel
theorem dX12_putRight_18 : decode cX12_putRight 18 = .ok (.iload_n 2, 1) := by decide +kernel
theorem dX12_putRight_19 : decode cX12_putRight 19 = .ok (.iastore, 1) := by decide +kernel
theorem dX12_putRight_20 : decode cX12_putRight 20 = .ok (.aload_n 0, 1) := by decide +kernel
theorem dX12_putRight_21 : decode cX12_putRight 21 = .ok (.getfield 89, 3) := by decide +kernel
theorem dX12_putRight_24 : decode cX12_putRight 24 = .ok (.aload_n 0, 1) := by decide +kernel
theorem dX12_putRight_25 : decode cX12_putRight 25 = .ok (.getfield 206, 3) := by decide +kernel
theorem dX12_putRight_28 : decode cX12_putRight 28 = .ok (.aload_n 0, 1) := by decide +kernel
theorem dX12_putRight_29 : decode cX12_putRight 29 = .ok (.getfield 167, 3) := by decide +kernel
theorem dX12_putRight_32 : decode cX12_putRight 32 = .ok (.iastore, 1) := by decide +kernel
theorem dX12_putRight_33 : decode cX12_putRight 33 = .ok (.aload_n 0, 1) := by decide +kernel
theorem dX12_putRight_34 : decode cX12_putRight 34 = .ok (.dup, 1) := by decide +kernel
theorem dX12_putRight_35 : decode cX12_putRight 35 = .ok (.getfield 206, 3) := by decide +kernel
theorem dX12_putRight_38 : decode cX12_putRight 38 = .ok (.iconst 1, 1) := by decide +kernel
theorem dX12_putRight_39 : decode cX12_putRight 39 = .ok (.iadd, 1) := by decide +kernel
theorem dX12_putRight_40 : decode cX12_putRight 40 = .ok (.putfield 206, 3) := by decide +kernel
theorem dX12_putRight_43 : decode cX12_putRight 43 = .ok (.return_, 1) := by decide +kernel
theorem dX12_right_0 : decode cX12_right 0 = .ok (.aload_n 0, 1) := by decide +kernel
theorem dX12_right_1 : decode cX12_right 1 = .ok (.iload_n 1, 1) := by decide +kernel
theorem dX12_right_2 : decode cX12_right 2 = .ok (.invokevirtual 209, 3) := by decide +kernel
theorem dX12_right_5 : decode cX12_right 5 = .ok (.ifCond .ne 9, 3) := by decide +kernel
theorem dX12_right_8 : decode cX12_right 8 = .ok (.aload_n 0, 1) := by decide +kernel
theorem dX12_right_9 : decode cX12_right 9 = .ok (.iconst (-1), 1) := by decide +kernel
theorem dX12_right_10 : decode cX12_right 10 = .ok (.invokevirtual 174, 3) := by decide +kernel
theorem dX12_right_13 : decode cX12_right 13 = .ok (.ireturn, 1) := by decide +kernel
theorem dX12_right_14 : decode cX12_right 14 = .ok (.iload_n 2, 1) := by decide +kernel
theorem dX12_right_15 : decode cX12_right 15 = .ok (.ifCond .ge 10, 3) := by decide +kernel
theorem dX12_right_18 : decode cX12_right 18 = .ok (.aload_n 0, 1) := by decide +kernel
theorem dX12_right_19 : decode cX12_right 19 = .ok (.bipush (-4), 2) := by decide +kernel
theorem dX12_right_21 : decode cX12_right 21 = .ok (.invokevirtual 174, 3) := by decide +kernel
theorem dX12_right_24 : decode cX12_right 24 = .ok (.ireturn, 1) := by decide +kernel
theorem dX12_right_25 : decode cX12_right 25 = .ok (.iload_n 2, 1) := by decide +kernel
theorem dX12_right_26 : decode cX12_right 26 = .ok (.aload_n 0, 1) := by decide +kernel
theorem dX12_right_27 : decode cX12_right 27 = .ok (.getfield 74, 3) := by decide +kernel
theorem dX12_right_30 : decode cX12_right 30 = .ok (.iload_n 1, 1) := by decide +kernel
theorem dX12_right_31 : decode cX12_right 31 = .ok (.iaload, 1) := by decide +kernel
theorem dX12_right_32 : decode cX12_right 32 = .ok (.ifCond .ne 8, 3) := by decide +kernel
theorem dX12_right_35 : decode cX12_right 35 = .ok (.bipush 100, 2) := by decide +kernel
theorem dX12_right_37 : decode cX12_right 37 = .ok (.goto 5, 3) := by decide +kernel
theorem dX12_right_40 : decode cX12_right 40 = .ok (.bipush 9, 2) := by decide +kernel
theorem dX12_right_42 : decode cX12_right 42 = .ok (.if_icmp .gt 12, 3) := by decide +kernel
theorem dX12_right_45 : decode cX12_right 45 = .ok (.aload_n 0, 1) := by decide +kernel
theorem dX12_right_46 : decode cX12_right 46 = .ok (.getfield 206, 3) := by decide +kernel
theorem dX12_right_49 : decode cX12_right 49 = .ok (.bipush 60, 2) := by decide +kernel
theorem dX12_right_51 : decode cX12_right 51 = .ok (.if_icmp .ne 10, 3) := by decide +kernel
theorem dX12_right_54 : decode cX12_right 54 = .ok (.aload_n 0, 1) := by decide +kernel
theorem dX12_right_55 : decode cX12_right 55 = .ok (.bipush (-6), 2) := by decide +kernel
theorem dX12_right_57 : decode cX12_right 57 = .ok (.invokevirtual 174, 3) := by decide +kernel
theorem dX12_right_60 : decode cX12_right 60 = .ok (.ireturn, 1) := by decide +kernel
theorem dX12_right_61 : decode cX12_right 61 = .ok (.aload_n 0, 1) := by decide +kernel
theorem dX12_right_62 : decode cX12_right 62 = .ok (.iload_n 1, 1) := by decide +kernel
theorem dX12_right_63 : decode cX12_right 63 = .ok (.iload_n 2, 1) := by decide +kernel
theorem dX12_right_64 : decode cX12_right 64 = .ok (.invokevirtual 212, 3) := by decide +kernel
theorem dX12_right_67 : decode cX12_right 67 = .ok (.iconst 0, 1) := by decide +kernel
theorem dX12_right_68 : decode cX12_right 68 = .ok (.istore_n 3, 1) := by decide +kernel
theorem dX12_right_69 : decode cX12_right 69 = .ok (.iconst 0, 1) := by decide +kernel
theorem dX12_right_70 : decode cX12_right 70 = .ok (.istore 4, 2) := by decide +kernel
theorem dX12_right_72 : decode cX12_right 72 = .ok (.iload 4, 2) := by decide +kernel
theorem dX12_right_74 : decode cX12_right 74 = .ok (.aload_n 0, 1) := by decide +kernel
theorem dX12_right_75 : decode cX12_right 75 = .ok (.getfield 206, 3) := by decide +kernel
theorem dX12_right_78 : decode cX12_right 78 = .ok (.if_icmp .ge 28, 3) := by decide +kernel
theorem dX12_right_81 : decode cX12_right 81 = .ok (.iload_n 3, 1) := by decide +kernel
theorem dX12_right_82 : decode cX12_right 82 = .ok (.aload_n 0, 1) := by decide +kernel
theorem dX12_right_83 : decode cX12_right 83 = .ok (.getfield 83, 3) := by decide +kernel
theorem dX12_right_86 : decode cX12_right 86 = .ok (.iload 4, 2) := by decide +kernel
theorem dX12_right_88 : decode cX12_right 88 = .ok (.iaload, 1) := by decide +kernel
theorem dX12_right_89 : decode cX12_right 89 = .ok (.iload_n 1, 1) := by decide +kernel
theorem dX12_right_90 : decode cX12_right 90 = .ok (.if_icmp .ne 7, 3) := by decide +kernel
theorem dX12_right_93 : decode cX12_right 93 = .ok (.iconst 1, 1) := by decide +kernel
theorem dX12_right_94 : decode cX12_right 94 = .ok (.goto 4, 3) := by decide +kernel
theorem dX12_right_97 : decode cX12_right 97 = .ok (.iconst 0, 1) := by decide +kernel
theorem dX12_right_98 : decode cX12_right 98 = .ok (.iadd, 1) := by decide +kernel
theorem dX12_right_99 : decode cX12_right 99 = .ok (.istore_n 3, 1) := by decide +kernel
theorem dX12_right_100 : decode cX12_right 100 = .ok (.iinc 4 1, 3) := by decide +kernel
theorem dX12_right_103 : decode cX12_right 103 = .ok (.goto (-31), 3) := by decide +kernel
theorem dX12_right_106 : decode cX12_right 106 = .ok (.iload_n 3, 1) := by decide +kernel
theorem dX12_right_107 : decode cX12_right 107 = .ok (.ireturn, 1) := by decide +kernel
theorem dX12_knownOf_0 : decode cX12_knownOf 0 = .ok (.iconst (-1), 1) := by decide +kernel
theorem dX12_knownOf_1 : decode cX12_knownOf 1 = .ok (.istore 4, 2) := by decide +kernel
theorem dX12_knownOf_3 : decode cX12_knownOf 3 = .ok (.iconst 0, 1) := by decide +kernel
theorem dX12_knownOf_4 : decode cX12_knownOf 4 = .ok (.istore 5, 2) := by decide +kernel
theorem dX12_knownOf_6 : decode cX12_knownOf 6 = .ok (.iload 5, 2) := by decide +kernel
theorem dX12_knownOf_8 : decode cX12_knownOf 8 = .ok (.aload_n 0, 1) := by decide +kernel
theorem dX12_knownOf_9 : decode cX12_knownOf 9 = .ok (.getfield 203, 3) := by decide +kernel
theorem dX12_knownOf_12 : decode cX12_knownOf 12 = .ok (.if_icmp .ge 51, 3) := by decide +kernel
theorem dX12_knownOf_15 : decode cX12_knownOf 15 = .ok (.aload_n 0, 1) := by decide +kernel
theorem dX12_knownOf_16 : decode cX12_knownOf 16 = .ok (.getfield 71, 3) := by decide +kernel
theorem dX12_knownOf_19 : decode cX12_knownOf 19 = .ok (.iload 5, 2) := by decide +kernel
theorem dX12_knownOf_21 : decode cX12_knownOf 21 = .ok (.iaload, 1) := by decide +kernel
theorem dX12_knownOf_22 : decode cX12_knownOf 22 = .ok (.iload_n 1, 1) := by decide +kernel
theorem dX12_knownOf_23 : decode cX12_knownOf 23 = .ok (.if_icmp .ne 30, 3) := by decide +kernel
theorem dX12_knownOf_26 : decode cX12_knownOf 26 = .ok (.aload_n 0, 1) := by decide +kernel
theorem dX12_knownOf_27 : decode cX12_knownOf 27 = .ok (.getfield 74, 3) := by decide +kernel
theorem dX12_knownOf_30 : decode cX12_knownOf 30 = .ok (.iload 5, 2) := by decide +kernel
theorem dX12_knownOf_32 : decode cX12_knownOf 32 = .ok (.iaload, 1) := by decide +kernel
theorem dX12_knownOf_33 : decode cX12_knownOf 33 = .ok (.iload_n 2, 1) := by decide +kernel
theorem dX12_knownOf_34 : decode cX12_knownOf 34 = .ok (.if_icmp .ne 19, 3) := by decide +kernel
theorem dX12_knownOf_37 : decode cX12_knownOf 37 = .ok (.aload_n 0, 1) := by decide +kernel
theorem dX12_knownOf_38 : decode cX12_knownOf 38 = .ok (.getfield 80, 3) := by decide +kernel
theorem dX12_knownOf_41 : decode cX12_knownOf 41 = .ok (.iload 5, 2) := by decide +kernel
theorem dX12_knownOf_43 : decode cX12_knownOf 43 = .ok (.iaload, 1) := by decide +kernel
theorem dX12_knownOf_44 : decode cX12_knownOf 44 = .ok (.iload_n 3, 1) := by decide +kernel
theorem dX12_knownOf_45 : decode cX12_knownOf 45 = .ok (.if_icmp .gt 8, 3) := by decide +kernel
theorem dX12_knownOf_48 : decode cX12_knownOf 48 = .ok (.iload 5, 2) := by decide +kernel
theorem dX12_knownOf_50 : decode cX12_knownOf 50 = .ok (.goto 5, 3) := by decide +kernel
theorem dX12_knownOf_53 : decode cX12_knownOf 53 = .ok (.iload 4, 2) := by decide +kernel
theorem dX12_knownOf_55 : decode cX12_knownOf 55 = .ok (.istore 4, 2) := by decide +kernel
theorem dX12_knownOf_57 : decode cX12_knownOf 57 = .ok (.iinc 5 1, 3) := by decide +kernel
theorem dX12_knownOf_60 : decode cX12_knownOf 60 = .ok (.goto (-54), 3) := by decide +kernel
theorem dX12_knownOf_63 : decode cX12_knownOf 63 = .ok (.iload 4, 2) := by decide +kernel
theorem dX12_knownOf_65 : decode cX12_knownOf 65 = .ok (.ifCond .lt 13, 3) := by decide +kernel
theorem dX12_knownOf_68 : decode cX12_knownOf 68 = .ok (.aload_n 0, 1) := by decide +kernel
theorem dX12_knownOf_69 : decode cX12_knownOf 69 = .ok (.getfield 77, 3) := by decide +kernel
theorem dX12_knownOf_72 : decode cX12_knownOf 72 = .ok (.iload 4, 2) := by decide +kernel
theorem dX12_knownOf_74 : decode cX12_knownOf 74 = .ok (.iaload, 1) := by decide +kernel
theorem dX12_knownOf_75 : decode cX12_knownOf 75 = .ok (.goto 13, 3) := by decide +kernel
theorem dX12_knownOf_78 : decode cX12_knownOf 78 = .ok (.iload_n 2, 1) := by decide +kernel
theorem dX12_knownOf_79 : decode cX12_knownOf 79 = .ok (.ifCond .ne 8, 3) := by decide +kernel
theorem dX12_knownOf_82 : decode cX12_knownOf 82 = .ok (.bipush 50, 2) := by decide +kernel
theorem dX12_knownOf_84 : decode cX12_knownOf 84 = .ok (.goto 4, 3) := by decide +kernel
theorem dX12_knownOf_87 : decode cX12_knownOf 87 = .ok (.iconst 0, 1) := by decide +kernel
theorem dX12_knownOf_88 : decode cX12_knownOf 88 = .ok (.istore 5, 2) := by decide +kernel
theorem dX12_knownOf_90 : decode cX12_knownOf 90 = .ok (.iconst 0, 1) := by decide +kernel
theorem dX12_knownOf_91 : decode cX12_knownOf 91 = .ok (.istore 6, 2) := by decide +kernel
theorem dX12_knownOf_93 : decode cX12_knownOf 93 = .ok (.iload 6, 2) := by decide +kernel
theorem dX12_knownOf_95 : decode cX12_knownOf 95 = .ok (.aload_n 0, 1) := by decide +kernel
theorem dX12_knownOf_96 : decode cX12_knownOf 96 = .ok (.getfield 206, 3) := by decide +kernel
theorem dX12_knownOf_99 : decode cX12_knownOf 99 = .ok (.if_icmp .ge 51, 3) := by decide +kernel
theorem dX12_knownOf_102 : decode cX12_knownOf 102 = .ok (.iload 4, 2) := by decide +kernel
theorem dX12_knownOf_104 : decode cX12_knownOf 104 = .ok (.ifCond .lt 46, 3) := by decide +kernel
theorem dX12_knownOf_107 : decode cX12_knownOf 107 = .ok (.aload_n 0, 1) := by decide +kernel
theorem dX12_knownOf_108 : decode cX12_knownOf 108 = .ok (.getfield 83, 3) := by decide +kernel
theorem dX12_knownOf_111 : decode cX12_knownOf 111 = .ok (.iload 6, 2) := by decide +kernel
theorem dX12_knownOf_113 : decode cX12_knownOf 113 = .ok (.iaload, 1) := by decide +kernel
theorem dX12_knownOf_114 : decode cX12_knownOf 114 = .ok (.iload 4, 2) := by decide +kernel
theorem dX12_knownOf_116 : decode cX12_knownOf 116 = .ok (.if_icmp .ne 24, 3) := by decide +kernel
theorem dX12_knownOf_119 : decode cX12_knownOf 119 = .ok (.aload_n 0, 1) := by decide +kernel
theorem dX12_knownOf_120 : decode cX12_knownOf 120 = .ok (.getfield 89, 3) := by decide +kernel
theorem dX12_knownOf_123 : decode cX12_knownOf 123 = .ok (.iload 6, 2) := by decide +kernel
theorem dX12_knownOf_125 : decode cX12_knownOf 125 = .ok (.iaload, 1) := by decide +kernel
theorem dX12_knownOf_126 : decode cX12_knownOf 126 = .ok (.iload_n 3, 1) := by decide +kernel
theorem dX12_knownOf_127 : decode cX12_knownOf 127 = .ok (.if_icmp .gt 13, 3) := by decide +kernel
theorem dX12_knownOf_130 : decode cX12_knownOf 130 = .ok (.aload_n 0, 1) := by decide +kernel
theorem dX12_knownOf_131 : decode cX12_knownOf 131 = .ok (.getfield 86, 3) := by decide +kernel
theorem dX12_knownOf_134 : decode cX12_knownOf 134 = .ok (.iload 6, 2) := by decide +kernel
theorem dX12_knownOf_136 : decode cX12_knownOf 136 = .ok (.iaload, 1) := by decide +kernel
theorem dX12_knownOf_137 : decode cX12_knownOf 137 = .ok (.goto 5, 3) := by decide +kernel
theorem dX12_knownOf_140 : decode cX12_knownOf 140 = .ok (.iload 5, 2) := by decide +kernel
theorem dX12_knownOf_142 : decode cX12_knownOf 142 = .ok (.istore 5, 2) := by decide +kernel
theorem dX12_knownOf_144 : decode cX12_knownOf 144 = .ok (.iinc 6 1, 3) := by decide +kernel
theorem dX12_knownOf_147 : decode cX12_knownOf 147 = .ok (.goto (-54), 3) := by decide +kernel
theorem dX12_knownOf_150 : decode cX12_knownOf 150 = .ok (.iload 5, 2) := by decide +kernel
theorem dX12_knownOf_152 : decode cX12_knownOf 152 = .ok (.ireturn, 1) := by decide +kernel
theorem dX12_skillFor_0 : decode cX12_skillFor 0 = .ok (.iload_n 2, 1) := by decide +kernel
theorem dX12_skillFor_1 : decode cX12_skillFor 1 = .ok (.ifCond .ge 7, 3) := by decide +kernel
theorem dX12_skillFor_4 : decode cX12_skillFor 4 = .ok (.iconst 0, 1) := by decide +kernel
theorem dX12_skillFor_5 : decode cX12_skillFor 5 = .ok (.goto 46, 3) := by decide +kernel
theorem dX12_skillFor_8 : decode cX12_skillFor 8 = .ok (.aload_n 0, 1) := by decide +kernel
theorem dX12_skillFor_9 : decode cX12_skillFor 9 = .ok (.getfield 28, 3) := by decide +kernel
theorem dX12_skillFor_12 : decode cX12_skillFor 12 = .ok (.iload_n 2, 1) := by decide +kernel
theorem dX12_skillFor_13 : decode cX12_skillFor 13 = .ok (.iaload, 1) := by decide +kernel
theorem dX12_skillFor_14 : decode cX12_skillFor 14 = .ok (.ifCond .ne 8, 3) := by decide +kernel
theorem dX12_skillFor_17 : decode cX12_skillFor 17 = .ok (.bipush 100, 2) := by decide +kernel
theorem dX12_skillFor_19 : decode cX12_skillFor 19 = .ok (.goto 32, 3) := by decide +kernel
theorem dX12_skillFor_22 : decode cX12_skillFor 22 = .ok (.bipush 100, 2) := by decide +kernel
theorem dX12_skillFor_24 : decode cX12_skillFor 24 = .ok (.aload_n 0, 1) := by decide +kernel
theorem dX12_skillFor_25 : decode cX12_skillFor 25 = .ok (.getfield 34, 3) := by decide +kernel
theorem dX12_skillFor_28 : decode cX12_skillFor 28 = .ok (.iload_n 1, 1) := by decide +kernel
theorem dX12_skillFor_29 : decode cX12_skillFor 29 = .ok (.iaload, 1) := by decide +kernel
theorem dX12_skillFor_30 : decode cX12_skillFor 30 = .ok (.aload_n 0, 1) := by decide +kernel
theorem dX12_skillFor_31 : decode cX12_skillFor 31 = .ok (.getfield 28, 3) := by decide +kernel
theorem dX12_skillFor_34 : decode cX12_skillFor 34 = .ok (.iload_n 2, 1) := by decide +kernel
theorem dX12_skillFor_35 : decode cX12_skillFor 35 = .ok (.iaload, 1) := by decide +kernel
theorem dX12_skillFor_36 : decode cX12_skillFor 36 = .ok (.iand, 1) := by decide +kernel
theorem dX12_skillFor_37 : decode cX12_skillFor 37 = .ok (.invokestatic 216, 3) := by decide +kernel
theorem dX12_skillFor_40 : decode cX12_skillFor 40 = .ok (.imul, 1) := by decide +kernel
theorem dX12_skillFor_41 : decode cX12_skillFor 41 = .ok (.aload_n 0, 1) := by decide +kernel
theorem dX12_skillFor_42 : decode cX12_skillFor 42 = .ok (.getfield 28, 3) := by decide +kernel
theorem dX12_skillFor_45 : decode cX12_skillFor 45 = .ok (.iload_n 2, 1) := by decide +kernel
theorem dX12_skillFor_46 : decode cX12_skillFor 46 = .ok (.iaload, 1) := by decide +kernel
theorem dX12_skillFor_47 : decode cX12_skillFor 47 = .ok (.invokestatic 216, 3) := by decide +kernel
theorem dX12_skillFor_50 : decode cX12_skillFor 50 = .ok (.idiv, 1) := by decide +kernel
theorem dX12_skillFor_51 : decode cX12_skillFor 51 = .ok (.ireturn, 1) := by decide +kernel
theorem dX12_wholeYears_0 : decode cX12_wholeYears 0 = .ok (.aload_n 0, 1) := by decide +kernel
theorem dX12_wholeYears_1 : decode cX12_wholeYears 1 = .ok (.getfield 167, 3) := by decide +kernel
theorem dX12_wholeYears_4 : decode cX12_wholeYears 4 = .ok (.aload_n 0, 1) := by decide +kernel
theorem dX12_wholeYears_5 : decode cX12_wholeYears 5 = .ok (.getfield 37, 3) := by decide +kernel
theorem dX12_wholeYears_8 : decode cX12_wholeYears 8 = .ok (.iload_n 1, 1) := by decide +kernel
theorem dX12_wholeYears_9 : decode cX12_wholeYears 9 = .ok (.iaload, 1) := by decide +kernel
theorem dX12_wholeYears_10 : decode cX12_wholeYears 10 = .ok (.isub, 1) := by decide +kernel
theorem dX12_wholeYears_11 : decode cX12_wholeYears 11 = .ok (.sipush 365, 3) := by decide +kernel
theorem dX12_wholeYears_14 : decode cX12_wholeYears 14 = .ok (.idiv, 1) := by decide +kernel
theorem dX12_wholeYears_15 : decode cX12_wholeYears 15 = .ok (.ireturn, 1) := by decide +kernel
theorem dX12_partOf_0 : decode cX12_partOf 0 = .ok (.iload_n 2, 1) := by decide +kernel
theorem dX12_partOf_1 : decode cX12_partOf 1 = .ok (.ifCond .ne 11, 3) := by decide +kernel
theorem dX12_partOf_4 : decode cX12_partOf 4 = .ok (.aload_n 0, 1) := by decide +kernel
theorem dX12_partOf_5 : decode cX12_partOf 5 = .ok (.iload_n 1, 1) := by decide +kernel
theorem dX12_partOf_6 : decode cX12_partOf 6 = .ok (.iconst 0, 1) := by decide +kernel
theorem dX12_partOf_7 : decode cX12_partOf 7 = .ok (.iload_n 3, 1) := by decide +kernel
theorem dX12_partOf_8 : decode cX12_partOf 8 = .ok (.invokevirtual 219, 3) := by decide +kernel
theorem dX12_partOf_11 : decode cX12_partOf 11 = .ok (.ireturn, 1) := by decide +kernel
theorem dX12_partOf_12 : decode cX12_partOf 12 = .ok (.iload_n 2, 1) := by decide +kernel
theorem dX12_partOf_13 : decode cX12_partOf 13 = .ok (.iconst 1, 1) := by decide +kernel
theorem dX12_partOf_14 : decode cX12_partOf 14 = .ok (.if_icmp .ne 15, 3) := by decide +kernel
theorem dX12_partOf_17 : decode cX12_partOf 17 = .ok (.aload_n 0, 1) := by decide +kernel
theorem dX12_partOf_18 : decode cX12_partOf 18 = .ok (.iload_n 1, 1) := by decide +kernel
theorem dX12_partOf_19 : decode cX12_partOf 19 = .ok (.aload_n 0, 1) := by decide +kernel
theorem dX12_partOf_20 : decode cX12_partOf 20 = .ok (.getfield 43, 3) := by decide +kernel
theorem dX12_partOf_23 : decode cX12_partOf 23 = .ok (.iload_n 1, 1) := by decide +kernel
theorem dX12_partOf_24 : decode cX12_partOf 24 = .ok (.iaload, 1) := by decide +kernel
theorem dX12_partOf_25 : decode cX12_partOf 25 = .ok (.invokevirtual 223, 3) := by decide +kernel
theorem dX12_partOf_28 : decode cX12_partOf 28 = .ok (.ireturn, 1) := by decide +kernel
theorem dX12_partOf_29 : decode cX12_partOf 29 = .ok (.iload_n 2, 1) := by decide +kernel
theorem dX12_partOf_30 : decode cX12_partOf 30 = .ok (.iconst 2, 1) := by decide +kernel
theorem dX12_partOf_31 : decode cX12_partOf 31 = .ok (.if_icmp .ne 30, 3) := by decide +kernel
theorem dX12_partOf_34 : decode cX12_partOf 34 = .ok (.bipush 100, 2) := by decide +kernel
theorem dX12_partOf_36 : decode cX12_partOf 36 = .ok (.bipush 20, 2) := by decide +kernel
theorem dX12_partOf_38 : decode cX12_partOf 38 = .ok (.aload_n 0, 1) := by decide +kernel
theorem dX12_partOf_39 : decode cX12_partOf 39 = .ok (.iload_n 1, 1) := by decide +kernel
theorem dX12_partOf_40 : decode cX12_partOf 40 = .ok (.iconst 1, 1) := by decide +kernel
theorem dX12_partOf_41 : decode cX12_partOf 41 = .ok (.iload_n 3, 1) := by decide +kernel
theorem dX12_partOf_42 : decode cX12_partOf 42 = .ok (.invokevirtual 219, 3) := by decide +kernel
theorem dX12_partOf_45 : decode cX12_partOf 45 = .ok (.imul, 1) := by decide +kernel
theorem dX12_partOf_46 : decode cX12_partOf 46 = .ok (.isub, 1) := by decide +kernel
theorem dX12_partOf_47 : decode cX12_partOf 47 = .ok (.istore 4, 2) := by decide +kernel
theorem dX12_partOf_49 : decode cX12_partOf 49 = .ok (.iload 4, 2) := by decide +kernel
theorem dX12_partOf_51 : decode cX12_partOf 51 = .ok (.ifCond .ge 7, 3) := by decide +kernel
theorem dX12_partOf_54 : decode cX12_partOf 54 = .ok (.iconst 0, 1) := by decide +kernel
theorem dX12_partOf_55 : decode cX12_partOf 55 = .ok (.goto 5, 3) := by decide +kernel
theorem dX12_partOf_58 : decode cX12_partOf 58 = .ok (.iload 4, 2) := by decide +kernel
theorem dX12_partOf_60 : decode cX12_partOf 60 = .ok (.ireturn, 1) := by decide +kernel
theorem dX12_partOf_61 : decode cX12_partOf 61 = .ok (.aload_n 0, 1) := by decide +kernel
theorem dX12_partOf_62 : decode cX12_partOf 62 = .ok (.iload_n 1, 1) := by decide +kernel
theorem dX12_partOf_63 : decode cX12_partOf 63 = .ok (.invokevirtual 227, 3) := by decide +kernel
theorem dX12_partOf_66 : decode cX12_partOf 66 = .ok (.bipush 20, 2) := by decide +kernel
theorem dX12_partOf_68 : decode cX12_partOf 68 = .ok (.if_icmp .le 8, 3) := by decide +kernel
theorem dX12_partOf_71 : decode cX12_partOf 71 = .ok (.bipush 100, 2) := by decide +kernel
theorem dX12_partOf_73 : decode cX12_partOf 73 = .ok (.goto 10, 3) := by decide +kernel
theorem dX12_partOf_76 : decode cX12_partOf 76 = .ok (.iconst 5, 1) := by decide +kernel
theorem dX12_partOf_77 : decode cX12_partOf 77 = .ok (.aload_n 0, 1) := by decide +kernel
theorem dX12_partOf_78 : decode cX12_partOf 78 = .ok (.iload_n 1, 1) := by decide +kernel
theorem dX12_partOf_79 : decode cX12_partOf 79 = .ok (.invokevirtual 227, 3) := by decide +kernel
theorem dX12_partOf_82 : decode cX12_partOf 82 = .ok (.imul, 1) := by decide +kernel
theorem dX12_partOf_83 : decode cX12_partOf 83 = .ok (.ireturn, 1) := by decide +kernel
theorem dX12_markOf_0 : decode cX12_markOf 0 = .ok (.iconst 0, 1) := by decide +kernel
theorem dX12_markOf_1 : decode cX12_markOf 1 = .ok (.istore_n 3, 1) := by decide +kernel
theorem dX12_markOf_2 : decode cX12_markOf 2 = .ok (.iconst 0, 1) := by decide +kernel
theorem dX12_markOf_3 : decode cX12_markOf 3 = .ok (.istore 4, 2) := by decide +kernel
theorem dX12_markOf_5 : decode cX12_markOf 5 = .ok (.iload 4, 2) := by decide +kernel
theorem dX12_markOf_7 : decode cX12_markOf 7 = .ok (.iconst 4, 1) := by decide +kernel
theorem dX12_markOf_8 : decode cX12_markOf 8 = .ok (.if_icmp .ge 28, 3) := by decide +kernel
theorem dX12_markOf_11 : decode cX12_markOf 11 = .ok (.iload_n 3, 1) := by decide +kernel
theorem dX12_markOf_12 : decode cX12_markOf 12 = .ok (.aload_n 0, 1) := by decide +kernel
theorem dX12_markOf_13 : decode cX12_markOf 13 = .ok (.getfield 65, 3) := by decide +kernel
theorem dX12_markOf_16 : decode cX12_markOf 16 = .ok (.iload 4, 2) := by decide +kernel
theorem dX12_markOf_18 : decode cX12_markOf 18 = .ok (.iaload, 1) := by decide +kernel
theorem dX12_markOf_19 : decode cX12_markOf 19 = .ok (.aload_n 0, 1) := by decide +kernel
theorem dX12_markOf_20 : decode cX12_markOf 20 = .ok (.iload_n 1, 1) := by decide +kernel
theorem dX12_markOf_21 : decode cX12_markOf 21 = .ok (.iload 4, 2) := by decide +kernel
theorem dX12_markOf_23 : decode cX12_markOf 23 = .ok (.iload_n 2, 1) := by decide +kernel
theorem dX12_markOf_24 : decode cX12_markOf 24 = .ok (.invokevirtual 230, 3) := by decide +kernel
theorem dX12_markOf_27 : decode cX12_markOf 27 = .ok (.imul, 1) := by decide +kernel
theorem dX12_markOf_28 : decode cX12_markOf 28 = .ok (.iadd, 1) := by decide +kernel
theorem dX12_markOf_29 : decode cX12_markOf 29 = .ok (.istore_n 3, 1) := by decide +kernel
theorem dX12_markOf_30 : decode cX12_markOf 30 = .ok (.iinc 4 1, 3) := by decide +kernel
theorem dX12_markOf_33 : decode cX12_markOf 33 = .ok (.goto (-28), 3) := by decide +kernel
theorem dX12_markOf_36 : decode cX12_markOf 36 = .ok (.iload_n 3, 1) := by decide +kernel
theorem dX12_markOf_37 : decode cX12_markOf 37 = .ok (.ireturn, 1) := by decide +kernel
theorem dX12_mark_0 : decode cX12_mark 0 = .ok (.aload_n 0, 1) := by decide +kernel
theorem dX12_mark_1 : decode cX12_mark 1 = .ok (.iload_n 1, 1) := by decide +kernel
theorem dX12_mark_2 : decode cX12_mark 2 = .ok (.invokevirtual 194, 3) := by decide +kernel
theorem dX12_mark_5 : decode cX12_mark 5 = .ok (.ifCond .ne 9, 3) := by decide +kernel
theorem dX12_mark_8 : decode cX12_mark 8 = .ok (.aload_n 0, 1) := by decide +kernel
theorem dX12_mark_9 : decode cX12_mark 9 = .ok (.iconst (-1), 1) := by decide +kernel
theorem dX12_mark_10 : decode cX12_mark 10 = .ok (.invokevirtual 174, 3) := by decide +kernel
theorem dX12_mark_13 : decode cX12_mark 13 = .ok (.ireturn, 1) := by decide +kernel
theorem dX12_mark_14 : decode cX12_mark 14 = .ok (.iload_n 3, 1) := by decide +kernel
theorem dX12_mark_15 : decode cX12_mark 15 = .ok (.iconst 0, 1) := by decide +kernel
theorem dX12_mark_16 : decode cX12_mark 16 = .ok (.iconst 4, 1) := by decide +kernel
theorem dX12_mark_17 : decode cX12_mark 17 = .ok (.invokestatic 157, 3) := by decide +kernel
theorem dX12_mark_20 : decode cX12_mark 20 = .ok (.ifCond .ne 10, 3) := by decide +kernel
theorem dX12_mark_23 : decode cX12_mark 23 = .ok (.aload_n 0, 1) := by decide +kernel
theorem dX12_mark_24 : decode cX12_mark 24 = .ok (.bipush (-2), 2) := by decide +kernel
theorem dX12_mark_26 : decode cX12_mark 26 = .ok (.invokevirtual 174, 3) := by decide +kernel
theorem dX12_mark_29 : decode cX12_mark 29 = .ok (.ireturn, 1) := by decide +kernel
theorem dX12_mark_30 : decode cX12_mark 30 = .ok (.iload_n 2, 1) := by decide +kernel
theorem dX12_mark_31 : decode cX12_mark 31 = .ok (.ifCond .ge 10, 3) := by decide +kernel
theorem dX12_mark_34 : decode cX12_mark 34 = .ok (.aload_n 0, 1) := by decide +kernel
theorem dX12_mark_35 : decode cX12_mark 35 = .ok (.bipush (-4), 2) := by decide +kernel
theorem dX12_mark_37 : decode cX12_mark 37 = .ok (.invokevirtual 174, 3) := by decide +kernel
theorem dX12_mark_40 : decode cX12_mark 40 = .ok (.ireturn, 1) := by decide +kernel
theorem dX12_mark_41 : decode cX12_mark 41 = .ok (.iload_n 2, 1) := by decide +kernel
theorem dX12_mark_42 : decode cX12_mark 42 = .ok (.sipush 3000, 3) := by decide +kernel
theorem dX12_mark_45 : decode cX12_mark 45 = .ok (.if_icmp .le 10, 3) := by decide +kernel
theorem dX12_mark_48 : decode cX12_mark 48 = .ok (.aload_n 0, 1) := by decide +kernel
theorem dX12_mark_49 : decode cX12_mark 49 = .ok (.bipush (-6), 2) := by decide +kernel
theorem dX12_mark_51 : decode cX12_mark 51 = .ok (.invokevirtual 174, 3) := by decide +kernel
theorem dX12_mark_54 : decode cX12_mark 54 = .ok (.ireturn, 1) := by decide +kernel
theorem dX12_mark_55 : decode cX12_mark 55 = .ok (.iload_n 3, 1) := by decide +kernel
theorem dX12_mark_56 : decode cX12_mark 56 = .ok (.iconst 4, 1) := by decide +kernel
theorem dX12_mark_57 : decode cX12_mark 57 = .ok (.if_icmp .ne 12, 3) := by decide +kernel
theorem dX12_mark_60 : decode cX12_mark 60 = .ok (.aload_n 0, 1) := by decide +kernel
theorem dX12_mark_61 : decode cX12_mark 61 = .ok (.iload_n 1, 1) := by decide +kernel
theorem dX12_mark_62 : decode cX12_mark 62 = .ok (.iload_n 2, 1) := by decide +kernel
theorem dX12_mark_63 : decode cX12_mark 63 = .ok (.invokevirtual 233, 3) := by decide +kernel
theorem dX12_mark_66 : decode cX12_mark 66 = .ok (.goto 10, 3) := by decide +kernel
theorem dX12_mark_69 : decode cX12_mark 69 = .ok (.aload_n 0, 1) := by decide +kernel
theorem dX12_mark_70 : decode cX12_mark 70 = .ok (.iload_n 1, 1) := by decide +kernel
theorem dX12_mark_71 : decode cX12_mark 71 = .ok (.iload_n 3, 1) := by decide +kernel
theorem dX12_mark_72 : decode cX12_mark 72 = .ok (.iload_n 2, 1) := by decide +kernel
theorem dX12_mark_73 : decode cX12_mark 73 = .ok (.invokevirtual 230, 3) := by decide +kernel
theorem dX12_mark_76 : decode cX12_mark 76 = .ok (.ireturn, 1) := by decide +kernel
theorem dX12_areLike_0 : decode cX12_areLike 0 = .ok (.aload_n 0, 1) := by decide +kernel
theorem dX12_areLike_1 : decode cX12_areLike 1 = .ok (.getfield 22, 3) := by decide +kernel
theorem dX12_areLike_4 : decode cX12_areLike 4 = .ok (.iload_n 1, 1) := by decide +kernel
theorem dX12_areLike_5 : decode cX12_areLike 5 = .ok (.iaload, 1) := by decide +kernel
theorem dX12_areLike_6 : decode cX12_areLike 6 = .ok (.aload_n 0, 1) := by decide +kernel
theorem dX12_areLike_7 : decode cX12_areLike 7 = .ok (.getfield 22, 3) := by decide +kernel
theorem dX12_areLike_10 : decode cX12_areLike 10 = .ok (.iload_n 2, 1) := by decide +kernel
theorem dX12_areLike_11 : decode cX12_areLike 11 = .ok (.iaload, 1) := by decide +kernel
theorem dX12_areLike_12 : decode cX12_areLike 12 = .ok (.isub, 1) := by decide +kernel
theorem dX12_areLike_13 : decode cX12_areLike 13 = .ok (.istore_n 3, 1) := by decide +kernel
theorem dX12_areLike_14 : decode cX12_areLike 14 = .ok (.aload_n 0, 1) := by decide +kernel
theorem dX12_areLike_15 : decode cX12_areLike 15 = .ok (.getfield 28, 3) := by decide +kernel
theorem dX12_areLike_18 : decode cX12_areLike 18 = .ok (.iload_n 1, 1) := by decide +kernel
theorem dX12_areLike_19 : decode cX12_areLike 19 = .ok (.iaload, 1) := by decide +kernel
theorem dX12_areLike_20 : decode cX12_areLike 20 = .ok (.aload_n 0, 1) := by decide +kernel
theorem dX12_areLike_21 : decode cX12_areLike 21 = .ok (.getfield 28, 3) := by decide +kernel
theorem dX12_areLike_24 : decode cX12_areLike 24 = .ok (.iload_n 2, 1) := by decide +kernel
theorem dX12_areLike_25 : decode cX12_areLike 25 = .ok (.iaload, 1) := by decide +kernel
theorem dX12_areLike_26 : decode cX12_areLike 26 = .ok (.iand, 1) := by decide +kernel
theorem dX12_areLike_27 : decode cX12_areLike 27 = .ok (.invokestatic 216, 3) := by decide +kernel
theorem dX12_areLike_30 : decode cX12_areLike 30 = .ok (.aload_n 0, 1) := by decide +kernel
theorem dX12_areLike_31 : decode cX12_areLike 31 = .ok (.getfield 58, 3) := by decide +kernel
theorem dX12_areLike_34 : decode cX12_areLike 34 = .ok (.if_icmp .ge 21, 3) := by decide +kernel
theorem dX12_areLike_37 : decode cX12_areLike 37 = .ok (.aload_n 0, 1) := by decide +kernel
theorem dX12_areLike_38 : decode cX12_areLike 38 = .ok (.getfield 28, 3) := by decide +kernel
theorem dX12_areLike_41 : decode cX12_areLike 41 = .ok (.iload_n 1, 1) := by decide +kernel
theorem dX12_areLike_42 : decode cX12_areLike 42 = .ok (.iaload, 1) := by decide +kernel
theorem dX12_areLike_43 : decode cX12_areLike 43 = .ok (.ifCond .ne 16, 3) := by decide +kernel
theorem dX12_areLike_46 : decode cX12_areLike 46 = .ok (.aload_n 0, 1) := by decide +kernel
theorem dX12_areLike_47 : decode cX12_areLike 47 = .ok (.getfield 28, 3) := by decide +kernel
theorem dX12_areLike_50 : decode cX12_areLike 50 = .ok (.iload_n 2, 1) := by decide +kernel
theorem dX12_areLike_51 : decode cX12_areLike 51 = .ok (.iaload, 1) := by decide +kernel
theorem dX12_areLike_52 : decode cX12_areLike 52 = .ok (.ifCond .ne 7, 3) := by decide +kernel
theorem dX12_areLike_55 : decode cX12_areLike 55 = .ok (.iconst 1, 1) := by decide +kernel
theorem dX12_areLike_56 : decode cX12_areLike 56 = .ok (.goto 4, 3) := by decide +kernel
theorem dX12_areLike_59 : decode cX12_areLike 59 = .ok (.iconst 0, 1) := by decide +kernel
theorem dX12_areLike_60 : decode cX12_areLike 60 = .ok (.istore 4, 2) := by decide +kernel
theorem dX12_areLike_62 : decode cX12_areLike 62 = .ok (.aload_n 0, 1) := by decide +kernel
theorem dX12_areLike_63 : decode cX12_areLike 63 = .ok (.getfield 19, 3) := by decide +kernel
theorem dX12_areLike_66 : decode cX12_areLike 66 = .ok (.iload_n 1, 1) := by decide +kernel
theorem dX12_areLike_67 : decode cX12_areLike 67 = .ok (.iaload, 1) := by decide +kernel
theorem dX12_areLike_68 : decode cX12_areLike 68 = .ok (.aload_n 0, 1) := by decide +kernel
theorem dX12_areLike_69 : decode cX12_areLike 69 = .ok (.getfield 19, 3) := by decide +kernel
theorem dX12_areLike_72 : decode cX12_areLike 72 = .ok (.iload_n 2, 1) := by decide +kernel
theorem dX12_areLike_73 : decode cX12_areLike 73 = .ok (.iaload, 1) := by decide +kernel
theorem dX12_areLike_74 : decode cX12_areLike 74 = .ok (.if_icmp .ne 21, 3) := by decide +kernel
theorem dX12_areLike_77 : decode cX12_areLike 77 = .ok (.iload_n 3, 1) := by decide +kernel
theorem dX12_areLike_78 : decode cX12_areLike 78 = .ok (.iconst (-1), 1) := by decide +kernel
theorem dX12_areLike_79 : decode cX12_areLike 79 = .ok (.iconst 1, 1) := by decide +kernel
theorem dX12_areLike_80 : decode cX12_areLike 80 = .ok (.invokestatic 157, 3) := by decide +kernel
theorem dX12_areLike_83 : decode cX12_areLike 83 = .ok (.ifCond .eq 12, 3) := by decide +kernel
theorem dX12_areLike_86 : decode cX12_areLike 86 = .ok (.iload 4, 2) := by decide +kernel
theorem dX12_areLike_88 : decode cX12_areLike 88 = .ok (.ifCond .eq 7, 3) := by decide +kernel
theorem dX12_areLike_91 : decode cX12_areLike 91 = .ok (.iconst 1, 1) := by decide +kernel
theorem dX12_areLike_92 : decode cX12_areLike 92 = .ok (.goto 4, 3) := by decide +kernel
theorem dX12_areLike_95 : decode cX12_areLike 95 = .ok (.iconst 0, 1) := by decide +kernel
theorem dX12_areLike_96 : decode cX12_areLike 96 = .ok (.ireturn, 1) := by decide +kernel
theorem dX12_isBelow_0 : decode cX12_isBelow 0 = .ok (.iload_n 1, 1) := by decide +kernel
theorem dX12_isBelow_1 : decode cX12_isBelow 1 = .ok (.istore_n 3, 1) := by decide +kernel
theorem dX12_isBelow_2 : decode cX12_isBelow 2 = .ok (.iload_n 3, 1) := by decide +kernel
theorem dX12_isBelow_3 : decode cX12_isBelow 3 = .ok (.ifCond .lt 18, 3) := by decide +kernel
theorem dX12_isBelow_6 : decode cX12_isBelow 6 = .ok (.iload_n 3, 1) := by decide +kernel
theorem dX12_isBelow_7 : decode cX12_isBelow 7 = .ok (.iload_n 2, 1) := by decide +kernel
theorem dX12_isBelow_8 : decode cX12_isBelow 8 = .ok (.if_icmp .eq 13, 3) := by decide +kernel
theorem dX12_isBelow_11 : decode cX12_isBelow 11 = .ok (.aload_n 0, 1) := by decide +kernel
theorem dX12_isBelow_12 : decode cX12_isBelow 12 = .ok (.getfield 13, 3) := by decide +kernel
theorem dX12_isBelow_15 : decode cX12_isBelow 15 = .ok (.iload_n 3, 1) := by decide +kernel
theorem dX12_isBelow_16 : decode cX12_isBelow 16 = .ok (.iaload, 1) := by decide +kernel
theorem dX12_isBelow_17 : decode cX12_isBelow 17 = .ok (.istore_n 3, 1) := by decide +kernel
theorem dX12_isBelow_18 : decode cX12_isBelow 18 = .ok (.goto (-16), 3) := by decide +kernel
theorem dX12_isBelow_21 : decode cX12_isBelow 21 = .ok (.iload_n 3, 1) := by decide +kernel
theorem dX12_isBelow_22 : decode cX12_isBelow 22 = .ok (.iload_n 2, 1) := by decide +kernel
theorem dX12_isBelow_23 : decode cX12_isBelow 23 = .ok (.if_icmp .ne 7, 3) := by decide +kernel
theorem dX12_isBelow_26 : decode cX12_isBelow 26 = .ok (.iconst 1, 1) := by decide +kernel
theorem dX12_isBelow_27 : decode cX12_isBelow 27 = .ok (.goto 4, 3) := by decide +kernel
theorem dX12_isBelow_30 : decode cX12_isBelow 30 = .ok (.iconst 0, 1) := by decide +kernel
theorem dX12_isBelow_31 : decode cX12_isBelow 31 = .ok (.ireturn, 1) := by decide +kernel
theorem dX12_findPools_0 : decode cX12_findPools 0 = .ok (.iconst 0, 1) := by decide +kernel
theorem dX12_findPools_1 : decode cX12_findPools 1 = .ok (.istore_n 2, 1) := by decide +kernel
theorem dX12_findPools_2 : decode cX12_findPools 2 = .ok (.iload_n 2, 1) := by decide +kernel
theorem dX12_findPools_3 : decode cX12_findPools 3 = .ok (.aload_n 0, 1) := by decide +kernel
theorem dX12_findPools_4 : decode cX12_findPools 4 = .ok (.getfield 161, 3) := by decide +kernel
theorem dX12_findPools_7 : decode cX12_findPools 7 = .ok (.if_icmp .ge 43, 3) := by decide +kernel
theorem dX12_findPools_10 : decode cX12_findPools 10 = .ok (.aload_n 0, 1) := by decide +kernel
theorem dX12_findPools_11 : decode cX12_findPools 11 = .ok (.getfield 92, 3) := by decide +kernel
theorem dX12_findPools_14 : decode cX12_findPools 14 = .ok (.iload_n 2, 1) := by decide +kernel
theorem dX12_findPools_15 : decode cX12_findPools 15 = .ok (.aload_n 0, 1) := by decide +kernel
theorem dX12_findPools_16 : decode cX12_findPools 16 = .ok (.getfield 31, 3) := by decide +kernel
theorem dX12_findPools_19 : decode cX12_findPools 19 = .ok (.iload_n 2, 1) := by decide +kernel
theorem dX12_findPools_20 : decode cX12_findPools 20 = .ok (.iaload, 1) := by decide +kernel
theorem dX12_findPools_21 : decode cX12_findPools 21 = .ok (.ifCond .ge 21, 3) := by decide +kernel
theorem dX12_findPools_24 : decode cX12_findPools 24 = .ok (.aload_n 0, 1) := by decide +kernel
theorem dX12_findPools_25 : decode cX12_findPools 25 = .ok (.aload_n 0, 1) := by decide +kernel
theorem dX12_findPools_26 : decode cX12_findPools 26 = .ok (.getfield 16, 3) := by decide +kernel
theorem dX12_findPools_29 : decode cX12_findPools 29 = .ok (.iload_n 2, 1) := by decide +kernel
theorem dX12_findPools_30 : decode cX12_findPools 30 = .ok (.iaload, 1) := by decide +kernel
theorem dX12_findPools_31 : decode cX12_findPools 31 = .ok (.iload_n 1, 1) := by decide +kernel
theorem dX12_findPools_32 : decode cX12_findPools 32 = .ok (.invokevirtual 236, 3) := by decide +kernel
theorem dX12_findPools_35 : decode cX12_findPools 35 = .ok (.ifCond .eq 7, 3) := by decide +kernel
theorem dX12_findPools_38 : decode cX12_findPools 38 = .ok (.iload_n 2, 1) := by decide +kernel
theorem dX12_findPools_39 : decode cX12_findPools 39 = .ok (.goto 4, 3) := by decide +kernel
theorem dX12_findPools_42 : decode cX12_findPools 42 = .ok (.iconst (-1), 1) := by decide +kernel
theorem dX12_findPools_43 : decode cX12_findPools 43 = .ok (.iastore, 1) := by decide +kernel
theorem dX12_findPools_44 : decode cX12_findPools 44 = .ok (.iinc 2 1, 3) := by decide +kernel
theorem dX12_findPools_47 : decode cX12_findPools 47 = .ok (.goto (-45), 3) := by decide +kernel
theorem dX12_findPools_50 : decode cX12_findPools 50 = .ok (.iconst 1, 1) := by decide +kernel
theorem dX12_findPools_51 : decode cX12_findPools 51 = .ok (.istore_n 2, 1) := by decide +kernel
theorem dX12_findPools_52 : decode cX12_findPools 52 = .ok (.iload_n 2, 1) := by decide +kernel
theorem dX12_findPools_53 : decode cX12_findPools 53 = .ok (.ifCond .eq 92, 3) := by decide +kernel
theorem dX12_findPools_56 : decode cX12_findPools 56 = .ok (.iconst 0, 1) := by decide +kernel
theorem dX12_findPools_57 : decode cX12_findPools 57 = .ok (.istore_n 2, 1) := by decide +kernel
theorem dX12_findPools_58 : decode cX12_findPools 58 = .ok (.iconst 0, 1) := by decide +kernel
theorem dX12_findPools_59 : decode cX12_findPools 59 = .ok (.istore_n 3, 1) := by decide +kernel
theorem dX12_findPools_60 : decode cX12_findPools 60 = .ok (.iload_n 3, 1) := by decide +kernel
theorem dX12_findPools_61 : decode cX12_findPools 61 = .ok (.aload_n 0, 1) := by decide +kernel
theorem dX12_findPools_62 : decode cX12_findPools 62 = .ok (.getfield 161, 3) := by decide +kernel
theorem dX12_findPools_65 : decode cX12_findPools 65 = .ok (.if_icmp .ge 77, 3) := by decide +kernel
theorem dX12_findPools_68 : decode cX12_findPools 68 = .ok (.iconst 0, 1) := by decide +kernel
theorem dX12_findPools_69 : decode cX12_findPools 69 = .ok (.istore 4, 2) := by decide +kernel
theorem dX12_findPools_71 : decode cX12_findPools 71 = .ok (.iload 4, 2) := by decide +kernel
theorem dX12_findPools_73 : decode cX12_findPools 73 = .ok (.aload_n 0, 1) := by decide +kernel
theorem dX12_findPools_74 : decode cX12_findPools 74 = .ok (.getfield 161, 3) := by decide +kernel
theorem dX12_findPools_77 : decode cX12_findPools 77 = .ok (.if_icmp .ge 59, 3) := by decide +kernel
theorem dX12_findPools_80 : decode cX12_findPools 80 = .ok (.aload_n 0, 1) := by decide +kernel
theorem dX12_findPools_81 : decode cX12_findPools 81 = .ok (.getfield 92, 3) := by decide +kernel
theorem dX12_findPools_84 : decode cX12_findPools 84 = .ok (.iload_n 3, 1) := by decide +kernel
theorem dX12_findPools_85 : decode cX12_findPools 85 = .ok (.iaload, 1) := by decide +kernel
theorem dX12_findPools_86 : decode cX12_findPools 86 = .ok (.ifCond .lt 44, 3) := by decide +kernel
theorem dX12_findPools_89 : decode cX12_findPools 89 = .ok (.aload_n 0, 1) := by decide +kernel
theorem dX12_findPools_90 : decode cX12_findPools 90 = .ok (.getfield 92, 3) := by decide +kernel
theorem dX12_findPools_93 : decode cX12_findPools 93 = .ok (.iload_n 3, 1) := by decide +kernel
theorem dX12_findPools_94 : decode cX12_findPools 94 = .ok (.iaload, 1) := by decide +kernel
theorem dX12_findPools_95 : decode cX12_findPools 95 = .ok (.aload_n 0, 1) := by decide +kernel
theorem dX12_findPools_96 : decode cX12_findPools 96 = .ok (.getfield 92, 3) := by decide +kernel
theorem dX12_findPools_99 : decode cX12_findPools 99 = .ok (.iload 4, 2) := by decide +kernel
theorem dX12_findPools_101 : decode cX12_findPools 101 = .ok (.iaload, 1) := by decide +kernel
theorem dX12_findPools_102 : decode cX12_findPools 102 = .ok (.if_icmp .ge 28, 3) := by decide +kernel
theorem dX12_findPools_105 : decode cX12_findPools 105 = .ok (.aload_n 0, 1) := by decide +kernel
theorem dX12_findPools_106 : decode cX12_findPools 106 = .ok (.iload_n 3, 1) := by decide +kernel
theorem dX12_findPools_107 : decode cX12_findPools 107 = .ok (.iload 4, 2) := by decide +kernel
theorem dX12_findPools_109 : decode cX12_findPools 109 = .ok (.invokevirtual 240, 3) := by decide +kernel
theorem dX12_findPools_112 : decode cX12_findPools 112 = .ok (.ifCond .eq 18, 3) := by decide +kernel
theorem dX12_findPools_115 : decode cX12_findPools 115 = .ok (.aload_n 0, 1) := by decide +kernel
theorem dX12_findPools_116 : decode cX12_findPools 116 = .ok (.getfield 92, 3) := by decide +kernel
theorem dX12_findPools_119 : decode cX12_findPools 119 = .ok (.iload 4, 2) := by decide +kernel
theorem dX12_findPools_121 : decode cX12_findPools 121 = .ok (.aload_n 0, 1) := by decide +kernel
theorem dX12_findPools_122 : decode cX12_findPools 122 = .ok (.getfield 92, 3) := by decide +kernel
theorem dX12_findPools_125 : decode cX12_findPools 125 = .ok (.iload_n 3, 1) := by decide +kernel
theorem dX12_findPools_126 : decode cX12_findPools 126 = .ok (.iaload, 1) := by decide +kernel
theorem dX12_findPools_127 : decode cX12_findPools 127 = .ok (.iastore, 1) := by decide +kernel
theorem dX12_findPools_128 : decode cX12_findPools 128 = .ok (.iconst 1, 1) := by decide +kernel
theorem dX12_findPools_129 : decode cX12_findPools 129 = .ok (.istore_n 2, 1) := by decide +kernel
theorem dX12_findPools_130 : decode cX12_findPools 130 = .ok (.iinc 4 1, 3) := by decide +kernel
theorem dX12_findPools_133 : decode cX12_findPools 133 = .ok (.goto (-62), 3) := by decide +kernel
theorem dX12_findPools_136 : decode cX12_findPools 136 = .ok (.iinc 3 1, 3) := by decide +kernel
theorem dX12_findPools_139 : decode cX12_findPools 139 = .ok (.goto (-79), 3) := by decide +kernel
theorem dX12_findPools_142 : decode cX12_findPools 142 = .ok (.goto (-90), 3) := by decide +kernel
theorem dX12_findPools_145 : decode cX12_findPools 145 = .ok (.iconst 0, 1) := by decide +kernel
theorem dX12_findPools_146 : decode cX12_findPools 146 = .ok (.istore_n 3, 1) := by decide +kernel
theorem dX12_findPools_147 : decode cX12_findPools 147 = .ok (.iconst 0, 1) := by decide +kernel
theorem dX12_findPools_148 : decode cX12_findPools 148 = .ok (.istore 4, 2) := by decide +kernel
theorem dX12_findPools_150 : decode cX12_findPools 150 = .ok (.iload 4, 2) := by decide +kernel
theorem dX12_findPools_152 : decode cX12_findPools 152 = .ok (.aload_n 0, 1) := by decide +kernel
theorem dX12_findPools_153 : decode cX12_findPools 153 = .ok (.getfield 161, 3) := by decide +kernel
theorem dX12_findPools_156 : decode cX12_findPools 156 = .ok (.if_icmp .ge 78, 3) := by decide +kernel
theorem dX12_findPools_159 : decode cX12_findPools 159 = .ok (.aload_n 0, 1) := by decide +kernel
theorem dX12_findPools_160 : decode cX12_findPools 160 = .ok (.getfield 95, 3) := by decide +kernel
theorem dX12_findPools_163 : decode cX12_findPools 163 = .ok (.iload 4, 2) := by decide +kernel
theorem dX12_findPools_165 : decode cX12_findPools 165 = .ok (.aload_n 0, 1) := by decide +kernel
theorem dX12_findPools_166 : decode cX12_findPools 166 = .ok (.getfield 92, 3) := by decide +kernel
theorem dX12_findPools_169 : decode cX12_findPools 169 = .ok (.iload 4, 2) := by decide +kernel
theorem dX12_findPools_171 : decode cX12_findPools 171 = .ok (.iaload, 1) := by decide +kernel
theorem dX12_findPools_172 : decode cX12_findPools 172 = .ok (.ifCond .ge 7, 3) := by decide +kernel
theorem dX12_findPools_175 : decode cX12_findPools 175 = .ok (.iconst (-1), 1) := by decide +kernel
theorem dX12_findPools_176 : decode cX12_findPools 176 = .ok (.goto 31, 3) := by decide +kernel
theorem dX12_findPools_179 : decode cX12_findPools 179 = .ok (.aload_n 0, 1) := by decide +kernel
theorem dX12_findPools_180 : decode cX12_findPools 180 = .ok (.getfield 92, 3) := by decide +kernel
theorem dX12_findPools_183 : decode cX12_findPools 183 = .ok (.iload 4, 2) := by decide +kernel
theorem dX12_findPools_185 : decode cX12_findPools 185 = .ok (.iaload, 1) := by decide +kernel
theorem dX12_findPools_186 : decode cX12_findPools 186 = .ok (.iload 4, 2) := by decide +kernel
theorem dX12_findPools_188 : decode cX12_findPools 188 = .ok (.if_icmp .ne 7, 3) := by decide +kernel
theorem dX12_findPools_191 : decode cX12_findPools 191 = .ok (.iload_n 3, 1) := by decide +kernel
theorem dX12_findPools_192 : decode cX12_findPools 192 = .ok (.goto 15, 3) := by decide +kernel
theorem dX12_findPools_195 : decode cX12_findPools 195 = .ok (.aload_n 0, 1) := by decide +kernel
theorem dX12_findPools_196 : decode cX12_findPools 196 = .ok (.getfield 95, 3) := by decide +kernel
theorem dX12_findPools_199 : decode cX12_findPools 199 = .ok (.aload_n 0, 1) := by decide +kernel
theorem dX12_findPools_200 : decode cX12_findPools 200 = .ok (.getfield 92, 3) := by decide +kernel
theorem dX12_findPools_203 : decode cX12_findPools 203 = .ok (.iload 4, 2) := by decide +kernel
theorem dX12_findPools_205 : decode cX12_findPools 205 = .ok (.iaload, 1) := by decide +kernel
theorem dX12_findPools_206 : decode cX12_findPools 206 = .ok (.iaload, 1) := by decide +kernel
theorem dX12_findPools_207 : decode cX12_findPools 207 = .ok (.iastore, 1) := by decide +kernel
theorem dX12_findPools_208 : decode cX12_findPools 208 = .ok (.iload_n 3, 1) := by decide +kernel
theorem dX12_findPools_209 : decode cX12_findPools 209 = .ok (.aload_n 0, 1) := by decide +kernel
theorem dX12_findPools_210 : decode cX12_findPools 210 = .ok (.getfield 92, 3) := by decide +kernel
theorem dX12_findPools_213 : decode cX12_findPools 213 = .ok (.iload 4, 2) := by decide +kernel
theorem dX12_findPools_215 : decode cX12_findPools 215 = .ok (.iaload, 1) := by decide +kernel
theorem dX12_findPools_216 : decode cX12_findPools 216 = .ok (.iload 4, 2) := by decide +kernel
theorem dX12_findPools_218 : decode cX12_findPools 218 = .ok (.if_icmp .ne 7, 3) := by decide +kernel
theorem dX12_findPools_221 : decode cX12_findPools 221 = .ok (.iconst 1, 1) := by decide +kernel
theorem dX12_findPools_222 : decode cX12_findPools 222 = .ok (.goto 4, 3) := by decide +kernel
theorem dX12_findPools_225 : decode cX12_findPools 225 = .ok (.iconst 0, 1) := by decide +kernel
theorem dX12_findPools_226 : decode cX12_findPools 226 = .ok (.iadd, 1) := by decide +kernel
theorem dX12_findPools_227 : decode cX12_findPools 227 = .ok (.istore_n 3, 1) := by decide +kernel
theorem dX12_findPools_228 : decode cX12_findPools 228 = .ok (.iinc 4 1, 3) := by decide +kernel
theorem dX12_findPools_231 : decode cX12_findPools 231 = .ok (.goto (-81), 3) := by decide +kernel
theorem dX12_findPools_234 : decode cX12_findPools 234 = .ok (.iload_n 3, 1) := by decide +kernel
theorem dX12_findPools_235 : decode cX12_findPools 235 = .ok (.ireturn, 1) := by decide +kernel
theorem dX12_pools_0 : decode cX12_pools 0 = .ok (.aload_n 0, 1) := by decide +kernel
theorem dX12_pools_1 : decode cX12_pools 1 = .ok (.iload_n 1, 1) := by decide +kernel
theorem dX12_pools_2 : decode cX12_pools 2 = .ok (.invokevirtual 177, 3) := by decide +kernel
theorem dX12_pools_5 : decode cX12_pools 5 = .ok (.ifCond .eq 11, 3) := by decide +kernel
theorem dX12_pools_8 : decode cX12_pools 8 = .ok (.aload_n 0, 1) := by decide +kernel
theorem dX12_pools_9 : decode cX12_pools 9 = .ok (.iload_n 1, 1) := by decide +kernel
theorem dX12_pools_10 : decode cX12_pools 10 = .ok (.invokevirtual 243, 3) := by decide +kernel
theorem dX12_pools_13 : decode cX12_pools 13 = .ok (.goto 8, 3) := by decide +kernel
theorem dX12_pools_16 : decode cX12_pools 16 = .ok (.aload_n 0, 1) := by decide +kernel
theorem dX12_pools_17 : decode cX12_pools 17 = .ok (.iconst (-1), 1) := by decide +kernel
theorem dX12_pools_18 : decode cX12_pools 18 = .ok (.invokevirtual 174, 3) := by decide +kernel
theorem dX12_pools_21 : decode cX12_pools 21 = .ok (.ireturn, 1) := by decide +kernel
theorem dX12_poolOf_0 : decode cX12_poolOf 0 = .ok (.aload_n 0, 1) := by decide +kernel
theorem dX12_poolOf_1 : decode cX12_poolOf 1 = .ok (.iload_n 1, 1) := by decide +kernel
theorem dX12_poolOf_2 : decode cX12_poolOf 2 = .ok (.invokevirtual 177, 3) := by decide +kernel
theorem dX12_poolOf_5 : decode cX12_poolOf 5 = .ok (.ifCond .eq 11, 3) := by decide +kernel
theorem dX12_poolOf_8 : decode cX12_poolOf 8 = .ok (.aload_n 0, 1) := by decide +kernel
theorem dX12_poolOf_9 : decode cX12_poolOf 9 = .ok (.iload_n 2, 1) := by decide +kernel
theorem dX12_poolOf_10 : decode cX12_poolOf 10 = .ok (.invokevirtual 181, 3) := by decide +kernel
theorem dX12_poolOf_13 : decode cX12_poolOf 13 = .ok (.ifCond .ne 9, 3) := by decide +kernel
theorem dX12_poolOf_16 : decode cX12_poolOf 16 = .ok (.aload_n 0, 1) := by decide +kernel
theorem dX12_poolOf_17 : decode cX12_poolOf 17 = .ok (.iconst (-1), 1) := by decide +kernel
theorem dX12_poolOf_18 : decode cX12_poolOf 18 = .ok (.invokevirtual 174, 3) := by decide +kernel
theorem dX12_poolOf_21 : decode cX12_poolOf 21 = .ok (.ireturn, 1) := by decide +kernel
theorem dX12_poolOf_22 : decode cX12_poolOf 22 = .ok (.aload_n 0, 1) := by decide +kernel
theorem dX12_poolOf_23 : decode cX12_poolOf 23 = .ok (.iload_n 1, 1) := by decide +kernel
theorem dX12_poolOf_24 : decode cX12_poolOf 24 = .ok (.invokevirtual 243, 3) := by decide +kernel
theorem dX12_poolOf_27 : decode cX12_poolOf 27 = .ok (.istore_n 3, 1) := by decide +kernel
theorem dX12_poolOf_28 : decode cX12_poolOf 28 = .ok (.aload_n 0, 1) := by decide +kernel
theorem dX12_poolOf_29 : decode cX12_poolOf 29 = .ok (.getfield 95, 3) := by decide +kernel
theorem dX12_poolOf_32 : decode cX12_poolOf 32 = .ok (.iload_n 2, 1) := by decide +kernel
theorem dX12_poolOf_33 : decode cX12_poolOf 33 = .ok (.iaload, 1) := by decide +kernel
theorem dX12_poolOf_34 : decode cX12_poolOf 34 = .ok (.ifCond .ge 8, 3) := by decide +kernel
theorem dX12_poolOf_37 : decode cX12_poolOf 37 = .ok (.bipush (-9), 2) := by decide +kernel
theorem dX12_poolOf_39 : decode cX12_poolOf 39 = .ok (.goto 9, 3) := by decide +kernel
theorem dX12_poolOf_42 : decode cX12_poolOf 42 = .ok (.aload_n 0, 1) := by decide +kernel
theorem dX12_poolOf_43 : decode cX12_poolOf 43 = .ok (.getfield 95, 3) := by decide +kernel
theorem dX12_poolOf_46 : decode cX12_poolOf 46 = .ok (.iload_n 2, 1) := by decide +kernel
theorem dX12_poolOf_47 : decode cX12_poolOf 47 = .ok (.iaload, 1) := by decide +kernel
theorem dX12_poolOf_48 : decode cX12_poolOf 48 = .ok (.ireturn, 1) := by decide +kernel
theorem dX12_isPool_0 : decode cX12_isPool 0 = .ok (.aload_n 0, 1) := by decide +kernel
theorem dX12_isPool_1 : decode cX12_isPool 1 = .ok (.iload_n 1, 1) := by decide +kernel
theorem dX12_isPool_2 : decode cX12_isPool 2 = .ok (.invokevirtual 177, 3) := by decide +kernel
theorem dX12_isPool_5 : decode cX12_isPool 5 = .ok (.ifCond .eq 22, 3) := by decide +kernel
theorem dX12_isPool_8 : decode cX12_isPool 8 = .ok (.iload_n 2, 1) := by decide +kernel
theorem dX12_isPool_9 : decode cX12_isPool 9 = .ok (.iconst 0, 1) := by decide +kernel
theorem dX12_isPool_10 : decode cX12_isPool 10 = .ok (.aload_n 0, 1) := by decide +kernel
theorem dX12_isPool_11 : decode cX12_isPool 11 = .ok (.iload_n 1, 1) := by decide +kernel
theorem dX12_isPool_12 : decode cX12_isPool 12 = .ok (.invokevirtual 243, 3) := by decide +kernel
theorem dX12_isPool_15 : decode cX12_isPool 15 = .ok (.iconst 1, 1) := by decide +kernel
theorem dX12_isPool_16 : decode cX12_isPool 16 = .ok (.isub, 1) := by decide +kernel
theorem dX12_isPool_17 : decode cX12_isPool 17 = .ok (.invokestatic 157, 3) := by decide +kernel
theorem dX12_isPool_20 : decode cX12_isPool 20 = .ok (.ifCond .eq 7, 3) := by decide +kernel
theorem dX12_isPool_23 : decode cX12_isPool 23 = .ok (.iconst 1, 1) := by decide +kernel
theorem dX12_isPool_24 : decode cX12_isPool 24 = .ok (.goto 4, 3) := by decide +kernel
theorem dX12_isPool_27 : decode cX12_isPool 27 = .ok (.iconst 0, 1) := by decide +kernel
theorem dX12_isPool_28 : decode cX12_isPool 28 = .ok (.ireturn, 1) := by decide +kernel
theorem dX12_isOf_0 : decode cX12_isOf 0 = .ok (.aload_n 0, 1) := by decide +kernel
theorem dX12_isOf_1 : decode cX12_isOf 1 = .ok (.iload_n 1, 1) := by decide +kernel
theorem dX12_isOf_2 : decode cX12_isOf 2 = .ok (.invokevirtual 200, 3) := by decide +kernel
theorem dX12_isOf_5 : decode cX12_isOf 5 = .ok (.ifCond .eq 31, 3) := by decide +kernel
theorem dX12_isOf_8 : decode cX12_isOf 8 = .ok (.aload_n 0, 1) := by decide +kernel
theorem dX12_isOf_9 : decode cX12_isOf 9 = .ok (.getfield 43, 3) := by decide +kernel
theorem dX12_isOf_12 : decode cX12_isOf 12 = .ok (.iload_n 1, 1) := by decide +kernel
theorem dX12_isOf_13 : decode cX12_isOf 13 = .ok (.iaload, 1) := by decide +kernel
theorem dX12_isOf_14 : decode cX12_isOf 14 = .ok (.ifCond .lt 22, 3) := by decide +kernel
theorem dX12_isOf_17 : decode cX12_isOf 17 = .ok (.aload_n 0, 1) := by decide +kernel
theorem dX12_isOf_18 : decode cX12_isOf 18 = .ok (.getfield 95, 3) := by decide +kernel
theorem dX12_isOf_21 : decode cX12_isOf 21 = .ok (.aload_n 0, 1) := by decide +kernel
theorem dX12_isOf_22 : decode cX12_isOf 22 = .ok (.getfield 43, 3) := by decide +kernel
theorem dX12_isOf_25 : decode cX12_isOf 25 = .ok (.iload_n 1, 1) := by decide +kernel
theorem dX12_isOf_26 : decode cX12_isOf 26 = .ok (.iaload, 1) := by decide +kernel
theorem dX12_isOf_27 : decode cX12_isOf 27 = .ok (.iaload, 1) := by decide +kernel
theorem dX12_isOf_28 : decode cX12_isOf 28 = .ok (.iload_n 2, 1) := by decide +kernel
theorem dX12_isOf_29 : decode cX12_isOf 29 = .ok (.if_icmp .ne 7, 3) := by decide +kernel
theorem dX12_isOf_32 : decode cX12_isOf 32 = .ok (.iconst 1, 1) := by decide +kernel
theorem dX12_isOf_33 : decode cX12_isOf 33 = .ok (.goto 4, 3) := by decide +kernel
theorem dX12_isOf_36 : decode cX12_isOf 36 = .ok (.iconst 0, 1) := by decide +kernel
theorem dX12_isOf_37 : decode cX12_isOf 37 = .ok (.ireturn, 1) := by decide +kernel
theorem dX12_isAhead_0 : decode cX12_isAhead 0 = .ok (.aload_n 0, 1) := by decide +kernel
theorem dX12_isAhead_1 : decode cX12_isAhead 1 = .ok (.getfield 98, 3) := by decide +kernel
theorem dX12_isAhead_4 : decode cX12_isAhead 4 = .ok (.iload_n 3, 1) := by decide +kernel
theorem dX12_isAhead_5 : decode cX12_isAhead 5 = .ok (.iaload, 1) := by decide +kernel
theorem dX12_isAhead_6 : decode cX12_isAhead 6 = .ok (.istore 4, 2) := by decide +kernel
theorem dX12_isAhead_8 : decode cX12_isAhead 8 = .ok (.iload_n 2, 1) := by decide +kernel
theorem dX12_isAhead_9 : decode cX12_isAhead 9 = .ok (.aload_n 0, 1) := by decide +kernel
theorem dX12_isAhead_10 : decode cX12_isAhead 10 = .ok (.getfield 101, 3) := by decide +kernel
theorem dX12_isAhead_13 : decode cX12_isAhead 13 = .ok (.iload_n 3, 1) := by decide +kernel
theorem dX12_isAhead_14 : decode cX12_isAhead 14 = .ok (.iaload, 1) := by decide +kernel
theorem dX12_isAhead_15 : decode cX12_isAhead 15 = .ok (.if_icmp .eq 21, 3) := by decide +kernel
theorem dX12_isAhead_18 : decode cX12_isAhead 18 = .ok (.iload_n 2, 1) := by decide +kernel
theorem dX12_isAhead_19 : decode cX12_isAhead 19 = .ok (.aload_n 0, 1) := by decide +kernel
theorem dX12_isAhead_20 : decode cX12_isAhead 20 = .ok (.getfield 101, 3) := by decide +kernel
theorem dX12_isAhead_23 : decode cX12_isAhead 23 = .ok (.iload_n 3, 1) := by decide +kernel
theorem dX12_isAhead_24 : decode cX12_isAhead 24 = .ok (.iaload, 1) := by decide +kernel
theorem dX12_isAhead_25 : decode cX12_isAhead 25 = .ok (.if_icmp .ge 7, 3) := by decide +kernel
theorem dX12_isAhead_28 : decode cX12_isAhead 28 = .ok (.iconst 1, 1) := by decide +kernel
theorem dX12_isAhead_29 : decode cX12_isAhead 29 = .ok (.goto 58, 3) := by decide +kernel
theorem dX12_isAhead_32 : decode cX12_isAhead 32 = .ok (.iconst 0, 1) := by decide +kernel
theorem dX12_isAhead_33 : decode cX12_isAhead 33 = .ok (.goto 54, 3) := by decide +kernel
theorem dX12_isAhead_36 : decode cX12_isAhead 36 = .ok (.aload_n 0, 1) := by decide +kernel
theorem dX12_isAhead_37 : decode cX12_isAhead 37 = .ok (.getfield 37, 3) := by decide +kernel
theorem dX12_isAhead_40 : decode cX12_isAhead 40 = .ok (.iload_n 1, 1) := by decide +kernel
theorem dX12_isAhead_41 : decode cX12_isAhead 41 = .ok (.iaload, 1) := by decide +kernel
theorem dX12_isAhead_42 : decode cX12_isAhead 42 = .ok (.aload_n 0, 1) := by decide +kernel
theorem dX12_isAhead_43 : decode cX12_isAhead 43 = .ok (.getfield 37, 3) := by decide +kernel
theorem dX12_isAhead_46 : decode cX12_isAhead 46 = .ok (.iload 4, 2) := by decide +kernel
theorem dX12_isAhead_48 : decode cX12_isAhead 48 = .ok (.iaload, 1) := by decide +kernel
theorem dX12_isAhead_49 : decode cX12_isAhead 49 = .ok (.if_icmp .eq 27, 3) := by decide +kernel
theorem dX12_isAhead_52 : decode cX12_isAhead 52 = .ok (.aload_n 0, 1) := by decide +kernel
theorem dX12_isAhead_53 : decode cX12_isAhead 53 = .ok (.getfield 37, 3) := by decide +kernel
theorem dX12_isAhead_56 : decode cX12_isAhead 56 = .ok (.iload_n 1, 1) := by decide +kernel
theorem dX12_isAhead_57 : decode cX12_isAhead 57 = .ok (.iaload, 1) := by decide +kernel
theorem dX12_isAhead_58 : decode cX12_isAhead 58 = .ok (.aload_n 0, 1) := by decide +kernel
theorem dX12_isAhead_59 : decode cX12_isAhead 59 = .ok (.getfield 37, 3) := by decide +kernel
theorem dX12_isAhead_62 : decode cX12_isAhead 62 = .ok (.iload 4, 2) := by decide +kernel
theorem dX12_isAhead_64 : decode cX12_isAhead 64 = .ok (.iaload, 1) := by decide +kernel
theorem dX12_isAhead_65 : decode cX12_isAhead 65 = .ok (.if_icmp .le 7, 3) := by decide +kernel
theorem dX12_isAhead_68 : decode cX12_isAhead 68 = .ok (.iconst 1, 1) := by decide +kernel
theorem dX12_isAhead_69 : decode cX12_isAhead 69 = .ok (.goto 18, 3) := by decide +kernel
theorem dX12_isAhead_72 : decode cX12_isAhead 72 = .ok (.iconst 0, 1) := by decide +kernel
theorem dX12_isAhead_73 : decode cX12_isAhead 73 = .ok (.goto 14, 3) := by decide +kernel
theorem dX12_isAhead_76 : decode cX12_isAhead 76 = .ok (.iload_n 1, 1) := by decide +kernel
theorem dX12_isAhead_77 : decode cX12_isAhead 77 = .ok (.iload 4, 2) := by decide +kernel
theorem dX12_isAhead_79 : decode cX12_isAhead 79 = .ok (.if_icmp .le 7, 3) := by decide +kernel
theorem dX12_isAhead_82 : decode cX12_isAhead 82 = .ok (.iconst 1, 1) := by decide +kernel
theorem dX12_isAhead_83 : decode cX12_isAhead 83 = .ok (.goto 4, 3) := by decide +kernel
theorem dX12_isAhead_86 : decode cX12_isAhead 86 = .ok (.iconst 0, 1) := by decide +kernel
theorem dX12_isAhead_87 : decode cX12_isAhead 87 = .ok (.ireturn, 1) := by decide +kernel
theorem dX12_findCut_0 : decode cX12_findCut 0 = .ok (.aload_n 0, 1) := by decide +kernel
theorem dX12_findCut_1 : decode cX12_findCut 1 = .ok (.iconst 0, 1) := by decide +kernel
theorem dX12_findCut_2 : decode cX12_findCut 2 = .ok (.putfield 246, 3) := by decide +kernel
theorem dX12_findCut_5 : decode cX12_findCut 5 = .ok (.iconst 0, 1) := by decide +kernel
theorem dX12_findCut_6 : decode cX12_findCut 6 = .ok (.istore_n 3, 1) := by decide +kernel
theorem dX12_findCut_7 : decode cX12_findCut 7 = .ok (.iload_n 3, 1) := by decide +kernel
theorem dX12_findCut_8 : decode cX12_findCut 8 = .ok (.aload_n 0, 1) := by decide +kernel
theorem dX12_findCut_9 : decode cX12_findCut 9 = .ok (.getfield 164, 3) := by decide +kernel
theorem dX12_findCut_12 : decode cX12_findCut 12 = .ok (.if_icmp .ge 127, 3) := by decide +kernel
theorem dX12_findCut_15 : decode cX12_findCut 15 = .ok (.aload_n 0, 1) := by decide +kernel
theorem dX12_findCut_16 : decode cX12_findCut 16 = .ok (.iload_n 3, 1) := by decide +kernel
theorem dX12_findCut_17 : decode cX12_findCut 17 = .ok (.iload_n 1, 1) := by decide +kernel
theorem dX12_findCut_18 : decode cX12_findCut 18 = .ok (.invokevirtual 249, 3) := by decide +kernel
theorem dX12_findCut_21 : decode cX12_findCut 21 = .ok (.ifCond .eq 112, 3) := by decide +kernel
theorem dX12_findCut_24 : decode cX12_findCut 24 = .ok (.aload_n 0, 1) := by decide +kernel
theorem dX12_findCut_25 : decode cX12_findCut 25 = .ok (.iload_n 3, 1) := by decide +kernel
theorem dX12_findCut_26 : decode cX12_findCut 26 = .ok (.invokevirtual 252, 3) := by decide +kernel
theorem dX12_findCut_29 : decode cX12_findCut 29 = .ok (.ifCond .ne 104, 3) := by decide +kernel
theorem dX12_findCut_32 : decode cX12_findCut 32 = .ok (.aload_n 0, 1) := by decide +kernel
theorem dX12_findCut_33 : decode cX12_findCut 33 = .ok (.iload_n 3, 1) := by decide +kernel
theorem dX12_findCut_34 : decode cX12_findCut 34 = .ok (.aload_n 0, 1) := by decide +kernel
theorem dX12_findCut_35 : decode cX12_findCut 35 = .ok (.getfield 167, 3) := by decide +kernel
theorem dX12_findCut_38 : decode cX12_findCut 38 = .ok (.invokevirtual 233, 3) := by decide +kernel
theorem dX12_findCut_41 : decode cX12_findCut 41 = .ok (.istore 4, 2) := by decide +kernel
theorem dX12_findCut_43 : decode cX12_findCut 43 = .ok (.aload_n 0, 1) := by decide +kernel
theorem dX12_findCut_44 : decode cX12_findCut 44 = .ok (.getfield 246, 3) := by decide +kernel
theorem dX12_findCut_47 : decode cX12_findCut 47 = .ok (.istore 5, 2) := by decide +kernel
theorem dX12_findCut_49 : decode cX12_findCut 49 = .ok (.iload 5, 2) := by decide +kernel
theorem dX12_findCut_51 : decode cX12_findCut 51 = .ok (.ifCond .le 55, 3) := by decide +kernel
theorem dX12_findCut_54 : decode cX12_findCut 54 = .ok (.aload_n 0, 1) := by decide +kernel
theorem dX12_findCut_55 : decode cX12_findCut 55 = .ok (.iload_n 3, 1) := by decide +kernel
theorem dX12_findCut_56 : decode cX12_findCut 56 = .ok (.iload 4, 2) := by decide +kernel
theorem dX12_findCut_58 : decode cX12_findCut 58 = .ok (.iload 5, 2) := by decide +kernel
theorem dX12_findCut_60 : decode cX12_findCut 60 = .ok (.iconst 1, 1) := by decide +kernel
theorem dX12_findCut_61 : decode cX12_findCut 61 = .ok (.isub, 1) := by decide +kernel
theorem dX12_findCut_62 : decode cX12_findCut 62 = .ok (.invokevirtual 255, 3) := by decide +kernel
theorem dX12_findCut_65 : decode cX12_findCut 65 = .ok (.ifCond .eq 41, 3) := by decide +kernel
theorem dX12_findCut_68 : decode cX12_findCut 68 = .ok (.aload_n 0, 1) := by decide +kernel
theorem dX12_findCut_69 : decode cX12_findCut 69 = .ok (.getfield 98, 3) := by decide +kernel
theorem dX12_findCut_72 : decode cX12_findCut 72 = .ok (.iload 5, 2) := by decide +kernel
theorem dX12_findCut_74 : decode cX12_findCut 74 = .ok (.aload_n 0, 1) := by decide +kernel
theorem dX12_findCut_75 : decode cX12_findCut 75 = .ok (.getfield 98, 3) := by decide +kernel
theorem dX12_findCut_78 : decode cX12_findCut 78 = .ok (.iload 5, 2) := by decide +kernel
theorem dX12_findCut_80 : decode cX12_findCut 80 = .ok (.iconst 1, 1) := by decide +kernel
theorem dX12_findCut_81 : decode cX12_findCut 81 = .ok (.isub, 1) := by decide +kernel
theorem dX12_findCut_82 : decode cX12_findCut 82 = .ok (.iaload, 1) := by decide +kernel
theorem dX12_findCut_83 : decode cX12_findCut 83 = .ok (.iastore, 1) := by decide +kernel
theorem dX12_findCut_84 : decode cX12_findCut 84 = .ok (.aload_n 0, 1) := by decide +kernel
theorem dX12_findCut_85 : decode cX12_findCut 85 = .ok (.getfield 101, 3) := by decide +kernel
theorem dX12_findCut_88 : decode cX12_findCut 88 = .ok (.iload 5, 2) := by decide +kernel
theorem dX12_findCut_90 : decode cX12_findCut 90 = .ok (.aload_n 0, 1) := by decide +kernel
theorem dX12_findCut_91 : decode cX12_findCut 91 = .ok (.getfield 101, 3) := by decide +kernel
theorem dX12_findCut_94 : decode cX12_findCut 94 = .ok (.iload 5, 2) := by decide +kernel
theorem dX12_findCut_96 : decode cX12_findCut 96 = .ok (.iconst 1, 1) := by decide +kernel
theorem dX12_findCut_97 : decode cX12_findCut 97 = .ok (.isub, 1) := by decide +kernel
theorem dX12_findCut_98 : decode cX12_findCut 98 = .ok (.iaload, 1) := by decide +kernel
theorem dX12_findCut_99 : decode cX12_findCut 99 = .ok (.iastore, 1) := by decide +kernel
theorem dX12_findCut_100 : decode cX12_findCut 100 = .ok (.iinc 5 (-1), 3) := by decide +kernel
theorem dX12_findCut_103 : decode cX12_findCut 103 = .ok (.goto (-54), 3) := by decide +kernel
theorem dX12_findCut_106 : decode cX12_findCut 106 = .ok (.aload_n 0, 1) := by decide +kernel
theorem dX12_findCut_107 : decode cX12_findCut 107 = .ok (.getfield 98, 3) := by decide +kernel
theorem dX12_findCut_110 : decode cX12_findCut 110 = .ok (.iload 5, 2) := by decide +kernel
theorem dX12_findCut_112 : decode cX12_findCut 112 = .ok (.iload_n 3, 1) := by decide +kernel
theorem dX12_findCut_113 : decode cX12_findCut 113 = .ok (.iastore, 1) := by decide +kernel
theorem dX12_findCut_114 : decode cX12_findCut 114 = .ok (.aload_n 0, 1) := by decide +kernel
theorem dX12_findCut_115 : decode cX12_findCut 115 = .ok (.getfield 101, 3) := by decide +kernel
theorem dX12_findCut_118 : decode cX12_findCut 118 = .ok (.iload 5, 2) := by decide +kernel
theorem dX12_findCut_120 : decode cX12_findCut 120 = .ok (.iload 4, 2) := by decide +kernel
theorem dX12_findCut_122 : decode cX12_findCut 122 = .ok (.iastore, 1) := by decide +kernel
theorem dX12_findCut_123 : decode cX12_findCut 123 = .ok (.aload_n 0, 1) := by decide +kernel
theorem dX12_findCut_124 : decode cX12_findCut 124 = .ok (.dup, 1) := by decide +kernel
theorem dX12_findCut_125 : decode cX12_findCut 125 = .ok (.getfield 246, 3) := by decide +kernel
theorem dX12_findCut_128 : decode cX12_findCut 128 = .ok (.iconst 1, 1) := by decide +kernel
theorem dX12_findCut_129 : decode cX12_findCut 129 = .ok (.iadd, 1) := by decide +kernel
theorem dX12_findCut_130 : decode cX12_findCut 130 = .ok (.putfield 246, 3) := by decide +kernel
theorem dX12_findCut_133 : decode cX12_findCut 133 = .ok (.iinc 3 1, 3) := by decide +kernel
theorem dX12_findCut_136 : decode cX12_findCut 136 = .ok (.goto (-129), 3) := by decide +kernel
theorem dX12_findCut_139 : decode cX12_findCut 139 = .ok (.iload_n 2, 1) := by decide +kernel
theorem dX12_findCut_140 : decode cX12_findCut 140 = .ok (.aload_n 0, 1) := by decide +kernel
theorem dX12_findCut_141 : decode cX12_findCut 141 = .ok (.getfield 246, 3) := by decide +kernel
theorem dX12_findCut_144 : decode cX12_findCut 144 = .ok (.if_icmp .ge 7, 3) := by decide +kernel
theorem dX12_findCut_147 : decode cX12_findCut 147 = .ok (.iload_n 2, 1) := by decide +kernel
theorem dX12_findCut_148 : decode cX12_findCut 148 = .ok (.goto 7, 3) := by decide +kernel
theorem dX12_findCut_151 : decode cX12_findCut 151 = .ok (.aload_n 0, 1) := by decide +kernel
theorem dX12_findCut_152 : decode cX12_findCut 152 = .ok (.getfield 246, 3) := by decide +kernel
theorem dX12_findCut_155 : decode cX12_findCut 155 = .ok (.ireturn, 1) := by decide +kernel
theorem dX12_wrongMany_0 : decode cX12_wrongMany 0 = .ok (.iload_n 0, 1) := by decide +kernel
theorem dX12_wrongMany_1 : decode cX12_wrongMany 1 = .ok (.ifCond .ge 8, 3) := by decide +kernel
theorem dX12_wrongMany_4 : decode cX12_wrongMany 4 = .ok (.bipush (-4), 2) := by decide +kernel
theorem dX12_wrongMany_6 : decode cX12_wrongMany 6 = .ok (.goto 15, 3) := by decide +kernel
theorem dX12_wrongMany_9 : decode cX12_wrongMany 9 = .ok (.iload_n 0, 1) := by decide +kernel
theorem dX12_wrongMany_10 : decode cX12_wrongMany 10 = .ok (.bipush 40, 2) := by decide +kernel
theorem dX12_wrongMany_12 : decode cX12_wrongMany 12 = .ok (.if_icmp .le 8, 3) := by decide +kernel
theorem dX12_wrongMany_15 : decode cX12_wrongMany 15 = .ok (.bipush (-6), 2) := by decide +kernel
theorem dX12_wrongMany_17 : decode cX12_wrongMany 17 = .ok (.goto 4, 3) := by decide +kernel
theorem dX12_wrongMany_20 : decode cX12_wrongMany 20 = .ok (.iconst 0, 1) := by decide +kernel
theorem dX12_wrongMany_21 : decode cX12_wrongMany 21 = .ok (.ireturn, 1) := by decide +kernel
theorem dX12_cut_0 : decode cX12_cut 0 = .ok (.aload_n 0, 1) := by decide +kernel
theorem dX12_cut_1 : decode cX12_cut 1 = .ok (.iload_n 1, 1) := by decide +kernel
theorem dX12_cut_2 : decode cX12_cut 2 = .ok (.iload_n 2, 1) := by decide +kernel
theorem dX12_cut_3 : decode cX12_cut 3 = .ok (.invokevirtual 258, 3) := by decide +kernel
theorem dX12_cut_6 : decode cX12_cut 6 = .ok (.ifCond .ne 9, 3) := by decide +kernel
theorem dX12_cut_9 : decode cX12_cut 9 = .ok (.aload_n 0, 1) := by decide +kernel
theorem dX12_cut_10 : decode cX12_cut 10 = .ok (.iconst (-1), 1) := by decide +kernel
theorem dX12_cut_11 : decode cX12_cut 11 = .ok (.invokevirtual 174, 3) := by decide +kernel
theorem dX12_cut_14 : decode cX12_cut 14 = .ok (.ireturn, 1) := by decide +kernel
theorem dX12_cut_15 : decode cX12_cut 15 = .ok (.iload_n 3, 1) := by decide +kernel
theorem dX12_cut_16 : decode cX12_cut 16 = .ok (.invokestatic 261, 3) := by decide +kernel
theorem dX12_cut_19 : decode cX12_cut 19 = .ok (.ifCond .ge 12, 3) := by decide +kernel
theorem dX12_cut_22 : decode cX12_cut 22 = .ok (.aload_n 0, 1) := by decide +kernel
theorem dX12_cut_23 : decode cX12_cut 23 = .ok (.iload_n 3, 1) := by decide +kernel
theorem dX12_cut_24 : decode cX12_cut 24 = .ok (.invokestatic 261, 3) := by decide +kernel
theorem dX12_cut_27 : decode cX12_cut 27 = .ok (.invokevirtual 174, 3) := by decide +kernel
theorem dX12_cut_30 : decode cX12_cut 30 = .ok (.ireturn, 1) := by decide +kernel
theorem dX12_cut_31 : decode cX12_cut 31 = .ok (.aload_n 0, 1) := by decide +kernel
theorem dX12_cut_32 : decode cX12_cut 32 = .ok (.iload_n 2, 1) := by decide +kernel
theorem dX12_cut_33 : decode cX12_cut 33 = .ok (.iload_n 3, 1) := by decide +kernel
theorem dX12_cut_34 : decode cX12_cut 34 = .ok (.invokevirtual 264, 3) := by decide +kernel
theorem dX12_cut_37 : decode cX12_cut 37 = .ok (.istore 5, 2) := by decide +kernel
theorem dX12_cut_39 : decode cX12_cut 39 = .ok (.iload 4, 2) := by decide +kernel
theorem dX12_cut_41 : decode cX12_cut 41 = .ok (.iconst 0, 1) := by decide +kernel
theorem dX12_cut_42 : decode cX12_cut 42 = .ok (.iload 5, 2) := by decide +kernel
theorem dX12_cut_44 : decode cX12_cut 44 = .ok (.iconst 1, 1) := by decide +kernel
theorem dX12_cut_45 : decode cX12_cut 45 = .ok (.isub, 1) := by decide +kernel
theorem dX12_cut_46 : decode cX12_cut 46 = .ok (.invokestatic 157, 3) := by decide +kernel
theorem dX12_cut_49 : decode cX12_cut 49 = .ok (.ifCond .eq 13, 3) := by decide +kernel
theorem dX12_cut_52 : decode cX12_cut 52 = .ok (.aload_n 0, 1) := by decide +kernel
theorem dX12_cut_53 : decode cX12_cut 53 = .ok (.getfield 98, 3) := by decide +kernel
theorem dX12_cut_56 : decode cX12_cut 56 = .ok (.iload 4, 2) := by decide +kernel
theorem dX12_cut_58 : decode cX12_cut 58 = .ok (.iaload, 1) := by decide +kernel
theorem dX12_cut_59 : decode cX12_cut 59 = .ok (.goto 5, 3) := by decide +kernel
theorem dX12_cut_62 : decode cX12_cut 62 = .ok (.bipush (-9), 2) := by decide +kernel
theorem dX12_cut_64 : decode cX12_cut 64 = .ok (.ireturn, 1) := by decide +kernel
theorem dX12_isCut_0 : decode cX12_isCut 0 = .ok (.aload_n 0, 1) := by decide +kernel
theorem dX12_isCut_1 : decode cX12_isCut 1 = .ok (.iload_n 2, 1) := by decide +kernel
theorem dX12_isCut_2 : decode cX12_isCut 2 = .ok (.iload_n 3, 1) := by decide +kernel
theorem dX12_isCut_3 : decode cX12_isCut 3 = .ok (.invokevirtual 264, 3) := by decide +kernel
theorem dX12_isCut_6 : decode cX12_isCut 6 = .ok (.istore 4, 2) := by decide +kernel
theorem dX12_isCut_8 : decode cX12_isCut 8 = .ok (.iconst 0, 1) := by decide +kernel
theorem dX12_isCut_9 : decode cX12_isCut 9 = .ok (.istore 5, 2) := by decide +kernel
theorem dX12_isCut_11 : decode cX12_isCut 11 = .ok (.iconst 0, 1) := by decide +kernel
theorem dX12_isCut_12 : decode cX12_isCut 12 = .ok (.istore 6, 2) := by decide +kernel
theorem dX12_isCut_14 : decode cX12_isCut 14 = .ok (.iload 6, 2) := by decide +kernel
theorem dX12_isCut_16 : decode cX12_isCut 16 = .ok (.iload 4, 2) := by decide +kernel
theorem dX12_isCut_18 : decode cX12_isCut 18 = .ok (.if_icmp .ge 32, 3) := by decide +kernel
theorem dX12_isCut_21 : decode cX12_isCut 21 = .ok (.iload 5, 2) := by decide +kernel
theorem dX12_isCut_23 : decode cX12_isCut 23 = .ok (.ifCond .ne 14, 3) := by decide +kernel
theorem dX12_isCut_26 : decode cX12_isCut 26 = .ok (.aload_n 0, 1) := by decide +kernel
theorem dX12_isCut_27 : decode cX12_isCut 27 = .ok (.getfield 98, 3) := by decide +kernel
theorem dX12_isCut_30 : decode cX12_isCut 30 = .ok (.iload 6, 2) := by decide +kernel
theorem dX12_isCut_32 : decode cX12_isCut 32 = .ok (.iaload, 1) := by decide +kernel
theorem dX12_isCut_33 : decode cX12_isCut 33 = .ok (.iload_n 1, 1) := by decide +kernel
theorem dX12_isCut_34 : decode cX12_isCut 34 = .ok (.if_icmp .ne 7, 3) := by decide +kernel
theorem dX12_isCut_37 : decode cX12_isCut 37 = .ok (.iconst 1, 1) := by decide +kernel
theorem dX12_isCut_38 : decode cX12_isCut 38 = .ok (.goto 4, 3) := by decide +kernel
theorem dX12_isCut_41 : decode cX12_isCut 41 = .ok (.iconst 0, 1) := by decide +kernel
theorem dX12_isCut_42 : decode cX12_isCut 42 = .ok (.istore 5, 2) := by decide +kernel
theorem dX12_isCut_44 : decode cX12_isCut 44 = .ok (.iinc 6 1, 3) := by decide +kernel
theorem dX12_isCut_47 : decode cX12_isCut 47 = .ok (.goto (-33), 3) := by decide +kernel
theorem dX12_isCut_50 : decode cX12_isCut 50 = .ok (.iload 5, 2) := by decide +kernel
theorem dX12_isCut_52 : decode cX12_isCut 52 = .ok (.ireturn, 1) := by decide +kernel
theorem dX12_volunteer_0 : decode cX12_volunteer 0 = .ok (.aload_n 0, 1) := by decide +kernel
theorem dX12_volunteer_1 : decode cX12_volunteer 1 = .ok (.iload_n 1, 1) := by decide +kernel
theorem dX12_volunteer_2 : decode cX12_volunteer 2 = .ok (.invokevirtual 194, 3) := by decide +kernel
theorem dX12_volunteer_5 : decode cX12_volunteer 5 = .ok (.ifCond .ne 9, 3) := by decide +kernel
theorem dX12_volunteer_8 : decode cX12_volunteer 8 = .ok (.aload_n 0, 1) := by decide +kernel
theorem dX12_volunteer_9 : decode cX12_volunteer 9 = .ok (.iconst (-1), 1) := by decide +kernel
theorem dX12_volunteer_10 : decode cX12_volunteer 10 = .ok (.invokevirtual 197, 3) := by decide +kernel
theorem dX12_volunteer_13 : decode cX12_volunteer 13 = .ok (.ireturn, 1) := by decide +kernel
theorem dX12_volunteer_14 : decode cX12_volunteer 14 = .ok (.aload_n 0, 1) := by decide +kernel
theorem dX12_volunteer_15 : decode cX12_volunteer 15 = .ok (.iload_n 1, 1) := by decide +kernel
theorem dX12_volunteer_16 : decode cX12_volunteer 16 = .ok (.invokevirtual 200, 3) := by decide +kernel
theorem dX12_volunteer_19 : decode cX12_volunteer 19 = .ok (.ifCond .ne 10, 3) := by decide +kernel
theorem dX12_volunteer_22 : decode cX12_volunteer 22 = .ok (.aload_n 0, 1) := by decide +kernel
theorem dX12_volunteer_23 : decode cX12_volunteer 23 = .ok (.bipush (-3), 2) := by decide +kernel
theorem dX12_volunteer_25 : decode cX12_volunteer 25 = .ok (.invokevirtual 197, 3) := by decide +kernel
theorem dX12_volunteer_28 : decode cX12_volunteer 28 = .ok (.ireturn, 1) := by decide +kernel
theorem dX12_volunteer_29 : decode cX12_volunteer 29 = .ok (.iload_n 2, 1) := by decide +kernel
theorem dX12_volunteer_30 : decode cX12_volunteer 30 = .ok (.iconst (-1), 1) := by decide +kernel
theorem dX12_volunteer_31 : decode cX12_volunteer 31 = .ok (.if_icmp .ge 10, 3) := by decide +kernel
theorem dX12_volunteer_34 : decode cX12_volunteer 34 = .ok (.aload_n 0, 1) := by decide +kernel
theorem dX12_volunteer_35 : decode cX12_volunteer 35 = .ok (.bipush (-4), 2) := by decide +kernel
theorem dX12_volunteer_37 : decode cX12_volunteer 37 = .ok (.invokevirtual 197, 3) := by decide +kernel
theorem dX12_volunteer_40 : decode cX12_volunteer 40 = .ok (.ireturn, 1) := by decide +kernel
theorem dX12_volunteer_41 : decode cX12_volunteer 41 = .ok (.iload_n 2, 1) := by decide +kernel
theorem dX12_volunteer_42 : decode cX12_volunteer 42 = .ok (.ldc_w 267, 3) := by decide +kernel
theorem dX12_volunteer_45 : decode cX12_volunteer 45 = .ok (.if_icmp .le 10, 3) := by decide +kernel
theorem dX12_volunteer_48 : decode cX12_volunteer 48 = .ok (.aload_n 0, 1) := by decide +kernel
theorem dX12_volunteer_49 : decode cX12_volunteer 49 = .ok (.bipush (-6), 2) := by decide +kernel
theorem dX12_volunteer_51 : decode cX12_volunteer 51 = .ok (.invokevirtual 197, 3) := by decide +kernel
theorem dX12_volunteer_54 : decode cX12_volunteer 54 = .ok (.ireturn, 1) := by decide +kernel
theorem dX12_volunteer_55 : decode cX12_volunteer 55 = .ok (.aload_n 0, 1) := by decide +kernel
theorem dX12_volunteer_56 : decode cX12_volunteer 56 = .ok (.getfield 55, 3) := by decide +kernel
theorem dX12_volunteer_59 : decode cX12_volunteer 59 = .ok (.iload_n 1, 1) := by decide +kernel
theorem dX12_volunteer_60 : decode cX12_volunteer 60 = .ok (.iaload, 1) := by decide +kernel
theorem dX12_volunteer_61 : decode cX12_volunteer 61 = .ok (.istore_n 3, 1) := by decide +kernel
theorem dX12_volunteer_62 : decode cX12_volunteer 62 = .ok (.aload_n 0, 1) := by decide +kernel
theorem dX12_volunteer_63 : decode cX12_volunteer 63 = .ok (.getfield 55, 3) := by decide +kernel
theorem dX12_volunteer_66 : decode cX12_volunteer 66 = .ok (.iload_n 1, 1) := by decide +kernel
theorem dX12_volunteer_67 : decode cX12_volunteer 67 = .ok (.iload_n 2, 1) := by decide +kernel
theorem dX12_volunteer_68 : decode cX12_volunteer 68 = .ok (.iastore, 1) := by decide +kernel
theorem dX12_volunteer_69 : decode cX12_volunteer 69 = .ok (.iload_n 3, 1) := by decide +kernel
theorem dX12_volunteer_70 : decode cX12_volunteer 70 = .ok (.ireturn, 1) := by decide +kernel
theorem dX12_severanceOf_0 : decode cX12_severanceOf 0 = .ok (.aload_n 0, 1) := by decide +kernel
theorem dX12_severanceOf_1 : decode cX12_severanceOf 1 = .ok (.iload_n 1, 1) := by decide +kernel
theorem dX12_severanceOf_2 : decode cX12_severanceOf 2 = .ok (.invokevirtual 227, 3) := by decide +kernel
theorem dX12_severanceOf_5 : decode cX12_severanceOf 5 = .ok (.bipush 30, 2) := by decide +kernel
theorem dX12_severanceOf_7 : decode cX12_severanceOf 7 = .ok (.if_icmp .le 8, 3) := by decide +kernel
theorem dX12_severanceOf_10 : decode cX12_severanceOf 10 = .ok (.bipush 30, 2) := by decide +kernel
theorem dX12_severanceOf_12 : decode cX12_severanceOf 12 = .ok (.goto 8, 3) := by decide +kernel
theorem dX12_severanceOf_15 : decode cX12_severanceOf 15 = .ok (.aload_n 0, 1) := by decide +kernel
theorem dX12_severanceOf_16 : decode cX12_severanceOf 16 = .ok (.iload_n 1, 1) := by decide +kernel
theorem dX12_severanceOf_17 : decode cX12_severanceOf 17 = .ok (.invokevirtual 227, 3) := by decide +kernel
theorem dX12_severanceOf_20 : decode cX12_severanceOf 20 = .ok (.istore_n 2, 1) := by decide +kernel
theorem dX12_severanceOf_21 : decode cX12_severanceOf 21 = .ok (.iload_n 2, 1) := by decide +kernel
theorem dX12_severanceOf_22 : decode cX12_severanceOf 22 = .ok (.aload_n 0, 1) := by decide +kernel
theorem dX12_severanceOf_23 : decode cX12_severanceOf 23 = .ok (.getfield 40, 3) := by decide +kernel
theorem dX12_severanceOf_26 : decode cX12_severanceOf 26 = .ok (.iload_n 1, 1) := by decide +kernel
theorem dX12_severanceOf_27 : decode cX12_severanceOf 27 = .ok (.iaload, 1) := by decide +kernel
theorem dX12_severanceOf_28 : decode cX12_severanceOf 28 = .ok (.aload_n 0, 1) := by decide +kernel
theorem dX12_severanceOf_29 : decode cX12_severanceOf 29 = .ok (.getfield 62, 3) := by decide +kernel
theorem dX12_severanceOf_32 : decode cX12_severanceOf 32 = .ok (.if_icmp .ge 12, 3) := by decide +kernel
theorem dX12_severanceOf_35 : decode cX12_severanceOf 35 = .ok (.aload_n 0, 1) := by decide +kernel
theorem dX12_severanceOf_36 : decode cX12_severanceOf 36 = .ok (.getfield 40, 3) := by decide +kernel
theorem dX12_severanceOf_39 : decode cX12_severanceOf 39 = .ok (.iload_n 1, 1) := by decide +kernel
theorem dX12_severanceOf_40 : decode cX12_severanceOf 40 = .ok (.iaload, 1) := by decide +kernel
theorem dX12_severanceOf_41 : decode cX12_severanceOf 41 = .ok (.goto 7, 3) := by decide +kernel
theorem dX12_severanceOf_44 : decode cX12_severanceOf 44 = .ok (.aload_n 0, 1) := by decide +kernel
theorem dX12_severanceOf_45 : decode cX12_severanceOf 45 = .ok (.getfield 62, 3) := by decide +kernel
theorem dX12_severanceOf_48 : decode cX12_severanceOf 48 = .ok (.imul, 1) := by decide +kernel
theorem dX12_severanceOf_49 : decode cX12_severanceOf 49 = .ok (.ireturn, 1) := by decide +kernel
theorem dX12_severance_0 : decode cX12_severance 0 = .ok (.aload_n 0, 1) := by decide +kernel
theorem dX12_severance_1 : decode cX12_severance 1 = .ok (.iload_n 1, 1) := by decide +kernel
theorem dX12_severance_2 : decode cX12_severance 2 = .ok (.invokevirtual 194, 3) := by decide +kernel
theorem dX12_severance_5 : decode cX12_severance 5 = .ok (.ifCond .eq 11, 3) := by decide +kernel
theorem dX12_severance_8 : decode cX12_severance 8 = .ok (.aload_n 0, 1) := by decide +kernel
theorem dX12_severance_9 : decode cX12_severance 9 = .ok (.iload_n 1, 1) := by decide +kernel
theorem dX12_severance_10 : decode cX12_severance 10 = .ok (.invokevirtual 268, 3) := by decide +kernel
theorem dX12_severance_13 : decode cX12_severance 13 = .ok (.goto 8, 3) := by decide +kernel
theorem dX12_severance_16 : decode cX12_severance 16 = .ok (.aload_n 0, 1) := by decide +kernel
theorem dX12_severance_17 : decode cX12_severance 17 = .ok (.iconst (-1), 1) := by decide +kernel
theorem dX12_severance_18 : decode cX12_severance 18 = .ok (.invokevirtual 174, 3) := by decide +kernel
theorem dX12_severance_21 : decode cX12_severance 21 = .ok (.ireturn, 1) := by decide +kernel
theorem dX12_findPeople_0 : decode cX12_findPeople 0 = .ok (.aload_n 0, 1) := by decide +kernel
theorem dX12_findPeople_1 : decode cX12_findPeople 1 = .ok (.iconst 0, 1) := by decide +kernel
theorem dX12_findPeople_2 : decode cX12_findPeople 2 = .ok (.putfield 271, 3) := by decide +kernel
theorem dX12_findPeople_5 : decode cX12_findPeople 5 = .ok (.aload_n 0, 1) := by decide +kernel
theorem dX12_findPeople_6 : decode cX12_findPeople 6 = .ok (.iconst 0, 1) := by decide +kernel
theorem dX12_findPeople_7 : decode cX12_findPeople 7 = .ok (.putfield 274, 3) := by decide +kernel
theorem dX12_findPeople_10 : decode cX12_findPeople 10 = .ok (.iconst 0, 1) := by decide +kernel
theorem dX12_findPeople_11 : decode cX12_findPeople 11 = .ok (.istore_n 2, 1) := by decide +kernel
theorem dX12_findPeople_12 : decode cX12_findPeople 12 = .ok (.iload_n 2, 1) := by decide +kernel
theorem dX12_findPeople_13 : decode cX12_findPeople 13 = .ok (.aload_n 0, 1) := by decide +kernel
theorem dX12_findPeople_14 : decode cX12_findPeople 14 = .ok (.getfield 164, 3) := by decide +kernel
theorem dX12_findPeople_17 : decode cX12_findPeople 17 = .ok (.if_icmp .ge 38, 3) := by decide +kernel
theorem dX12_findPeople_20 : decode cX12_findPeople 20 = .ok (.aload_n 0, 1) := by decide +kernel
theorem dX12_findPeople_21 : decode cX12_findPeople 21 = .ok (.iload_n 2, 1) := by decide +kernel
theorem dX12_findPeople_22 : decode cX12_findPeople 22 = .ok (.iload_n 1, 1) := by decide +kernel
theorem dX12_findPeople_23 : decode cX12_findPeople 23 = .ok (.invokevirtual 249, 3) := by decide +kernel
theorem dX12_findPeople_26 : decode cX12_findPeople 26 = .ok (.ifCond .eq 23, 3) := by decide +kernel
theorem dX12_findPeople_29 : decode cX12_findPeople 29 = .ok (.aload_n 0, 1) := by decide +kernel
theorem dX12_findPeople_30 : decode cX12_findPeople 30 = .ok (.getfield 104, 3) := by decide +kernel
theorem dX12_findPeople_33 : decode cX12_findPeople 33 = .ok (.aload_n 0, 1) := by decide +kernel
theorem dX12_findPeople_34 : decode cX12_findPeople 34 = .ok (.getfield 271, 3) := by decide +kernel
theorem dX12_findPeople_37 : decode cX12_findPeople 37 = .ok (.iload_n 2, 1) := by decide +kernel
theorem dX12_findPeople_38 : decode cX12_findPeople 38 = .ok (.iastore, 1) := by decide +kernel
theorem dX12_findPeople_39 : decode cX12_findPeople 39 = .ok (.aload_n 0, 1) := by decide +kernel
theorem dX12_findPeople_40 : decode cX12_findPeople 40 = .ok (.dup, 1) := by decide +kernel
theorem dX12_findPeople_41 : decode cX12_findPeople 41 = .ok (.getfield 271, 3) := by decide +kernel
theorem dX12_findPeople_44 : decode cX12_findPeople 44 = .ok (.iconst 1, 1) := by decide +kernel
theorem dX12_findPeople_45 : decode cX12_findPeople 45 = .ok (.iadd, 1) := by decide +kernel
theorem dX12_findPeople_46 : decode cX12_findPeople 46 = .ok (.putfield 271, 3) := by decide +kernel
theorem dX12_findPeople_49 : decode cX12_findPeople 49 = .ok (.iinc 2 1, 3) := by decide +kernel
theorem dX12_findPeople_52 : decode cX12_findPeople 52 = .ok (.goto (-40), 3) := by decide +kernel
theorem dX12_findPeople_55 : decode cX12_findPeople 55 = .ok (.iconst 0, 1) := by decide +kernel
theorem dX12_findPeople_56 : decode cX12_findPeople 56 = .ok (.istore_n 2, 1) := by decide +kernel
theorem dX12_findPeople_57 : decode cX12_findPeople 57 = .ok (.iload_n 2, 1) := by decide +kernel
theorem dX12_findPeople_58 : decode cX12_findPeople 58 = .ok (.aload_n 0, 1) := by decide +kernel
theorem dX12_findPeople_59 : decode cX12_findPeople 59 = .ok (.getfield 161, 3) := by decide +kernel
theorem dX12_findPeople_62 : decode cX12_findPeople 62 = .ok (.if_icmp .ge 38, 3) := by decide +kernel
theorem dX12_findPeople_65 : decode cX12_findPeople 65 = .ok (.aload_n 0, 1) := by decide +kernel
theorem dX12_findPeople_66 : decode cX12_findPeople 66 = .ok (.dup, 1) := by decide +kernel
theorem dX12_findPeople_67 : decode cX12_findPeople 67 = .ok (.getfield 274, 3) := by decide +kernel
theorem dX12_findPeople_70 : decode cX12_findPeople 70 = .ok (.aload_n 0, 1) := by decide +kernel
theorem dX12_findPeople_71 : decode cX12_findPeople 71 = .ok (.getfield 95, 3) := by decide +kernel
theorem dX12_findPeople_74 : decode cX12_findPeople 74 = .ok (.iload_n 2, 1) := by decide +kernel
theorem dX12_findPeople_75 : decode cX12_findPeople 75 = .ok (.iaload, 1) := by decide +kernel
theorem dX12_findPeople_76 : decode cX12_findPeople 76 = .ok (.iload_n 1, 1) := by decide +kernel
theorem dX12_findPeople_77 : decode cX12_findPeople 77 = .ok (.if_icmp .ne 12, 3) := by decide +kernel
theorem dX12_findPeople_80 : decode cX12_findPeople 80 = .ok (.aload_n 0, 1) := by decide +kernel
theorem dX12_findPeople_81 : decode cX12_findPeople 81 = .ok (.getfield 28, 3) := by decide +kernel
theorem dX12_findPeople_84 : decode cX12_findPeople 84 = .ok (.iload_n 2, 1) := by decide +kernel
theorem dX12_findPeople_85 : decode cX12_findPeople 85 = .ok (.iaload, 1) := by decide +kernel
theorem dX12_findPeople_86 : decode cX12_findPeople 86 = .ok (.goto 4, 3) := by decide +kernel
theorem dX12_findPeople_89 : decode cX12_findPeople 89 = .ok (.iconst 0, 1) := by decide +kernel
theorem dX12_findPeople_90 : decode cX12_findPeople 90 = .ok (.ior, 1) := by decide +kernel
theorem dX12_findPeople_91 : decode cX12_findPeople 91 = .ok (.putfield 274, 3) := by decide +kernel
theorem dX12_findPeople_94 : decode cX12_findPeople 94 = .ok (.iinc 2 1, 3) := by decide +kernel
theorem dX12_findPeople_97 : decode cX12_findPeople 97 = .ok (.goto (-40), 3) := by decide +kernel
theorem dX12_findPeople_100 : decode cX12_findPeople 100 = .ok (.return_, 1) := by decide +kernel
theorem dX12_mayGo_0 : decode cX12_mayGo 0 = .ok (.iconst 0, 1) := by decide +kernel
theorem dX12_mayGo_1 : decode cX12_mayGo 1 = .ok (.istore_n 2, 1) := by decide +kernel
theorem dX12_mayGo_2 : decode cX12_mayGo 2 = .ok (.iload_n 2, 1) := by decide +kernel
theorem dX12_mayGo_3 : decode cX12_mayGo 3 = .ok (.aload_n 0, 1) := by decide +kernel
theorem dX12_mayGo_4 : decode cX12_mayGo 4 = .ok (.getfield 271, 3) := by decide +kernel
theorem dX12_mayGo_7 : decode cX12_mayGo 7 = .ok (.if_icmp .ge 44, 3) := by decide +kernel
theorem dX12_mayGo_10 : decode cX12_mayGo 10 = .ok (.aload_n 0, 1) := by decide +kernel
theorem dX12_mayGo_11 : decode cX12_mayGo 11 = .ok (.getfield 104, 3) := by decide +kernel
theorem dX12_mayGo_14 : decode cX12_mayGo 14 = .ok (.iload_n 2, 1) := by decide +kernel
theorem dX12_mayGo_15 : decode cX12_mayGo 15 = .ok (.iaload, 1) := by decide +kernel
theorem dX12_mayGo_16 : decode cX12_mayGo 16 = .ok (.istore_n 3, 1) := by decide +kernel
theorem dX12_mayGo_17 : decode cX12_mayGo 17 = .ok (.iload_n 1, 1) := by decide +kernel
theorem dX12_mayGo_18 : decode cX12_mayGo 18 = .ok (.iload_n 2, 1) := by decide +kernel
theorem dX12_mayGo_19 : decode cX12_mayGo 19 = .ok (.ishr, 1) := by decide +kernel
theorem dX12_mayGo_20 : decode cX12_mayGo 20 = .ok (.iconst 1, 1) := by decide +kernel
theorem dX12_mayGo_21 : decode cX12_mayGo 21 = .ok (.iand, 1) := by decide +kernel
theorem dX12_mayGo_22 : decode cX12_mayGo 22 = .ok (.iconst 1, 1) := by decide +kernel
theorem dX12_mayGo_23 : decode cX12_mayGo 23 = .ok (.if_icmp .ne 22, 3) := by decide +kernel
theorem dX12_mayGo_26 : decode cX12_mayGo 26 = .ok (.aload_n 0, 1) := by decide +kernel
theorem dX12_mayGo_27 : decode cX12_mayGo 27 = .ok (.iload_n 3, 1) := by decide +kernel
theorem dX12_mayGo_28 : decode cX12_mayGo 28 = .ok (.invokevirtual 252, 3) := by decide +kernel
theorem dX12_mayGo_31 : decode cX12_mayGo 31 = .ok (.ifCond .eq 14, 3) := by decide +kernel
theorem dX12_mayGo_34 : decode cX12_mayGo 34 = .ok (.aload_n 0, 1) := by decide +kernel
theorem dX12_mayGo_35 : decode cX12_mayGo 35 = .ok (.getfield 55, 3) := by decide +kernel
theorem dX12_mayGo_38 : decode cX12_mayGo 38 = .ok (.iload_n 3, 1) := by decide +kernel
theorem dX12_mayGo_39 : decode cX12_mayGo 39 = .ok (.iaload, 1) := by decide +kernel
theorem dX12_mayGo_40 : decode cX12_mayGo 40 = .ok (.ifCond .ge 5, 3) := by decide +kernel
theorem dX12_mayGo_43 : decode cX12_mayGo 43 = .ok (.iconst 0, 1) := by decide +kernel
theorem dX12_mayGo_44 : decode cX12_mayGo 44 = .ok (.ireturn, 1) := by decide +kernel
theorem dX12_mayGo_45 : decode cX12_mayGo 45 = .ok (.iinc 2 1, 3) := by decide +kernel
theorem dX12_mayGo_48 : decode cX12_mayGo 48 = .ok (.goto (-46), 3) := by decide +kernel
theorem dX12_mayGo_51 : decode cX12_mayGo 51 = .ok (.iconst 0, 1) := by decide +kernel
theorem dX12_mayGo_52 : decode cX12_mayGo 52 = .ok (.istore_n 2, 1) := by decide +kernel
theorem dX12_mayGo_53 : decode cX12_mayGo 53 = .ok (.iload_n 2, 1) := by decide +kernel
theorem dX12_mayGo_54 : decode cX12_mayGo 54 = .ok (.bipush 10, 2) := by decide +kernel
theorem dX12_mayGo_56 : decode cX12_mayGo 56 = .ok (.if_icmp .ge 104, 3) := by decide +kernel
theorem dX12_mayGo_59 : decode cX12_mayGo 59 = .ok (.iconst 0, 1) := by decide +kernel
theorem dX12_mayGo_60 : decode cX12_mayGo 60 = .ok (.istore_n 3, 1) := by decide +kernel
theorem dX12_mayGo_61 : decode cX12_mayGo 61 = .ok (.iconst 0, 1) := by decide +kernel
theorem dX12_mayGo_62 : decode cX12_mayGo 62 = .ok (.istore 4, 2) := by decide +kernel
theorem dX12_mayGo_64 : decode cX12_mayGo 64 = .ok (.iconst 0, 1) := by decide +kernel
theorem dX12_mayGo_65 : decode cX12_mayGo 65 = .ok (.istore 5, 2) := by decide +kernel
theorem dX12_mayGo_67 : decode cX12_mayGo 67 = .ok (.iload 5, 2) := by decide +kernel
theorem dX12_mayGo_69 : decode cX12_mayGo 69 = .ok (.aload_n 0, 1) := by decide +kernel
theorem dX12_mayGo_70 : decode cX12_mayGo 70 = .ok (.getfield 271, 3) := by decide +kernel
theorem dX12_mayGo_73 : decode cX12_mayGo 73 = .ok (.if_icmp .ge 52, 3) := by decide +kernel
theorem dX12_mayGo_76 : decode cX12_mayGo 76 = .ok (.aload_n 0, 1) := by decide +kernel
theorem dX12_mayGo_77 : decode cX12_mayGo 77 = .ok (.getfield 34, 3) := by decide +kernel
theorem dX12_mayGo_80 : decode cX12_mayGo 80 = .ok (.aload_n 0, 1) := by decide +kernel
theorem dX12_mayGo_81 : decode cX12_mayGo 81 = .ok (.getfield 104, 3) := by decide +kernel
theorem dX12_mayGo_84 : decode cX12_mayGo 84 = .ok (.iload 5, 2) := by decide +kernel
theorem dX12_mayGo_86 : decode cX12_mayGo 86 = .ok (.iaload, 1) := by decide +kernel
theorem dX12_mayGo_87 : decode cX12_mayGo 87 = .ok (.iaload, 1) := by decide +kernel
theorem dX12_mayGo_88 : decode cX12_mayGo 88 = .ok (.iload_n 2, 1) := by decide +kernel
theorem dX12_mayGo_89 : decode cX12_mayGo 89 = .ok (.ishr, 1) := by decide +kernel
theorem dX12_mayGo_90 : decode cX12_mayGo 90 = .ok (.iconst 1, 1) := by decide +kernel
theorem dX12_mayGo_91 : decode cX12_mayGo 91 = .ok (.iand, 1) := by decide +kernel
theorem dX12_mayGo_92 : decode cX12_mayGo 92 = .ok (.istore 6, 2) := by decide +kernel
theorem dX12_mayGo_94 : decode cX12_mayGo 94 = .ok (.iload_n 3, 1) := by decide +kernel
theorem dX12_mayGo_95 : decode cX12_mayGo 95 = .ok (.iload 6, 2) := by decide +kernel
theorem dX12_mayGo_97 : decode cX12_mayGo 97 = .ok (.iadd, 1) := by decide +kernel
theorem dX12_mayGo_98 : decode cX12_mayGo 98 = .ok (.istore_n 3, 1) := by decide +kernel
theorem dX12_mayGo_99 : decode cX12_mayGo 99 = .ok (.iload 4, 2) := by decide +kernel
theorem dX12_mayGo_101 : decode cX12_mayGo 101 = .ok (.iload_n 1, 1) := by decide +kernel
theorem dX12_mayGo_102 : decode cX12_mayGo 102 = .ok (.iload 5, 2) := by decide +kernel
theorem dX12_mayGo_104 : decode cX12_mayGo 104 = .ok (.ishr, 1) := by decide +kernel
theorem dX12_mayGo_105 : decode cX12_mayGo 105 = .ok (.iconst 1, 1) := by decide +kernel
theorem dX12_mayGo_106 : decode cX12_mayGo 106 = .ok (.iand, 1) := by decide +kernel
theorem dX12_mayGo_107 : decode cX12_mayGo 107 = .ok (.ifCond .ne 8, 3) := by decide +kernel
theorem dX12_mayGo_110 : decode cX12_mayGo 110 = .ok (.iload 6, 2) := by decide +kernel
theorem dX12_mayGo_112 : decode cX12_mayGo 112 = .ok (.goto 4, 3) := by decide +kernel
theorem dX12_mayGo_115 : decode cX12_mayGo 115 = .ok (.iconst 0, 1) := by decide +kernel
theorem dX12_mayGo_116 : decode cX12_mayGo 116 = .ok (.iadd, 1) := by decide +kernel
theorem dX12_mayGo_117 : decode cX12_mayGo 117 = .ok (.istore 4, 2) := by decide +kernel
theorem dX12_mayGo_119 : decode cX12_mayGo 119 = .ok (.iinc 5 1, 3) := by decide +kernel
theorem dX12_mayGo_122 : decode cX12_mayGo 122 = .ok (.goto (-55), 3) := by decide +kernel
theorem dX12_mayGo_125 : decode cX12_mayGo 125 = .ok (.aload_n 0, 1) := by decide +kernel
theorem dX12_mayGo_126 : decode cX12_mayGo 126 = .ok (.getfield 274, 3) := by decide +kernel
theorem dX12_mayGo_129 : decode cX12_mayGo 129 = .ok (.iload_n 2, 1) := by decide +kernel
theorem dX12_mayGo_130 : decode cX12_mayGo 130 = .ok (.ishr, 1) := by decide +kernel
theorem dX12_mayGo_131 : decode cX12_mayGo 131 = .ok (.iconst 1, 1) := by decide +kernel
theorem dX12_mayGo_132 : decode cX12_mayGo 132 = .ok (.iand, 1) := by decide +kernel
theorem dX12_mayGo_133 : decode cX12_mayGo 133 = .ok (.iconst 1, 1) := by decide +kernel
theorem dX12_mayGo_134 : decode cX12_mayGo 134 = .ok (.if_icmp .ne 20, 3) := by decide +kernel
theorem dX12_mayGo_137 : decode cX12_mayGo 137 = .ok (.iload 4, 2) := by decide +kernel
theorem dX12_mayGo_139 : decode cX12_mayGo 139 = .ok (.aload_n 0, 1) := by decide +kernel
theorem dX12_mayGo_140 : decode cX12_mayGo 140 = .ok (.getfield 188, 3) := by decide +kernel
theorem dX12_mayGo_143 : decode cX12_mayGo 143 = .ok (.if_icmp .ge 11, 3) := by decide +kernel
theorem dX12_mayGo_146 : decode cX12_mayGo 146 = .ok (.iload 4, 2) := by decide +kernel
theorem dX12_mayGo_148 : decode cX12_mayGo 148 = .ok (.iload_n 3, 1) := by decide +kernel
theorem dX12_mayGo_149 : decode cX12_mayGo 149 = .ok (.if_icmp .ge 5, 3) := by decide +kernel
theorem dX12_mayGo_152 : decode cX12_mayGo 152 = .ok (.iconst 0, 1) := by decide +kernel
theorem dX12_mayGo_153 : decode cX12_mayGo 153 = .ok (.ireturn, 1) := by decide +kernel
theorem dX12_mayGo_154 : decode cX12_mayGo 154 = .ok (.iinc 2 1, 3) := by decide +kernel
theorem dX12_mayGo_157 : decode cX12_mayGo 157 = .ok (.goto (-104), 3) := by decide +kernel
theorem dX12_mayGo_160 : decode cX12_mayGo 160 = .ok (.iconst 1, 1) := by decide +kernel
theorem dX12_mayGo_161 : decode cX12_mayGo 161 = .ok (.ireturn, 1) := by decide +kernel
theorem dX12_findChoice_0 : decode cX12_findChoice 0 = .ok (.aload_n 0, 1) := by decide +kernel
theorem dX12_findChoice_1 : decode cX12_findChoice 1 = .ok (.iconst (-1), 1) := by decide +kernel
theorem dX12_findChoice_2 : decode cX12_findChoice 2 = .ok (.putfield 277, 3) := by decide +kernel
theorem dX12_findChoice_5 : decode cX12_findChoice 5 = .ok (.iconst 0, 1) := by decide +kernel
theorem dX12_findChoice_6 : decode cX12_findChoice 6 = .ok (.istore_n 2, 1) := by decide +kernel
theorem dX12_findChoice_7 : decode cX12_findChoice 7 = .ok (.iload_n 2, 1) := by decide +kernel
theorem dX12_findChoice_8 : decode cX12_findChoice 8 = .ok (.aload_n 0, 1) := by decide +kernel
theorem dX12_findChoice_9 : decode cX12_findChoice 9 = .ok (.getfield 271, 3) := by decide +kernel
theorem dX12_findChoice_12 : decode cX12_findChoice 12 = .ok (.if_icmp .ge 62, 3) := by decide +kernel
theorem dX12_findChoice_15 : decode cX12_findChoice 15 = .ok (.aload_n 0, 1) := by decide +kernel
theorem dX12_findChoice_16 : decode cX12_findChoice 16 = .ok (.getfield 104, 3) := by decide +kernel
theorem dX12_findChoice_19 : decode cX12_findChoice 19 = .ok (.iload_n 2, 1) := by decide +kernel
theorem dX12_findChoice_20 : decode cX12_findChoice 20 = .ok (.iaload, 1) := by decide +kernel
theorem dX12_findChoice_21 : decode cX12_findChoice 21 = .ok (.istore_n 3, 1) := by decide +kernel
theorem dX12_findChoice_22 : decode cX12_findChoice 22 = .ok (.aload_n 0, 1) := by decide +kernel
theorem dX12_findChoice_23 : decode cX12_findChoice 23 = .ok (.getfield 107, 3) := by decide +kernel
theorem dX12_findChoice_26 : decode cX12_findChoice 26 = .ok (.iload_n 2, 1) := by decide +kernel
theorem dX12_findChoice_27 : decode cX12_findChoice 27 = .ok (.aload_n 0, 1) := by decide +kernel
theorem dX12_findChoice_28 : decode cX12_findChoice 28 = .ok (.iload_n 3, 1) := by decide +kernel
theorem dX12_findChoice_29 : decode cX12_findChoice 29 = .ok (.invokevirtual 268, 3) := by decide +kernel
theorem dX12_findChoice_32 : decode cX12_findChoice 32 = .ok (.aload_n 0, 1) := by decide +kernel
theorem dX12_findChoice_33 : decode cX12_findChoice 33 = .ok (.getfield 55, 3) := by decide +kernel
theorem dX12_findChoice_36 : decode cX12_findChoice 36 = .ok (.iload_n 3, 1) := by decide +kernel
theorem dX12_findChoice_37 : decode cX12_findChoice 37 = .ok (.iaload, 1) := by decide +kernel
theorem dX12_findChoice_38 : decode cX12_findChoice 38 = .ok (.ifCond .ge 7, 3) := by decide +kernel
theorem dX12_findChoice_41 : decode cX12_findChoice 41 = .ok (.iconst 0, 1) := by decide +kernel
theorem dX12_findChoice_42 : decode cX12_findChoice 42 = .ok (.goto 9, 3) := by decide +kernel
theorem dX12_findChoice_45 : decode cX12_findChoice 45 = .ok (.aload_n 0, 1) := by decide +kernel
theorem dX12_findChoice_46 : decode cX12_findChoice 46 = .ok (.getfield 55, 3) := by decide +kernel
theorem dX12_findChoice_49 : decode cX12_findChoice 49 = .ok (.iload_n 3, 1) := by decide +kernel
theorem dX12_findChoice_50 : decode cX12_findChoice 50 = .ok (.iaload, 1) := by decide +kernel
theorem dX12_findChoice_51 : decode cX12_findChoice 51 = .ok (.iadd, 1) := by decide +kernel
theorem dX12_findChoice_52 : decode cX12_findChoice 52 = .ok (.iastore, 1) := by decide +kernel
theorem dX12_findChoice_53 : decode cX12_findChoice 53 = .ok (.aload_n 0, 1) := by decide +kernel
theorem dX12_findChoice_54 : decode cX12_findChoice 54 = .ok (.getfield 110, 3) := by decide +kernel
theorem dX12_findChoice_57 : decode cX12_findChoice 57 = .ok (.iload_n 2, 1) := by decide +kernel
theorem dX12_findChoice_58 : decode cX12_findChoice 58 = .ok (.aload_n 0, 1) := by decide +kernel
theorem dX12_findChoice_59 : decode cX12_findChoice 59 = .ok (.iload_n 3, 1) := by decide +kernel
theorem dX12_findChoice_60 : decode cX12_findChoice 60 = .ok (.aload_n 0, 1) := by decide +kernel
theorem dX12_findChoice_61 : decode cX12_findChoice 61 = .ok (.getfield 167, 3) := by decide +kernel
theorem dX12_findChoice_64 : decode cX12_findChoice 64 = .ok (.invokevirtual 233, 3) := by decide +kernel
theorem dX12_findChoice_67 : decode cX12_findChoice 67 = .ok (.iastore, 1) := by decide +kernel
theorem dX12_findChoice_68 : decode cX12_findChoice 68 = .ok (.iinc 2 1, 3) := by decide +kernel
theorem dX12_findChoice_71 : decode cX12_findChoice 71 = .ok (.goto (-64), 3) := by decide +kernel
theorem dX12_findChoice_74 : decode cX12_findChoice 74 = .ok (.iconst 0, 1) := by decide +kernel
theorem dX12_findChoice_75 : decode cX12_findChoice 75 = .ok (.istore_n 2, 1) := by decide +kernel
theorem dX12_findChoice_76 : decode cX12_findChoice 76 = .ok (.iload_n 2, 1) := by decide +kernel
theorem dX12_findChoice_77 : decode cX12_findChoice 77 = .ok (.iconst 1, 1) := by decide +kernel
theorem dX12_findChoice_78 : decode cX12_findChoice 78 = .ok (.aload_n 0, 1) := by decide +kernel
theorem dX12_findChoice_79 : decode cX12_findChoice 79 = .ok (.getfield 271, 3) := by decide +kernel
theorem dX12_findChoice_82 : decode cX12_findChoice 82 = .ok (.ishl, 1) := by decide +kernel
theorem dX12_findChoice_83 : decode cX12_findChoice 83 = .ok (.if_icmp .ge 195, 3) := by decide +kernel
theorem dX12_findChoice_86 : decode cX12_findChoice 86 = .ok (.iload_n 2, 1) := by decide +kernel
theorem dX12_findChoice_87 : decode cX12_findChoice 87 = .ok (.invokestatic 216, 3) := by decide +kernel
theorem dX12_findChoice_90 : decode cX12_findChoice 90 = .ok (.iload_n 1, 1) := by decide +kernel
theorem dX12_findChoice_91 : decode cX12_findChoice 91 = .ok (.if_icmp .ne 181, 3) := by decide +kernel
theorem dX12_findChoice_94 : decode cX12_findChoice 94 = .ok (.aload_n 0, 1) := by decide +kernel
theorem dX12_findChoice_95 : decode cX12_findChoice 95 = .ok (.iload_n 2, 1) := by decide +kernel
theorem dX12_findChoice_96 : decode cX12_findChoice 96 = .ok (.invokevirtual 280, 3) := by decide +kernel
theorem dX12_findChoice_99 : decode cX12_findChoice 99 = .ok (.ifCond .ne 6, 3) := by decide +kernel
theorem dX12_findChoice_102 : decode cX12_findChoice 102 = .ok (.goto 170, 3) := by decide +kernel
theorem dX12_findChoice_105 : decode cX12_findChoice 105 = .ok (.iconst 0, 1) := by decide +kernel
theorem dX12_findChoice_106 : decode cX12_findChoice 106 = .ok (.istore_n 3, 1) := by decide +kernel
theorem dX12_findChoice_107 : decode cX12_findChoice 107 = .ok (.iconst 0, 1) := by decide +kernel
theorem dX12_findChoice_108 : decode cX12_findChoice 108 = .ok (.istore 4, 2) := by decide +kernel
theorem dX12_findChoice_110 : decode cX12_findChoice 110 = .ok (.iconst 0, 1) := by decide +kernel
theorem dX12_findChoice_111 : decode cX12_findChoice 111 = .ok (.istore 5, 2) := by decide +kernel
theorem dX12_findChoice_113 : decode cX12_findChoice 113 = .ok (.iconst 0, 1) := by decide +kernel
theorem dX12_findChoice_114 : decode cX12_findChoice 114 = .ok (.istore 6, 2) := by decide +kernel
theorem dX12_findChoice_116 : decode cX12_findChoice 116 = .ok (.iload 6, 2) := by decide +kernel
theorem dX12_findChoice_118 : decode cX12_findChoice 118 = .ok (.aload_n 0, 1) := by decide +kernel
theorem dX12_findChoice_119 : decode cX12_findChoice 119 = .ok (.getfield 271, 3) := by decide +kernel
theorem dX12_findChoice_122 : decode cX12_findChoice 122 = .ok (.if_icmp .ge 66, 3) := by decide +kernel
theorem dX12_findChoice_125 : decode cX12_findChoice 125 = .ok (.iload_n 2, 1) := by decide +kernel
theorem dX12_findChoice_126 : decode cX12_findChoice 126 = .ok (.iload 6, 2) := by decide +kernel
theorem dX12_findChoice_128 : decode cX12_findChoice 128 = .ok (.ishr, 1) := by decide +kernel
theorem dX12_findChoice_129 : decode cX12_findChoice 129 = .ok (.iconst 1, 1) := by decide +kernel
theorem dX12_findChoice_130 : decode cX12_findChoice 130 = .ok (.iand, 1) := by decide +kernel
theorem dX12_findChoice_131 : decode cX12_findChoice 131 = .ok (.iconst 1, 1) := by decide +kernel
theorem dX12_findChoice_132 : decode cX12_findChoice 132 = .ok (.if_icmp .ne 50, 3) := by decide +kernel
theorem dX12_findChoice_135 : decode cX12_findChoice 135 = .ok (.iload_n 3, 1) := by decide +kernel
theorem dX12_findChoice_136 : decode cX12_findChoice 136 = .ok (.aload_n 0, 1) := by decide +kernel
theorem dX12_findChoice_137 : decode cX12_findChoice 137 = .ok (.getfield 55, 3) := by decide +kernel
theorem dX12_findChoice_140 : decode cX12_findChoice 140 = .ok (.aload_n 0, 1) := by decide +kernel
theorem dX12_findChoice_141 : decode cX12_findChoice 141 = .ok (.getfield 104, 3) := by decide +kernel
theorem dX12_findChoice_144 : decode cX12_findChoice 144 = .ok (.iload 6, 2) := by decide +kernel
theorem dX12_findChoice_146 : decode cX12_findChoice 146 = .ok (.iaload, 1) := by decide +kernel
theorem dX12_findChoice_147 : decode cX12_findChoice 147 = .ok (.iaload, 1) := by decide +kernel
theorem dX12_findChoice_148 : decode cX12_findChoice 148 = .ok (.ifCond .ge 7, 3) := by decide +kernel
theorem dX12_findChoice_151 : decode cX12_findChoice 151 = .ok (.iconst 1, 1) := by decide +kernel
theorem dX12_findChoice_152 : decode cX12_findChoice 152 = .ok (.goto 4, 3) := by decide +kernel
theorem dX12_findChoice_155 : decode cX12_findChoice 155 = .ok (.iconst 0, 1) := by decide +kernel
theorem dX12_findChoice_156 : decode cX12_findChoice 156 = .ok (.iadd, 1) := by decide +kernel
theorem dX12_findChoice_157 : decode cX12_findChoice 157 = .ok (.istore_n 3, 1) := by decide +kernel
theorem dX12_findChoice_158 : decode cX12_findChoice 158 = .ok (.iload 4, 2) := by decide +kernel
theorem dX12_findChoice_160 : decode cX12_findChoice 160 = .ok (.aload_n 0, 1) := by decide +kernel
theorem dX12_findChoice_161 : decode cX12_findChoice 161 = .ok (.getfield 107, 3) := by decide +kernel
theorem dX12_findChoice_164 : decode cX12_findChoice 164 = .ok (.iload 6, 2) := by decide +kernel
theorem dX12_findChoice_166 : decode cX12_findChoice 166 = .ok (.iaload, 1) := by decide +kernel
theorem dX12_findChoice_167 : decode cX12_findChoice 167 = .ok (.iadd, 1) := by decide +kernel
theorem dX12_findChoice_168 : decode cX12_findChoice 168 = .ok (.istore 4, 2) := by decide +kernel
theorem dX12_findChoice_170 : decode cX12_findChoice 170 = .ok (.iload 5, 2) := by decide +kernel
theorem dX12_findChoice_172 : decode cX12_findChoice 172 = .ok (.aload_n 0, 1) := by decide +kernel
theorem dX12_findChoice_173 : decode cX12_findChoice 173 = .ok (.getfield 110, 3) := by decide +kernel
theorem dX12_findChoice_176 : decode cX12_findChoice 176 = .ok (.iload 6, 2) := by decide +kernel
theorem dX12_findChoice_178 : decode cX12_findChoice 178 = .ok (.iaload, 1) := by decide +kernel
theorem dX12_findChoice_179 : decode cX12_findChoice 179 = .ok (.iadd, 1) := by decide +kernel
theorem dX12_findChoice_180 : decode cX12_findChoice 180 = .ok (.istore 5, 2) := by decide +kernel
theorem dX12_findChoice_182 : decode cX12_findChoice 182 = .ok (.iinc 6 1, 3) := by decide +kernel
theorem dX12_findChoice_185 : decode cX12_findChoice 185 = .ok (.goto (-69), 3) := by decide +kernel
theorem dX12_findChoice_188 : decode cX12_findChoice 188 = .ok (.aload_n 0, 1) := by decide +kernel
theorem dX12_findChoice_189 : decode cX12_findChoice 189 = .ok (.getfield 277, 3) := by decide +kernel
theorem dX12_findChoice_192 : decode cX12_findChoice 192 = .ok (.ifCond .lt 46, 3) := by decide +kernel
theorem dX12_findChoice_195 : decode cX12_findChoice 195 = .ok (.iload_n 3, 1) := by decide +kernel
theorem dX12_findChoice_196 : decode cX12_findChoice 196 = .ok (.aload_n 0, 1) := by decide +kernel
theorem dX12_findChoice_197 : decode cX12_findChoice 197 = .ok (.getfield 283, 3) := by decide +kernel
theorem dX12_findChoice_200 : decode cX12_findChoice 200 = .ok (.if_icmp .lt 38, 3) := by decide +kernel
theorem dX12_findChoice_203 : decode cX12_findChoice 203 = .ok (.iload_n 3, 1) := by decide +kernel
theorem dX12_findChoice_204 : decode cX12_findChoice 204 = .ok (.aload_n 0, 1) := by decide +kernel
theorem dX12_findChoice_205 : decode cX12_findChoice 205 = .ok (.getfield 283, 3) := by decide +kernel
theorem dX12_findChoice_208 : decode cX12_findChoice 208 = .ok (.if_icmp .ne 34, 3) := by decide +kernel
theorem dX12_findChoice_211 : decode cX12_findChoice 211 = .ok (.iload 4, 2) := by decide +kernel
theorem dX12_findChoice_213 : decode cX12_findChoice 213 = .ok (.aload_n 0, 1) := by decide +kernel
theorem dX12_findChoice_214 : decode cX12_findChoice 214 = .ok (.getfield 286, 3) := by decide +kernel
theorem dX12_findChoice_217 : decode cX12_findChoice 217 = .ok (.if_icmp .lt 21, 3) := by decide +kernel
theorem dX12_findChoice_220 : decode cX12_findChoice 220 = .ok (.iload 4, 2) := by decide +kernel
theorem dX12_findChoice_222 : decode cX12_findChoice 222 = .ok (.aload_n 0, 1) := by decide +kernel
theorem dX12_findChoice_223 : decode cX12_findChoice 223 = .ok (.getfield 286, 3) := by decide +kernel
theorem dX12_findChoice_226 : decode cX12_findChoice 226 = .ok (.if_icmp .ne 16, 3) := by decide +kernel
theorem dX12_findChoice_229 : decode cX12_findChoice 229 = .ok (.iload 5, 2) := by decide +kernel
theorem dX12_findChoice_231 : decode cX12_findChoice 231 = .ok (.aload_n 0, 1) := by decide +kernel
theorem dX12_findChoice_232 : decode cX12_findChoice 232 = .ok (.getfield 289, 3) := by decide +kernel
theorem dX12_findChoice_235 : decode cX12_findChoice 235 = .ok (.if_icmp .ge 7, 3) := by decide +kernel
theorem dX12_findChoice_238 : decode cX12_findChoice 238 = .ok (.iconst 1, 1) := by decide +kernel
theorem dX12_findChoice_239 : decode cX12_findChoice 239 = .ok (.goto 4, 3) := by decide +kernel
theorem dX12_findChoice_242 : decode cX12_findChoice 242 = .ok (.iconst 0, 1) := by decide +kernel
theorem dX12_findChoice_243 : decode cX12_findChoice 243 = .ok (.istore 6, 2) := by decide +kernel
theorem dX12_findChoice_245 : decode cX12_findChoice 245 = .ok (.iload 6, 2) := by decide +kernel
theorem dX12_findChoice_247 : decode cX12_findChoice 247 = .ok (.ifCond .eq 25, 3) := by decide +kernel
theorem dX12_findChoice_250 : decode cX12_findChoice 250 = .ok (.aload_n 0, 1) := by decide +kernel
theorem dX12_findChoice_251 : decode cX12_findChoice 251 = .ok (.iload_n 2, 1) := by decide +kernel
theorem dX12_findChoice_252 : decode cX12_findChoice 252 = .ok (.putfield 277, 3) := by decide +kernel
theorem dX12_findChoice_255 : decode cX12_findChoice 255 = .ok (.aload_n 0, 1) := by decide +kernel
theorem dX12_findChoice_256 : decode cX12_findChoice 256 = .ok (.iload_n 3, 1) := by decide +kernel
theorem dX12_findChoice_257 : decode cX12_findChoice 257 = .ok (.putfield 283, 3) := by decide +kernel
theorem dX12_findChoice_260 : decode cX12_findChoice 260 = .ok (.aload_n 0, 1) := by decide +kernel
theorem dX12_findChoice_261 : decode cX12_findChoice 261 = .ok (.iload 4, 2) := by decide +kernel
theorem dX12_findChoice_263 : decode cX12_findChoice 263 = .ok (.putfield 286, 3) := by decide +kernel
theorem dX12_findChoice_266 : decode cX12_findChoice 266 = .ok (.aload_n 0, 1) := by decide +kernel
theorem dX12_findChoice_267 : decode cX12_findChoice 267 = .ok (.iload 5, 2) := by decide +kernel
theorem dX12_findChoice_269 : decode cX12_findChoice 269 = .ok (.putfield 289, 3) := by decide +kernel
theorem dX12_findChoice_272 : decode cX12_findChoice 272 = .ok (.iinc 2 1, 3) := by decide +kernel
theorem dX12_findChoice_275 : decode cX12_findChoice 275 = .ok (.goto (-199), 3) := by decide +kernel
theorem dX12_findChoice_278 : decode cX12_findChoice 278 = .ok (.return_, 1) := by decide +kernel
theorem dX12_wrongChoice_0 : decode cX12_wrongChoice 0 = .ok (.aload_n 0, 1) := by decide +kernel
theorem dX12_wrongChoice_1 : decode cX12_wrongChoice 1 = .ok (.iload_n 1, 1) := by decide +kernel
theorem dX12_wrongChoice_2 : decode cX12_wrongChoice 2 = .ok (.invokevirtual 292, 3) := by decide +kernel
theorem dX12_wrongChoice_5 : decode cX12_wrongChoice 5 = .ok (.iload_n 2, 1) := by decide +kernel
theorem dX12_wrongChoice_6 : decode cX12_wrongChoice 6 = .ok (.ifCond .ge 8, 3) := by decide +kernel
theorem dX12_wrongChoice_9 : decode cX12_wrongChoice 9 = .ok (.bipush (-4), 2) := by decide +kernel
theorem dX12_wrongChoice_11 : decode cX12_wrongChoice 11 = .ok (.goto 26, 3) := by decide +kernel
theorem dX12_wrongChoice_14 : decode cX12_wrongChoice 14 = .ok (.aload_n 0, 1) := by decide +kernel
theorem dX12_wrongChoice_15 : decode cX12_wrongChoice 15 = .ok (.getfield 271, 3) := by decide +kernel
theorem dX12_wrongChoice_18 : decode cX12_wrongChoice 18 = .ok (.bipush 12, 2) := by decide +kernel
theorem dX12_wrongChoice_20 : decode cX12_wrongChoice 20 = .ok (.if_icmp .gt 11, 3) := by decide +kernel
theorem dX12_wrongChoice_23 : decode cX12_wrongChoice 23 = .ok (.iload_n 2, 1) := by decide +kernel
theorem dX12_wrongChoice_24 : decode cX12_wrongChoice 24 = .ok (.aload_n 0, 1) := by decide +kernel
theorem dX12_wrongChoice_25 : decode cX12_wrongChoice 25 = .ok (.getfield 271, 3) := by decide +kernel
theorem dX12_wrongChoice_28 : decode cX12_wrongChoice 28 = .ok (.if_icmp .le 8, 3) := by decide +kernel
theorem dX12_wrongChoice_31 : decode cX12_wrongChoice 31 = .ok (.bipush (-6), 2) := by decide +kernel
theorem dX12_wrongChoice_33 : decode cX12_wrongChoice 33 = .ok (.goto 4, 3) := by decide +kernel
theorem dX12_wrongChoice_36 : decode cX12_wrongChoice 36 = .ok (.iconst 0, 1) := by decide +kernel
theorem dX12_wrongChoice_37 : decode cX12_wrongChoice 37 = .ok (.ireturn, 1) := by decide +kernel
theorem dX12_choice_0 : decode cX12_choice 0 = .ok (.aload_n 0, 1) := by decide +kernel
theorem dX12_choice_1 : decode cX12_choice 1 = .ok (.iload_n 1, 1) := by decide +kernel
theorem dX12_choice_2 : decode cX12_choice 2 = .ok (.iload_n 2, 1) := by decide +kernel
theorem dX12_choice_3 : decode cX12_choice 3 = .ok (.invokevirtual 258, 3) := by decide +kernel
theorem dX12_choice_6 : decode cX12_choice 6 = .ok (.ifCond .ne 9, 3) := by decide +kernel
theorem dX12_choice_9 : decode cX12_choice 9 = .ok (.aload_n 0, 1) := by decide +kernel
theorem dX12_choice_10 : decode cX12_choice 10 = .ok (.iconst (-1), 1) := by decide +kernel
theorem dX12_choice_11 : decode cX12_choice 11 = .ok (.invokevirtual 174, 3) := by decide +kernel
theorem dX12_choice_14 : decode cX12_choice 14 = .ok (.ireturn, 1) := by decide +kernel
theorem dX12_choice_15 : decode cX12_choice 15 = .ok (.iload 4, 2) := by decide +kernel
theorem dX12_choice_17 : decode cX12_choice 17 = .ok (.iconst 0, 1) := by decide +kernel
theorem dX12_choice_18 : decode cX12_choice 18 = .ok (.iconst 1, 1) := by decide +kernel
theorem dX12_choice_19 : decode cX12_choice 19 = .ok (.invokestatic 157, 3) := by decide +kernel
theorem dX12_choice_22 : decode cX12_choice 22 = .ok (.ifCond .ne 10, 3) := by decide +kernel
theorem dX12_choice_25 : decode cX12_choice 25 = .ok (.aload_n 0, 1) := by decide +kernel
theorem dX12_choice_26 : decode cX12_choice 26 = .ok (.bipush (-2), 2) := by decide +kernel
theorem dX12_choice_28 : decode cX12_choice 28 = .ok (.invokevirtual 174, 3) := by decide +kernel
theorem dX12_choice_31 : decode cX12_choice 31 = .ok (.ireturn, 1) := by decide +kernel
theorem dX12_choice_32 : decode cX12_choice 32 = .ok (.aload_n 0, 1) := by decide +kernel
theorem dX12_choice_33 : decode cX12_choice 33 = .ok (.iload_n 2, 1) := by decide +kernel
theorem dX12_choice_34 : decode cX12_choice 34 = .ok (.iload_n 3, 1) := by decide +kernel
theorem dX12_choice_35 : decode cX12_choice 35 = .ok (.invokevirtual 295, 3) := by decide +kernel
theorem dX12_choice_38 : decode cX12_choice 38 = .ok (.istore 5, 2) := by decide +kernel
theorem dX12_choice_40 : decode cX12_choice 40 = .ok (.iload 5, 2) := by decide +kernel
theorem dX12_choice_42 : decode cX12_choice 42 = .ok (.ifCond .ge 10, 3) := by decide +kernel
theorem dX12_choice_45 : decode cX12_choice 45 = .ok (.aload_n 0, 1) := by decide +kernel
theorem dX12_choice_46 : decode cX12_choice 46 = .ok (.iload 5, 2) := by decide +kernel
theorem dX12_choice_48 : decode cX12_choice 48 = .ok (.invokevirtual 174, 3) := by decide +kernel
theorem dX12_choice_51 : decode cX12_choice 51 = .ok (.ireturn, 1) := by decide +kernel
theorem dX12_choice_52 : decode cX12_choice 52 = .ok (.aload_n 0, 1) := by decide +kernel
theorem dX12_choice_53 : decode cX12_choice 53 = .ok (.iload_n 3, 1) := by decide +kernel
theorem dX12_choice_54 : decode cX12_choice 54 = .ok (.invokevirtual 298, 3) := by decide +kernel
theorem dX12_choice_57 : decode cX12_choice 57 = .ok (.aload_n 0, 1) := by decide +kernel
theorem dX12_choice_58 : decode cX12_choice 58 = .ok (.getfield 277, 3) := by decide +kernel
theorem dX12_choice_61 : decode cX12_choice 61 = .ok (.ifCond .ge 8, 3) := by decide +kernel
theorem dX12_choice_64 : decode cX12_choice 64 = .ok (.bipush (-9), 2) := by decide +kernel
theorem dX12_choice_66 : decode cX12_choice 66 = .ok (.goto 19, 3) := by decide +kernel
theorem dX12_choice_69 : decode cX12_choice 69 = .ok (.iload 4, 2) := by decide +kernel
theorem dX12_choice_71 : decode cX12_choice 71 = .ok (.ifCond .ne 10, 3) := by decide +kernel
theorem dX12_choice_74 : decode cX12_choice 74 = .ok (.aload_n 0, 1) := by decide +kernel
theorem dX12_choice_75 : decode cX12_choice 75 = .ok (.getfield 283, 3) := by decide +kernel
theorem dX12_choice_78 : decode cX12_choice 78 = .ok (.goto 7, 3) := by decide +kernel
theorem dX12_choice_81 : decode cX12_choice 81 = .ok (.aload_n 0, 1) := by decide +kernel
theorem dX12_choice_82 : decode cX12_choice 82 = .ok (.getfield 286, 3) := by decide +kernel
theorem dX12_choice_85 : decode cX12_choice 85 = .ok (.ireturn, 1) := by decide +kernel
theorem dX12_chosen_0 : decode cX12_chosen 0 = .ok (.aload_n 0, 1) := by decide +kernel
theorem dX12_chosen_1 : decode cX12_chosen 1 = .ok (.iload_n 1, 1) := by decide +kernel
theorem dX12_chosen_2 : decode cX12_chosen 2 = .ok (.iload_n 2, 1) := by decide +kernel
theorem dX12_chosen_3 : decode cX12_chosen 3 = .ok (.invokevirtual 258, 3) := by decide +kernel
theorem dX12_chosen_6 : decode cX12_chosen 6 = .ok (.ifCond .eq 12, 3) := by decide +kernel
theorem dX12_chosen_9 : decode cX12_chosen 9 = .ok (.aload_n 0, 1) := by decide +kernel
theorem dX12_chosen_10 : decode cX12_chosen 10 = .ok (.iload 4, 2) := by decide +kernel
theorem dX12_chosen_12 : decode cX12_chosen 12 = .ok (.invokevirtual 194, 3) := by decide +kernel
theorem dX12_chosen_15 : decode cX12_chosen 15 = .ok (.ifCond .ne 9, 3) := by decide +kernel
theorem dX12_chosen_18 : decode cX12_chosen 18 = .ok (.aload_n 0, 1) := by decide +kernel
theorem dX12_chosen_19 : decode cX12_chosen 19 = .ok (.iconst (-1), 1) := by decide +kernel
theorem dX12_chosen_20 : decode cX12_chosen 20 = .ok (.invokevirtual 174, 3) := by decide +kernel
theorem dX12_chosen_23 : decode cX12_chosen 23 = .ok (.ireturn, 1) := by decide +kernel
theorem dX12_chosen_24 : decode cX12_chosen 24 = .ok (.aload_n 0, 1) := by decide +kernel
theorem dX12_chosen_25 : decode cX12_chosen 25 = .ok (.iload_n 2, 1) := by decide +kernel
theorem dX12_chosen_26 : decode cX12_chosen 26 = .ok (.iload_n 3, 1) := by decide +kernel
theorem dX12_chosen_27 : decode cX12_chosen 27 = .ok (.invokevirtual 295, 3) := by decide +kernel
theorem dX12_chosen_30 : decode cX12_chosen 30 = .ok (.istore 5, 2) := by decide +kernel
theorem dX12_chosen_32 : decode cX12_chosen 32 = .ok (.iload 5, 2) := by decide +kernel
theorem dX12_chosen_34 : decode cX12_chosen 34 = .ok (.ifCond .ge 10, 3) := by decide +kernel
theorem dX12_chosen_37 : decode cX12_chosen 37 = .ok (.aload_n 0, 1) := by decide +kernel
theorem dX12_chosen_38 : decode cX12_chosen 38 = .ok (.iload 5, 2) := by decide +kernel
theorem dX12_chosen_40 : decode cX12_chosen 40 = .ok (.invokevirtual 174, 3) := by decide +kernel
theorem dX12_chosen_43 : decode cX12_chosen 43 = .ok (.ireturn, 1) := by decide +kernel
theorem dX12_chosen_44 : decode cX12_chosen 44 = .ok (.aload_n 0, 1) := by decide +kernel
theorem dX12_chosen_45 : decode cX12_chosen 45 = .ok (.iload_n 3, 1) := by decide +kernel
theorem dX12_chosen_46 : decode cX12_chosen 46 = .ok (.invokevirtual 298, 3) := by decide +kernel
theorem dX12_chosen_49 : decode cX12_chosen 49 = .ok (.iconst 0, 1) := by decide +kernel
theorem dX12_chosen_50 : decode cX12_chosen 50 = .ok (.istore 6, 2) := by decide +kernel
theorem dX12_chosen_52 : decode cX12_chosen 52 = .ok (.iconst 0, 1) := by decide +kernel
theorem dX12_chosen_53 : decode cX12_chosen 53 = .ok (.istore 7, 2) := by decide +kernel
theorem dX12_chosen_55 : decode cX12_chosen 55 = .ok (.iload 7, 2) := by decide +kernel
theorem dX12_chosen_57 : decode cX12_chosen 57 = .ok (.aload_n 0, 1) := by decide +kernel
theorem dX12_chosen_58 : decode cX12_chosen 58 = .ok (.getfield 271, 3) := by decide +kernel
theorem dX12_chosen_61 : decode cX12_chosen 61 = .ok (.if_icmp .ge 44, 3) := by decide +kernel
theorem dX12_chosen_64 : decode cX12_chosen 64 = .ok (.aload_n 0, 1) := by decide +kernel
theorem dX12_chosen_65 : decode cX12_chosen 65 = .ok (.getfield 277, 3) := by decide +kernel
theorem dX12_chosen_68 : decode cX12_chosen 68 = .ok (.ifCond .lt 37, 3) := by decide +kernel
theorem dX12_chosen_71 : decode cX12_chosen 71 = .ok (.aload_n 0, 1) := by decide +kernel
theorem dX12_chosen_72 : decode cX12_chosen 72 = .ok (.getfield 104, 3) := by decide +kernel
theorem dX12_chosen_75 : decode cX12_chosen 75 = .ok (.iload 7, 2) := by decide +kernel
theorem dX12_chosen_77 : decode cX12_chosen 77 = .ok (.iaload, 1) := by decide +kernel
theorem dX12_chosen_78 : decode cX12_chosen 78 = .ok (.iload 4, 2) := by decide +kernel
theorem dX12_chosen_80 : decode cX12_chosen 80 = .ok (.if_icmp .ne 15, 3) := by decide +kernel
theorem dX12_chosen_83 : decode cX12_chosen 83 = .ok (.aload_n 0, 1) := by decide +kernel
theorem dX12_chosen_84 : decode cX12_chosen 84 = .ok (.getfield 277, 3) := by decide +kernel
theorem dX12_chosen_87 : decode cX12_chosen 87 = .ok (.iload 7, 2) := by decide +kernel
theorem dX12_chosen_89 : decode cX12_chosen 89 = .ok (.ishr, 1) := by decide +kernel
theorem dX12_chosen_90 : decode cX12_chosen 90 = .ok (.iconst 1, 1) := by decide +kernel
theorem dX12_chosen_91 : decode cX12_chosen 91 = .ok (.iand, 1) := by decide +kernel
theorem dX12_chosen_92 : decode cX12_chosen 92 = .ok (.goto 5, 3) := by decide +kernel
theorem dX12_chosen_95 : decode cX12_chosen 95 = .ok (.iload 6, 2) := by decide +kernel
theorem dX12_chosen_97 : decode cX12_chosen 97 = .ok (.istore 6, 2) := by decide +kernel
theorem dX12_chosen_99 : decode cX12_chosen 99 = .ok (.iinc 7 1, 3) := by decide +kernel
theorem dX12_chosen_102 : decode cX12_chosen 102 = .ok (.goto (-47), 3) := by decide +kernel
theorem dX12_chosen_105 : decode cX12_chosen 105 = .ok (.iload 6, 2) := by decide +kernel
theorem dX12_chosen_107 : decode cX12_chosen 107 = .ok (.ireturn, 1) := by decide +kernel
theorem dX12_takes_0 : decode cX12_takes 0 = .ok (.iconst (-1), 1) := by decide +kernel
theorem dX12_takes_1 : decode cX12_takes 1 = .ok (.istore_n 3, 1) := by decide +kernel
theorem dX12_takes_2 : decode cX12_takes 2 = .ok (.aload_n 0, 1) := by decide +kernel
theorem dX12_takes_3 : decode cX12_takes 3 = .ok (.getfield 22, 3) := by decide +kernel
theorem dX12_takes_6 : decode cX12_takes 6 = .ok (.aload_n 0, 1) := by decide +kernel
theorem dX12_takes_7 : decode cX12_takes 7 = .ok (.getfield 43, 3) := by decide +kernel
theorem dX12_takes_10 : decode cX12_takes 10 = .ok (.iload_n 1, 1) := by decide +kernel
theorem dX12_takes_11 : decode cX12_takes 11 = .ok (.iaload, 1) := by decide +kernel
theorem dX12_takes_12 : decode cX12_takes 12 = .ok (.iaload, 1) := by decide +kernel
theorem dX12_takes_13 : decode cX12_takes 13 = .ok (.istore 4, 2) := by decide +kernel
theorem dX12_takes_15 : decode cX12_takes 15 = .ok (.iconst 0, 1) := by decide +kernel
theorem dX12_takes_16 : decode cX12_takes 16 = .ok (.istore 5, 2) := by decide +kernel
theorem dX12_takes_18 : decode cX12_takes 18 = .ok (.iload 5, 2) := by decide +kernel
theorem dX12_takes_20 : decode cX12_takes 20 = .ok (.aload_n 0, 1) := by decide +kernel
theorem dX12_takes_21 : decode cX12_takes 21 = .ok (.getfield 164, 3) := by decide +kernel
theorem dX12_takes_24 : decode cX12_takes 24 = .ok (.if_icmp .ge 262, 3) := by decide +kernel
theorem dX12_takes_27 : decode cX12_takes 27 = .ok (.iload 5, 2) := by decide +kernel
theorem dX12_takes_29 : decode cX12_takes 29 = .ok (.iload_n 1, 1) := by decide +kernel
theorem dX12_takes_30 : decode cX12_takes 30 = .ok (.if_icmp .eq 50, 3) := by decide +kernel
theorem dX12_takes_33 : decode cX12_takes 33 = .ok (.iload 5, 2) := by decide +kernel
theorem dX12_takes_35 : decode cX12_takes 35 = .ok (.iload_n 2, 1) := by decide +kernel
theorem dX12_takes_36 : decode cX12_takes 36 = .ok (.if_icmp .eq 44, 3) := by decide +kernel
theorem dX12_takes_39 : decode cX12_takes 39 = .ok (.aload_n 0, 1) := by decide +kernel
theorem dX12_takes_40 : decode cX12_takes 40 = .ok (.iload 5, 2) := by decide +kernel
theorem dX12_takes_42 : decode cX12_takes 42 = .ok (.invokevirtual 200, 3) := by decide +kernel
theorem dX12_takes_45 : decode cX12_takes 45 = .ok (.ifCond .eq 35, 3) := by decide +kernel
theorem dX12_takes_48 : decode cX12_takes 48 = .ok (.aload_n 0, 1) := by decide +kernel
theorem dX12_takes_49 : decode cX12_takes 49 = .ok (.getfield 43, 3) := by decide +kernel
theorem dX12_takes_52 : decode cX12_takes 52 = .ok (.iload 5, 2) := by decide +kernel
theorem dX12_takes_54 : decode cX12_takes 54 = .ok (.iaload, 1) := by decide +kernel
theorem dX12_takes_55 : decode cX12_takes 55 = .ok (.ifCond .lt 25, 3) := by decide +kernel
theorem dX12_takes_58 : decode cX12_takes 58 = .ok (.aload_n 0, 1) := by decide +kernel
theorem dX12_takes_59 : decode cX12_takes 59 = .ok (.iload 5, 2) := by decide +kernel
theorem dX12_takes_61 : decode cX12_takes 61 = .ok (.invokevirtual 252, 3) := by decide +kernel
theorem dX12_takes_64 : decode cX12_takes 64 = .ok (.ifCond .ne 16, 3) := by decide +kernel
theorem dX12_takes_67 : decode cX12_takes 67 = .ok (.aload_n 0, 1) := by decide +kernel
theorem dX12_takes_68 : decode cX12_takes 68 = .ok (.iload 5, 2) := by decide +kernel
theorem dX12_takes_70 : decode cX12_takes 70 = .ok (.invokevirtual 301, 3) := by decide +kernel
theorem dX12_takes_73 : decode cX12_takes 73 = .ok (.ifCond .ne 7, 3) := by decide +kernel
theorem dX12_takes_76 : decode cX12_takes 76 = .ok (.iconst 1, 1) := by decide +kernel
theorem dX12_takes_77 : decode cX12_takes 77 = .ok (.goto 4, 3) := by decide +kernel
theorem dX12_takes_80 : decode cX12_takes 80 = .ok (.iconst 0, 1) := by decide +kernel
theorem dX12_takes_81 : decode cX12_takes 81 = .ok (.istore 6, 2) := by decide +kernel
theorem dX12_takes_83 : decode cX12_takes 83 = .ok (.iload 6, 2) := by decide +kernel
theorem dX12_takes_85 : decode cX12_takes 85 = .ok (.ifCond .ne 6, 3) := by decide +kernel
theorem dX12_takes_88 : decode cX12_takes 88 = .ok (.goto 192, 3) := by decide +kernel
theorem dX12_takes_91 : decode cX12_takes 91 = .ok (.aload_n 0, 1) := by decide +kernel
theorem dX12_takes_92 : decode cX12_takes 92 = .ok (.getfield 43, 3) := by decide +kernel
theorem dX12_takes_95 : decode cX12_takes 95 = .ok (.iload 5, 2) := by decide +kernel
theorem dX12_takes_97 : decode cX12_takes 97 = .ok (.iaload, 1) := by decide +kernel
theorem dX12_takes_98 : decode cX12_takes 98 = .ok (.istore 7, 2) := by decide +kernel
theorem dX12_takes_100 : decode cX12_takes 100 = .ok (.aload_n 0, 1) := by decide +kernel
theorem dX12_takes_101 : decode cX12_takes 101 = .ok (.getfield 19, 3) := by decide +kernel
theorem dX12_takes_104 : decode cX12_takes 104 = .ok (.iload 7, 2) := by decide +kernel
theorem dX12_takes_106 : decode cX12_takes 106 = .ok (.iaload, 1) := by decide +kernel
theorem dX12_takes_107 : decode cX12_takes 107 = .ok (.aload_n 0, 1) := by decide +kernel
theorem dX12_takes_108 : decode cX12_takes 108 = .ok (.getfield 19, 3) := by decide +kernel
theorem dX12_takes_111 : decode cX12_takes 111 = .ok (.aload_n 0, 1) := by decide +kernel
theorem dX12_takes_112 : decode cX12_takes 112 = .ok (.getfield 43, 3) := by decide +kernel
theorem dX12_takes_115 : decode cX12_takes 115 = .ok (.iload_n 1, 1) := by decide +kernel
theorem dX12_takes_116 : decode cX12_takes 116 = .ok (.iaload, 1) := by decide +kernel
theorem dX12_takes_117 : decode cX12_takes 117 = .ok (.iaload, 1) := by decide +kernel
theorem dX12_takes_118 : decode cX12_takes 118 = .ok (.if_icmp .ne 59, 3) := by decide +kernel
theorem dX12_takes_121 : decode cX12_takes 121 = .ok (.iload 4, 2) := by decide +kernel
theorem dX12_takes_123 : decode cX12_takes 123 = .ok (.aload_n 0, 1) := by decide +kernel
theorem dX12_takes_124 : decode cX12_takes 124 = .ok (.getfield 22, 3) := by decide +kernel
theorem dX12_takes_127 : decode cX12_takes 127 = .ok (.iload 7, 2) := by decide +kernel
theorem dX12_takes_129 : decode cX12_takes 129 = .ok (.iaload, 1) := by decide +kernel
theorem dX12_takes_130 : decode cX12_takes 130 = .ok (.isub, 1) := by decide +kernel
theorem dX12_takes_131 : decode cX12_takes 131 = .ok (.iconst 0, 1) := by decide +kernel
theorem dX12_takes_132 : decode cX12_takes 132 = .ok (.iconst 2, 1) := by decide +kernel
theorem dX12_takes_133 : decode cX12_takes 133 = .ok (.invokestatic 157, 3) := by decide +kernel
theorem dX12_takes_136 : decode cX12_takes 136 = .ok (.ifCond .eq 41, 3) := by decide +kernel
theorem dX12_takes_139 : decode cX12_takes 139 = .ok (.aload_n 0, 1) := by decide +kernel
theorem dX12_takes_140 : decode cX12_takes 140 = .ok (.iload 5, 2) := by decide +kernel
theorem dX12_takes_142 : decode cX12_takes 142 = .ok (.aload_n 0, 1) := by decide +kernel
theorem dX12_takes_143 : decode cX12_takes 143 = .ok (.getfield 167, 3) := by decide +kernel
theorem dX12_takes_146 : decode cX12_takes 146 = .ok (.invokevirtual 233, 3) := by decide +kernel
theorem dX12_takes_149 : decode cX12_takes 149 = .ok (.aload_n 0, 1) := by decide +kernel
theorem dX12_takes_150 : decode cX12_takes 150 = .ok (.iload_n 1, 1) := by decide +kernel
theorem dX12_takes_151 : decode cX12_takes 151 = .ok (.aload_n 0, 1) := by decide +kernel
theorem dX12_takes_152 : decode cX12_takes 152 = .ok (.getfield 167, 3) := by decide +kernel
theorem dX12_takes_155 : decode cX12_takes 155 = .ok (.invokevirtual 233, 3) := by decide +kernel
theorem dX12_takes_158 : decode cX12_takes 158 = .ok (.if_icmp .ge 19, 3) := by decide +kernel
theorem dX12_takes_161 : decode cX12_takes 161 = .ok (.aload_n 0, 1) := by decide +kernel
theorem dX12_takes_162 : decode cX12_takes 162 = .ok (.iload_n 1, 1) := by decide +kernel
theorem dX12_takes_163 : decode cX12_takes 163 = .ok (.iload 7, 2) := by decide +kernel
theorem dX12_takes_165 : decode cX12_takes 165 = .ok (.invokevirtual 223, 3) := by decide +kernel
theorem dX12_takes_168 : decode cX12_takes 168 = .ok (.bipush 50, 2) := by decide +kernel
theorem dX12_takes_170 : decode cX12_takes 170 = .ok (.if_icmp .lt 7, 3) := by decide +kernel
theorem dX12_takes_173 : decode cX12_takes 173 = .ok (.iconst 1, 1) := by decide +kernel
theorem dX12_takes_174 : decode cX12_takes 174 = .ok (.goto 4, 3) := by decide +kernel
theorem dX12_takes_177 : decode cX12_takes 177 = .ok (.iconst 0, 1) := by decide +kernel
theorem dX12_takes_178 : decode cX12_takes 178 = .ok (.istore 8, 2) := by decide +kernel
theorem dX12_takes_180 : decode cX12_takes 180 = .ok (.iload 8, 2) := by decide +kernel
theorem dX12_takes_182 : decode cX12_takes 182 = .ok (.ifCond .eq 98, 3) := by decide +kernel
theorem dX12_takes_185 : decode cX12_takes 185 = .ok (.iload_n 3, 1) := by decide +kernel
theorem dX12_takes_186 : decode cX12_takes 186 = .ok (.ifCond .ge 7, 3) := by decide +kernel
theorem dX12_takes_189 : decode cX12_takes 189 = .ok (.iconst (-1), 1) := by decide +kernel
theorem dX12_takes_190 : decode cX12_takes 190 = .ok (.goto 9, 3) := by decide +kernel
theorem dX12_takes_193 : decode cX12_takes 193 = .ok (.aload_n 0, 1) := by decide +kernel
theorem dX12_takes_194 : decode cX12_takes 194 = .ok (.getfield 43, 3) := by decide +kernel
theorem dX12_takes_197 : decode cX12_takes 197 = .ok (.iload_n 3, 1) := by decide +kernel
theorem dX12_takes_198 : decode cX12_takes 198 = .ok (.iaload, 1) := by decide +kernel
theorem dX12_takes_199 : decode cX12_takes 199 = .ok (.istore 9, 2) := by decide +kernel
theorem dX12_takes_201 : decode cX12_takes 201 = .ok (.iload_n 3, 1) := by decide +kernel
theorem dX12_takes_202 : decode cX12_takes 202 = .ok (.ifCond .lt 59, 3) := by decide +kernel
theorem dX12_takes_205 : decode cX12_takes 205 = .ok (.aload_n 0, 1) := by decide +kernel
theorem dX12_takes_206 : decode cX12_takes 206 = .ok (.getfield 22, 3) := by decide +kernel
theorem dX12_takes_209 : decode cX12_takes 209 = .ok (.iload 7, 2) := by decide +kernel
theorem dX12_takes_211 : decode cX12_takes 211 = .ok (.iaload, 1) := by decide +kernel
theorem dX12_takes_212 : decode cX12_takes 212 = .ok (.aload_n 0, 1) := by decide +kernel
theorem dX12_takes_213 : decode cX12_takes 213 = .ok (.getfield 22, 3) := by decide +kernel
theorem dX12_takes_216 : decode cX12_takes 216 = .ok (.iload 9, 2) := by decide +kernel
theorem dX12_takes_218 : decode cX12_takes 218 = .ok (.iaload, 1) := by decide +kernel
theorem dX12_takes_219 : decode cX12_takes 219 = .ok (.if_icmp .gt 42, 3) := by decide +kernel
theorem dX12_takes_222 : decode cX12_takes 222 = .ok (.aload_n 0, 1) := by decide +kernel
theorem dX12_takes_223 : decode cX12_takes 223 = .ok (.getfield 22, 3) := by decide +kernel
theorem dX12_takes_226 : decode cX12_takes 226 = .ok (.iload 7, 2) := by decide +kernel
theorem dX12_takes_228 : decode cX12_takes 228 = .ok (.iaload, 1) := by decide +kernel
theorem dX12_takes_229 : decode cX12_takes 229 = .ok (.aload_n 0, 1) := by decide +kernel
theorem dX12_takes_230 : decode cX12_takes 230 = .ok (.getfield 22, 3) := by decide +kernel
theorem dX12_takes_233 : decode cX12_takes 233 = .ok (.iload 9, 2) := by decide +kernel
theorem dX12_takes_235 : decode cX12_takes 235 = .ok (.iaload, 1) := by decide +kernel
theorem dX12_takes_236 : decode cX12_takes 236 = .ok (.if_icmp .ne 29, 3) := by decide +kernel
theorem dX12_takes_239 : decode cX12_takes 239 = .ok (.aload_n 0, 1) := by decide +kernel
theorem dX12_takes_240 : decode cX12_takes 240 = .ok (.iload 5, 2) := by decide +kernel
theorem dX12_takes_242 : decode cX12_takes 242 = .ok (.aload_n 0, 1) := by decide +kernel
theorem dX12_takes_243 : decode cX12_takes 243 = .ok (.getfield 167, 3) := by decide +kernel
theorem dX12_takes_246 : decode cX12_takes 246 = .ok (.invokevirtual 233, 3) := by decide +kernel
theorem dX12_takes_249 : decode cX12_takes 249 = .ok (.aload_n 0, 1) := by decide +kernel
theorem dX12_takes_250 : decode cX12_takes 250 = .ok (.iload_n 3, 1) := by decide +kernel
theorem dX12_takes_251 : decode cX12_takes 251 = .ok (.aload_n 0, 1) := by decide +kernel
theorem dX12_takes_252 : decode cX12_takes 252 = .ok (.getfield 167, 3) := by decide +kernel
theorem dX12_takes_255 : decode cX12_takes 255 = .ok (.invokevirtual 233, 3) := by decide +kernel
theorem dX12_takes_258 : decode cX12_takes 258 = .ok (.if_icmp .ge 7, 3) := by decide +kernel
theorem dX12_takes_261 : decode cX12_takes 261 = .ok (.iconst 1, 1) := by decide +kernel
theorem dX12_takes_262 : decode cX12_takes 262 = .ok (.goto 4, 3) := by decide +kernel
theorem dX12_takes_265 : decode cX12_takes 265 = .ok (.iconst 0, 1) := by decide +kernel
theorem dX12_takes_266 : decode cX12_takes 266 = .ok (.istore 10, 2) := by decide +kernel
theorem dX12_takes_268 : decode cX12_takes 268 = .ok (.iload 10, 2) := by decide +kernel
theorem dX12_takes_270 : decode cX12_takes 270 = .ok (.ifCond .eq 8, 3) := by decide +kernel
theorem dX12_takes_273 : decode cX12_takes 273 = .ok (.iload 5, 2) := by decide +kernel
theorem dX12_takes_275 : decode cX12_takes 275 = .ok (.goto 4, 3) := by decide +kernel
theorem dX12_takes_278 : decode cX12_takes 278 = .ok (.iload_n 3, 1) := by decide +kernel
theorem dX12_takes_279 : decode cX12_takes 279 = .ok (.istore_n 3, 1) := by decide +kernel
theorem dX12_takes_280 : decode cX12_takes 280 = .ok (.iinc 5 1, 3) := by decide +kernel
theorem dX12_takes_283 : decode cX12_takes 283 = .ok (.goto (-265), 3) := by decide +kernel
theorem dX12_takes_286 : decode cX12_takes 286 = .ok (.iload_n 3, 1) := by decide +kernel
theorem dX12_takes_287 : decode cX12_takes 287 = .ok (.ireturn, 1) := by decide +kernel
theorem dX12_isMoved_0 : decode cX12_isMoved 0 = .ok (.iconst 0, 1) := by decide +kernel
theorem dX12_isMoved_1 : decode cX12_isMoved 1 = .ok (.istore_n 2, 1) := by decide +kernel
theorem dX12_isMoved_2 : decode cX12_isMoved 2 = .ok (.iload_n 2, 1) := by decide +kernel
theorem dX12_isMoved_3 : decode cX12_isMoved 3 = .ok (.aload_n 0, 1) := by decide +kernel
theorem dX12_isMoved_4 : decode cX12_isMoved 4 = .ok (.getfield 304, 3) := by decide +kernel
theorem dX12_isMoved_7 : decode cX12_isMoved 7 = .ok (.if_icmp .ge 31, 3) := by decide +kernel
theorem dX12_isMoved_10 : decode cX12_isMoved 10 = .ok (.aload_n 0, 1) := by decide +kernel
theorem dX12_isMoved_11 : decode cX12_isMoved 11 = .ok (.getfield 113, 3) := by decide +kernel
theorem dX12_isMoved_14 : decode cX12_isMoved 14 = .ok (.iload_n 2, 1) := by decide +kernel
theorem dX12_isMoved_15 : decode cX12_isMoved 15 = .ok (.iaload, 1) := by decide +kernel
theorem dX12_isMoved_16 : decode cX12_isMoved 16 = .ok (.iload_n 1, 1) := by decide +kernel
theorem dX12_isMoved_17 : decode cX12_isMoved 17 = .ok (.if_icmp .eq 13, 3) := by decide +kernel
theorem dX12_isMoved_20 : decode cX12_isMoved 20 = .ok (.aload_n 0, 1) := by decide +kernel
theorem dX12_isMoved_21 : decode cX12_isMoved 21 = .ok (.getfield 119, 3) := by decide +kernel
theorem dX12_isMoved_24 : decode cX12_isMoved 24 = .ok (.iload_n 2, 1) := by decide +kernel
theorem dX12_isMoved_25 : decode cX12_isMoved 25 = .ok (.iaload, 1) := by decide +kernel
theorem dX12_isMoved_26 : decode cX12_isMoved 26 = .ok (.iload_n 1, 1) := by decide +kernel
theorem dX12_isMoved_27 : decode cX12_isMoved 27 = .ok (.if_icmp .ne 5, 3) := by decide +kernel
theorem dX12_isMoved_30 : decode cX12_isMoved 30 = .ok (.iconst 1, 1) := by decide +kernel
theorem dX12_isMoved_31 : decode cX12_isMoved 31 = .ok (.ireturn, 1) := by decide +kernel
theorem dX12_isMoved_32 : decode cX12_isMoved 32 = .ok (.iinc 2 1, 3) := by decide +kernel
theorem dX12_isMoved_35 : decode cX12_isMoved 35 = .ok (.goto (-33), 3) := by decide +kernel
theorem dX12_isMoved_38 : decode cX12_isMoved 38 = .ok (.iconst 0, 1) := by decide +kernel
theorem dX12_isMoved_39 : decode cX12_isMoved 39 = .ok (.ireturn, 1) := by decide +kernel
theorem dX12_findChain_0 : decode cX12_findChain 0 = .ok (.aload_n 0, 1) := by decide +kernel
theorem dX12_findChain_1 : decode cX12_findChain 1 = .ok (.iconst 0, 1) := by decide +kernel
theorem dX12_findChain_2 : decode cX12_findChain 2 = .ok (.putfield 304, 3) := by decide +kernel
theorem dX12_findChain_5 : decode cX12_findChain 5 = .ok (.aload_n 0, 1) := by decide +kernel
theorem dX12_findChain_6 : decode cX12_findChain 6 = .ok (.iload_n 1, 1) := by decide +kernel
theorem dX12_findChain_7 : decode cX12_findChain 7 = .ok (.putfield 307, 3) := by decide +kernel
theorem dX12_findChain_10 : decode cX12_findChain 10 = .ok (.aload_n 0, 1) := by decide +kernel
theorem dX12_findChain_11 : decode cX12_findChain 11 = .ok (.iload_n 1, 1) := by decide +kernel
theorem dX12_findChain_12 : decode cX12_findChain 12 = .ok (.iload_n 1, 1) := by decide +kernel
theorem dX12_findChain_13 : decode cX12_findChain 13 = .ok (.invokevirtual 310, 3) := by decide +kernel
theorem dX12_findChain_16 : decode cX12_findChain 16 = .ok (.istore_n 2, 1) := by decide +kernel
theorem dX12_findChain_17 : decode cX12_findChain 17 = .ok (.iload_n 2, 1) := by decide +kernel
theorem dX12_findChain_18 : decode cX12_findChain 18 = .ok (.ifCond .lt 69, 3) := by decide +kernel
theorem dX12_findChain_21 : decode cX12_findChain 21 = .ok (.aload_n 0, 1) := by decide +kernel
theorem dX12_findChain_22 : decode cX12_findChain 22 = .ok (.getfield 113, 3) := by decide +kernel
theorem dX12_findChain_25 : decode cX12_findChain 25 = .ok (.aload_n 0, 1) := by decide +kernel
theorem dX12_findChain_26 : decode cX12_findChain 26 = .ok (.getfield 304, 3) := by decide +kernel
theorem dX12_findChain_29 : decode cX12_findChain 29 = .ok (.aload_n 0, 1) := by decide +kernel
theorem dX12_findChain_30 : decode cX12_findChain 30 = .ok (.getfield 307, 3) := by decide +kernel
theorem dX12_findChain_33 : decode cX12_findChain 33 = .ok (.iastore, 1) := by decide +kernel
theorem dX12_findChain_34 : decode cX12_findChain 34 = .ok (.aload_n 0, 1) := by decide +kernel
theorem dX12_findChain_35 : decode cX12_findChain 35 = .ok (.getfield 116, 3) := by decide +kernel
theorem dX12_findChain_38 : decode cX12_findChain 38 = .ok (.aload_n 0, 1) := by decide +kernel
theorem dX12_findChain_39 : decode cX12_findChain 39 = .ok (.getfield 304, 3) := by decide +kernel
theorem dX12_findChain_42 : decode cX12_findChain 42 = .ok (.aload_n 0, 1) := by decide +kernel
theorem dX12_findChain_43 : decode cX12_findChain 43 = .ok (.getfield 43, 3) := by decide +kernel
theorem dX12_findChain_46 : decode cX12_findChain 46 = .ok (.iload_n 2, 1) := by decide +kernel
theorem dX12_findChain_47 : decode cX12_findChain 47 = .ok (.iaload, 1) := by decide +kernel
theorem dX12_findChain_48 : decode cX12_findChain 48 = .ok (.iastore, 1) := by decide +kernel
theorem dX12_findChain_49 : decode cX12_findChain 49 = .ok (.aload_n 0, 1) := by decide +kernel
theorem dX12_findChain_50 : decode cX12_findChain 50 = .ok (.getfield 119, 3) := by decide +kernel
theorem dX12_findChain_53 : decode cX12_findChain 53 = .ok (.aload_n 0, 1) := by decide +kernel
theorem dX12_findChain_54 : decode cX12_findChain 54 = .ok (.getfield 304, 3) := by decide +kernel
theorem dX12_findChain_57 : decode cX12_findChain 57 = .ok (.iload_n 2, 1) := by decide +kernel
theorem dX12_findChain_58 : decode cX12_findChain 58 = .ok (.iastore, 1) := by decide +kernel
theorem dX12_findChain_59 : decode cX12_findChain 59 = .ok (.aload_n 0, 1) := by decide +kernel
theorem dX12_findChain_60 : decode cX12_findChain 60 = .ok (.dup, 1) := by decide +kernel
theorem dX12_findChain_61 : decode cX12_findChain 61 = .ok (.getfield 304, 3) := by decide +kernel
theorem dX12_findChain_64 : decode cX12_findChain 64 = .ok (.iconst 1, 1) := by decide +kernel
theorem dX12_findChain_65 : decode cX12_findChain 65 = .ok (.iadd, 1) := by decide +kernel
theorem dX12_findChain_66 : decode cX12_findChain 66 = .ok (.putfield 304, 3) := by decide +kernel
theorem dX12_findChain_69 : decode cX12_findChain 69 = .ok (.aload_n 0, 1) := by decide +kernel
theorem dX12_findChain_70 : decode cX12_findChain 70 = .ok (.iload_n 2, 1) := by decide +kernel
theorem dX12_findChain_71 : decode cX12_findChain 71 = .ok (.putfield 307, 3) := by decide +kernel
theorem dX12_findChain_74 : decode cX12_findChain 74 = .ok (.aload_n 0, 1) := by decide +kernel
theorem dX12_findChain_75 : decode cX12_findChain 75 = .ok (.aload_n 0, 1) := by decide +kernel
theorem dX12_findChain_76 : decode cX12_findChain 76 = .ok (.getfield 307, 3) := by decide +kernel
theorem dX12_findChain_79 : decode cX12_findChain 79 = .ok (.iload_n 1, 1) := by decide +kernel
theorem dX12_findChain_80 : decode cX12_findChain 80 = .ok (.invokevirtual 310, 3) := by decide +kernel
theorem dX12_findChain_83 : decode cX12_findChain 83 = .ok (.istore_n 2, 1) := by decide +kernel
theorem dX12_findChain_84 : decode cX12_findChain 84 = .ok (.goto (-67), 3) := by decide +kernel
theorem dX12_findChain_87 : decode cX12_findChain 87 = .ok (.return_, 1) := by decide +kernel
theorem dX12_chain_0 : decode cX12_chain 0 = .ok (.aload_n 0, 1) := by decide +kernel
theorem dX12_chain_1 : decode cX12_chain 1 = .ok (.iload_n 1, 1) := by decide +kernel
theorem dX12_chain_2 : decode cX12_chain 2 = .ok (.invokevirtual 194, 3) := by decide +kernel
theorem dX12_chain_5 : decode cX12_chain 5 = .ok (.ifCond .ne 9, 3) := by decide +kernel
theorem dX12_chain_8 : decode cX12_chain 8 = .ok (.aload_n 0, 1) := by decide +kernel
theorem dX12_chain_9 : decode cX12_chain 9 = .ok (.iconst (-1), 1) := by decide +kernel
theorem dX12_chain_10 : decode cX12_chain 10 = .ok (.invokevirtual 174, 3) := by decide +kernel
theorem dX12_chain_13 : decode cX12_chain 13 = .ok (.ireturn, 1) := by decide +kernel
theorem dX12_chain_14 : decode cX12_chain 14 = .ok (.aload_n 0, 1) := by decide +kernel
theorem dX12_chain_15 : decode cX12_chain 15 = .ok (.iload_n 1, 1) := by decide +kernel
theorem dX12_chain_16 : decode cX12_chain 16 = .ok (.invokevirtual 200, 3) := by decide +kernel
theorem dX12_chain_19 : decode cX12_chain 19 = .ok (.ifCond .eq 12, 3) := by decide +kernel
theorem dX12_chain_22 : decode cX12_chain 22 = .ok (.aload_n 0, 1) := by decide +kernel
theorem dX12_chain_23 : decode cX12_chain 23 = .ok (.getfield 43, 3) := by decide +kernel
theorem dX12_chain_26 : decode cX12_chain 26 = .ok (.iload_n 1, 1) := by decide +kernel
theorem dX12_chain_27 : decode cX12_chain 27 = .ok (.iaload, 1) := by decide +kernel
theorem dX12_chain_28 : decode cX12_chain 28 = .ok (.ifCond .ge 10, 3) := by decide +kernel
theorem dX12_chain_31 : decode cX12_chain 31 = .ok (.aload_n 0, 1) := by decide +kernel
theorem dX12_chain_32 : decode cX12_chain 32 = .ok (.bipush (-3), 2) := by decide +kernel
theorem dX12_chain_34 : decode cX12_chain 34 = .ok (.invokevirtual 174, 3) := by decide +kernel
theorem dX12_chain_37 : decode cX12_chain 37 = .ok (.ireturn, 1) := by decide +kernel
theorem dX12_chain_38 : decode cX12_chain 38 = .ok (.aload_n 0, 1) := by decide +kernel
theorem dX12_chain_39 : decode cX12_chain 39 = .ok (.iload_n 1, 1) := by decide +kernel
theorem dX12_chain_40 : decode cX12_chain 40 = .ok (.invokevirtual 313, 3) := by decide +kernel
theorem dX12_chain_43 : decode cX12_chain 43 = .ok (.aload_n 0, 1) := by decide +kernel
theorem dX12_chain_44 : decode cX12_chain 44 = .ok (.getfield 304, 3) := by decide +kernel
theorem dX12_chain_47 : decode cX12_chain 47 = .ok (.ireturn, 1) := by decide +kernel
theorem dX12_chainOf_0 : decode cX12_chainOf 0 = .ok (.aload_n 0, 1) := by decide +kernel
theorem dX12_chainOf_1 : decode cX12_chainOf 1 = .ok (.iload_n 1, 1) := by decide +kernel
theorem dX12_chainOf_2 : decode cX12_chainOf 2 = .ok (.invokevirtual 194, 3) := by decide +kernel
theorem dX12_chainOf_5 : decode cX12_chainOf 5 = .ok (.ifCond .ne 9, 3) := by decide +kernel
theorem dX12_chainOf_8 : decode cX12_chainOf 8 = .ok (.aload_n 0, 1) := by decide +kernel
theorem dX12_chainOf_9 : decode cX12_chainOf 9 = .ok (.iconst (-1), 1) := by decide +kernel
theorem dX12_chainOf_10 : decode cX12_chainOf 10 = .ok (.invokevirtual 174, 3) := by decide +kernel
theorem dX12_chainOf_13 : decode cX12_chainOf 13 = .ok (.ireturn, 1) := by decide +kernel
theorem dX12_chainOf_14 : decode cX12_chainOf 14 = .ok (.iload_n 3, 1) := by decide +kernel
theorem dX12_chainOf_15 : decode cX12_chainOf 15 = .ok (.iconst 0, 1) := by decide +kernel
theorem dX12_chainOf_16 : decode cX12_chainOf 16 = .ok (.iconst 3, 1) := by decide +kernel
theorem dX12_chainOf_17 : decode cX12_chainOf 17 = .ok (.invokestatic 157, 3) := by decide +kernel
theorem dX12_chainOf_20 : decode cX12_chainOf 20 = .ok (.ifCond .ne 10, 3) := by decide +kernel
theorem dX12_chainOf_23 : decode cX12_chainOf 23 = .ok (.aload_n 0, 1) := by decide +kernel
theorem dX12_chainOf_24 : decode cX12_chainOf 24 = .ok (.bipush (-2), 2) := by decide +kernel
theorem dX12_chainOf_26 : decode cX12_chainOf 26 = .ok (.invokevirtual 174, 3) := by decide +kernel
theorem dX12_chainOf_29 : decode cX12_chainOf 29 = .ok (.ireturn, 1) := by decide +kernel
theorem dX12_chainOf_30 : decode cX12_chainOf 30 = .ok (.aload_n 0, 1) := by decide +kernel
theorem dX12_chainOf_31 : decode cX12_chainOf 31 = .ok (.iload_n 1, 1) := by decide +kernel
theorem dX12_chainOf_32 : decode cX12_chainOf 32 = .ok (.invokevirtual 200, 3) := by decide +kernel
theorem dX12_chainOf_35 : decode cX12_chainOf 35 = .ok (.ifCond .eq 12, 3) := by decide +kernel
theorem dX12_chainOf_38 : decode cX12_chainOf 38 = .ok (.aload_n 0, 1) := by decide +kernel
theorem dX12_chainOf_39 : decode cX12_chainOf 39 = .ok (.getfield 43, 3) := by decide +kernel
theorem dX12_chainOf_42 : decode cX12_chainOf 42 = .ok (.iload_n 1, 1) := by decide +kernel
theorem dX12_chainOf_43 : decode cX12_chainOf 43 = .ok (.iaload, 1) := by decide +kernel
theorem dX12_chainOf_44 : decode cX12_chainOf 44 = .ok (.ifCond .ge 10, 3) := by decide +kernel
theorem dX12_chainOf_47 : decode cX12_chainOf 47 = .ok (.aload_n 0, 1) := by decide +kernel
theorem dX12_chainOf_48 : decode cX12_chainOf 48 = .ok (.bipush (-3), 2) := by decide +kernel
theorem dX12_chainOf_50 : decode cX12_chainOf 50 = .ok (.invokevirtual 174, 3) := by decide +kernel
theorem dX12_chainOf_53 : decode cX12_chainOf 53 = .ok (.ireturn, 1) := by decide +kernel
theorem dX12_chainOf_54 : decode cX12_chainOf 54 = .ok (.aload_n 0, 1) := by decide +kernel
theorem dX12_chainOf_55 : decode cX12_chainOf 55 = .ok (.iload_n 1, 1) := by decide +kernel
theorem dX12_chainOf_56 : decode cX12_chainOf 56 = .ok (.invokevirtual 313, 3) := by decide +kernel
theorem dX12_chainOf_59 : decode cX12_chainOf 59 = .ok (.iload_n 3, 1) := by decide +kernel
theorem dX12_chainOf_60 : decode cX12_chainOf 60 = .ok (.iconst 3, 1) := by decide +kernel
theorem dX12_chainOf_61 : decode cX12_chainOf 61 = .ok (.if_icmp .ne 8, 3) := by decide +kernel
theorem dX12_chainOf_64 : decode cX12_chainOf 64 = .ok (.aload_n 0, 1) := by decide +kernel
theorem dX12_chainOf_65 : decode cX12_chainOf 65 = .ok (.getfield 307, 3) := by decide +kernel
theorem dX12_chainOf_68 : decode cX12_chainOf 68 = .ok (.ireturn, 1) := by decide +kernel
theorem dX12_chainOf_69 : decode cX12_chainOf 69 = .ok (.iload_n 2, 1) := by decide +kernel
theorem dX12_chainOf_70 : decode cX12_chainOf 70 = .ok (.iconst 0, 1) := by decide +kernel
theorem dX12_chainOf_71 : decode cX12_chainOf 71 = .ok (.aload_n 0, 1) := by decide +kernel
theorem dX12_chainOf_72 : decode cX12_chainOf 72 = .ok (.getfield 304, 3) := by decide +kernel
theorem dX12_chainOf_75 : decode cX12_chainOf 75 = .ok (.iconst 1, 1) := by decide +kernel
theorem dX12_chainOf_76 : decode cX12_chainOf 76 = .ok (.isub, 1) := by decide +kernel
theorem dX12_chainOf_77 : decode cX12_chainOf 77 = .ok (.invokestatic 157, 3) := by decide +kernel
theorem dX12_chainOf_80 : decode cX12_chainOf 80 = .ok (.ifCond .ne 9, 3) := by decide +kernel
theorem dX12_chainOf_83 : decode cX12_chainOf 83 = .ok (.aload_n 0, 1) := by decide +kernel
theorem dX12_chainOf_84 : decode cX12_chainOf 84 = .ok (.iconst (-1), 1) := by decide +kernel
theorem dX12_chainOf_85 : decode cX12_chainOf 85 = .ok (.invokevirtual 174, 3) := by decide +kernel
theorem dX12_chainOf_88 : decode cX12_chainOf 88 = .ok (.ireturn, 1) := by decide +kernel
theorem dX12_chainOf_89 : decode cX12_chainOf 89 = .ok (.iload_n 3, 1) := by decide +kernel
theorem dX12_chainOf_90 : decode cX12_chainOf 90 = .ok (.ifCond .ne 12, 3) := by decide +kernel
theorem dX12_chainOf_93 : decode cX12_chainOf 93 = .ok (.aload_n 0, 1) := by decide +kernel
theorem dX12_chainOf_94 : decode cX12_chainOf 94 = .ok (.getfield 113, 3) := by decide +kernel
theorem dX12_chainOf_97 : decode cX12_chainOf 97 = .ok (.iload_n 2, 1) := by decide +kernel
theorem dX12_chainOf_98 : decode cX12_chainOf 98 = .ok (.iaload, 1) := by decide +kernel
theorem dX12_chainOf_99 : decode cX12_chainOf 99 = .ok (.goto 23, 3) := by decide +kernel
theorem dX12_chainOf_102 : decode cX12_chainOf 102 = .ok (.iload_n 3, 1) := by decide +kernel
theorem dX12_chainOf_103 : decode cX12_chainOf 103 = .ok (.iconst 1, 1) := by decide +kernel
theorem dX12_chainOf_104 : decode cX12_chainOf 104 = .ok (.if_icmp .ne 12, 3) := by decide +kernel
theorem dX12_chainOf_107 : decode cX12_chainOf 107 = .ok (.aload_n 0, 1) := by decide +kernel
theorem dX12_chainOf_108 : decode cX12_chainOf 108 = .ok (.getfield 116, 3) := by decide +kernel
theorem dX12_chainOf_111 : decode cX12_chainOf 111 = .ok (.iload_n 2, 1) := by decide +kernel
theorem dX12_chainOf_112 : decode cX12_chainOf 112 = .ok (.iaload, 1) := by decide +kernel
theorem dX12_chainOf_113 : decode cX12_chainOf 113 = .ok (.goto 9, 3) := by decide +kernel
theorem dX12_chainOf_116 : decode cX12_chainOf 116 = .ok (.aload_n 0, 1) := by decide +kernel
theorem dX12_chainOf_117 : decode cX12_chainOf 117 = .ok (.getfield 119, 3) := by decide +kernel
theorem dX12_chainOf_120 : decode cX12_chainOf 120 = .ok (.iload_n 2, 1) := by decide +kernel
theorem dX12_chainOf_121 : decode cX12_chainOf 121 = .ok (.iaload, 1) := by decide +kernel
theorem dX12_chainOf_122 : decode cX12_chainOf 122 = .ok (.ireturn, 1) := by decide +kernel
theorem dX12_leaver_0 : decode cX12_leaver 0 = .ok (.aload_n 0, 1) := by decide +kernel
theorem dX12_leaver_1 : decode cX12_leaver 1 = .ok (.iload_n 1, 1) := by decide +kernel
theorem dX12_leaver_2 : decode cX12_leaver 2 = .ok (.invokevirtual 194, 3) := by decide +kernel
theorem dX12_leaver_5 : decode cX12_leaver 5 = .ok (.ifCond .ne 9, 3) := by decide +kernel
theorem dX12_leaver_8 : decode cX12_leaver 8 = .ok (.aload_n 0, 1) := by decide +kernel
theorem dX12_leaver_9 : decode cX12_leaver 9 = .ok (.iconst (-1), 1) := by decide +kernel
theorem dX12_leaver_10 : decode cX12_leaver 10 = .ok (.invokevirtual 174, 3) := by decide +kernel
theorem dX12_leaver_13 : decode cX12_leaver 13 = .ok (.ireturn, 1) := by decide +kernel
theorem dX12_leaver_14 : decode cX12_leaver 14 = .ok (.iconst 0, 1) := by decide +kernel
theorem dX12_leaver_15 : decode cX12_leaver 15 = .ok (.istore_n 2, 1) := by decide +kernel
theorem dX12_leaver_16 : decode cX12_leaver 16 = .ok (.iconst 0, 1) := by decide +kernel
theorem dX12_leaver_17 : decode cX12_leaver 17 = .ok (.istore_n 3, 1) := by decide +kernel
theorem dX12_leaver_18 : decode cX12_leaver 18 = .ok (.iload_n 3, 1) := by decide +kernel
theorem dX12_leaver_19 : decode cX12_leaver 19 = .ok (.aload_n 0, 1) := by decide +kernel
theorem dX12_leaver_20 : decode cX12_leaver 20 = .ok (.getfield 316, 3) := by decide +kernel
theorem dX12_leaver_23 : decode cX12_leaver 23 = .ok (.if_icmp .ge 29, 3) := by decide +kernel
theorem dX12_leaver_26 : decode cX12_leaver 26 = .ok (.iload_n 2, 1) := by decide +kernel
theorem dX12_leaver_27 : decode cX12_leaver 27 = .ok (.ifCond .ne 13, 3) := by decide +kernel
theorem dX12_leaver_30 : decode cX12_leaver 30 = .ok (.aload_n 0, 1) := by decide +kernel
theorem dX12_leaver_31 : decode cX12_leaver 31 = .ok (.getfield 122, 3) := by decide +kernel
theorem dX12_leaver_34 : decode cX12_leaver 34 = .ok (.iload_n 3, 1) := by decide +kernel
theorem dX12_leaver_35 : decode cX12_leaver 35 = .ok (.iaload, 1) := by decide +kernel
theorem dX12_leaver_36 : decode cX12_leaver 36 = .ok (.iload_n 1, 1) := by decide +kernel
theorem dX12_leaver_37 : decode cX12_leaver 37 = .ok (.if_icmp .ne 7, 3) := by decide +kernel
theorem dX12_leaver_40 : decode cX12_leaver 40 = .ok (.iconst 1, 1) := by decide +kernel
theorem dX12_leaver_41 : decode cX12_leaver 41 = .ok (.goto 4, 3) := by decide +kernel
theorem dX12_leaver_44 : decode cX12_leaver 44 = .ok (.iconst 0, 1) := by decide +kernel
theorem dX12_leaver_45 : decode cX12_leaver 45 = .ok (.istore_n 2, 1) := by decide +kernel
theorem dX12_leaver_46 : decode cX12_leaver 46 = .ok (.iinc 3 1, 3) := by decide +kernel
theorem dX12_leaver_49 : decode cX12_leaver 49 = .ok (.goto (-31), 3) := by decide +kernel
theorem dX12_leaver_52 : decode cX12_leaver 52 = .ok (.aload_n 0, 1) := by decide +kernel
theorem dX12_leaver_53 : decode cX12_leaver 53 = .ok (.iload_n 1, 1) := by decide +kernel
theorem dX12_leaver_54 : decode cX12_leaver 54 = .ok (.invokevirtual 200, 3) := by decide +kernel
theorem dX12_leaver_57 : decode cX12_leaver 57 = .ok (.ifCond .eq 7, 3) := by decide +kernel
theorem dX12_leaver_60 : decode cX12_leaver 60 = .ok (.iload_n 2, 1) := by decide +kernel
theorem dX12_leaver_61 : decode cX12_leaver 61 = .ok (.ifCond .eq 10, 3) := by decide +kernel
theorem dX12_leaver_64 : decode cX12_leaver 64 = .ok (.aload_n 0, 1) := by decide +kernel
theorem dX12_leaver_65 : decode cX12_leaver 65 = .ok (.bipush (-3), 2) := by decide +kernel
theorem dX12_leaver_67 : decode cX12_leaver 67 = .ok (.invokevirtual 174, 3) := by decide +kernel
theorem dX12_leaver_70 : decode cX12_leaver 70 = .ok (.ireturn, 1) := by decide +kernel
theorem dX12_leaver_71 : decode cX12_leaver 71 = .ok (.aload_n 0, 1) := by decide +kernel
theorem dX12_leaver_72 : decode cX12_leaver 72 = .ok (.getfield 316, 3) := by decide +kernel
theorem dX12_leaver_75 : decode cX12_leaver 75 = .ok (.bipush 8, 2) := by decide +kernel
theorem dX12_leaver_77 : decode cX12_leaver 77 = .ok (.if_icmp .ne 10, 3) := by decide +kernel
theorem dX12_leaver_80 : decode cX12_leaver 80 = .ok (.aload_n 0, 1) := by decide +kernel
theorem dX12_leaver_81 : decode cX12_leaver 81 = .ok (.bipush (-6), 2) := by decide +kernel
theorem dX12_leaver_83 : decode cX12_leaver 83 = .ok (.invokevirtual 174, 3) := by decide +kernel
theorem dX12_leaver_86 : decode cX12_leaver 86 = .ok (.ireturn, 1) := by decide +kernel
theorem dX12_leaver_87 : decode cX12_leaver 87 = .ok (.aload_n 0, 1) := by decide +kernel
theorem dX12_leaver_88 : decode cX12_leaver 88 = .ok (.getfield 122, 3) := by decide +kernel
theorem dX12_leaver_91 : decode cX12_leaver 91 = .ok (.aload_n 0, 1) := by decide +kernel
theorem dX12_leaver_92 : decode cX12_leaver 92 = .ok (.getfield 316, 3) := by decide +kernel
theorem dX12_leaver_95 : decode cX12_leaver 95 = .ok (.iload_n 1, 1) := by decide +kernel
theorem dX12_leaver_96 : decode cX12_leaver 96 = .ok (.iastore, 1) := by decide +kernel
theorem dX12_leaver_97 : decode cX12_leaver 97 = .ok (.aload_n 0, 1) := by decide +kernel
theorem dX12_leaver_98 : decode cX12_leaver 98 = .ok (.dup, 1) := by decide +kernel
theorem dX12_leaver_99 : decode cX12_leaver 99 = .ok (.getfield 316, 3) := by decide +kernel
theorem dX12_leaver_102 : decode cX12_leaver 102 = .ok (.iconst 1, 1) := by decide +kernel
theorem dX12_leaver_103 : decode cX12_leaver 103 = .ok (.iadd, 1) := by decide +kernel
theorem dX12_leaver_104 : decode cX12_leaver 104 = .ok (.putfield 316, 3) := by decide +kernel
theorem dX12_leaver_107 : decode cX12_leaver 107 = .ok (.aload_n 0, 1) := by decide +kernel
theorem dX12_leaver_108 : decode cX12_leaver 108 = .ok (.getfield 316, 3) := by decide +kernel
theorem dX12_leaver_111 : decode cX12_leaver 111 = .ok (.ireturn, 1) := by decide +kernel
theorem dX12_clear_0 : decode cX12_clear 0 = .ok (.aload_n 0, 1) := by decide +kernel
theorem dX12_clear_1 : decode cX12_clear 1 = .ok (.getfield 316, 3) := by decide +kernel
theorem dX12_clear_4 : decode cX12_clear 4 = .ok (.istore_n 1, 1) := by decide +kernel
theorem dX12_clear_5 : decode cX12_clear 5 = .ok (.aload_n 0, 1) := by decide +kernel
theorem dX12_clear_6 : decode cX12_clear 6 = .ok (.iconst 0, 1) := by decide +kernel
theorem dX12_clear_7 : decode cX12_clear 7 = .ok (.putfield 316, 3) := by decide +kernel
theorem dX12_clear_10 : decode cX12_clear 10 = .ok (.iload_n 1, 1) := by decide +kernel
theorem dX12_clear_11 : decode cX12_clear 11 = .ok (.ireturn, 1) := by decide +kernel
theorem dX12_amount_0 : decode cX12_amount 0 = .ok (.iload_n 0, 1) := by decide +kernel
theorem dX12_amount_1 : decode cX12_amount 1 = .ok (.ifCond .ge 8, 3) := by decide +kernel
theorem dX12_amount_4 : decode cX12_amount 4 = .ok (.iload_n 0, 1) := by decide +kernel
theorem dX12_amount_5 : decode cX12_amount 5 = .ok (.ineg, 1) := by decide +kernel
theorem dX12_amount_6 : decode cX12_amount 6 = .ok (.goto 4, 3) := by decide +kernel
theorem dX12_amount_9 : decode cX12_amount 9 = .ok (.iload_n 0, 1) := by decide +kernel
theorem dX12_amount_10 : decode cX12_amount 10 = .ok (.ireturn, 1) := by decide +kernel
theorem dX12_fitOf_0 : decode cX12_fitOf 0 = .ok (.aload_n 0, 1) := by decide +kernel
theorem dX12_fitOf_1 : decode cX12_fitOf 1 = .ok (.getfield 43, 3) := by decide +kernel
theorem dX12_fitOf_4 : decode cX12_fitOf 4 = .ok (.iload_n 1, 1) := by decide +kernel
theorem dX12_fitOf_5 : decode cX12_fitOf 5 = .ok (.iaload, 1) := by decide +kernel
theorem dX12_fitOf_6 : decode cX12_fitOf 6 = .ok (.ifCond .ge 7, 3) := by decide +kernel
theorem dX12_fitOf_9 : decode cX12_fitOf 9 = .ok (.iconst 1, 1) := by decide +kernel
theorem dX12_fitOf_10 : decode cX12_fitOf 10 = .ok (.goto 14, 3) := by decide +kernel
theorem dX12_fitOf_13 : decode cX12_fitOf 13 = .ok (.aload_n 0, 1) := by decide +kernel
theorem dX12_fitOf_14 : decode cX12_fitOf 14 = .ok (.getfield 22, 3) := by decide +kernel
theorem dX12_fitOf_17 : decode cX12_fitOf 17 = .ok (.aload_n 0, 1) := by decide +kernel
theorem dX12_fitOf_18 : decode cX12_fitOf 18 = .ok (.getfield 43, 3) := by decide +kernel
theorem dX12_fitOf_21 : decode cX12_fitOf 21 = .ok (.iload_n 1, 1) := by decide +kernel
theorem dX12_fitOf_22 : decode cX12_fitOf 22 = .ok (.iaload, 1) := by decide +kernel
theorem dX12_fitOf_23 : decode cX12_fitOf 23 = .ok (.iaload, 1) := by decide +kernel
theorem dX12_fitOf_24 : decode cX12_fitOf 24 = .ok (.istore_n 3, 1) := by decide +kernel
theorem dX12_fitOf_25 : decode cX12_fitOf 25 = .ok (.aload_n 0, 1) := by decide +kernel
theorem dX12_fitOf_26 : decode cX12_fitOf 26 = .ok (.getfield 43, 3) := by decide +kernel
theorem dX12_fitOf_29 : decode cX12_fitOf 29 = .ok (.iload_n 1, 1) := by decide +kernel
theorem dX12_fitOf_30 : decode cX12_fitOf 30 = .ok (.iaload, 1) := by decide +kernel
theorem dX12_fitOf_31 : decode cX12_fitOf 31 = .ok (.ifCond .ge 7, 3) := by decide +kernel
theorem dX12_fitOf_34 : decode cX12_fitOf 34 = .ok (.iconst 0, 1) := by decide +kernel
theorem dX12_fitOf_35 : decode cX12_fitOf 35 = .ok (.goto 24, 3) := by decide +kernel
theorem dX12_fitOf_38 : decode cX12_fitOf 38 = .ok (.aload_n 0, 1) := by decide +kernel
theorem dX12_fitOf_39 : decode cX12_fitOf 39 = .ok (.getfield 25, 3) := by decide +kernel
theorem dX12_fitOf_42 : decode cX12_fitOf 42 = .ok (.aload_n 0, 1) := by decide +kernel
theorem dX12_fitOf_43 : decode cX12_fitOf 43 = .ok (.getfield 43, 3) := by decide +kernel
theorem dX12_fitOf_46 : decode cX12_fitOf 46 = .ok (.iload_n 1, 1) := by decide +kernel
theorem dX12_fitOf_47 : decode cX12_fitOf 47 = .ok (.iaload, 1) := by decide +kernel
theorem dX12_fitOf_48 : decode cX12_fitOf 48 = .ok (.iaload, 1) := by decide +kernel
theorem dX12_fitOf_49 : decode cX12_fitOf 49 = .ok (.aload_n 0, 1) := by decide +kernel
theorem dX12_fitOf_50 : decode cX12_fitOf 50 = .ok (.getfield 25, 3) := by decide +kernel
theorem dX12_fitOf_53 : decode cX12_fitOf 53 = .ok (.iload_n 2, 1) := by decide +kernel
theorem dX12_fitOf_54 : decode cX12_fitOf 54 = .ok (.iaload, 1) := by decide +kernel
theorem dX12_fitOf_55 : decode cX12_fitOf 55 = .ok (.isub, 1) := by decide +kernel
theorem dX12_fitOf_56 : decode cX12_fitOf 56 = .ok (.invokestatic 319, 3) := by decide +kernel
theorem dX12_fitOf_59 : decode cX12_fitOf 59 = .ok (.istore 4, 2) := by decide +kernel
theorem dX12_fitOf_61 : decode cX12_fitOf 61 = .ok (.aload_n 0, 1) := by decide +kernel
theorem dX12_fitOf_62 : decode cX12_fitOf 62 = .ok (.iload_n 1, 1) := by decide +kernel
theorem dX12_fitOf_63 : decode cX12_fitOf 63 = .ok (.iload_n 2, 1) := by decide +kernel
theorem dX12_fitOf_64 : decode cX12_fitOf 64 = .ok (.invokevirtual 223, 3) := by decide +kernel
theorem dX12_fitOf_67 : decode cX12_fitOf 67 = .ok (.bipush 10, 2) := by decide +kernel
theorem dX12_fitOf_69 : decode cX12_fitOf 69 = .ok (.iload_n 3, 1) := by decide +kernel
theorem dX12_fitOf_70 : decode cX12_fitOf 70 = .ok (.aload_n 0, 1) := by decide +kernel
theorem dX12_fitOf_71 : decode cX12_fitOf 71 = .ok (.getfield 22, 3) := by decide +kernel
theorem dX12_fitOf_74 : decode cX12_fitOf 74 = .ok (.iload_n 2, 1) := by decide +kernel
theorem dX12_fitOf_75 : decode cX12_fitOf 75 = .ok (.iaload, 1) := by decide +kernel
theorem dX12_fitOf_76 : decode cX12_fitOf 76 = .ok (.isub, 1) := by decide +kernel
theorem dX12_fitOf_77 : decode cX12_fitOf 77 = .ok (.invokestatic 319, 3) := by decide +kernel
theorem dX12_fitOf_80 : decode cX12_fitOf 80 = .ok (.imul, 1) := by decide +kernel
theorem dX12_fitOf_81 : decode cX12_fitOf 81 = .ok (.isub, 1) := by decide +kernel
theorem dX12_fitOf_82 : decode cX12_fitOf 82 = .ok (.iconst 2, 1) := by decide +kernel
theorem dX12_fitOf_83 : decode cX12_fitOf 83 = .ok (.iload 4, 2) := by decide +kernel
theorem dX12_fitOf_85 : decode cX12_fitOf 85 = .ok (.imul, 1) := by decide +kernel
theorem dX12_fitOf_86 : decode cX12_fitOf 86 = .ok (.isub, 1) := by decide +kernel
theorem dX12_fitOf_87 : decode cX12_fitOf 87 = .ok (.ireturn, 1) := by decide +kernel
theorem dX12_fit_0 : decode cX12_fit 0 = .ok (.aload_n 0, 1) := by decide +kernel
theorem dX12_fit_1 : decode cX12_fit 1 = .ok (.iload_n 1, 1) := by decide +kernel
theorem dX12_fit_2 : decode cX12_fit 2 = .ok (.invokevirtual 194, 3) := by decide +kernel
theorem dX12_fit_5 : decode cX12_fit 5 = .ok (.ifCond .eq 20, 3) := by decide +kernel
theorem dX12_fit_8 : decode cX12_fit 8 = .ok (.aload_n 0, 1) := by decide +kernel
theorem dX12_fit_9 : decode cX12_fit 9 = .ok (.iload_n 2, 1) := by decide +kernel
theorem dX12_fit_10 : decode cX12_fit 10 = .ok (.invokevirtual 181, 3) := by decide +kernel
theorem dX12_fit_13 : decode cX12_fit 13 = .ok (.ifCond .eq 12, 3) := by decide +kernel
theorem dX12_fit_16 : decode cX12_fit 16 = .ok (.aload_n 0, 1) := by decide +kernel
theorem dX12_fit_17 : decode cX12_fit 17 = .ok (.iload_n 1, 1) := by decide +kernel
theorem dX12_fit_18 : decode cX12_fit 18 = .ok (.iload_n 2, 1) := by decide +kernel
theorem dX12_fit_19 : decode cX12_fit 19 = .ok (.invokevirtual 322, 3) := by decide +kernel
theorem dX12_fit_22 : decode cX12_fit 22 = .ok (.goto 8, 3) := by decide +kernel
theorem dX12_fit_25 : decode cX12_fit 25 = .ok (.aload_n 0, 1) := by decide +kernel
theorem dX12_fit_26 : decode cX12_fit 26 = .ok (.iconst (-1), 1) := by decide +kernel
theorem dX12_fit_27 : decode cX12_fit 27 = .ok (.invokevirtual 197, 3) := by decide +kernel
theorem dX12_fit_30 : decode cX12_fit 30 = .ok (.ireturn, 1) := by decide +kernel
theorem dX12_worth_0 : decode cX12_worth 0 = .ok (.aload_n 0, 1) := by decide +kernel
theorem dX12_worth_1 : decode cX12_worth 1 = .ok (.getfield 122, 3) := by decide +kernel
theorem dX12_worth_4 : decode cX12_worth 4 = .ok (.iload_n 1, 1) := by decide +kernel
theorem dX12_worth_5 : decode cX12_worth 5 = .ok (.iaload, 1) := by decide +kernel
theorem dX12_worth_6 : decode cX12_worth 6 = .ok (.istore 4, 2) := by decide +kernel
theorem dX12_worth_8 : decode cX12_worth 8 = .ok (.iload_n 3, 1) := by decide +kernel
theorem dX12_worth_9 : decode cX12_worth 9 = .ok (.iload_n 2, 1) := by decide +kernel
theorem dX12_worth_10 : decode cX12_worth 10 = .ok (.ishr, 1) := by decide +kernel
theorem dX12_worth_11 : decode cX12_worth 11 = .ok (.iconst 1, 1) := by decide +kernel
theorem dX12_worth_12 : decode cX12_worth 12 = .ok (.iand, 1) := by decide +kernel
theorem dX12_worth_13 : decode cX12_worth 13 = .ok (.iconst 1, 1) := by decide +kernel
theorem dX12_worth_14 : decode cX12_worth 14 = .ok (.if_icmp .eq 29, 3) := by decide +kernel
theorem dX12_worth_17 : decode cX12_worth 17 = .ok (.aload_n 0, 1) := by decide +kernel
theorem dX12_worth_18 : decode cX12_worth 18 = .ok (.iload 4, 2) := by decide +kernel
theorem dX12_worth_20 : decode cX12_worth 20 = .ok (.invokevirtual 200, 3) := by decide +kernel
theorem dX12_worth_23 : decode cX12_worth 23 = .ok (.ifCond .eq 20, 3) := by decide +kernel
theorem dX12_worth_26 : decode cX12_worth 26 = .ok (.aload_n 0, 1) := by decide +kernel
theorem dX12_worth_27 : decode cX12_worth 27 = .ok (.iload 4, 2) := by decide +kernel
theorem dX12_worth_29 : decode cX12_worth 29 = .ok (.aload_n 0, 1) := by decide +kernel
theorem dX12_worth_30 : decode cX12_worth 30 = .ok (.getfield 125, 3) := by decide +kernel
theorem dX12_worth_33 : decode cX12_worth 33 = .ok (.iload_n 2, 1) := by decide +kernel
theorem dX12_worth_34 : decode cX12_worth 34 = .ok (.iaload, 1) := by decide +kernel
theorem dX12_worth_35 : decode cX12_worth 35 = .ok (.invokevirtual 322, 3) := by decide +kernel
theorem dX12_worth_38 : decode cX12_worth 38 = .ok (.bipush 30, 2) := by decide +kernel
theorem dX12_worth_40 : decode cX12_worth 40 = .ok (.if_icmp .ge 5, 3) := by decide +kernel
theorem dX12_worth_43 : decode cX12_worth 43 = .ok (.iconst (-1), 1) := by decide +kernel
theorem dX12_worth_44 : decode cX12_worth 44 = .ok (.ireturn, 1) := by decide +kernel
theorem dX12_worth_45 : decode cX12_worth 45 = .ok (.aload_n 0, 1) := by decide +kernel
theorem dX12_worth_46 : decode cX12_worth 46 = .ok (.iload 4, 2) := by decide +kernel
theorem dX12_worth_48 : decode cX12_worth 48 = .ok (.invokevirtual 252, 3) := by decide +kernel
theorem dX12_worth_51 : decode cX12_worth 51 = .ok (.ifCond .eq 9, 3) := by decide +kernel
theorem dX12_worth_54 : decode cX12_worth 54 = .ok (.ldc_w 325, 3) := by decide +kernel
theorem dX12_worth_57 : decode cX12_worth 57 = .ok (.goto 4, 3) := by decide +kernel
theorem dX12_worth_60 : decode cX12_worth 60 = .ok (.iconst 0, 1) := by decide +kernel
theorem dX12_worth_61 : decode cX12_worth 61 = .ok (.sipush 10000, 3) := by decide +kernel
theorem dX12_worth_64 : decode cX12_worth 64 = .ok (.iadd, 1) := by decide +kernel
theorem dX12_worth_65 : decode cX12_worth 65 = .ok (.aload_n 0, 1) := by decide +kernel
theorem dX12_worth_66 : decode cX12_worth 66 = .ok (.iload 4, 2) := by decide +kernel
theorem dX12_worth_68 : decode cX12_worth 68 = .ok (.aload_n 0, 1) := by decide +kernel
theorem dX12_worth_69 : decode cX12_worth 69 = .ok (.getfield 125, 3) := by decide +kernel
theorem dX12_worth_72 : decode cX12_worth 72 = .ok (.iload_n 2, 1) := by decide +kernel
theorem dX12_worth_73 : decode cX12_worth 73 = .ok (.iaload, 1) := by decide +kernel
theorem dX12_worth_74 : decode cX12_worth 74 = .ok (.invokevirtual 322, 3) := by decide +kernel
theorem dX12_worth_77 : decode cX12_worth 77 = .ok (.iadd, 1) := by decide +kernel
theorem dX12_worth_78 : decode cX12_worth 78 = .ok (.aload_n 0, 1) := by decide +kernel
theorem dX12_worth_79 : decode cX12_worth 79 = .ok (.getfield 128, 3) := by decide +kernel
theorem dX12_worth_82 : decode cX12_worth 82 = .ok (.sipush 256, 3) := by decide +kernel
theorem dX12_worth_85 : decode cX12_worth 85 = .ok (.iload_n 1, 1) := by decide +kernel
theorem dX12_worth_86 : decode cX12_worth 86 = .ok (.iconst 1, 1) := by decide +kernel
theorem dX12_worth_87 : decode cX12_worth 87 = .ok (.iadd, 1) := by decide +kernel
theorem dX12_worth_88 : decode cX12_worth 88 = .ok (.imul, 1) := by decide +kernel
theorem dX12_worth_89 : decode cX12_worth 89 = .ok (.iload_n 3, 1) := by decide +kernel
theorem dX12_worth_90 : decode cX12_worth 90 = .ok (.iconst 1, 1) := by decide +kernel
theorem dX12_worth_91 : decode cX12_worth 91 = .ok (.iload_n 2, 1) := by decide +kernel
theorem dX12_worth_92 : decode cX12_worth 92 = .ok (.ishl, 1) := by decide +kernel
theorem dX12_worth_93 : decode cX12_worth 93 = .ok (.ior, 1) := by decide +kernel
theorem dX12_worth_94 : decode cX12_worth 94 = .ok (.iadd, 1) := by decide +kernel
theorem dX12_worth_95 : decode cX12_worth 95 = .ok (.iaload, 1) := by decide +kernel
theorem dX12_worth_96 : decode cX12_worth 96 = .ok (.iadd, 1) := by decide +kernel
theorem dX12_worth_97 : decode cX12_worth 97 = .ok (.ireturn, 1) := by decide +kernel
theorem dX12_findOffers_0 : decode cX12_findOffers 0 = .ok (.aload_n 0, 1) := by decide +kernel
theorem dX12_findOffers_1 : decode cX12_findOffers 1 = .ok (.iconst 0, 1) := by decide +kernel
theorem dX12_findOffers_2 : decode cX12_findOffers 2 = .ok (.putfield 326, 3) := by decide +kernel
theorem dX12_findOffers_5 : decode cX12_findOffers 5 = .ok (.iconst 0, 1) := by decide +kernel
theorem dX12_findOffers_6 : decode cX12_findOffers 6 = .ok (.istore_n 1, 1) := by decide +kernel
theorem dX12_findOffers_7 : decode cX12_findOffers 7 = .ok (.iload_n 1, 1) := by decide +kernel
theorem dX12_findOffers_8 : decode cX12_findOffers 8 = .ok (.aload_n 0, 1) := by decide +kernel
theorem dX12_findOffers_9 : decode cX12_findOffers 9 = .ok (.getfield 161, 3) := by decide +kernel
theorem dX12_findOffers_12 : decode cX12_findOffers 12 = .ok (.if_icmp .ge 46, 3) := by decide +kernel
theorem dX12_findOffers_15 : decode cX12_findOffers 15 = .ok (.aload_n 0, 1) := by decide +kernel
theorem dX12_findOffers_16 : decode cX12_findOffers 16 = .ok (.getfield 326, 3) := by decide +kernel
theorem dX12_findOffers_19 : decode cX12_findOffers 19 = .ok (.bipush 8, 2) := by decide +kernel
theorem dX12_findOffers_21 : decode cX12_findOffers 21 = .ok (.if_icmp .ge 37, 3) := by decide +kernel
theorem dX12_findOffers_24 : decode cX12_findOffers 24 = .ok (.aload_n 0, 1) := by decide +kernel
theorem dX12_findOffers_25 : decode cX12_findOffers 25 = .ok (.iload_n 1, 1) := by decide +kernel
theorem dX12_findOffers_26 : decode cX12_findOffers 26 = .ok (.invokevirtual 191, 3) := by decide +kernel
theorem dX12_findOffers_29 : decode cX12_findOffers 29 = .ok (.ifCond .eq 23, 3) := by decide +kernel
theorem dX12_findOffers_32 : decode cX12_findOffers 32 = .ok (.aload_n 0, 1) := by decide +kernel
theorem dX12_findOffers_33 : decode cX12_findOffers 33 = .ok (.getfield 125, 3) := by decide +kernel
theorem dX12_findOffers_36 : decode cX12_findOffers 36 = .ok (.aload_n 0, 1) := by decide +kernel
theorem dX12_findOffers_37 : decode cX12_findOffers 37 = .ok (.getfield 326, 3) := by decide +kernel
theorem dX12_findOffers_40 : decode cX12_findOffers 40 = .ok (.iload_n 1, 1) := by decide +kernel
theorem dX12_findOffers_41 : decode cX12_findOffers 41 = .ok (.iastore, 1) := by decide +kernel
theorem dX12_findOffers_42 : decode cX12_findOffers 42 = .ok (.aload_n 0, 1) := by decide +kernel
theorem dX12_findOffers_43 : decode cX12_findOffers 43 = .ok (.dup, 1) := by decide +kernel
theorem dX12_findOffers_44 : decode cX12_findOffers 44 = .ok (.getfield 326, 3) := by decide +kernel
theorem dX12_findOffers_47 : decode cX12_findOffers 47 = .ok (.iconst 1, 1) := by decide +kernel
theorem dX12_findOffers_48 : decode cX12_findOffers 48 = .ok (.iadd, 1) := by decide +kernel
theorem dX12_findOffers_49 : decode cX12_findOffers 49 = .ok (.putfield 326, 3) := by decide +kernel
theorem dX12_findOffers_52 : decode cX12_findOffers 52 = .ok (.iinc 1 1, 3) := by decide +kernel
theorem dX12_findOffers_55 : decode cX12_findOffers 55 = .ok (.goto (-48), 3) := by decide +kernel
theorem dX12_findOffers_58 : decode cX12_findOffers 58 = .ok (.iconst 0, 1) := by decide +kernel
theorem dX12_findOffers_59 : decode cX12_findOffers 59 = .ok (.istore_n 1, 1) := by decide +kernel
theorem dX12_findOffers_60 : decode cX12_findOffers 60 = .ok (.iload_n 1, 1) := by decide +kernel
theorem dX12_findOffers_61 : decode cX12_findOffers 61 = .ok (.sipush 256, 3) := by decide +kernel
theorem dX12_findOffers_64 : decode cX12_findOffers 64 = .ok (.if_icmp .ge 25, 3) := by decide +kernel
theorem dX12_findOffers_67 : decode cX12_findOffers 67 = .ok (.aload_n 0, 1) := by decide +kernel
theorem dX12_findOffers_68 : decode cX12_findOffers 68 = .ok (.getfield 128, 3) := by decide +kernel
theorem dX12_findOffers_71 : decode cX12_findOffers 71 = .ok (.sipush 256, 3) := by decide +kernel
theorem dX12_findOffers_74 : decode cX12_findOffers 74 = .ok (.aload_n 0, 1) := by decide +kernel
theorem dX12_findOffers_75 : decode cX12_findOffers 75 = .ok (.getfield 316, 3) := by decide +kernel
theorem dX12_findOffers_78 : decode cX12_findOffers 78 = .ok (.imul, 1) := by decide +kernel
theorem dX12_findOffers_79 : decode cX12_findOffers 79 = .ok (.iload_n 1, 1) := by decide +kernel
theorem dX12_findOffers_80 : decode cX12_findOffers 80 = .ok (.iadd, 1) := by decide +kernel
theorem dX12_findOffers_81 : decode cX12_findOffers 81 = .ok (.iconst 0, 1) := by decide +kernel
theorem dX12_findOffers_82 : decode cX12_findOffers 82 = .ok (.iastore, 1) := by decide +kernel
theorem dX12_findOffers_83 : decode cX12_findOffers 83 = .ok (.iinc 1 1, 3) := by decide +kernel
theorem dX12_findOffers_86 : decode cX12_findOffers 86 = .ok (.goto (-26), 3) := by decide +kernel
theorem dX12_findOffers_89 : decode cX12_findOffers 89 = .ok (.aload_n 0, 1) := by decide +kernel
theorem dX12_findOffers_90 : decode cX12_findOffers 90 = .ok (.getfield 316, 3) := by decide +kernel
theorem dX12_findOffers_93 : decode cX12_findOffers 93 = .ok (.iconst 1, 1) := by decide +kernel
theorem dX12_findOffers_94 : decode cX12_findOffers 94 = .ok (.isub, 1) := by decide +kernel
theorem dX12_findOffers_95 : decode cX12_findOffers 95 = .ok (.istore_n 1, 1) := by decide +kernel
theorem dX12_findOffers_96 : decode cX12_findOffers 96 = .ok (.iload_n 1, 1) := by decide +kernel
theorem dX12_findOffers_97 : decode cX12_findOffers 97 = .ok (.ifCond .lt 98, 3) := by decide +kernel
theorem dX12_findOffers_100 : decode cX12_findOffers 100 = .ok (.iconst 0, 1) := by decide +kernel
theorem dX12_findOffers_101 : decode cX12_findOffers 101 = .ok (.istore_n 2, 1) := by decide +kernel
theorem dX12_findOffers_102 : decode cX12_findOffers 102 = .ok (.iload_n 2, 1) := by decide +kernel
theorem dX12_findOffers_103 : decode cX12_findOffers 103 = .ok (.iconst 1, 1) := by decide +kernel
theorem dX12_findOffers_104 : decode cX12_findOffers 104 = .ok (.aload_n 0, 1) := by decide +kernel
theorem dX12_findOffers_105 : decode cX12_findOffers 105 = .ok (.getfield 326, 3) := by decide +kernel
theorem dX12_findOffers_108 : decode cX12_findOffers 108 = .ok (.ishl, 1) := by decide +kernel
theorem dX12_findOffers_109 : decode cX12_findOffers 109 = .ok (.if_icmp .ge 80, 3) := by decide +kernel
theorem dX12_findOffers_112 : decode cX12_findOffers 112 = .ok (.aload_n 0, 1) := by decide +kernel
theorem dX12_findOffers_113 : decode cX12_findOffers 113 = .ok (.getfield 128, 3) := by decide +kernel
theorem dX12_findOffers_116 : decode cX12_findOffers 116 = .ok (.sipush 256, 3) := by decide +kernel
theorem dX12_findOffers_119 : decode cX12_findOffers 119 = .ok (.iload_n 1, 1) := by decide +kernel
theorem dX12_findOffers_120 : decode cX12_findOffers 120 = .ok (.iconst 1, 1) := by decide +kernel
theorem dX12_findOffers_121 : decode cX12_findOffers 121 = .ok (.iadd, 1) := by decide +kernel
theorem dX12_findOffers_122 : decode cX12_findOffers 122 = .ok (.imul, 1) := by decide +kernel
theorem dX12_findOffers_123 : decode cX12_findOffers 123 = .ok (.iload_n 2, 1) := by decide +kernel
theorem dX12_findOffers_124 : decode cX12_findOffers 124 = .ok (.iadd, 1) := by decide +kernel
theorem dX12_findOffers_125 : decode cX12_findOffers 125 = .ok (.iaload, 1) := by decide +kernel
theorem dX12_findOffers_126 : decode cX12_findOffers 126 = .ok (.istore_n 3, 1) := by decide +kernel
theorem dX12_findOffers_127 : decode cX12_findOffers 127 = .ok (.iconst 0, 1) := by decide +kernel
theorem dX12_findOffers_128 : decode cX12_findOffers 128 = .ok (.istore 4, 2) := by decide +kernel
theorem dX12_findOffers_130 : decode cX12_findOffers 130 = .ok (.iload 4, 2) := by decide +kernel
theorem dX12_findOffers_132 : decode cX12_findOffers 132 = .ok (.aload_n 0, 1) := by decide +kernel
theorem dX12_findOffers_133 : decode cX12_findOffers 133 = .ok (.getfield 326, 3) := by decide +kernel
theorem dX12_findOffers_136 : decode cX12_findOffers 136 = .ok (.if_icmp .ge 34, 3) := by decide +kernel
theorem dX12_findOffers_139 : decode cX12_findOffers 139 = .ok (.aload_n 0, 1) := by decide +kernel
theorem dX12_findOffers_140 : decode cX12_findOffers 140 = .ok (.iload_n 1, 1) := by decide +kernel
theorem dX12_findOffers_141 : decode cX12_findOffers 141 = .ok (.iload 4, 2) := by decide +kernel
theorem dX12_findOffers_143 : decode cX12_findOffers 143 = .ok (.iload_n 2, 1) := by decide +kernel
theorem dX12_findOffers_144 : decode cX12_findOffers 144 = .ok (.invokevirtual 329, 3) := by decide +kernel
theorem dX12_findOffers_147 : decode cX12_findOffers 147 = .ok (.iload_n 3, 1) := by decide +kernel
theorem dX12_findOffers_148 : decode cX12_findOffers 148 = .ok (.if_icmp .le 14, 3) := by decide +kernel
theorem dX12_findOffers_151 : decode cX12_findOffers 151 = .ok (.aload_n 0, 1) := by decide +kernel
theorem dX12_findOffers_152 : decode cX12_findOffers 152 = .ok (.iload_n 1, 1) := by decide +kernel
theorem dX12_findOffers_153 : decode cX12_findOffers 153 = .ok (.iload 4, 2) := by decide +kernel
theorem dX12_findOffers_155 : decode cX12_findOffers 155 = .ok (.iload_n 2, 1) := by decide +kernel
theorem dX12_findOffers_156 : decode cX12_findOffers 156 = .ok (.invokevirtual 329, 3) := by decide +kernel
theorem dX12_findOffers_159 : decode cX12_findOffers 159 = .ok (.goto 4, 3) := by decide +kernel
theorem dX12_findOffers_162 : decode cX12_findOffers 162 = .ok (.iload_n 3, 1) := by decide +kernel
theorem dX12_findOffers_163 : decode cX12_findOffers 163 = .ok (.istore_n 3, 1) := by decide +kernel
theorem dX12_findOffers_164 : decode cX12_findOffers 164 = .ok (.iinc 4 1, 3) := by decide +kernel
theorem dX12_findOffers_167 : decode cX12_findOffers 167 = .ok (.goto (-37), 3) := by decide +kernel
theorem dX12_findOffers_170 : decode cX12_findOffers 170 = .ok (.aload_n 0, 1) := by decide +kernel
theorem dX12_findOffers_171 : decode cX12_findOffers 171 = .ok (.getfield 128, 3) := by decide +kernel
theorem dX12_findOffers_174 : decode cX12_findOffers 174 = .ok (.sipush 256, 3) := by decide +kernel
theorem dX12_findOffers_177 : decode cX12_findOffers 177 = .ok (.iload_n 1, 1) := by decide +kernel
theorem dX12_findOffers_178 : decode cX12_findOffers 178 = .ok (.imul, 1) := by decide +kernel
theorem dX12_findOffers_179 : decode cX12_findOffers 179 = .ok (.iload_n 2, 1) := by decide +kernel
theorem dX12_findOffers_180 : decode cX12_findOffers 180 = .ok (.iadd, 1) := by decide +kernel
theorem dX12_findOffers_181 : decode cX12_findOffers 181 = .ok (.iload_n 3, 1) := by decide +kernel
theorem dX12_findOffers_182 : decode cX12_findOffers 182 = .ok (.iastore, 1) := by decide +kernel
theorem dX12_findOffers_183 : decode cX12_findOffers 183 = .ok (.iinc 2 1, 3) := by decide +kernel
theorem dX12_findOffers_186 : decode cX12_findOffers 186 = .ok (.goto (-84), 3) := by decide +kernel
theorem dX12_findOffers_189 : decode cX12_findOffers 189 = .ok (.iinc 1 (-1), 3) := by decide +kernel
theorem dX12_findOffers_192 : decode cX12_findOffers 192 = .ok (.goto (-96), 3) := by decide +kernel
theorem dX12_findOffers_195 : decode cX12_findOffers 195 = .ok (.iconst 0, 1) := by decide +kernel
theorem dX12_findOffers_196 : decode cX12_findOffers 196 = .ok (.istore_n 1, 1) := by decide +kernel
theorem dX12_findOffers_197 : decode cX12_findOffers 197 = .ok (.iconst 0, 1) := by decide +kernel
theorem dX12_findOffers_198 : decode cX12_findOffers 198 = .ok (.istore_n 2, 1) := by decide +kernel
theorem dX12_findOffers_199 : decode cX12_findOffers 199 = .ok (.iload_n 2, 1) := by decide +kernel
theorem dX12_findOffers_200 : decode cX12_findOffers 200 = .ok (.aload_n 0, 1) := by decide +kernel
theorem dX12_findOffers_201 : decode cX12_findOffers 201 = .ok (.getfield 316, 3) := by decide +kernel
theorem dX12_findOffers_204 : decode cX12_findOffers 204 = .ok (.if_icmp .ge 95, 3) := by decide +kernel
theorem dX12_findOffers_207 : decode cX12_findOffers 207 = .ok (.iconst (-1), 1) := by decide +kernel
theorem dX12_findOffers_208 : decode cX12_findOffers 208 = .ok (.istore_n 3, 1) := by decide +kernel
theorem dX12_findOffers_209 : decode cX12_findOffers 209 = .ok (.aload_n 0, 1) := by decide +kernel
theorem dX12_findOffers_210 : decode cX12_findOffers 210 = .ok (.getfield 326, 3) := by decide +kernel
theorem dX12_findOffers_213 : decode cX12_findOffers 213 = .ok (.iconst 1, 1) := by decide +kernel
theorem dX12_findOffers_214 : decode cX12_findOffers 214 = .ok (.isub, 1) := by decide +kernel
theorem dX12_findOffers_215 : decode cX12_findOffers 215 = .ok (.istore 4, 2) := by decide +kernel
theorem dX12_findOffers_217 : decode cX12_findOffers 217 = .ok (.iload 4, 2) := by decide +kernel
theorem dX12_findOffers_219 : decode cX12_findOffers 219 = .ok (.ifCond .lt 39, 3) := by decide +kernel
theorem dX12_findOffers_222 : decode cX12_findOffers 222 = .ok (.aload_n 0, 1) := by decide +kernel
theorem dX12_findOffers_223 : decode cX12_findOffers 223 = .ok (.iload_n 2, 1) := by decide +kernel
theorem dX12_findOffers_224 : decode cX12_findOffers 224 = .ok (.iload 4, 2) := by decide +kernel
theorem dX12_findOffers_226 : decode cX12_findOffers 226 = .ok (.iload_n 1, 1) := by decide +kernel
theorem dX12_findOffers_227 : decode cX12_findOffers 227 = .ok (.invokevirtual 329, 3) := by decide +kernel
theorem dX12_findOffers_230 : decode cX12_findOffers 230 = .ok (.aload_n 0, 1) := by decide +kernel
theorem dX12_findOffers_231 : decode cX12_findOffers 231 = .ok (.getfield 128, 3) := by decide +kernel
theorem dX12_findOffers_234 : decode cX12_findOffers 234 = .ok (.sipush 256, 3) := by decide +kernel
theorem dX12_findOffers_237 : decode cX12_findOffers 237 = .ok (.iload_n 2, 1) := by decide +kernel
theorem dX12_findOffers_238 : decode cX12_findOffers 238 = .ok (.imul, 1) := by decide +kernel
theorem dX12_findOffers_239 : decode cX12_findOffers 239 = .ok (.iload_n 1, 1) := by decide +kernel
theorem dX12_findOffers_240 : decode cX12_findOffers 240 = .ok (.iadd, 1) := by decide +kernel
theorem dX12_findOffers_241 : decode cX12_findOffers 241 = .ok (.iaload, 1) := by decide +kernel
theorem dX12_findOffers_242 : decode cX12_findOffers 242 = .ok (.if_icmp .ne 8, 3) := by decide +kernel
theorem dX12_findOffers_245 : decode cX12_findOffers 245 = .ok (.iload 4, 2) := by decide +kernel
theorem dX12_findOffers_247 : decode cX12_findOffers 247 = .ok (.goto 4, 3) := by decide +kernel
theorem dX12_findOffers_250 : decode cX12_findOffers 250 = .ok (.iload_n 3, 1) := by decide +kernel
theorem dX12_findOffers_251 : decode cX12_findOffers 251 = .ok (.istore_n 3, 1) := by decide +kernel
theorem dX12_findOffers_252 : decode cX12_findOffers 252 = .ok (.iinc 4 (-1), 3) := by decide +kernel
theorem dX12_findOffers_255 : decode cX12_findOffers 255 = .ok (.goto (-38), 3) := by decide +kernel
theorem dX12_findOffers_258 : decode cX12_findOffers 258 = .ok (.aload_n 0, 1) := by decide +kernel
theorem dX12_findOffers_259 : decode cX12_findOffers 259 = .ok (.getfield 131, 3) := by decide +kernel
theorem dX12_findOffers_262 : decode cX12_findOffers 262 = .ok (.iload_n 2, 1) := by decide +kernel
theorem dX12_findOffers_263 : decode cX12_findOffers 263 = .ok (.iload_n 3, 1) := by decide +kernel
theorem dX12_findOffers_264 : decode cX12_findOffers 264 = .ok (.ifCond .ge 8, 3) := by decide +kernel
theorem dX12_findOffers_267 : decode cX12_findOffers 267 = .ok (.bipush (-9), 2) := by decide +kernel
theorem dX12_findOffers_269 : decode cX12_findOffers 269 = .ok (.goto 9, 3) := by decide +kernel
theorem dX12_findOffers_272 : decode cX12_findOffers 272 = .ok (.aload_n 0, 1) := by decide +kernel
theorem dX12_findOffers_273 : decode cX12_findOffers 273 = .ok (.getfield 125, 3) := by decide +kernel
theorem dX12_findOffers_276 : decode cX12_findOffers 276 = .ok (.iload_n 3, 1) := by decide +kernel
theorem dX12_findOffers_277 : decode cX12_findOffers 277 = .ok (.iaload, 1) := by decide +kernel
theorem dX12_findOffers_278 : decode cX12_findOffers 278 = .ok (.iastore, 1) := by decide +kernel
theorem dX12_findOffers_279 : decode cX12_findOffers 279 = .ok (.iload_n 1, 1) := by decide +kernel
theorem dX12_findOffers_280 : decode cX12_findOffers 280 = .ok (.iload_n 3, 1) := by decide +kernel
theorem dX12_findOffers_281 : decode cX12_findOffers 281 = .ok (.ifCond .ge 7, 3) := by decide +kernel
theorem dX12_findOffers_284 : decode cX12_findOffers 284 = .ok (.iconst 0, 1) := by decide +kernel
theorem dX12_findOffers_285 : decode cX12_findOffers 285 = .ok (.goto 6, 3) := by decide +kernel
theorem dX12_findOffers_288 : decode cX12_findOffers 288 = .ok (.iconst 1, 1) := by decide +kernel
theorem dX12_findOffers_289 : decode cX12_findOffers 289 = .ok (.iload_n 3, 1) := by decide +kernel
theorem dX12_findOffers_290 : decode cX12_findOffers 290 = .ok (.ishl, 1) := by decide +kernel
theorem dX12_findOffers_291 : decode cX12_findOffers 291 = .ok (.ior, 1) := by decide +kernel
theorem dX12_findOffers_292 : decode cX12_findOffers 292 = .ok (.istore_n 1, 1) := by decide +kernel
theorem dX12_findOffers_293 : decode cX12_findOffers 293 = .ok (.iinc 2 1, 3) := by decide +kernel
theorem dX12_findOffers_296 : decode cX12_findOffers 296 = .ok (.goto (-97), 3) := by decide +kernel
theorem dX12_findOffers_299 : decode cX12_findOffers 299 = .ok (.return_, 1) := by decide +kernel
theorem dX12_offers_0 : decode cX12_offers 0 = .ok (.iload_n 1, 1) := by decide +kernel
theorem dX12_offers_1 : decode cX12_offers 1 = .ok (.iconst 0, 1) := by decide +kernel
theorem dX12_offers_2 : decode cX12_offers 2 = .ok (.iconst 2, 1) := by decide +kernel
theorem dX12_offers_3 : decode cX12_offers 3 = .ok (.invokestatic 157, 3) := by decide +kernel
theorem dX12_offers_6 : decode cX12_offers 6 = .ok (.ifCond .ne 10, 3) := by decide +kernel
theorem dX12_offers_9 : decode cX12_offers 9 = .ok (.aload_n 0, 1) := by decide +kernel
theorem dX12_offers_10 : decode cX12_offers 10 = .ok (.bipush (-2), 2) := by decide +kernel
theorem dX12_offers_12 : decode cX12_offers 12 = .ok (.invokevirtual 174, 3) := by decide +kernel
theorem dX12_offers_15 : decode cX12_offers 15 = .ok (.ireturn, 1) := by decide +kernel
theorem dX12_offers_16 : decode cX12_offers 16 = .ok (.aload_n 0, 1) := by decide +kernel
theorem dX12_offers_17 : decode cX12_offers 17 = .ok (.invokevirtual 332, 3) := by decide +kernel
theorem dX12_offers_20 : decode cX12_offers 20 = .ok (.aload_n 0, 1) := by decide +kernel
theorem dX12_offers_21 : decode cX12_offers 21 = .ok (.getfield 128, 3) := by decide +kernel
theorem dX12_offers_24 : decode cX12_offers 24 = .ok (.iconst 0, 1) := by decide +kernel
theorem dX12_offers_25 : decode cX12_offers 25 = .ok (.iaload, 1) := by decide +kernel
theorem dX12_offers_26 : decode cX12_offers 26 = .ok (.istore_n 2, 1) := by decide +kernel
theorem dX12_offers_27 : decode cX12_offers 27 = .ok (.iload_n 1, 1) := by decide +kernel
theorem dX12_offers_28 : decode cX12_offers 28 = .ok (.ifCond .ne 11, 3) := by decide +kernel
theorem dX12_offers_31 : decode cX12_offers 31 = .ok (.iload_n 2, 1) := by decide +kernel
theorem dX12_offers_32 : decode cX12_offers 32 = .ok (.ldc_w 325, 3) := by decide +kernel
theorem dX12_offers_35 : decode cX12_offers 35 = .ok (.idiv, 1) := by decide +kernel
theorem dX12_offers_36 : decode cX12_offers 36 = .ok (.goto 24, 3) := by decide +kernel
theorem dX12_offers_39 : decode cX12_offers 39 = .ok (.iload_n 1, 1) := by decide +kernel
theorem dX12_offers_40 : decode cX12_offers 40 = .ok (.iconst 1, 1) := by decide +kernel
theorem dX12_offers_41 : decode cX12_offers 41 = .ok (.if_icmp .ne 14, 3) := by decide +kernel
theorem dX12_offers_44 : decode cX12_offers 44 = .ok (.iload_n 2, 1) := by decide +kernel
theorem dX12_offers_45 : decode cX12_offers 45 = .ok (.sipush 10000, 3) := by decide +kernel
theorem dX12_offers_48 : decode cX12_offers 48 = .ok (.idiv, 1) := by decide +kernel
theorem dX12_offers_49 : decode cX12_offers 49 = .ok (.bipush 100, 2) := by decide +kernel
theorem dX12_offers_51 : decode cX12_offers 51 = .ok (.irem, 1) := by decide +kernel
theorem dX12_offers_52 : decode cX12_offers 52 = .ok (.goto 8, 3) := by decide +kernel
theorem dX12_offers_55 : decode cX12_offers 55 = .ok (.iload_n 2, 1) := by decide +kernel
theorem dX12_offers_56 : decode cX12_offers 56 = .ok (.sipush 10000, 3) := by decide +kernel
theorem dX12_offers_59 : decode cX12_offers 59 = .ok (.irem, 1) := by decide +kernel
theorem dX12_offers_60 : decode cX12_offers 60 = .ok (.ireturn, 1) := by decide +kernel
theorem dX12_offered_0 : decode cX12_offered 0 = .ok (.iload_n 1, 1) := by decide +kernel
theorem dX12_offered_1 : decode cX12_offered 1 = .ok (.iconst 0, 1) := by decide +kernel
theorem dX12_offered_2 : decode cX12_offered 2 = .ok (.aload_n 0, 1) := by decide +kernel
theorem dX12_offered_3 : decode cX12_offered 3 = .ok (.getfield 316, 3) := by decide +kernel
theorem dX12_offered_6 : decode cX12_offered 6 = .ok (.iconst 1, 1) := by decide +kernel
theorem dX12_offered_7 : decode cX12_offered 7 = .ok (.isub, 1) := by decide +kernel
theorem dX12_offered_8 : decode cX12_offered 8 = .ok (.invokestatic 157, 3) := by decide +kernel
theorem dX12_offered_11 : decode cX12_offered 11 = .ok (.ifCond .ne 9, 3) := by decide +kernel
theorem dX12_offered_14 : decode cX12_offered 14 = .ok (.aload_n 0, 1) := by decide +kernel
theorem dX12_offered_15 : decode cX12_offered 15 = .ok (.iconst (-1), 1) := by decide +kernel
theorem dX12_offered_16 : decode cX12_offered 16 = .ok (.invokevirtual 174, 3) := by decide +kernel
theorem dX12_offered_19 : decode cX12_offered 19 = .ok (.ireturn, 1) := by decide +kernel
theorem dX12_offered_20 : decode cX12_offered 20 = .ok (.aload_n 0, 1) := by decide +kernel
theorem dX12_offered_21 : decode cX12_offered 21 = .ok (.invokevirtual 332, 3) := by decide +kernel
theorem dX12_offered_24 : decode cX12_offered 24 = .ok (.aload_n 0, 1) := by decide +kernel
theorem dX12_offered_25 : decode cX12_offered 25 = .ok (.getfield 131, 3) := by decide +kernel
theorem dX12_offered_28 : decode cX12_offered 28 = .ok (.iload_n 1, 1) := by decide +kernel
theorem dX12_offered_29 : decode cX12_offered 29 = .ok (.iaload, 1) := by decide +kernel
theorem dX12_offered_30 : decode cX12_offered 30 = .ok (.ireturn, 1) := by decide +kernel
theorem dX12_ends_0 : decode cX12_ends 0 = .ok (.iload_n 1, 1) := by decide +kernel
theorem dX12_ends_1 : decode cX12_ends 1 = .ok (.iconst 0, 1) := by decide +kernel
theorem dX12_ends_2 : decode cX12_ends 2 = .ok (.iconst 3, 1) := by decide +kernel
theorem dX12_ends_3 : decode cX12_ends 3 = .ok (.invokestatic 157, 3) := by decide +kernel
theorem dX12_ends_6 : decode cX12_ends 6 = .ok (.ifCond .ne 9, 3) := by decide +kernel
theorem dX12_ends_9 : decode cX12_ends 9 = .ok (.aload_n 0, 1) := by decide +kernel
theorem dX12_ends_10 : decode cX12_ends 10 = .ok (.iconst (-1), 1) := by decide +kernel
theorem dX12_ends_11 : decode cX12_ends 11 = .ok (.invokevirtual 174, 3) := by decide +kernel
theorem dX12_ends_14 : decode cX12_ends 14 = .ok (.ireturn, 1) := by decide +kernel
theorem dX12_ends_15 : decode cX12_ends 15 = .ok (.iload_n 2, 1) := by decide +kernel
theorem dX12_ends_16 : decode cX12_ends 16 = .ok (.ifCond .lt 8, 3) := by decide +kernel
theorem dX12_ends_19 : decode cX12_ends 19 = .ok (.iload_n 3, 1) := by decide +kernel
theorem dX12_ends_20 : decode cX12_ends 20 = .ok (.iconst 1, 1) := by decide +kernel
theorem dX12_ends_21 : decode cX12_ends 21 = .ok (.if_icmp .ge 10, 3) := by decide +kernel
theorem dX12_ends_24 : decode cX12_ends 24 = .ok (.aload_n 0, 1) := by decide +kernel
theorem dX12_ends_25 : decode cX12_ends 25 = .ok (.bipush (-4), 2) := by decide +kernel
theorem dX12_ends_27 : decode cX12_ends 27 = .ok (.invokevirtual 174, 3) := by decide +kernel
theorem dX12_ends_30 : decode cX12_ends 30 = .ok (.ireturn, 1) := by decide +kernel
theorem dX12_ends_31 : decode cX12_ends 31 = .ok (.iload_n 2, 1) := by decide +kernel
theorem dX12_ends_32 : decode cX12_ends 32 = .ok (.sipush 3000, 3) := by decide +kernel
theorem dX12_ends_35 : decode cX12_ends 35 = .ok (.if_icmp .gt 19, 3) := by decide +kernel
theorem dX12_ends_38 : decode cX12_ends 38 = .ok (.iload_n 3, 1) := by decide +kernel
theorem dX12_ends_39 : decode cX12_ends 39 = .ok (.sipush 500, 3) := by decide +kernel
theorem dX12_ends_42 : decode cX12_ends 42 = .ok (.if_icmp .gt 12, 3) := by decide +kernel
theorem dX12_ends_45 : decode cX12_ends 45 = .ok (.aload_n 0, 1) := by decide +kernel
theorem dX12_ends_46 : decode cX12_ends 46 = .ok (.getfield 335, 3) := by decide +kernel
theorem dX12_ends_49 : decode cX12_ends 49 = .ok (.bipush 60, 2) := by decide +kernel
theorem dX12_ends_51 : decode cX12_ends 51 = .ok (.if_icmp .ne 10, 3) := by decide +kernel
theorem dX12_ends_54 : decode cX12_ends 54 = .ok (.aload_n 0, 1) := by decide +kernel
theorem dX12_ends_55 : decode cX12_ends 55 = .ok (.bipush (-6), 2) := by decide +kernel
theorem dX12_ends_57 : decode cX12_ends 57 = .ok (.invokevirtual 174, 3) := by decide +kernel
theorem dX12_ends_60 : decode cX12_ends 60 = .ok (.ireturn, 1) := by decide +kernel
theorem dX12_ends_61 : decode cX12_ends 61 = .ok (.aload_n 0, 1) := by decide +kernel
theorem dX12_ends_62 : decode cX12_ends 62 = .ok (.getfield 134, 3) := by decide +kernel
theorem dX12_ends_65 : decode cX12_ends 65 = .ok (.aload_n 0, 1) := by decide +kernel
theorem dX12_ends_66 : decode cX12_ends 66 = .ok (.getfield 335, 3) := by decide +kernel
theorem dX12_ends_69 : decode cX12_ends 69 = .ok (.iload_n 1, 1) := by decide +kernel
theorem dX12_ends_70 : decode cX12_ends 70 = .ok (.iastore, 1) := by decide +kernel
theorem dX12_ends_71 : decode cX12_ends 71 = .ok (.aload_n 0, 1) := by decide +kernel
theorem dX12_ends_72 : decode cX12_ends 72 = .ok (.getfield 137, 3) := by decide +kernel
theorem dX12_ends_75 : decode cX12_ends 75 = .ok (.aload_n 0, 1) := by decide +kernel
theorem dX12_ends_76 : decode cX12_ends 76 = .ok (.getfield 335, 3) := by decide +kernel
theorem dX12_ends_79 : decode cX12_ends 79 = .ok (.iload_n 2, 1) := by decide +kernel
theorem dX12_ends_80 : decode cX12_ends 80 = .ok (.iastore, 1) := by decide +kernel
theorem dX12_ends_81 : decode cX12_ends 81 = .ok (.aload_n 0, 1) := by decide +kernel
theorem dX12_ends_82 : decode cX12_ends 82 = .ok (.getfield 140, 3) := by decide +kernel
theorem dX12_ends_85 : decode cX12_ends 85 = .ok (.aload_n 0, 1) := by decide +kernel
theorem dX12_ends_86 : decode cX12_ends 86 = .ok (.getfield 335, 3) := by decide +kernel
theorem dX12_ends_89 : decode cX12_ends 89 = .ok (.iload_n 3, 1) := by decide +kernel
theorem dX12_ends_90 : decode cX12_ends 90 = .ok (.iastore, 1) := by decide +kernel
theorem dX12_ends_91 : decode cX12_ends 91 = .ok (.aload_n 0, 1) := by decide +kernel
theorem dX12_ends_92 : decode cX12_ends 92 = .ok (.dup, 1) := by decide +kernel
theorem dX12_ends_93 : decode cX12_ends 93 = .ok (.getfield 335, 3) := by decide +kernel
theorem dX12_ends_96 : decode cX12_ends 96 = .ok (.iconst 1, 1) := by decide +kernel
theorem dX12_ends_97 : decode cX12_ends 97 = .ok (.iadd, 1) := by decide +kernel
theorem dX12_ends_98 : decode cX12_ends 98 = .ok (.putfield 335, 3) := by decide +kernel
theorem dX12_ends_101 : decode cX12_ends 101 = .ok (.aload_n 0, 1) := by decide +kernel
theorem dX12_ends_102 : decode cX12_ends 102 = .ok (.getfield 335, 3) := by decide +kernel
theorem dX12_ends_105 : decode cX12_ends 105 = .ok (.ireturn, 1) := by decide +kernel
theorem dX12_endedBy_0 : decode cX12_endedBy 0 = .ok (.iconst 0, 1) := by decide +kernel
theorem dX12_endedBy_1 : decode cX12_endedBy 1 = .ok (.istore_n 3, 1) := by decide +kernel
theorem dX12_endedBy_2 : decode cX12_endedBy 2 = .ok (.iconst 0, 1) := by decide +kernel
theorem dX12_endedBy_3 : decode cX12_endedBy 3 = .ok (.istore 4, 2) := by decide +kernel
theorem dX12_endedBy_5 : decode cX12_endedBy 5 = .ok (.iload 4, 2) := by decide +kernel
theorem dX12_endedBy_7 : decode cX12_endedBy 7 = .ok (.aload_n 0, 1) := by decide +kernel
theorem dX12_endedBy_8 : decode cX12_endedBy 8 = .ok (.getfield 335, 3) := by decide +kernel
theorem dX12_endedBy_11 : decode cX12_endedBy 11 = .ok (.if_icmp .ge 52, 3) := by decide +kernel
theorem dX12_endedBy_14 : decode cX12_endedBy 14 = .ok (.iload_n 3, 1) := by decide +kernel
theorem dX12_endedBy_15 : decode cX12_endedBy 15 = .ok (.aload_n 0, 1) := by decide +kernel
theorem dX12_endedBy_16 : decode cX12_endedBy 16 = .ok (.getfield 134, 3) := by decide +kernel
theorem dX12_endedBy_19 : decode cX12_endedBy 19 = .ok (.iload 4, 2) := by decide +kernel
theorem dX12_endedBy_21 : decode cX12_endedBy 21 = .ok (.iaload, 1) := by decide +kernel
theorem dX12_endedBy_22 : decode cX12_endedBy 22 = .ok (.iload_n 1, 1) := by decide +kernel
theorem dX12_endedBy_23 : decode cX12_endedBy 23 = .ok (.if_icmp .ne 31, 3) := by decide +kernel
theorem dX12_endedBy_26 : decode cX12_endedBy 26 = .ok (.aload_n 0, 1) := by decide +kernel
theorem dX12_endedBy_27 : decode cX12_endedBy 27 = .ok (.getfield 137, 3) := by decide +kernel
theorem dX12_endedBy_30 : decode cX12_endedBy 30 = .ok (.iload 4, 2) := by decide +kernel
theorem dX12_endedBy_32 : decode cX12_endedBy 32 = .ok (.iaload, 1) := by decide +kernel
theorem dX12_endedBy_33 : decode cX12_endedBy 33 = .ok (.iload_n 2, 1) := by decide +kernel
theorem dX12_endedBy_34 : decode cX12_endedBy 34 = .ok (.bipush 89, 2) := by decide +kernel
theorem dX12_endedBy_36 : decode cX12_endedBy 36 = .ok (.isub, 1) := by decide +kernel
theorem dX12_endedBy_37 : decode cX12_endedBy 37 = .ok (.iload_n 2, 1) := by decide +kernel
theorem dX12_endedBy_38 : decode cX12_endedBy 38 = .ok (.invokestatic 157, 3) := by decide +kernel
theorem dX12_endedBy_41 : decode cX12_endedBy 41 = .ok (.ifCond .eq 13, 3) := by decide +kernel
theorem dX12_endedBy_44 : decode cX12_endedBy 44 = .ok (.aload_n 0, 1) := by decide +kernel
theorem dX12_endedBy_45 : decode cX12_endedBy 45 = .ok (.getfield 140, 3) := by decide +kernel
theorem dX12_endedBy_48 : decode cX12_endedBy 48 = .ok (.iload 4, 2) := by decide +kernel
theorem dX12_endedBy_50 : decode cX12_endedBy 50 = .ok (.iaload, 1) := by decide +kernel
theorem dX12_endedBy_51 : decode cX12_endedBy 51 = .ok (.goto 4, 3) := by decide +kernel
theorem dX12_endedBy_54 : decode cX12_endedBy 54 = .ok (.iconst 0, 1) := by decide +kernel
theorem dX12_endedBy_55 : decode cX12_endedBy 55 = .ok (.iadd, 1) := by decide +kernel
theorem dX12_endedBy_56 : decode cX12_endedBy 56 = .ok (.istore_n 3, 1) := by decide +kernel
theorem dX12_endedBy_57 : decode cX12_endedBy 57 = .ok (.iinc 4 1, 3) := by decide +kernel
theorem dX12_endedBy_60 : decode cX12_endedBy 60 = .ok (.goto (-55), 3) := by decide +kernel
theorem dX12_endedBy_63 : decode cX12_endedBy 63 = .ok (.iload_n 3, 1) := by decide +kernel
theorem dX12_endedBy_64 : decode cX12_endedBy 64 = .ok (.ireturn, 1) := by decide +kernel
theorem dX12_noticeBy_0 : decode cX12_noticeBy 0 = .ok (.iload_n 0, 1) := by decide +kernel
theorem dX12_noticeBy_1 : decode cX12_noticeBy 1 = .ok (.bipush 100, 2) := by decide +kernel
theorem dX12_noticeBy_3 : decode cX12_noticeBy 3 = .ok (.if_icmp .lt 8, 3) := by decide +kernel
theorem dX12_noticeBy_6 : decode cX12_noticeBy 6 = .ok (.bipush 45, 2) := by decide +kernel
theorem dX12_noticeBy_8 : decode cX12_noticeBy 8 = .ok (.goto 16, 3) := by decide +kernel
theorem dX12_noticeBy_11 : decode cX12_noticeBy 11 = .ok (.iload_n 0, 1) := by decide +kernel
theorem dX12_noticeBy_12 : decode cX12_noticeBy 12 = .ok (.bipush 20, 2) := by decide +kernel
theorem dX12_noticeBy_14 : decode cX12_noticeBy 14 = .ok (.if_icmp .lt 8, 3) := by decide +kernel
theorem dX12_noticeBy_17 : decode cX12_noticeBy 17 = .ok (.bipush 30, 2) := by decide +kernel
theorem dX12_noticeBy_19 : decode cX12_noticeBy 19 = .ok (.goto 5, 3) := by decide +kernel
theorem dX12_noticeBy_22 : decode cX12_noticeBy 22 = .ok (.bipush 7, 2) := by decide +kernel
theorem dX12_noticeBy_24 : decode cX12_noticeBy 24 = .ok (.ireturn, 1) := by decide +kernel
theorem dX12_notice_0 : decode cX12_notice 0 = .ok (.iload_n 1, 1) := by decide +kernel
theorem dX12_notice_1 : decode cX12_notice 1 = .ok (.iconst 0, 1) := by decide +kernel
theorem dX12_notice_2 : decode cX12_notice 2 = .ok (.iconst 3, 1) := by decide +kernel
theorem dX12_notice_3 : decode cX12_notice 3 = .ok (.invokestatic 157, 3) := by decide +kernel
theorem dX12_notice_6 : decode cX12_notice 6 = .ok (.ifCond .ne 9, 3) := by decide +kernel
theorem dX12_notice_9 : decode cX12_notice 9 = .ok (.aload_n 0, 1) := by decide +kernel
theorem dX12_notice_10 : decode cX12_notice 10 = .ok (.iconst (-1), 1) := by decide +kernel
theorem dX12_notice_11 : decode cX12_notice 11 = .ok (.invokevirtual 174, 3) := by decide +kernel
theorem dX12_notice_14 : decode cX12_notice 14 = .ok (.ireturn, 1) := by decide +kernel
theorem dX12_notice_15 : decode cX12_notice 15 = .ok (.iload_n 2, 1) := by decide +kernel
theorem dX12_notice_16 : decode cX12_notice 16 = .ok (.ifCond .ge 10, 3) := by decide +kernel
theorem dX12_notice_19 : decode cX12_notice 19 = .ok (.aload_n 0, 1) := by decide +kernel
theorem dX12_notice_20 : decode cX12_notice 20 = .ok (.bipush (-4), 2) := by decide +kernel
theorem dX12_notice_22 : decode cX12_notice 22 = .ok (.invokevirtual 174, 3) := by decide +kernel
theorem dX12_notice_25 : decode cX12_notice 25 = .ok (.ireturn, 1) := by decide +kernel
theorem dX12_notice_26 : decode cX12_notice 26 = .ok (.iload_n 2, 1) := by decide +kernel
theorem dX12_notice_27 : decode cX12_notice 27 = .ok (.sipush 3000, 3) := by decide +kernel
theorem dX12_notice_30 : decode cX12_notice 30 = .ok (.if_icmp .le 12, 3) := by decide +kernel
theorem dX12_notice_33 : decode cX12_notice 33 = .ok (.aload_n 0, 1) := by decide +kernel
theorem dX12_notice_34 : decode cX12_notice 34 = .ok (.bipush (-6), 2) := by decide +kernel
theorem dX12_notice_36 : decode cX12_notice 36 = .ok (.invokevirtual 174, 3) := by decide +kernel
theorem dX12_notice_39 : decode cX12_notice 39 = .ok (.goto 12, 3) := by decide +kernel
theorem dX12_notice_42 : decode cX12_notice 42 = .ok (.aload_n 0, 1) := by decide +kernel
theorem dX12_notice_43 : decode cX12_notice 43 = .ok (.iload_n 1, 1) := by decide +kernel
theorem dX12_notice_44 : decode cX12_notice 44 = .ok (.iload_n 2, 1) := by decide +kernel
theorem dX12_notice_45 : decode cX12_notice 45 = .ok (.invokevirtual 338, 3) := by decide +kernel
theorem dX12_notice_48 : decode cX12_notice 48 = .ok (.invokestatic 341, 3) := by decide +kernel
theorem dX12_notice_51 : decode cX12_notice 51 = .ok (.ireturn, 1) := by decide +kernel
theorem dX12_weekCost_0 : decode cX12_weekCost 0 = .ok (.iload 4, 2) := by decide +kernel
theorem dX12_weekCost_2 : decode cX12_weekCost 2 = .ok (.iload 5, 2) := by decide +kernel
theorem dX12_weekCost_4 : decode cX12_weekCost 4 = .ok (.imul, 1) := by decide +kernel
theorem dX12_weekCost_5 : decode cX12_weekCost 5 = .ok (.iload_n 1, 1) := by decide +kernel
theorem dX12_weekCost_6 : decode cX12_weekCost 6 = .ok (.iload_n 2, 1) := by decide +kernel
theorem dX12_weekCost_7 : decode cX12_weekCost 7 = .ok (.iconst 1, 1) := by decide +kernel
theorem dX12_weekCost_8 : decode cX12_weekCost 8 = .ok (.isub, 1) := by decide +kernel
theorem dX12_weekCost_9 : decode cX12_weekCost 9 = .ok (.if_icmp .ne 8, 3) := by decide +kernel
theorem dX12_weekCost_12 : decode cX12_weekCost 12 = .ok (.iload 6, 2) := by decide +kernel
theorem dX12_weekCost_14 : decode cX12_weekCost 14 = .ok (.goto 4, 3) := by decide +kernel
theorem dX12_weekCost_17 : decode cX12_weekCost 17 = .ok (.iconst 0, 1) := by decide +kernel
theorem dX12_weekCost_18 : decode cX12_weekCost 18 = .ok (.iadd, 1) := by decide +kernel
theorem dX12_weekCost_19 : decode cX12_weekCost 19 = .ok (.istore 7, 2) := by decide +kernel
theorem dX12_weekCost_21 : decode cX12_weekCost 21 = .ok (.aload_n 0, 1) := by decide +kernel
theorem dX12_weekCost_22 : decode cX12_weekCost 22 = .ok (.getfield 146, 3) := by decide +kernel
theorem dX12_weekCost_25 : decode cX12_weekCost 25 = .ok (.iload_n 1, 1) := by decide +kernel
theorem dX12_weekCost_26 : decode cX12_weekCost 26 = .ok (.iaload, 1) := by decide +kernel
theorem dX12_weekCost_27 : decode cX12_weekCost 27 = .ok (.iload_n 3, 1) := by decide +kernel
theorem dX12_weekCost_28 : decode cX12_weekCost 28 = .ok (.iload 5, 2) := by decide +kernel
theorem dX12_weekCost_30 : decode cX12_weekCost 30 = .ok (.imul, 1) := by decide +kernel
theorem dX12_weekCost_31 : decode cX12_weekCost 31 = .ok (.iadd, 1) := by decide +kernel
theorem dX12_weekCost_32 : decode cX12_weekCost 32 = .ok (.iload 7, 2) := by decide +kernel
theorem dX12_weekCost_34 : decode cX12_weekCost 34 = .ok (.iadd, 1) := by decide +kernel
theorem dX12_weekCost_35 : decode cX12_weekCost 35 = .ok (.istore 8, 2) := by decide +kernel
theorem dX12_weekCost_37 : decode cX12_weekCost 37 = .ok (.iload 7, 2) := by decide +kernel
theorem dX12_weekCost_39 : decode cX12_weekCost 39 = .ok (.iload 8, 2) := by decide +kernel
theorem dX12_weekCost_41 : decode cX12_weekCost 41 = .ok (.invokestatic 341, 3) := by decide +kernel
theorem dX12_weekCost_44 : decode cX12_weekCost 44 = .ok (.bipush 6, 2) := by decide +kernel
theorem dX12_weekCost_46 : decode cX12_weekCost 46 = .ok (.iadd, 1) := by decide +kernel
theorem dX12_weekCost_47 : decode cX12_weekCost 47 = .ok (.bipush 7, 2) := by decide +kernel
theorem dX12_weekCost_49 : decode cX12_weekCost 49 = .ok (.idiv, 1) := by decide +kernel
theorem dX12_weekCost_50 : decode cX12_weekCost 50 = .ok (.iload_n 1, 1) := by decide +kernel
theorem dX12_weekCost_51 : decode cX12_weekCost 51 = .ok (.iadd, 1) := by decide +kernel
theorem dX12_weekCost_52 : decode cX12_weekCost 52 = .ok (.imul, 1) := by decide +kernel
theorem dX12_weekCost_53 : decode cX12_weekCost 53 = .ok (.ireturn, 1) := by decide +kernel
theorem dX12_findWeeks_0 : decode cX12_findWeeks 0 = .ok (.iload_n 2, 1) := by decide +kernel
theorem dX12_findWeeks_1 : decode cX12_findWeeks 1 = .ok (.iload 4, 2) := by decide +kernel
theorem dX12_findWeeks_3 : decode cX12_findWeeks 3 = .ok (.idiv, 1) := by decide +kernel
theorem dX12_findWeeks_4 : decode cX12_findWeeks 4 = .ok (.istore 5, 2) := by decide +kernel
theorem dX12_findWeeks_6 : decode cX12_findWeeks 6 = .ok (.iconst 0, 1) := by decide +kernel
theorem dX12_findWeeks_7 : decode cX12_findWeeks 7 = .ok (.istore 6, 2) := by decide +kernel
theorem dX12_findWeeks_9 : decode cX12_findWeeks 9 = .ok (.iload 6, 2) := by decide +kernel
theorem dX12_findWeeks_11 : decode cX12_findWeeks 11 = .ok (.iload_n 3, 1) := by decide +kernel
theorem dX12_findWeeks_12 : decode cX12_findWeeks 12 = .ok (.if_icmp .ge 31, 3) := by decide +kernel
theorem dX12_findWeeks_15 : decode cX12_findWeeks 15 = .ok (.aload_n 0, 1) := by decide +kernel
theorem dX12_findWeeks_16 : decode cX12_findWeeks 16 = .ok (.getfield 146, 3) := by decide +kernel
theorem dX12_findWeeks_19 : decode cX12_findWeeks 19 = .ok (.iload 6, 2) := by decide +kernel
theorem dX12_findWeeks_21 : decode cX12_findWeeks 21 = .ok (.aload_n 0, 1) := by decide +kernel
theorem dX12_findWeeks_22 : decode cX12_findWeeks 22 = .ok (.iload_n 1, 1) := by decide +kernel
theorem dX12_findWeeks_23 : decode cX12_findWeeks 23 = .ok (.aload_n 0, 1) := by decide +kernel
theorem dX12_findWeeks_24 : decode cX12_findWeeks 24 = .ok (.getfield 167, 3) := by decide +kernel
theorem dX12_findWeeks_27 : decode cX12_findWeeks 27 = .ok (.bipush 7, 2) := by decide +kernel
theorem dX12_findWeeks_29 : decode cX12_findWeeks 29 = .ok (.iload 6, 2) := by decide +kernel
theorem dX12_findWeeks_31 : decode cX12_findWeeks 31 = .ok (.imul, 1) := by decide +kernel
theorem dX12_findWeeks_32 : decode cX12_findWeeks 32 = .ok (.iadd, 1) := by decide +kernel
theorem dX12_findWeeks_33 : decode cX12_findWeeks 33 = .ok (.invokevirtual 338, 3) := by decide +kernel
theorem dX12_findWeeks_36 : decode cX12_findWeeks 36 = .ok (.iastore, 1) := by decide +kernel
theorem dX12_findWeeks_37 : decode cX12_findWeeks 37 = .ok (.iinc 6 1, 3) := by decide +kernel
theorem dX12_findWeeks_40 : decode cX12_findWeeks 40 = .ok (.goto (-31), 3) := by decide +kernel
theorem dX12_findWeeks_43 : decode cX12_findWeeks 43 = .ok (.iload_n 3, 1) := by decide +kernel
theorem dX12_findWeeks_44 : decode cX12_findWeeks 44 = .ok (.iconst 1, 1) := by decide +kernel
theorem dX12_findWeeks_45 : decode cX12_findWeeks 45 = .ok (.isub, 1) := by decide +kernel
theorem dX12_findWeeks_46 : decode cX12_findWeeks 46 = .ok (.istore 6, 2) := by decide +kernel
theorem dX12_findWeeks_48 : decode cX12_findWeeks 48 = .ok (.iload 6, 2) := by decide +kernel
theorem dX12_findWeeks_50 : decode cX12_findWeeks 50 = .ok (.ifCond .lt 151, 3) := by decide +kernel
theorem dX12_findWeeks_53 : decode cX12_findWeeks 53 = .ok (.iconst 0, 1) := by decide +kernel
theorem dX12_findWeeks_54 : decode cX12_findWeeks 54 = .ok (.istore 7, 2) := by decide +kernel
theorem dX12_findWeeks_56 : decode cX12_findWeeks 56 = .ok (.iload 7, 2) := by decide +kernel
theorem dX12_findWeeks_58 : decode cX12_findWeeks 58 = .ok (.iload 5, 2) := by decide +kernel
theorem dX12_findWeeks_60 : decode cX12_findWeeks 60 = .ok (.if_icmp .gt 135, 3) := by decide +kernel
theorem dX12_findWeeks_63 : decode cX12_findWeeks 63 = .ok (.iconst (-1), 1) := by decide +kernel
theorem dX12_findWeeks_64 : decode cX12_findWeeks 64 = .ok (.istore 8, 2) := by decide +kernel
theorem dX12_findWeeks_66 : decode cX12_findWeeks 66 = .ok (.iload 6, 2) := by decide +kernel
theorem dX12_findWeeks_68 : decode cX12_findWeeks 68 = .ok (.iload_n 3, 1) := by decide +kernel
theorem dX12_findWeeks_69 : decode cX12_findWeeks 69 = .ok (.iconst 1, 1) := by decide +kernel
theorem dX12_findWeeks_70 : decode cX12_findWeeks 70 = .ok (.isub, 1) := by decide +kernel
theorem dX12_findWeeks_71 : decode cX12_findWeeks 71 = .ok (.if_icmp .ne 11, 3) := by decide +kernel
theorem dX12_findWeeks_74 : decode cX12_findWeeks 74 = .ok (.iload 5, 2) := by decide +kernel
theorem dX12_findWeeks_76 : decode cX12_findWeeks 76 = .ok (.iload 7, 2) := by decide +kernel
theorem dX12_findWeeks_78 : decode cX12_findWeeks 78 = .ok (.isub, 1) := by decide +kernel
theorem dX12_findWeeks_79 : decode cX12_findWeeks 79 = .ok (.goto 4, 3) := by decide +kernel
theorem dX12_findWeeks_82 : decode cX12_findWeeks 82 = .ok (.iconst 0, 1) := by decide +kernel
theorem dX12_findWeeks_83 : decode cX12_findWeeks 83 = .ok (.istore 9, 2) := by decide +kernel
theorem dX12_findWeeks_85 : decode cX12_findWeeks 85 = .ok (.iload 9, 2) := by decide +kernel
theorem dX12_findWeeks_87 : decode cX12_findWeeks 87 = .ok (.iload 5, 2) := by decide +kernel
theorem dX12_findWeeks_89 : decode cX12_findWeeks 89 = .ok (.iload 7, 2) := by decide +kernel
theorem dX12_findWeeks_91 : decode cX12_findWeeks 91 = .ok (.isub, 1) := by decide +kernel
theorem dX12_findWeeks_92 : decode cX12_findWeeks 92 = .ok (.if_icmp .gt 81, 3) := by decide +kernel
theorem dX12_findWeeks_95 : decode cX12_findWeeks 95 = .ok (.aload_n 0, 1) := by decide +kernel
theorem dX12_findWeeks_96 : decode cX12_findWeeks 96 = .ok (.iload 6, 2) := by decide +kernel
theorem dX12_findWeeks_98 : decode cX12_findWeeks 98 = .ok (.iload_n 3, 1) := by decide +kernel
theorem dX12_findWeeks_99 : decode cX12_findWeeks 99 = .ok (.iload 7, 2) := by decide +kernel
theorem dX12_findWeeks_101 : decode cX12_findWeeks 101 = .ok (.iload 9, 2) := by decide +kernel
theorem dX12_findWeeks_103 : decode cX12_findWeeks 103 = .ok (.iload 4, 2) := by decide +kernel
theorem dX12_findWeeks_105 : decode cX12_findWeeks 105 = .ok (.iload_n 2, 1) := by decide +kernel
theorem dX12_findWeeks_106 : decode cX12_findWeeks 106 = .ok (.iload 4, 2) := by decide +kernel
theorem dX12_findWeeks_108 : decode cX12_findWeeks 108 = .ok (.irem, 1) := by decide +kernel
theorem dX12_findWeeks_109 : decode cX12_findWeeks 109 = .ok (.invokevirtual 344, 3) := by decide +kernel
theorem dX12_findWeeks_112 : decode cX12_findWeeks 112 = .ok (.iload 6, 2) := by decide +kernel
theorem dX12_findWeeks_114 : decode cX12_findWeeks 114 = .ok (.iload_n 3, 1) := by decide +kernel
theorem dX12_findWeeks_115 : decode cX12_findWeeks 115 = .ok (.iconst 1, 1) := by decide +kernel
theorem dX12_findWeeks_116 : decode cX12_findWeeks 116 = .ok (.isub, 1) := by decide +kernel
theorem dX12_findWeeks_117 : decode cX12_findWeeks 117 = .ok (.if_icmp .ne 7, 3) := by decide +kernel
theorem dX12_findWeeks_120 : decode cX12_findWeeks 120 = .ok (.iconst 0, 1) := by decide +kernel
theorem dX12_findWeeks_121 : decode cX12_findWeeks 121 = .ok (.goto 22, 3) := by decide +kernel
theorem dX12_findWeeks_124 : decode cX12_findWeeks 124 = .ok (.aload_n 0, 1) := by decide +kernel
theorem dX12_findWeeks_125 : decode cX12_findWeeks 125 = .ok (.getfield 143, 3) := by decide +kernel
theorem dX12_findWeeks_128 : decode cX12_findWeeks 128 = .ok (.sipush 201, 3) := by decide +kernel
theorem dX12_findWeeks_131 : decode cX12_findWeeks 131 = .ok (.iload 6, 2) := by decide +kernel
theorem dX12_findWeeks_133 : decode cX12_findWeeks 133 = .ok (.iconst 1, 1) := by decide +kernel
theorem dX12_findWeeks_134 : decode cX12_findWeeks 134 = .ok (.iadd, 1) := by decide +kernel
theorem dX12_findWeeks_135 : decode cX12_findWeeks 135 = .ok (.imul, 1) := by decide +kernel
theorem dX12_findWeeks_136 : decode cX12_findWeeks 136 = .ok (.iload 7, 2) := by decide +kernel
theorem dX12_findWeeks_138 : decode cX12_findWeeks 138 = .ok (.iadd, 1) := by decide +kernel
theorem dX12_findWeeks_139 : decode cX12_findWeeks 139 = .ok (.iload 9, 2) := by decide +kernel
theorem dX12_findWeeks_141 : decode cX12_findWeeks 141 = .ok (.iadd, 1) := by decide +kernel
theorem dX12_findWeeks_142 : decode cX12_findWeeks 142 = .ok (.iaload, 1) := by decide +kernel
theorem dX12_findWeeks_143 : decode cX12_findWeeks 143 = .ok (.iadd, 1) := by decide +kernel
theorem dX12_findWeeks_144 : decode cX12_findWeeks 144 = .ok (.istore 10, 2) := by decide +kernel
theorem dX12_findWeeks_146 : decode cX12_findWeeks 146 = .ok (.iload 8, 2) := by decide +kernel
theorem dX12_findWeeks_148 : decode cX12_findWeeks 148 = .ok (.ifCond .lt 10, 3) := by decide +kernel
theorem dX12_findWeeks_151 : decode cX12_findWeeks 151 = .ok (.iload 10, 2) := by decide +kernel
theorem dX12_findWeeks_153 : decode cX12_findWeeks 153 = .ok (.iload 8, 2) := by decide +kernel
theorem dX12_findWeeks_155 : decode cX12_findWeeks 155 = .ok (.if_icmp .ge 8, 3) := by decide +kernel
theorem dX12_findWeeks_158 : decode cX12_findWeeks 158 = .ok (.iload 10, 2) := by decide +kernel
theorem dX12_findWeeks_160 : decode cX12_findWeeks 160 = .ok (.goto 5, 3) := by decide +kernel
theorem dX12_findWeeks_163 : decode cX12_findWeeks 163 = .ok (.iload 8, 2) := by decide +kernel
theorem dX12_findWeeks_165 : decode cX12_findWeeks 165 = .ok (.istore 8, 2) := by decide +kernel
theorem dX12_findWeeks_167 : decode cX12_findWeeks 167 = .ok (.iinc 9 1, 3) := by decide +kernel
theorem dX12_findWeeks_170 : decode cX12_findWeeks 170 = .ok (.goto (-85), 3) := by decide +kernel
theorem dX12_findWeeks_173 : decode cX12_findWeeks 173 = .ok (.aload_n 0, 1) := by decide +kernel
theorem dX12_findWeeks_174 : decode cX12_findWeeks 174 = .ok (.getfield 143, 3) := by decide +kernel
theorem dX12_findWeeks_177 : decode cX12_findWeeks 177 = .ok (.sipush 201, 3) := by decide +kernel
theorem dX12_findWeeks_180 : decode cX12_findWeeks 180 = .ok (.iload 6, 2) := by decide +kernel
theorem dX12_findWeeks_182 : decode cX12_findWeeks 182 = .ok (.imul, 1) := by decide +kernel
theorem dX12_findWeeks_183 : decode cX12_findWeeks 183 = .ok (.iload 7, 2) := by decide +kernel
theorem dX12_findWeeks_185 : decode cX12_findWeeks 185 = .ok (.iadd, 1) := by decide +kernel
theorem dX12_findWeeks_186 : decode cX12_findWeeks 186 = .ok (.iload 8, 2) := by decide +kernel
theorem dX12_findWeeks_188 : decode cX12_findWeeks 188 = .ok (.iastore, 1) := by decide +kernel
theorem dX12_findWeeks_189 : decode cX12_findWeeks 189 = .ok (.iinc 7 1, 3) := by decide +kernel
theorem dX12_findWeeks_192 : decode cX12_findWeeks 192 = .ok (.goto (-136), 3) := by decide +kernel
theorem dX12_findWeeks_195 : decode cX12_findWeeks 195 = .ok (.iinc 6 (-1), 3) := by decide +kernel
theorem dX12_findWeeks_198 : decode cX12_findWeeks 198 = .ok (.goto (-150), 3) := by decide +kernel
theorem dX12_findWeeks_201 : decode cX12_findWeeks 201 = .ok (.return_, 1) := by decide +kernel
theorem dX12_wrongWeeks_0 : decode cX12_wrongWeeks 0 = .ok (.iload_n 0, 1) := by decide +kernel
theorem dX12_wrongWeeks_1 : decode cX12_wrongWeeks 1 = .ok (.iconst 1, 1) := by decide +kernel
theorem dX12_wrongWeeks_2 : decode cX12_wrongWeeks 2 = .ok (.if_icmp .lt 18, 3) := by decide +kernel
theorem dX12_wrongWeeks_5 : decode cX12_wrongWeeks 5 = .ok (.iload_n 1, 1) := by decide +kernel
theorem dX12_wrongWeeks_6 : decode cX12_wrongWeeks 6 = .ok (.iconst 1, 1) := by decide +kernel
theorem dX12_wrongWeeks_7 : decode cX12_wrongWeeks 7 = .ok (.if_icmp .lt 13, 3) := by decide +kernel
theorem dX12_wrongWeeks_10 : decode cX12_wrongWeeks 10 = .ok (.iload_n 2, 1) := by decide +kernel
theorem dX12_wrongWeeks_11 : decode cX12_wrongWeeks 11 = .ok (.iconst 1, 1) := by decide +kernel
theorem dX12_wrongWeeks_12 : decode cX12_wrongWeeks 12 = .ok (.if_icmp .lt 8, 3) := by decide +kernel
theorem dX12_wrongWeeks_15 : decode cX12_wrongWeeks 15 = .ok (.iload_n 3, 1) := by decide +kernel
theorem dX12_wrongWeeks_16 : decode cX12_wrongWeeks 16 = .ok (.iconst 1, 1) := by decide +kernel
theorem dX12_wrongWeeks_17 : decode cX12_wrongWeeks 17 = .ok (.if_icmp .ge 8, 3) := by decide +kernel
theorem dX12_wrongWeeks_20 : decode cX12_wrongWeeks 20 = .ok (.bipush (-4), 2) := by decide +kernel
theorem dX12_wrongWeeks_22 : decode cX12_wrongWeeks 22 = .ok (.goto 35, 3) := by decide +kernel
theorem dX12_wrongWeeks_25 : decode cX12_wrongWeeks 25 = .ok (.iload_n 0, 1) := by decide +kernel
theorem dX12_wrongWeeks_26 : decode cX12_wrongWeeks 26 = .ok (.sipush 200, 3) := by decide +kernel
theorem dX12_wrongWeeks_29 : decode cX12_wrongWeeks 29 = .ok (.if_icmp .gt 22, 3) := by decide +kernel
theorem dX12_wrongWeeks_32 : decode cX12_wrongWeeks 32 = .ok (.iload_n 1, 1) := by decide +kernel
theorem dX12_wrongWeeks_33 : decode cX12_wrongWeeks 33 = .ok (.bipush 6, 2) := by decide +kernel
theorem dX12_wrongWeeks_35 : decode cX12_wrongWeeks 35 = .ok (.if_icmp .gt 16, 3) := by decide +kernel
theorem dX12_wrongWeeks_38 : decode cX12_wrongWeeks 38 = .ok (.iload_n 2, 1) := by decide +kernel
theorem dX12_wrongWeeks_39 : decode cX12_wrongWeeks 39 = .ok (.bipush 50, 2) := by decide +kernel
theorem dX12_wrongWeeks_41 : decode cX12_wrongWeeks 41 = .ok (.if_icmp .gt 10, 3) := by decide +kernel
theorem dX12_wrongWeeks_44 : decode cX12_wrongWeeks 44 = .ok (.iload_n 3, 1) := by decide +kernel
theorem dX12_wrongWeeks_45 : decode cX12_wrongWeeks 45 = .ok (.sipush 9999, 3) := by decide +kernel
theorem dX12_wrongWeeks_48 : decode cX12_wrongWeeks 48 = .ok (.if_icmp .le 8, 3) := by decide +kernel
theorem dX12_wrongWeeks_51 : decode cX12_wrongWeeks 51 = .ok (.bipush (-6), 2) := by decide +kernel
theorem dX12_wrongWeeks_53 : decode cX12_wrongWeeks 53 = .ok (.goto 4, 3) := by decide +kernel
theorem dX12_wrongWeeks_56 : decode cX12_wrongWeeks 56 = .ok (.iconst 0, 1) := by decide +kernel
theorem dX12_wrongWeeks_57 : decode cX12_wrongWeeks 57 = .ok (.ireturn, 1) := by decide +kernel
theorem dX12_weeks_0 : decode cX12_weeks 0 = .ok (.iload_n 1, 1) := by decide +kernel
theorem dX12_weeks_1 : decode cX12_weeks 1 = .ok (.iconst 0, 1) := by decide +kernel
theorem dX12_weeks_2 : decode cX12_weeks 2 = .ok (.iconst 3, 1) := by decide +kernel
theorem dX12_weeks_3 : decode cX12_weeks 3 = .ok (.invokestatic 157, 3) := by decide +kernel
theorem dX12_weeks_6 : decode cX12_weeks 6 = .ok (.ifCond .ne 9, 3) := by decide +kernel
theorem dX12_weeks_9 : decode cX12_weeks 9 = .ok (.aload_n 0, 1) := by decide +kernel
theorem dX12_weeks_10 : decode cX12_weeks 10 = .ok (.iconst (-1), 1) := by decide +kernel
theorem dX12_weeks_11 : decode cX12_weeks 11 = .ok (.invokevirtual 174, 3) := by decide +kernel
theorem dX12_weeks_14 : decode cX12_weeks 14 = .ok (.ireturn, 1) := by decide +kernel
theorem dX12_weeks_15 : decode cX12_weeks 15 = .ok (.iload_n 2, 1) := by decide +kernel
theorem dX12_weeks_16 : decode cX12_weeks 16 = .ok (.iload_n 3, 1) := by decide +kernel
theorem dX12_weeks_17 : decode cX12_weeks 17 = .ok (.iload 4, 2) := by decide +kernel
theorem dX12_weeks_19 : decode cX12_weeks 19 = .ok (.iload 5, 2) := by decide +kernel
theorem dX12_weeks_21 : decode cX12_weeks 21 = .ok (.invokestatic 348, 3) := by decide +kernel
theorem dX12_weeks_24 : decode cX12_weeks 24 = .ok (.istore 6, 2) := by decide +kernel
theorem dX12_weeks_26 : decode cX12_weeks 26 = .ok (.iload 6, 2) := by decide +kernel
theorem dX12_weeks_28 : decode cX12_weeks 28 = .ok (.ifCond .ge 10, 3) := by decide +kernel
theorem dX12_weeks_31 : decode cX12_weeks 31 = .ok (.aload_n 0, 1) := by decide +kernel
theorem dX12_weeks_32 : decode cX12_weeks 32 = .ok (.iload 6, 2) := by decide +kernel
theorem dX12_weeks_34 : decode cX12_weeks 34 = .ok (.invokevirtual 174, 3) := by decide +kernel
theorem dX12_weeks_37 : decode cX12_weeks 37 = .ok (.ireturn, 1) := by decide +kernel
theorem dX12_weeks_38 : decode cX12_weeks 38 = .ok (.aload_n 0, 1) := by decide +kernel
theorem dX12_weeks_39 : decode cX12_weeks 39 = .ok (.iload_n 1, 1) := by decide +kernel
theorem dX12_weeks_40 : decode cX12_weeks 40 = .ok (.iload_n 2, 1) := by decide +kernel
theorem dX12_weeks_41 : decode cX12_weeks 41 = .ok (.iload_n 3, 1) := by decide +kernel
theorem dX12_weeks_42 : decode cX12_weeks 42 = .ok (.iload 4, 2) := by decide +kernel
theorem dX12_weeks_44 : decode cX12_weeks 44 = .ok (.invokevirtual 352, 3) := by decide +kernel
theorem dX12_weeks_47 : decode cX12_weeks 47 = .ok (.aload_n 0, 1) := by decide +kernel
theorem dX12_weeks_48 : decode cX12_weeks 48 = .ok (.getfield 143, 3) := by decide +kernel
theorem dX12_weeks_51 : decode cX12_weeks 51 = .ok (.iconst 0, 1) := by decide +kernel
theorem dX12_weeks_52 : decode cX12_weeks 52 = .ok (.iaload, 1) := by decide +kernel
theorem dX12_weeks_53 : decode cX12_weeks 53 = .ok (.iload 5, 2) := by decide +kernel
theorem dX12_weeks_55 : decode cX12_weeks 55 = .ok (.imul, 1) := by decide +kernel
theorem dX12_weeks_56 : decode cX12_weeks 56 = .ok (.ireturn, 1) := by decide +kernel
theorem dX12_weekOf_0 : decode cX12_weekOf 0 = .ok (.iload_n 1, 1) := by decide +kernel
theorem dX12_weekOf_1 : decode cX12_weekOf 1 = .ok (.iconst 0, 1) := by decide +kernel
theorem dX12_weekOf_2 : decode cX12_weekOf 2 = .ok (.iconst 3, 1) := by decide +kernel
theorem dX12_weekOf_3 : decode cX12_weekOf 3 = .ok (.invokestatic 157, 3) := by decide +kernel
theorem dX12_weekOf_6 : decode cX12_weekOf 6 = .ok (.ifCond .eq 14, 3) := by decide +kernel
theorem dX12_weekOf_9 : decode cX12_weekOf 9 = .ok (.iload 6, 2) := by decide +kernel
theorem dX12_weekOf_11 : decode cX12_weekOf 11 = .ok (.ifCond .lt 9, 3) := by decide +kernel
theorem dX12_weekOf_14 : decode cX12_weekOf 14 = .ok (.iload 6, 2) := by decide +kernel
theorem dX12_weekOf_16 : decode cX12_weekOf 16 = .ok (.iload_n 3, 1) := by decide +kernel
theorem dX12_weekOf_17 : decode cX12_weekOf 17 = .ok (.if_icmp .lt 9, 3) := by decide +kernel
theorem dX12_weekOf_20 : decode cX12_weekOf 20 = .ok (.aload_n 0, 1) := by decide +kernel
theorem dX12_weekOf_21 : decode cX12_weekOf 21 = .ok (.iconst (-1), 1) := by decide +kernel
theorem dX12_weekOf_22 : decode cX12_weekOf 22 = .ok (.invokevirtual 174, 3) := by decide +kernel
theorem dX12_weekOf_25 : decode cX12_weekOf 25 = .ok (.ireturn, 1) := by decide +kernel
theorem dX12_weekOf_26 : decode cX12_weekOf 26 = .ok (.iload_n 2, 1) := by decide +kernel
theorem dX12_weekOf_27 : decode cX12_weekOf 27 = .ok (.iload_n 3, 1) := by decide +kernel
theorem dX12_weekOf_28 : decode cX12_weekOf 28 = .ok (.iload 4, 2) := by decide +kernel
theorem dX12_weekOf_30 : decode cX12_weekOf 30 = .ok (.iload 5, 2) := by decide +kernel
theorem dX12_weekOf_32 : decode cX12_weekOf 32 = .ok (.invokestatic 348, 3) := by decide +kernel
theorem dX12_weekOf_35 : decode cX12_weekOf 35 = .ok (.istore 7, 2) := by decide +kernel
theorem dX12_weekOf_37 : decode cX12_weekOf 37 = .ok (.iload 7, 2) := by decide +kernel
theorem dX12_weekOf_39 : decode cX12_weekOf 39 = .ok (.ifCond .ge 10, 3) := by decide +kernel
theorem dX12_weekOf_42 : decode cX12_weekOf 42 = .ok (.aload_n 0, 1) := by decide +kernel
theorem dX12_weekOf_43 : decode cX12_weekOf 43 = .ok (.iload 7, 2) := by decide +kernel
theorem dX12_weekOf_45 : decode cX12_weekOf 45 = .ok (.invokevirtual 174, 3) := by decide +kernel
theorem dX12_weekOf_48 : decode cX12_weekOf 48 = .ok (.ireturn, 1) := by decide +kernel
theorem dX12_weekOf_49 : decode cX12_weekOf 49 = .ok (.aload_n 0, 1) := by decide +kernel
theorem dX12_weekOf_50 : decode cX12_weekOf 50 = .ok (.iload_n 1, 1) := by decide +kernel
theorem dX12_weekOf_51 : decode cX12_weekOf 51 = .ok (.iload_n 2, 1) := by decide +kernel
theorem dX12_weekOf_52 : decode cX12_weekOf 52 = .ok (.iload_n 3, 1) := by decide +kernel
theorem dX12_weekOf_53 : decode cX12_weekOf 53 = .ok (.iload 4, 2) := by decide +kernel
theorem dX12_weekOf_55 : decode cX12_weekOf 55 = .ok (.invokevirtual 352, 3) := by decide +kernel
theorem dX12_weekOf_58 : decode cX12_weekOf 58 = .ok (.iconst 0, 1) := by decide +kernel
theorem dX12_weekOf_59 : decode cX12_weekOf 59 = .ok (.istore 8, 2) := by decide +kernel
theorem dX12_weekOf_61 : decode cX12_weekOf 61 = .ok (.iconst 0, 1) := by decide +kernel
theorem dX12_weekOf_62 : decode cX12_weekOf 62 = .ok (.istore 9, 2) := by decide +kernel
theorem dX12_weekOf_64 : decode cX12_weekOf 64 = .ok (.iconst 0, 1) := by decide +kernel
theorem dX12_weekOf_65 : decode cX12_weekOf 65 = .ok (.istore 10, 2) := by decide +kernel
theorem dX12_weekOf_67 : decode cX12_weekOf 67 = .ok (.iload 10, 2) := by decide +kernel
theorem dX12_weekOf_69 : decode cX12_weekOf 69 = .ok (.iload 6, 2) := by decide +kernel
theorem dX12_weekOf_71 : decode cX12_weekOf 71 = .ok (.if_icmp .gt 93, 3) := by decide +kernel
theorem dX12_weekOf_74 : decode cX12_weekOf 74 = .ok (.iload 8, 2) := by decide +kernel
theorem dX12_weekOf_76 : decode cX12_weekOf 76 = .ok (.iload 9, 2) := by decide +kernel
theorem dX12_weekOf_78 : decode cX12_weekOf 78 = .ok (.iadd, 1) := by decide +kernel
theorem dX12_weekOf_79 : decode cX12_weekOf 79 = .ok (.istore 8, 2) := by decide +kernel
theorem dX12_weekOf_81 : decode cX12_weekOf 81 = .ok (.iload_n 2, 1) := by decide +kernel
theorem dX12_weekOf_82 : decode cX12_weekOf 82 = .ok (.iload 4, 2) := by decide +kernel
theorem dX12_weekOf_84 : decode cX12_weekOf 84 = .ok (.idiv, 1) := by decide +kernel
theorem dX12_weekOf_85 : decode cX12_weekOf 85 = .ok (.iload 8, 2) := by decide +kernel
theorem dX12_weekOf_87 : decode cX12_weekOf 87 = .ok (.isub, 1) := by decide +kernel
theorem dX12_weekOf_88 : decode cX12_weekOf 88 = .ok (.istore 9, 2) := by decide +kernel
theorem dX12_weekOf_90 : decode cX12_weekOf 90 = .ok (.iload 10, 2) := by decide +kernel
theorem dX12_weekOf_92 : decode cX12_weekOf 92 = .ok (.iload_n 3, 1) := by decide +kernel
theorem dX12_weekOf_93 : decode cX12_weekOf 93 = .ok (.iconst 1, 1) := by decide +kernel
theorem dX12_weekOf_94 : decode cX12_weekOf 94 = .ok (.isub, 1) := by decide +kernel
theorem dX12_weekOf_95 : decode cX12_weekOf 95 = .ok (.if_icmp .ge 63, 3) := by decide +kernel
theorem dX12_weekOf_98 : decode cX12_weekOf 98 = .ok (.aload_n 0, 1) := by decide +kernel
theorem dX12_weekOf_99 : decode cX12_weekOf 99 = .ok (.iload 10, 2) := by decide +kernel
theorem dX12_weekOf_101 : decode cX12_weekOf 101 = .ok (.iload_n 3, 1) := by decide +kernel
theorem dX12_weekOf_102 : decode cX12_weekOf 102 = .ok (.iload 8, 2) := by decide +kernel
theorem dX12_weekOf_104 : decode cX12_weekOf 104 = .ok (.iload 9, 2) := by decide +kernel
theorem dX12_weekOf_106 : decode cX12_weekOf 106 = .ok (.iload 4, 2) := by decide +kernel
theorem dX12_weekOf_108 : decode cX12_weekOf 108 = .ok (.iload_n 2, 1) := by decide +kernel
theorem dX12_weekOf_109 : decode cX12_weekOf 109 = .ok (.iload 4, 2) := by decide +kernel
theorem dX12_weekOf_111 : decode cX12_weekOf 111 = .ok (.irem, 1) := by decide +kernel
theorem dX12_weekOf_112 : decode cX12_weekOf 112 = .ok (.invokevirtual 344, 3) := by decide +kernel
theorem dX12_weekOf_115 : decode cX12_weekOf 115 = .ok (.aload_n 0, 1) := by decide +kernel
theorem dX12_weekOf_116 : decode cX12_weekOf 116 = .ok (.getfield 143, 3) := by decide +kernel
theorem dX12_weekOf_119 : decode cX12_weekOf 119 = .ok (.sipush 201, 3) := by decide +kernel
theorem dX12_weekOf_122 : decode cX12_weekOf 122 = .ok (.iload 10, 2) := by decide +kernel
theorem dX12_weekOf_124 : decode cX12_weekOf 124 = .ok (.iconst 1, 1) := by decide +kernel
theorem dX12_weekOf_125 : decode cX12_weekOf 125 = .ok (.iadd, 1) := by decide +kernel
theorem dX12_weekOf_126 : decode cX12_weekOf 126 = .ok (.imul, 1) := by decide +kernel
theorem dX12_weekOf_127 : decode cX12_weekOf 127 = .ok (.iload 8, 2) := by decide +kernel
theorem dX12_weekOf_129 : decode cX12_weekOf 129 = .ok (.iadd, 1) := by decide +kernel
theorem dX12_weekOf_130 : decode cX12_weekOf 130 = .ok (.iload 9, 2) := by decide +kernel
theorem dX12_weekOf_132 : decode cX12_weekOf 132 = .ok (.iadd, 1) := by decide +kernel
theorem dX12_weekOf_133 : decode cX12_weekOf 133 = .ok (.iaload, 1) := by decide +kernel
theorem dX12_weekOf_134 : decode cX12_weekOf 134 = .ok (.iadd, 1) := by decide +kernel
theorem dX12_weekOf_135 : decode cX12_weekOf 135 = .ok (.aload_n 0, 1) := by decide +kernel
theorem dX12_weekOf_136 : decode cX12_weekOf 136 = .ok (.getfield 143, 3) := by decide +kernel
theorem dX12_weekOf_139 : decode cX12_weekOf 139 = .ok (.sipush 201, 3) := by decide +kernel
theorem dX12_weekOf_142 : decode cX12_weekOf 142 = .ok (.iload 10, 2) := by decide +kernel
theorem dX12_weekOf_144 : decode cX12_weekOf 144 = .ok (.imul, 1) := by decide +kernel
theorem dX12_weekOf_145 : decode cX12_weekOf 145 = .ok (.iload 8, 2) := by decide +kernel
theorem dX12_weekOf_147 : decode cX12_weekOf 147 = .ok (.iadd, 1) := by decide +kernel
theorem dX12_weekOf_148 : decode cX12_weekOf 148 = .ok (.iaload, 1) := by decide +kernel
theorem dX12_weekOf_149 : decode cX12_weekOf 149 = .ok (.if_icmp .eq 9, 3) := by decide +kernel
theorem dX12_weekOf_152 : decode cX12_weekOf 152 = .ok (.iinc 9 (-1), 3) := by decide +kernel
theorem dX12_weekOf_155 : decode cX12_weekOf 155 = .ok (.goto (-65), 3) := by decide +kernel
theorem dX12_weekOf_158 : decode cX12_weekOf 158 = .ok (.iinc 10 1, 3) := by decide +kernel
theorem dX12_weekOf_161 : decode cX12_weekOf 161 = .ok (.goto (-94), 3) := by decide +kernel
theorem dX12_weekOf_164 : decode cX12_weekOf 164 = .ok (.iload 9, 2) := by decide +kernel
theorem dX12_weekOf_166 : decode cX12_weekOf 166 = .ok (.iload 4, 2) := by decide +kernel
theorem dX12_weekOf_168 : decode cX12_weekOf 168 = .ok (.imul, 1) := by decide +kernel
theorem dX12_weekOf_169 : decode cX12_weekOf 169 = .ok (.iload 6, 2) := by decide +kernel
theorem dX12_weekOf_171 : decode cX12_weekOf 171 = .ok (.iload_n 3, 1) := by decide +kernel
theorem dX12_weekOf_172 : decode cX12_weekOf 172 = .ok (.iconst 1, 1) := by decide +kernel
theorem dX12_weekOf_173 : decode cX12_weekOf 173 = .ok (.isub, 1) := by decide +kernel
theorem dX12_weekOf_174 : decode cX12_weekOf 174 = .ok (.if_icmp .ne 10, 3) := by decide +kernel
theorem dX12_weekOf_177 : decode cX12_weekOf 177 = .ok (.iload_n 2, 1) := by decide +kernel
theorem dX12_weekOf_178 : decode cX12_weekOf 178 = .ok (.iload 4, 2) := by decide +kernel
theorem dX12_weekOf_180 : decode cX12_weekOf 180 = .ok (.irem, 1) := by decide +kernel
theorem dX12_weekOf_181 : decode cX12_weekOf 181 = .ok (.goto 4, 3) := by decide +kernel
theorem dX12_weekOf_184 : decode cX12_weekOf 184 = .ok (.iconst 0, 1) := by decide +kernel
theorem dX12_weekOf_185 : decode cX12_weekOf 185 = .ok (.iadd, 1) := by decide +kernel
theorem dX12_weekOf_186 : decode cX12_weekOf 186 = .ok (.ireturn, 1) := by decide +kernel
theorem dX12_turning_0 : decode cX12_turning 0 = .ok (.aload_n 0, 1) := by decide +kernel
theorem dX12_turning_1 : decode cX12_turning 1 = .ok (.iload_n 1, 1) := by decide +kernel
theorem dX12_turning_2 : decode cX12_turning 2 = .ok (.iload_n 2, 1) := by decide +kernel
theorem dX12_turning_3 : decode cX12_turning 3 = .ok (.invokevirtual 258, 3) := by decide +kernel
theorem dX12_turning_6 : decode cX12_turning 6 = .ok (.ifCond .eq 31, 3) := by decide +kernel
theorem dX12_turning_9 : decode cX12_turning 9 = .ok (.aload_n 0, 1) := by decide +kernel
theorem dX12_turning_10 : decode cX12_turning 10 = .ok (.iload 4, 2) := by decide +kernel
theorem dX12_turning_12 : decode cX12_turning 12 = .ok (.invokevirtual 194, 3) := by decide +kernel
theorem dX12_turning_15 : decode cX12_turning 15 = .ok (.ifCond .eq 22, 3) := by decide +kernel
theorem dX12_turning_18 : decode cX12_turning 18 = .ok (.aload_n 0, 1) := by decide +kernel
theorem dX12_turning_19 : decode cX12_turning 19 = .ok (.iload 4, 2) := by decide +kernel
theorem dX12_turning_21 : decode cX12_turning 21 = .ok (.iload_n 2, 1) := by decide +kernel
theorem dX12_turning_22 : decode cX12_turning 22 = .ok (.invokevirtual 249, 3) := by decide +kernel
theorem dX12_turning_25 : decode cX12_turning 25 = .ok (.ifCond .eq 12, 3) := by decide +kernel
theorem dX12_turning_28 : decode cX12_turning 28 = .ok (.aload_n 0, 1) := by decide +kernel
theorem dX12_turning_29 : decode cX12_turning 29 = .ok (.iload 4, 2) := by decide +kernel
theorem dX12_turning_31 : decode cX12_turning 31 = .ok (.invokevirtual 252, 3) := by decide +kernel
theorem dX12_turning_34 : decode cX12_turning 34 = .ok (.ifCond .eq 9, 3) := by decide +kernel
theorem dX12_turning_37 : decode cX12_turning 37 = .ok (.aload_n 0, 1) := by decide +kernel
theorem dX12_turning_38 : decode cX12_turning 38 = .ok (.iconst (-1), 1) := by decide +kernel
theorem dX12_turning_39 : decode cX12_turning 39 = .ok (.invokevirtual 174, 3) := by decide +kernel
theorem dX12_turning_42 : decode cX12_turning 42 = .ok (.ireturn, 1) := by decide +kernel
theorem dX12_turning_43 : decode cX12_turning 43 = .ok (.iload 5, 2) := by decide +kernel
theorem dX12_turning_45 : decode cX12_turning 45 = .ok (.iconst 0, 1) := by decide +kernel
theorem dX12_turning_46 : decode cX12_turning 46 = .ok (.iconst 3, 1) := by decide +kernel
theorem dX12_turning_47 : decode cX12_turning 47 = .ok (.invokestatic 157, 3) := by decide +kernel
theorem dX12_turning_50 : decode cX12_turning 50 = .ok (.ifCond .ne 10, 3) := by decide +kernel
theorem dX12_turning_53 : decode cX12_turning 53 = .ok (.aload_n 0, 1) := by decide +kernel
theorem dX12_turning_54 : decode cX12_turning 54 = .ok (.bipush (-2), 2) := by decide +kernel
theorem dX12_turning_56 : decode cX12_turning 56 = .ok (.invokevirtual 174, 3) := by decide +kernel
theorem dX12_turning_59 : decode cX12_turning 59 = .ok (.ireturn, 1) := by decide +kernel
theorem dX12_turning_60 : decode cX12_turning 60 = .ok (.iload_n 3, 1) := by decide +kernel
theorem dX12_turning_61 : decode cX12_turning 61 = .ok (.invokestatic 261, 3) := by decide +kernel
theorem dX12_turning_64 : decode cX12_turning 64 = .ok (.ifCond .ge 12, 3) := by decide +kernel
theorem dX12_turning_67 : decode cX12_turning 67 = .ok (.aload_n 0, 1) := by decide +kernel
theorem dX12_turning_68 : decode cX12_turning 68 = .ok (.iload_n 3, 1) := by decide +kernel
theorem dX12_turning_69 : decode cX12_turning 69 = .ok (.invokestatic 261, 3) := by decide +kernel
theorem dX12_turning_72 : decode cX12_turning 72 = .ok (.invokevirtual 174, 3) := by decide +kernel
theorem dX12_turning_75 : decode cX12_turning 75 = .ok (.ireturn, 1) := by decide +kernel
theorem dX12_turning_76 : decode cX12_turning 76 = .ok (.aload_n 0, 1) := by decide +kernel
theorem dX12_turning_77 : decode cX12_turning 77 = .ok (.iload 4, 2) := by decide +kernel
theorem dX12_turning_79 : decode cX12_turning 79 = .ok (.iload_n 2, 1) := by decide +kernel
theorem dX12_turning_80 : decode cX12_turning 80 = .ok (.iload_n 3, 1) := by decide +kernel
theorem dX12_turning_81 : decode cX12_turning 81 = .ok (.invokevirtual 356, 3) := by decide +kernel
theorem dX12_turning_84 : decode cX12_turning 84 = .ok (.istore 6, 2) := by decide +kernel
theorem dX12_turning_86 : decode cX12_turning 86 = .ok (.aload_n 0, 1) := by decide +kernel
theorem dX12_turning_87 : decode cX12_turning 87 = .ok (.getfield 65, 3) := by decide +kernel
theorem dX12_turning_90 : decode cX12_turning 90 = .ok (.iload 5, 2) := by decide +kernel
theorem dX12_turning_92 : decode cX12_turning 92 = .ok (.iaload, 1) := by decide +kernel
theorem dX12_turning_93 : decode cX12_turning 93 = .ok (.istore 7, 2) := by decide +kernel
theorem dX12_turning_95 : decode cX12_turning 95 = .ok (.bipush (-9), 2) := by decide +kernel
theorem dX12_turning_97 : decode cX12_turning 97 = .ok (.istore 8, 2) := by decide +kernel
theorem dX12_turning_99 : decode cX12_turning 99 = .ok (.iconst 1, 1) := by decide +kernel
theorem dX12_turning_100 : decode cX12_turning 100 = .ok (.istore 9, 2) := by decide +kernel
theorem dX12_turning_102 : decode cX12_turning 102 = .ok (.iload 9, 2) := by decide +kernel
theorem dX12_turning_104 : decode cX12_turning 104 = .ok (.bipush 60, 2) := by decide +kernel
theorem dX12_turning_106 : decode cX12_turning 106 = .ok (.if_icmp .gt 107, 3) := by decide +kernel
theorem dX12_turning_109 : decode cX12_turning 109 = .ok (.iload 8, 2) := by decide +kernel
theorem dX12_turning_111 : decode cX12_turning 111 = .ok (.bipush (-9), 2) := by decide +kernel
theorem dX12_turning_113 : decode cX12_turning 113 = .ok (.if_icmp .ne 100, 3) := by decide +kernel
theorem dX12_turning_116 : decode cX12_turning 116 = .ok (.iconst 0, 1) := by decide +kernel
theorem dX12_turning_117 : decode cX12_turning 117 = .ok (.istore 10, 2) := by decide +kernel
theorem dX12_turning_119 : decode cX12_turning 119 = .ok (.iload 10, 2) := by decide +kernel
theorem dX12_turning_121 : decode cX12_turning 121 = .ok (.iconst 2, 1) := by decide +kernel
theorem dX12_turning_122 : decode cX12_turning 122 = .ok (.if_icmp .ge 85, 3) := by decide +kernel
theorem dX12_turning_125 : decode cX12_turning 125 = .ok (.iload 8, 2) := by decide +kernel
theorem dX12_turning_127 : decode cX12_turning 127 = .ok (.bipush (-9), 2) := by decide +kernel
theorem dX12_turning_129 : decode cX12_turning 129 = .ok (.if_icmp .ne 78, 3) := by decide +kernel
theorem dX12_turning_132 : decode cX12_turning 132 = .ok (.iload 10, 2) := by decide +kernel
theorem dX12_turning_134 : decode cX12_turning 134 = .ok (.ifCond .ne 11, 3) := by decide +kernel
theorem dX12_turning_137 : decode cX12_turning 137 = .ok (.iload 7, 2) := by decide +kernel
theorem dX12_turning_139 : decode cX12_turning 139 = .ok (.iload 9, 2) := by decide +kernel
theorem dX12_turning_141 : decode cX12_turning 141 = .ok (.iadd, 1) := by decide +kernel
theorem dX12_turning_142 : decode cX12_turning 142 = .ok (.goto 8, 3) := by decide +kernel
theorem dX12_turning_145 : decode cX12_turning 145 = .ok (.iload 7, 2) := by decide +kernel
theorem dX12_turning_147 : decode cX12_turning 147 = .ok (.iload 9, 2) := by decide +kernel
theorem dX12_turning_149 : decode cX12_turning 149 = .ok (.isub, 1) := by decide +kernel
theorem dX12_turning_150 : decode cX12_turning 150 = .ok (.istore 11, 2) := by decide +kernel
theorem dX12_turning_152 : decode cX12_turning 152 = .ok (.iload 11, 2) := by decide +kernel
theorem dX12_turning_154 : decode cX12_turning 154 = .ok (.iconst 0, 1) := by decide +kernel
theorem dX12_turning_155 : decode cX12_turning 155 = .ok (.bipush 60, 2) := by decide +kernel
theorem dX12_turning_157 : decode cX12_turning 157 = .ok (.invokestatic 157, 3) := by decide +kernel
theorem dX12_turning_160 : decode cX12_turning 160 = .ok (.ifCond .eq 41, 3) := by decide +kernel
theorem dX12_turning_163 : decode cX12_turning 163 = .ok (.aload_n 0, 1) := by decide +kernel
theorem dX12_turning_164 : decode cX12_turning 164 = .ok (.getfield 65, 3) := by decide +kernel
theorem dX12_turning_167 : decode cX12_turning 167 = .ok (.iload 5, 2) := by decide +kernel
theorem dX12_turning_169 : decode cX12_turning 169 = .ok (.iload 11, 2) := by decide +kernel
theorem dX12_turning_171 : decode cX12_turning 171 = .ok (.iastore, 1) := by decide +kernel
theorem dX12_turning_172 : decode cX12_turning 172 = .ok (.aload_n 0, 1) := by decide +kernel
theorem dX12_turning_173 : decode cX12_turning 173 = .ok (.iload 4, 2) := by decide +kernel
theorem dX12_turning_175 : decode cX12_turning 175 = .ok (.iload_n 2, 1) := by decide +kernel
theorem dX12_turning_176 : decode cX12_turning 176 = .ok (.iload_n 3, 1) := by decide +kernel
theorem dX12_turning_177 : decode cX12_turning 177 = .ok (.invokevirtual 356, 3) := by decide +kernel
theorem dX12_turning_180 : decode cX12_turning 180 = .ok (.iload 6, 2) := by decide +kernel
theorem dX12_turning_182 : decode cX12_turning 182 = .ok (.if_icmp .eq 15, 3) := by decide +kernel
theorem dX12_turning_185 : decode cX12_turning 185 = .ok (.iload 9, 2) := by decide +kernel
theorem dX12_turning_187 : decode cX12_turning 187 = .ok (.sipush 1000, 3) := by decide +kernel
theorem dX12_turning_190 : decode cX12_turning 190 = .ok (.iload 10, 2) := by decide +kernel
theorem dX12_turning_192 : decode cX12_turning 192 = .ok (.imul, 1) := by decide +kernel
theorem dX12_turning_193 : decode cX12_turning 193 = .ok (.iadd, 1) := by decide +kernel
theorem dX12_turning_194 : decode cX12_turning 194 = .ok (.goto 5, 3) := by decide +kernel
theorem dX12_turning_197 : decode cX12_turning 197 = .ok (.bipush (-9), 2) := by decide +kernel
theorem dX12_turning_199 : decode cX12_turning 199 = .ok (.istore 8, 2) := by decide +kernel
theorem dX12_turning_201 : decode cX12_turning 201 = .ok (.iinc 10 1, 3) := by decide +kernel
theorem dX12_turning_204 : decode cX12_turning 204 = .ok (.goto (-85), 3) := by decide +kernel
theorem dX12_turning_207 : decode cX12_turning 207 = .ok (.iinc 9 1, 3) := by decide +kernel
theorem dX12_turning_210 : decode cX12_turning 210 = .ok (.goto (-108), 3) := by decide +kernel
theorem dX12_turning_213 : decode cX12_turning 213 = .ok (.aload_n 0, 1) := by decide +kernel
theorem dX12_turning_214 : decode cX12_turning 214 = .ok (.getfield 65, 3) := by decide +kernel
theorem dX12_turning_217 : decode cX12_turning 217 = .ok (.iload 5, 2) := by decide +kernel
theorem dX12_turning_219 : decode cX12_turning 219 = .ok (.iload 7, 2) := by decide +kernel
theorem dX12_turning_221 : decode cX12_turning 221 = .ok (.iastore, 1) := by decide +kernel
theorem dX12_turning_222 : decode cX12_turning 222 = .ok (.iload 8, 2) := by decide +kernel
theorem dX12_turning_224 : decode cX12_turning 224 = .ok (.ireturn, 1) := by decide +kernel
theorem dX12_moved_0 : decode cX12_moved 0 = .ok (.aload_n 0, 1) := by decide +kernel
theorem dX12_moved_1 : decode cX12_moved 1 = .ok (.iload_n 1, 1) := by decide +kernel
theorem dX12_moved_2 : decode cX12_moved 2 = .ok (.iload_n 2, 1) := by decide +kernel
theorem dX12_moved_3 : decode cX12_moved 3 = .ok (.invokevirtual 258, 3) := by decide +kernel
theorem dX12_moved_6 : decode cX12_moved 6 = .ok (.ifCond .eq 12, 3) := by decide +kernel
theorem dX12_moved_9 : decode cX12_moved 9 = .ok (.aload_n 0, 1) := by decide +kernel
theorem dX12_moved_10 : decode cX12_moved 10 = .ok (.iload 4, 2) := by decide +kernel
theorem dX12_moved_12 : decode cX12_moved 12 = .ok (.invokevirtual 209, 3) := by decide +kernel
theorem dX12_moved_15 : decode cX12_moved 15 = .ok (.ifCond .ne 9, 3) := by decide +kernel
theorem dX12_moved_18 : decode cX12_moved 18 = .ok (.aload_n 0, 1) := by decide +kernel
theorem dX12_moved_19 : decode cX12_moved 19 = .ok (.iconst (-1), 1) := by decide +kernel
theorem dX12_moved_20 : decode cX12_moved 20 = .ok (.invokevirtual 174, 3) := by decide +kernel
theorem dX12_moved_23 : decode cX12_moved 23 = .ok (.ireturn, 1) := by decide +kernel
theorem dX12_moved_24 : decode cX12_moved 24 = .ok (.iload_n 3, 1) := by decide +kernel
theorem dX12_moved_25 : decode cX12_moved 25 = .ok (.ifCond .lt 8, 3) := by decide +kernel
theorem dX12_moved_28 : decode cX12_moved 28 = .ok (.iload 5, 2) := by decide +kernel
theorem dX12_moved_30 : decode cX12_moved 30 = .ok (.ifCond .ge 10, 3) := by decide +kernel
theorem dX12_moved_33 : decode cX12_moved 33 = .ok (.aload_n 0, 1) := by decide +kernel
theorem dX12_moved_34 : decode cX12_moved 34 = .ok (.bipush (-4), 2) := by decide +kernel
theorem dX12_moved_36 : decode cX12_moved 36 = .ok (.invokevirtual 174, 3) := by decide +kernel
theorem dX12_moved_39 : decode cX12_moved 39 = .ok (.ireturn, 1) := by decide +kernel
theorem dX12_moved_40 : decode cX12_moved 40 = .ok (.iload_n 3, 1) := by decide +kernel
theorem dX12_moved_41 : decode cX12_moved 41 = .ok (.bipush 40, 2) := by decide +kernel
theorem dX12_moved_43 : decode cX12_moved 43 = .ok (.if_icmp .gt 25, 3) := by decide +kernel
theorem dX12_moved_46 : decode cX12_moved 46 = .ok (.iload 5, 2) := by decide +kernel
theorem dX12_moved_48 : decode cX12_moved 48 = .ok (.aload_n 0, 1) := by decide +kernel
theorem dX12_moved_49 : decode cX12_moved 49 = .ok (.getfield 74, 3) := by decide +kernel
theorem dX12_moved_52 : decode cX12_moved 52 = .ok (.iload 4, 2) := by decide +kernel
theorem dX12_moved_54 : decode cX12_moved 54 = .ok (.iaload, 1) := by decide +kernel
theorem dX12_moved_55 : decode cX12_moved 55 = .ok (.ifCond .ne 8, 3) := by decide +kernel
theorem dX12_moved_58 : decode cX12_moved 58 = .ok (.bipush 100, 2) := by decide +kernel
theorem dX12_moved_60 : decode cX12_moved 60 = .ok (.goto 5, 3) := by decide +kernel
theorem dX12_moved_63 : decode cX12_moved 63 = .ok (.bipush 9, 2) := by decide +kernel
theorem dX12_moved_65 : decode cX12_moved 65 = .ok (.if_icmp .le 10, 3) := by decide +kernel
theorem dX12_moved_68 : decode cX12_moved 68 = .ok (.aload_n 0, 1) := by decide +kernel
theorem dX12_moved_69 : decode cX12_moved 69 = .ok (.bipush (-6), 2) := by decide +kernel
theorem dX12_moved_71 : decode cX12_moved 71 = .ok (.invokevirtual 174, 3) := by decide +kernel
theorem dX12_moved_74 : decode cX12_moved 74 = .ok (.ireturn, 1) := by decide +kernel
theorem dX12_moved_75 : decode cX12_moved 75 = .ok (.iconst 0, 1) := by decide +kernel
theorem dX12_moved_76 : decode cX12_moved 76 = .ok (.istore 6, 2) := by decide +kernel
theorem dX12_moved_78 : decode cX12_moved 78 = .ok (.iload 6, 2) := by decide +kernel
theorem dX12_moved_80 : decode cX12_moved 80 = .ok (.aload_n 0, 1) := by decide +kernel
theorem dX12_moved_81 : decode cX12_moved 81 = .ok (.getfield 164, 3) := by decide +kernel
theorem dX12_moved_84 : decode cX12_moved 84 = .ok (.if_icmp .ge 24, 3) := by decide +kernel
theorem dX12_moved_87 : decode cX12_moved 87 = .ok (.aload_n 0, 1) := by decide +kernel
theorem dX12_moved_88 : decode cX12_moved 88 = .ok (.getfield 149, 3) := by decide +kernel
theorem dX12_moved_91 : decode cX12_moved 91 = .ok (.iload 6, 2) := by decide +kernel
theorem dX12_moved_93 : decode cX12_moved 93 = .ok (.aload_n 0, 1) := by decide +kernel
theorem dX12_moved_94 : decode cX12_moved 94 = .ok (.iload 6, 2) := by decide +kernel
theorem dX12_moved_96 : decode cX12_moved 96 = .ok (.iload_n 2, 1) := by decide +kernel
theorem dX12_moved_97 : decode cX12_moved 97 = .ok (.iload_n 3, 1) := by decide +kernel
theorem dX12_moved_98 : decode cX12_moved 98 = .ok (.invokevirtual 356, 3) := by decide +kernel
theorem dX12_moved_101 : decode cX12_moved 101 = .ok (.bastore, 1) := by decide +kernel
theorem dX12_moved_102 : decode cX12_moved 102 = .ok (.iinc 6 1, 3) := by decide +kernel
theorem dX12_moved_105 : decode cX12_moved 105 = .ok (.goto (-27), 3) := by decide +kernel
theorem dX12_moved_108 : decode cX12_moved 108 = .ok (.aload_n 0, 1) := by decide +kernel
theorem dX12_moved_109 : decode cX12_moved 109 = .ok (.iload 4, 2) := by decide +kernel
theorem dX12_moved_111 : decode cX12_moved 111 = .ok (.iload 5, 2) := by decide +kernel
theorem dX12_moved_113 : decode cX12_moved 113 = .ok (.invokevirtual 212, 3) := by decide +kernel
theorem dX12_moved_116 : decode cX12_moved 116 = .ok (.iconst 0, 1) := by decide +kernel
theorem dX12_moved_117 : decode cX12_moved 117 = .ok (.istore 6, 2) := by decide +kernel
theorem dX12_moved_119 : decode cX12_moved 119 = .ok (.iconst 0, 1) := by decide +kernel
theorem dX12_moved_120 : decode cX12_moved 120 = .ok (.istore 7, 2) := by decide +kernel
theorem dX12_moved_122 : decode cX12_moved 122 = .ok (.iload 7, 2) := by decide +kernel
theorem dX12_moved_124 : decode cX12_moved 124 = .ok (.aload_n 0, 1) := by decide +kernel
theorem dX12_moved_125 : decode cX12_moved 125 = .ok (.getfield 164, 3) := by decide +kernel
theorem dX12_moved_128 : decode cX12_moved 128 = .ok (.if_icmp .ge 37, 3) := by decide +kernel
theorem dX12_moved_131 : decode cX12_moved 131 = .ok (.iload 6, 2) := by decide +kernel
theorem dX12_moved_133 : decode cX12_moved 133 = .ok (.aload_n 0, 1) := by decide +kernel
theorem dX12_moved_134 : decode cX12_moved 134 = .ok (.getfield 149, 3) := by decide +kernel
theorem dX12_moved_137 : decode cX12_moved 137 = .ok (.iload 7, 2) := by decide +kernel
theorem dX12_moved_139 : decode cX12_moved 139 = .ok (.baload, 1) := by decide +kernel
theorem dX12_moved_140 : decode cX12_moved 140 = .ok (.aload_n 0, 1) := by decide +kernel
theorem dX12_moved_141 : decode cX12_moved 141 = .ok (.iload 7, 2) := by decide +kernel
theorem dX12_moved_143 : decode cX12_moved 143 = .ok (.iload_n 2, 1) := by decide +kernel
theorem dX12_moved_144 : decode cX12_moved 144 = .ok (.iload_n 3, 1) := by decide +kernel
theorem dX12_moved_145 : decode cX12_moved 145 = .ok (.invokevirtual 356, 3) := by decide +kernel
theorem dX12_moved_148 : decode cX12_moved 148 = .ok (.if_icmp .eq 7, 3) := by decide +kernel
theorem dX12_moved_151 : decode cX12_moved 151 = .ok (.iconst 1, 1) := by decide +kernel
theorem dX12_moved_152 : decode cX12_moved 152 = .ok (.goto 4, 3) := by decide +kernel
theorem dX12_moved_155 : decode cX12_moved 155 = .ok (.iconst 0, 1) := by decide +kernel
theorem dX12_moved_156 : decode cX12_moved 156 = .ok (.iadd, 1) := by decide +kernel
theorem dX12_moved_157 : decode cX12_moved 157 = .ok (.istore 6, 2) := by decide +kernel
theorem dX12_moved_159 : decode cX12_moved 159 = .ok (.iinc 7 1, 3) := by decide +kernel
theorem dX12_moved_162 : decode cX12_moved 162 = .ok (.goto (-40), 3) := by decide +kernel
theorem dX12_moved_165 : decode cX12_moved 165 = .ok (.aload_n 0, 1) := by decide +kernel
theorem dX12_moved_166 : decode cX12_moved 166 = .ok (.dup, 1) := by decide +kernel
theorem dX12_moved_167 : decode cX12_moved 167 = .ok (.getfield 206, 3) := by decide +kernel
theorem dX12_moved_170 : decode cX12_moved 170 = .ok (.iconst 1, 1) := by decide +kernel
theorem dX12_moved_171 : decode cX12_moved 171 = .ok (.isub, 1) := by decide +kernel
theorem dX12_moved_172 : decode cX12_moved 172 = .ok (.putfield 206, 3) := by decide +kernel
theorem dX12_moved_175 : decode cX12_moved 175 = .ok (.iload 6, 2) := by decide +kernel
theorem dX12_moved_177 : decode cX12_moved 177 = .ok (.ireturn, 1) := by decide +kernel
theorem dX12_back_0 : decode cX12_back 0 = .ok (.aload_n 0, 1) := by decide +kernel
theorem dX12_back_1 : decode cX12_back 1 = .ok (.iload_n 1, 1) := by decide +kernel
theorem dX12_back_2 : decode cX12_back 2 = .ok (.invokevirtual 181, 3) := by decide +kernel
theorem dX12_back_5 : decode cX12_back 5 = .ok (.ifCond .ne 9, 3) := by decide +kernel
theorem dX12_back_8 : decode cX12_back 8 = .ok (.aload_n 0, 1) := by decide +kernel
theorem dX12_back_9 : decode cX12_back 9 = .ok (.iconst (-1), 1) := by decide +kernel
theorem dX12_back_10 : decode cX12_back 10 = .ok (.invokevirtual 174, 3) := by decide +kernel
theorem dX12_back_13 : decode cX12_back 13 = .ok (.ireturn, 1) := by decide +kernel
theorem dX12_back_14 : decode cX12_back 14 = .ok (.aload_n 0, 1) := by decide +kernel
theorem dX12_back_15 : decode cX12_back 15 = .ok (.iload_n 1, 1) := by decide +kernel
theorem dX12_back_16 : decode cX12_back 16 = .ok (.invokevirtual 191, 3) := by decide +kernel
theorem dX12_back_19 : decode cX12_back 19 = .ok (.ifCond .ne 10, 3) := by decide +kernel
theorem dX12_back_22 : decode cX12_back 22 = .ok (.aload_n 0, 1) := by decide +kernel
theorem dX12_back_23 : decode cX12_back 23 = .ok (.bipush (-3), 2) := by decide +kernel
theorem dX12_back_25 : decode cX12_back 25 = .ok (.invokevirtual 174, 3) := by decide +kernel
theorem dX12_back_28 : decode cX12_back 28 = .ok (.ireturn, 1) := by decide +kernel
theorem dX12_back_29 : decode cX12_back 29 = .ok (.iconst (-1), 1) := by decide +kernel
theorem dX12_back_30 : decode cX12_back 30 = .ok (.istore_n 2, 1) := by decide +kernel
theorem dX12_back_31 : decode cX12_back 31 = .ok (.iconst 0, 1) := by decide +kernel
theorem dX12_back_32 : decode cX12_back 32 = .ok (.istore_n 3, 1) := by decide +kernel
theorem dX12_back_33 : decode cX12_back 33 = .ok (.iload_n 3, 1) := by decide +kernel
theorem dX12_back_34 : decode cX12_back 34 = .ok (.aload_n 0, 1) := by decide +kernel
theorem dX12_back_35 : decode cX12_back 35 = .ok (.getfield 164, 3) := by decide +kernel
theorem dX12_back_38 : decode cX12_back 38 = .ok (.if_icmp .ge 121, 3) := by decide +kernel
theorem dX12_back_41 : decode cX12_back 41 = .ok (.aload_n 0, 1) := by decide +kernel
theorem dX12_back_42 : decode cX12_back 42 = .ok (.getfield 46, 3) := by decide +kernel
theorem dX12_back_45 : decode cX12_back 45 = .ok (.iload_n 3, 1) := by decide +kernel
theorem dX12_back_46 : decode cX12_back 46 = .ok (.iaload, 1) := by decide +kernel
theorem dX12_back_47 : decode cX12_back 47 = .ok (.istore 4, 2) := by decide +kernel
theorem dX12_back_49 : decode cX12_back 49 = .ok (.aload_n 0, 1) := by decide +kernel
theorem dX12_back_50 : decode cX12_back 50 = .ok (.iload_n 3, 1) := by decide +kernel
theorem dX12_back_51 : decode cX12_back 51 = .ok (.invokevirtual 200, 3) := by decide +kernel
theorem dX12_back_54 : decode cX12_back 54 = .ok (.ifCond .ne 66, 3) := by decide +kernel
theorem dX12_back_57 : decode cX12_back 57 = .ok (.iload 4, 2) := by decide +kernel
theorem dX12_back_59 : decode cX12_back 59 = .ok (.ifCond .lt 61, 3) := by decide +kernel
theorem dX12_back_62 : decode cX12_back 62 = .ok (.aload_n 0, 1) := by decide +kernel
theorem dX12_back_63 : decode cX12_back 63 = .ok (.getfield 31, 3) := by decide +kernel
theorem dX12_back_66 : decode cX12_back 66 = .ok (.iload 4, 2) := by decide +kernel
theorem dX12_back_68 : decode cX12_back 68 = .ok (.iaload, 1) := by decide +kernel
theorem dX12_back_69 : decode cX12_back 69 = .ok (.ifCond .lt 51, 3) := by decide +kernel
theorem dX12_back_72 : decode cX12_back 72 = .ok (.aload_n 0, 1) := by decide +kernel
theorem dX12_back_73 : decode cX12_back 73 = .ok (.getfield 167, 3) := by decide +kernel
theorem dX12_back_76 : decode cX12_back 76 = .ok (.aload_n 0, 1) := by decide +kernel
theorem dX12_back_77 : decode cX12_back 77 = .ok (.getfield 31, 3) := by decide +kernel
theorem dX12_back_80 : decode cX12_back 80 = .ok (.iload 4, 2) := by decide +kernel
theorem dX12_back_82 : decode cX12_back 82 = .ok (.iaload, 1) := by decide +kernel
theorem dX12_back_83 : decode cX12_back 83 = .ok (.isub, 1) := by decide +kernel
theorem dX12_back_84 : decode cX12_back 84 = .ok (.sipush 180, 3) := by decide +kernel
theorem dX12_back_87 : decode cX12_back 87 = .ok (.if_icmp .gt 33, 3) := by decide +kernel
theorem dX12_back_90 : decode cX12_back 90 = .ok (.aload_n 0, 1) := by decide +kernel
theorem dX12_back_91 : decode cX12_back 91 = .ok (.iload_n 1, 1) := by decide +kernel
theorem dX12_back_92 : decode cX12_back 92 = .ok (.iload 4, 2) := by decide +kernel
theorem dX12_back_94 : decode cX12_back 94 = .ok (.invokevirtual 240, 3) := by decide +kernel
theorem dX12_back_97 : decode cX12_back 97 = .ok (.ifCond .eq 23, 3) := by decide +kernel
theorem dX12_back_100 : decode cX12_back 100 = .ok (.aload_n 0, 1) := by decide +kernel
theorem dX12_back_101 : decode cX12_back 101 = .ok (.getfield 49, 3) := by decide +kernel
theorem dX12_back_104 : decode cX12_back 104 = .ok (.iload_n 3, 1) := by decide +kernel
theorem dX12_back_105 : decode cX12_back 105 = .ok (.iaload, 1) := by decide +kernel
theorem dX12_back_106 : decode cX12_back 106 = .ok (.aload_n 0, 1) := by decide +kernel
theorem dX12_back_107 : decode cX12_back 107 = .ok (.getfield 31, 3) := by decide +kernel
theorem dX12_back_110 : decode cX12_back 110 = .ok (.iload 4, 2) := by decide +kernel
theorem dX12_back_112 : decode cX12_back 112 = .ok (.iaload, 1) := by decide +kernel
theorem dX12_back_113 : decode cX12_back 113 = .ok (.if_icmp .lt 7, 3) := by decide +kernel
theorem dX12_back_116 : decode cX12_back 116 = .ok (.iconst 1, 1) := by decide +kernel
theorem dX12_back_117 : decode cX12_back 117 = .ok (.goto 4, 3) := by decide +kernel
theorem dX12_back_120 : decode cX12_back 120 = .ok (.iconst 0, 1) := by decide +kernel
theorem dX12_back_121 : decode cX12_back 121 = .ok (.istore 5, 2) := by decide +kernel
theorem dX12_back_123 : decode cX12_back 123 = .ok (.iload 5, 2) := by decide +kernel
theorem dX12_back_125 : decode cX12_back 125 = .ok (.ifCond .eq 26, 3) := by decide +kernel
theorem dX12_back_128 : decode cX12_back 128 = .ok (.iload_n 2, 1) := by decide +kernel
theorem dX12_back_129 : decode cX12_back 129 = .ok (.ifCond .lt 18, 3) := by decide +kernel
theorem dX12_back_132 : decode cX12_back 132 = .ok (.aload_n 0, 1) := by decide +kernel
theorem dX12_back_133 : decode cX12_back 133 = .ok (.getfield 49, 3) := by decide +kernel
theorem dX12_back_136 : decode cX12_back 136 = .ok (.iload_n 3, 1) := by decide +kernel
theorem dX12_back_137 : decode cX12_back 137 = .ok (.iaload, 1) := by decide +kernel
theorem dX12_back_138 : decode cX12_back 138 = .ok (.aload_n 0, 1) := by decide +kernel
theorem dX12_back_139 : decode cX12_back 139 = .ok (.getfield 49, 3) := by decide +kernel
theorem dX12_back_142 : decode cX12_back 142 = .ok (.iload_n 2, 1) := by decide +kernel
theorem dX12_back_143 : decode cX12_back 143 = .ok (.iaload, 1) := by decide +kernel
theorem dX12_back_144 : decode cX12_back 144 = .ok (.if_icmp .ge 7, 3) := by decide +kernel
theorem dX12_back_147 : decode cX12_back 147 = .ok (.iload_n 3, 1) := by decide +kernel
theorem dX12_back_148 : decode cX12_back 148 = .ok (.goto 4, 3) := by decide +kernel
theorem dX12_back_151 : decode cX12_back 151 = .ok (.iload_n 2, 1) := by decide +kernel
theorem dX12_back_152 : decode cX12_back 152 = .ok (.istore_n 2, 1) := by decide +kernel
theorem dX12_back_153 : decode cX12_back 153 = .ok (.iinc 3 1, 3) := by decide +kernel
theorem dX12_back_156 : decode cX12_back 156 = .ok (.goto (-123), 3) := by decide +kernel
theorem dX12_back_159 : decode cX12_back 159 = .ok (.iload_n 2, 1) := by decide +kernel
theorem dX12_back_160 : decode cX12_back 160 = .ok (.ifCond .ge 8, 3) := by decide +kernel
theorem dX12_back_163 : decode cX12_back 163 = .ok (.bipush (-9), 2) := by decide +kernel
theorem dX12_back_165 : decode cX12_back 165 = .ok (.goto 4, 3) := by decide +kernel
theorem dX12_back_168 : decode cX12_back 168 = .ok (.iload_n 2, 1) := by decide +kernel
theorem dX12_back_169 : decode cX12_back 169 = .ok (.ireturn, 1) := by decide +kernel
theorem dX12_count_0 : decode cX12_count 0 = .ok (.iconst 0, 1) := by decide +kernel
theorem dX12_count_1 : decode cX12_count 1 = .ok (.istore_n 2, 1) := by decide +kernel
theorem dX12_count_2 : decode cX12_count 2 = .ok (.iload_n 1, 1) := by decide +kernel
theorem dX12_count_3 : decode cX12_count 3 = .ok (.tableswitch 192 0 10 #[57, 62, 67, 72, 72, 123, 128, 177, 182, 128, 187], 57) := by decide +kernel
theorem dX12_count_60 : decode cX12_count 60 = .ok (.aload_n 0, 1) := by decide +kernel
theorem dX12_count_61 : decode cX12_count 61 = .ok (.getfield 167, 3) := by decide +kernel
theorem dX12_count_64 : decode cX12_count 64 = .ok (.ireturn, 1) := by decide +kernel
theorem dX12_count_65 : decode cX12_count 65 = .ok (.aload_n 0, 1) := by decide +kernel
theorem dX12_count_66 : decode cX12_count 66 = .ok (.getfield 154, 3) := by decide +kernel
theorem dX12_count_69 : decode cX12_count 69 = .ok (.ireturn, 1) := by decide +kernel
theorem dX12_count_70 : decode cX12_count 70 = .ok (.aload_n 0, 1) := by decide +kernel
theorem dX12_count_71 : decode cX12_count 71 = .ok (.getfield 161, 3) := by decide +kernel
theorem dX12_count_74 : decode cX12_count 74 = .ok (.ireturn, 1) := by decide +kernel
theorem dX12_count_75 : decode cX12_count 75 = .ok (.iconst 0, 1) := by decide +kernel
theorem dX12_count_76 : decode cX12_count 76 = .ok (.istore_n 3, 1) := by decide +kernel
theorem dX12_count_77 : decode cX12_count 77 = .ok (.iload_n 3, 1) := by decide +kernel
theorem dX12_count_78 : decode cX12_count 78 = .ok (.aload_n 0, 1) := by decide +kernel
theorem dX12_count_79 : decode cX12_count 79 = .ok (.getfield 161, 3) := by decide +kernel
theorem dX12_count_82 : decode cX12_count 82 = .ok (.if_icmp .ge 42, 3) := by decide +kernel
theorem dX12_count_85 : decode cX12_count 85 = .ok (.iload_n 2, 1) := by decide +kernel
theorem dX12_count_86 : decode cX12_count 86 = .ok (.iload_n 1, 1) := by decide +kernel
theorem dX12_count_87 : decode cX12_count 87 = .ok (.iconst 3, 1) := by decide +kernel
theorem dX12_count_88 : decode cX12_count 88 = .ok (.if_icmp .ne 15, 3) := by decide +kernel
theorem dX12_count_91 : decode cX12_count 91 = .ok (.aload_n 0, 1) := by decide +kernel
theorem dX12_count_92 : decode cX12_count 92 = .ok (.getfield 31, 3) := by decide +kernel
theorem dX12_count_95 : decode cX12_count 95 = .ok (.iload_n 3, 1) := by decide +kernel
theorem dX12_count_96 : decode cX12_count 96 = .ok (.iaload, 1) := by decide +kernel
theorem dX12_count_97 : decode cX12_count 97 = .ok (.ifCond .ge 18, 3) := by decide +kernel
theorem dX12_count_100 : decode cX12_count 100 = .ok (.goto 11, 3) := by decide +kernel
theorem dX12_count_103 : decode cX12_count 103 = .ok (.aload_n 0, 1) := by decide +kernel
theorem dX12_count_104 : decode cX12_count 104 = .ok (.iload_n 3, 1) := by decide +kernel
theorem dX12_count_105 : decode cX12_count 105 = .ok (.invokevirtual 191, 3) := by decide +kernel
theorem dX12_count_108 : decode cX12_count 108 = .ok (.ifCond .eq 7, 3) := by decide +kernel
theorem dX12_count_111 : decode cX12_count 111 = .ok (.iconst 1, 1) := by decide +kernel
theorem dX12_count_112 : decode cX12_count 112 = .ok (.goto 4, 3) := by decide +kernel
theorem dX12_count_115 : decode cX12_count 115 = .ok (.iconst 0, 1) := by decide +kernel
theorem dX12_count_116 : decode cX12_count 116 = .ok (.iadd, 1) := by decide +kernel
theorem dX12_count_117 : decode cX12_count 117 = .ok (.istore_n 2, 1) := by decide +kernel
theorem dX12_count_118 : decode cX12_count 118 = .ok (.iinc 3 1, 3) := by decide +kernel
theorem dX12_count_121 : decode cX12_count 121 = .ok (.goto (-44), 3) := by decide +kernel
theorem dX12_count_124 : decode cX12_count 124 = .ok (.iload_n 2, 1) := by decide +kernel
theorem dX12_count_125 : decode cX12_count 125 = .ok (.ireturn, 1) := by decide +kernel
theorem dX12_count_126 : decode cX12_count 126 = .ok (.aload_n 0, 1) := by decide +kernel
theorem dX12_count_127 : decode cX12_count 127 = .ok (.getfield 164, 3) := by decide +kernel
theorem dX12_count_130 : decode cX12_count 130 = .ok (.ireturn, 1) := by decide +kernel
theorem dX12_count_131 : decode cX12_count 131 = .ok (.iconst 0, 1) := by decide +kernel
theorem dX12_count_132 : decode cX12_count 132 = .ok (.istore_n 3, 1) := by decide +kernel
theorem dX12_count_133 : decode cX12_count 133 = .ok (.iload_n 3, 1) := by decide +kernel
theorem dX12_count_134 : decode cX12_count 134 = .ok (.aload_n 0, 1) := by decide +kernel
theorem dX12_count_135 : decode cX12_count 135 = .ok (.getfield 164, 3) := by decide +kernel
theorem dX12_count_138 : decode cX12_count 138 = .ok (.if_icmp .ge 40, 3) := by decide +kernel
theorem dX12_count_141 : decode cX12_count 141 = .ok (.iload_n 2, 1) := by decide +kernel
theorem dX12_count_142 : decode cX12_count 142 = .ok (.aload_n 0, 1) := by decide +kernel
theorem dX12_count_143 : decode cX12_count 143 = .ok (.iload_n 3, 1) := by decide +kernel
theorem dX12_count_144 : decode cX12_count 144 = .ok (.invokevirtual 200, 3) := by decide +kernel
theorem dX12_count_147 : decode cX12_count 147 = .ok (.ifCond .eq 22, 3) := by decide +kernel
theorem dX12_count_150 : decode cX12_count 150 = .ok (.iload_n 1, 1) := by decide +kernel
theorem dX12_count_151 : decode cX12_count 151 = .ok (.bipush 6, 2) := by decide +kernel
theorem dX12_count_153 : decode cX12_count 153 = .ok (.if_icmp .eq 12, 3) := by decide +kernel
theorem dX12_count_156 : decode cX12_count 156 = .ok (.aload_n 0, 1) := by decide +kernel
theorem dX12_count_157 : decode cX12_count 157 = .ok (.getfield 55, 3) := by decide +kernel
theorem dX12_count_160 : decode cX12_count 160 = .ok (.iload_n 3, 1) := by decide +kernel
theorem dX12_count_161 : decode cX12_count 161 = .ok (.iaload, 1) := by decide +kernel
theorem dX12_count_162 : decode cX12_count 162 = .ok (.ifCond .lt 7, 3) := by decide +kernel
theorem dX12_count_165 : decode cX12_count 165 = .ok (.iconst 1, 1) := by decide +kernel
theorem dX12_count_166 : decode cX12_count 166 = .ok (.goto 4, 3) := by decide +kernel
theorem dX12_count_169 : decode cX12_count 169 = .ok (.iconst 0, 1) := by decide +kernel
theorem dX12_count_170 : decode cX12_count 170 = .ok (.iadd, 1) := by decide +kernel
theorem dX12_count_171 : decode cX12_count 171 = .ok (.istore_n 2, 1) := by decide +kernel
theorem dX12_count_172 : decode cX12_count 172 = .ok (.iinc 3 1, 3) := by decide +kernel
theorem dX12_count_175 : decode cX12_count 175 = .ok (.goto (-42), 3) := by decide +kernel
theorem dX12_count_178 : decode cX12_count 178 = .ok (.iload_n 2, 1) := by decide +kernel
theorem dX12_count_179 : decode cX12_count 179 = .ok (.ireturn, 1) := by decide +kernel
theorem dX12_count_180 : decode cX12_count 180 = .ok (.aload_n 0, 1) := by decide +kernel
theorem dX12_count_181 : decode cX12_count 181 = .ok (.getfield 203, 3) := by decide +kernel
theorem dX12_count_184 : decode cX12_count 184 = .ok (.ireturn, 1) := by decide +kernel
theorem dX12_count_185 : decode cX12_count 185 = .ok (.aload_n 0, 1) := by decide +kernel
theorem dX12_count_186 : decode cX12_count 186 = .ok (.getfield 206, 3) := by decide +kernel
theorem dX12_count_189 : decode cX12_count 189 = .ok (.ireturn, 1) := by decide +kernel
theorem dX12_count_190 : decode cX12_count 190 = .ok (.aload_n 0, 1) := by decide +kernel
theorem dX12_count_191 : decode cX12_count 191 = .ok (.getfield 316, 3) := by decide +kernel
theorem dX12_count_194 : decode cX12_count 194 = .ok (.ireturn, 1) := by decide +kernel
theorem dX12_count_195 : decode cX12_count 195 = .ok (.iload_n 1, 1) := by decide +kernel
theorem dX12_count_196 : decode cX12_count 196 = .ok (.bipush 11, 2) := by decide +kernel
theorem dX12_count_198 : decode cX12_count 198 = .ok (.bipush 16, 2) := by decide +kernel
theorem dX12_count_200 : decode cX12_count 200 = .ok (.invokestatic 157, 3) := by decide +kernel
theorem dX12_count_203 : decode cX12_count 203 = .ok (.ifCond .eq 15, 3) := by decide +kernel
theorem dX12_count_206 : decode cX12_count 206 = .ok (.aload_n 0, 1) := by decide +kernel
theorem dX12_count_207 : decode cX12_count 207 = .ok (.getfield 68, 3) := by decide +kernel
theorem dX12_count_210 : decode cX12_count 210 = .ok (.iload_n 1, 1) := by decide +kernel
theorem dX12_count_211 : decode cX12_count 211 = .ok (.bipush 10, 2) := by decide +kernel
theorem dX12_count_213 : decode cX12_count 213 = .ok (.isub, 1) := by decide +kernel
theorem dX12_count_214 : decode cX12_count 214 = .ok (.iaload, 1) := by decide +kernel
theorem dX12_count_215 : decode cX12_count 215 = .ok (.goto 5, 3) := by decide +kernel
theorem dX12_count_218 : decode cX12_count 218 = .ok (.bipush (-9), 2) := by decide +kernel
theorem dX12_count_220 : decode cX12_count 220 = .ok (.ireturn, 1) := by decide +kernel
end
section
theorem dX0_init_0 : decode cX0_init 0 = .ok (.aload_n 0, 1) := by decide +kernel
theorem dX0_init_1 : decode cX0_init 1 = .ok (.invokespecial 3, 3) := by decide +kernel
theorem dX0_init_4 : decode cX0_init 4 = .ok (.aload_n 0, 1) := by decide +kernel
theorem dX0_init_5 : decode cX0_init 5 = .ok (.bipush 40, 2) := by decide +kernel
theorem dX0_init_7 : decode cX0_init 7 = .ok (.newarray .int, 2) := by decide +kernel
theorem dX0_init_9 : decode cX0_init 9 = .ok (.putfield 9, 3) := by decide +kernel
theorem dX0_init_12 : decode cX0_init 12 = .ok (.aload_n 0, 1) := by decide +kernel
theorem dX0_init_13 : decode cX0_init 13 = .ok (.bipush 40, 2) := by decide +kernel
theorem dX0_init_15 : decode cX0_init 15 = .ok (.anewarray 15, 3) := by decide +kernel
theorem dX0_init_18 : decode cX0_init 18 = .ok (.putfield 17, 3) := by decide +kernel
theorem dX0_init_21 : decode cX0_init 21 = .ok (.aload_n 0, 1) := by decide +kernel
theorem dX0_init_22 : decode cX0_init 22 = .ok (.aload_n 1, 1) := by decide +kernel
theorem dX0_init_23 : decode cX0_init 23 = .ok (.putfield 21, 3) := by decide +kernel
theorem dX0_init_26 : decode cX0_init 26 = .ok (.return_, 1) := by decide +kernel
theorem dX0_follow_0 : decode cX0_follow 0 = .ok (.aload_n 0, 1) := by decide +kernel
theorem dX0_follow_1 : decode cX0_follow 1 = .ok (.invokevirtual 25, 3) := by decide +kernel
theorem dX0_follow_4 : decode cX0_follow 4 = .ok (.aload_n 0, 1) := by decide +kernel
theorem dX0_follow_5 : decode cX0_follow 5 = .ok (.iconst 0, 1) := by decide +kernel
theorem dX0_follow_6 : decode cX0_follow 6 = .ok (.putfield 28, 3) := by decide +kernel
theorem dX0_follow_9 : decode cX0_follow 9 = .ok (.aload_n 0, 1) := by decide +kernel
theorem dX0_follow_10 : decode cX0_follow 10 = .ok (.getfield 17, 3) := by decide +kernel
theorem dX0_follow_13 : decode cX0_follow 13 = .ok (.iconst 0, 1) := by decide +kernel
theorem dX0_follow_14 : decode cX0_follow 14 = .ok (.aload_n 1, 1) := by decide +kernel
theorem dX0_follow_15 : decode cX0_follow 15 = .ok (.aastore, 1) := by decide +kernel
theorem dX0_follow_16 : decode cX0_follow 16 = .ok (.aload_n 0, 1) := by decide +kernel
theorem dX0_follow_17 : decode cX0_follow 17 = .ok (.aload_n 1, 1) := by decide +kernel
theorem dX0_follow_18 : decode cX0_follow 18 = .ok (.invokevirtual 32, 3) := by decide +kernel
theorem dX0_follow_21 : decode cX0_follow 21 = .ok (.astore_n 2, 1) := by decide +kernel
theorem dX0_follow_22 : decode cX0_follow 22 = .ok (.aload_n 2, 1) := by decide +kernel
theorem dX0_follow_23 : decode cX0_follow 23 = .ok (.ifnull 43, 3) := by decide +kernel
theorem dX0_follow_26 : decode cX0_follow 26 = .ok (.aload_n 0, 1) := by decide +kernel
theorem dX0_follow_27 : decode cX0_follow 27 = .ok (.getfield 28, 3) := by decide +kernel
theorem dX0_follow_30 : decode cX0_follow 30 = .ok (.iconst 1, 1) := by decide +kernel
theorem dX0_follow_31 : decode cX0_follow 31 = .ok (.iadd, 1) := by decide +kernel
theorem dX0_follow_32 : decode cX0_follow 32 = .ok (.bipush 40, 2) := by decide +kernel
theorem dX0_follow_34 : decode cX0_follow 34 = .ok (.if_icmp .ge 32, 3) := by decide +kernel
theorem dX0_follow_37 : decode cX0_follow 37 = .ok (.aload_n 0, 1) := by decide +kernel
theorem dX0_follow_38 : decode cX0_follow 38 = .ok (.dup, 1) := by decide +kernel
theorem dX0_follow_39 : decode cX0_follow 39 = .ok (.getfield 28, 3) := by decide +kernel
theorem dX0_follow_42 : decode cX0_follow 42 = .ok (.iconst 1, 1) := by decide +kernel
theorem dX0_follow_43 : decode cX0_follow 43 = .ok (.iadd, 1) := by decide +kernel
theorem dX0_follow_44 : decode cX0_follow 44 = .ok (.putfield 28, 3) := by decide +kernel
theorem dX0_follow_47 : decode cX0_follow 47 = .ok (.aload_n 0, 1) := by decide +kernel
theorem dX0_follow_48 : decode cX0_follow 48 = .ok (.getfield 17, 3) := by decide +kernel
theorem dX0_follow_51 : decode cX0_follow 51 = .ok (.aload_n 0, 1) := by decide +kernel
theorem dX0_follow_52 : decode cX0_follow 52 = .ok (.getfield 28, 3) := by decide +kernel
theorem dX0_follow_55 : decode cX0_follow 55 = .ok (.aload_n 2, 1) := by decide +kernel
theorem dX0_follow_56 : decode cX0_follow 56 = .ok (.aastore, 1) := by decide +kernel
theorem dX0_follow_57 : decode cX0_follow 57 = .ok (.aload_n 0, 1) := by decide +kernel
theorem dX0_follow_58 : decode cX0_follow 58 = .ok (.aload_n 2, 1) := by decide +kernel
theorem dX0_follow_59 : decode cX0_follow 59 = .ok (.invokevirtual 32, 3) := by decide +kernel
theorem dX0_follow_62 : decode cX0_follow 62 = .ok (.astore_n 2, 1) := by decide +kernel
theorem dX0_follow_63 : decode cX0_follow 63 = .ok (.goto (-41), 3) := by decide +kernel
theorem dX0_follow_66 : decode cX0_follow 66 = .ok (.return_, 1) := by decide +kernel
theorem dX0_gatherMarks_0 : decode cX0_gatherMarks 0 = .ok (.iconst 0, 1) := by decide +kernel
theorem dX0_gatherMarks_1 : decode cX0_gatherMarks 1 = .ok (.istore_n 1, 1) := by decide +kernel
theorem dX0_gatherMarks_2 : decode cX0_gatherMarks 2 = .ok (.iload_n 1, 1) := by decide +kernel
theorem dX0_gatherMarks_3 : decode cX0_gatherMarks 3 = .ok (.aload_n 0, 1) := by decide +kernel
theorem dX0_gatherMarks_4 : decode cX0_gatherMarks 4 = .ok (.getfield 21, 3) := by decide +kernel
theorem dX0_gatherMarks_7 : decode cX0_gatherMarks 7 = .ok (.getfield 36, 3) := by decide +kernel
theorem dX0_gatherMarks_10 : decode cX0_gatherMarks 10 = .ok (.if_icmp .ge 53, 3) := by decide +kernel
theorem dX0_gatherMarks_13 : decode cX0_gatherMarks 13 = .ok (.iload_n 1, 1) := by decide +kernel
theorem dX0_gatherMarks_14 : decode cX0_gatherMarks 14 = .ok (.bipush 40, 2) := by decide +kernel
theorem dX0_gatherMarks_16 : decode cX0_gatherMarks 16 = .ok (.if_icmp .ge 47, 3) := by decide +kernel
theorem dX0_gatherMarks_19 : decode cX0_gatherMarks 19 = .ok (.aload_n 0, 1) := by decide +kernel
theorem dX0_gatherMarks_20 : decode cX0_gatherMarks 20 = .ok (.getfield 21, 3) := by decide +kernel
theorem dX0_gatherMarks_23 : decode cX0_gatherMarks 23 = .ok (.iload_n 1, 1) := by decide +kernel
theorem dX0_gatherMarks_24 : decode cX0_gatherMarks 24 = .ok (.invokevirtual 41, 3) := by decide +kernel
theorem dX0_gatherMarks_27 : decode cX0_gatherMarks 27 = .ok (.astore_n 2, 1) := by decide +kernel
theorem dX0_gatherMarks_28 : decode cX0_gatherMarks 28 = .ok (.aload_n 0, 1) := by decide +kernel
theorem dX0_gatherMarks_29 : decode cX0_gatherMarks 29 = .ok (.getfield 9, 3) := by decide +kernel
theorem dX0_gatherMarks_32 : decode cX0_gatherMarks 32 = .ok (.iload_n 1, 1) := by decide +kernel
theorem dX0_gatherMarks_33 : decode cX0_gatherMarks 33 = .ok (.aload_n 2, 1) := by decide +kernel
theorem dX0_gatherMarks_34 : decode cX0_gatherMarks 34 = .ok (.ifnonnull 7, 3) := by decide +kernel
theorem dX0_gatherMarks_37 : decode cX0_gatherMarks 37 = .ok (.iconst 0, 1) := by decide +kernel
theorem dX0_gatherMarks_38 : decode cX0_gatherMarks 38 = .ok (.goto 18, 3) := by decide +kernel
theorem dX0_gatherMarks_41 : decode cX0_gatherMarks 41 = .ok (.aload_n 0, 1) := by decide +kernel
theorem dX0_gatherMarks_42 : decode cX0_gatherMarks 42 = .ok (.getfield 21, 3) := by decide +kernel
theorem dX0_gatherMarks_45 : decode cX0_gatherMarks 45 = .ok (.aload_n 2, 1) := by decide +kernel
theorem dX0_gatherMarks_46 : decode cX0_gatherMarks 46 = .ok (.aload_n 0, 1) := by decide +kernel
theorem dX0_gatherMarks_47 : decode cX0_gatherMarks 47 = .ok (.getfield 21, 3) := by decide +kernel
theorem dX0_gatherMarks_50 : decode cX0_gatherMarks 50 = .ok (.getfield 45, 3) := by decide +kernel
theorem dX0_gatherMarks_53 : decode cX0_gatherMarks 53 = .ok (.invokevirtual 48, 3) := by decide +kernel
theorem dX0_gatherMarks_56 : decode cX0_gatherMarks 56 = .ok (.iastore, 1) := by decide +kernel
theorem dX0_gatherMarks_57 : decode cX0_gatherMarks 57 = .ok (.iinc 1 1, 3) := by decide +kernel
theorem dX0_gatherMarks_60 : decode cX0_gatherMarks 60 = .ok (.goto (-58), 3) := by decide +kernel
theorem dX0_gatherMarks_63 : decode cX0_gatherMarks 63 = .ok (.return_, 1) := by decide +kernel
theorem dX0_markOf_0 : decode cX0_markOf 0 = .ok (.aload_n 1, 1) := by decide +kernel
theorem dX0_markOf_1 : decode cX0_markOf 1 = .ok (.getfield 52, 3) := by decide +kernel
theorem dX0_markOf_4 : decode cX0_markOf 4 = .ok (.istore_n 2, 1) := by decide +kernel
theorem dX0_markOf_5 : decode cX0_markOf 5 = .ok (.iload_n 2, 1) := by decide +kernel
theorem dX0_markOf_6 : decode cX0_markOf 6 = .ok (.ifCond .lt 18, 3) := by decide +kernel
theorem dX0_markOf_9 : decode cX0_markOf 9 = .ok (.iload_n 2, 1) := by decide +kernel
theorem dX0_markOf_10 : decode cX0_markOf 10 = .ok (.bipush 40, 2) := by decide +kernel
theorem dX0_markOf_12 : decode cX0_markOf 12 = .ok (.if_icmp .ge 12, 3) := by decide +kernel
theorem dX0_markOf_15 : decode cX0_markOf 15 = .ok (.aload_n 0, 1) := by decide +kernel
theorem dX0_markOf_16 : decode cX0_markOf 16 = .ok (.getfield 9, 3) := by decide +kernel
theorem dX0_markOf_19 : decode cX0_markOf 19 = .ok (.iload_n 2, 1) := by decide +kernel
theorem dX0_markOf_20 : decode cX0_markOf 20 = .ok (.iaload, 1) := by decide +kernel
theorem dX0_markOf_21 : decode cX0_markOf 21 = .ok (.goto 4, 3) := by decide +kernel
theorem dX0_markOf_24 : decode cX0_markOf 24 = .ok (.iconst 0, 1) := by decide +kernel
theorem dX0_markOf_25 : decode cX0_markOf 25 = .ok (.ireturn, 1) := by decide +kernel
theorem dX0_bumpedBy_0 : decode cX0_bumpedBy 0 = .ok (.aconst_null, 1) := by decide +kernel
theorem dX0_bumpedBy_1 : decode cX0_bumpedBy 1 = .ok (.astore_n 2, 1) := by decide +kernel
theorem dX0_bumpedBy_2 : decode cX0_bumpedBy 2 = .ok (.iconst 0, 1) := by decide +kernel
theorem dX0_bumpedBy_3 : decode cX0_bumpedBy 3 = .ok (.istore_n 3, 1) := by decide +kernel
theorem dX0_bumpedBy_4 : decode cX0_bumpedBy 4 = .ok (.iload_n 3, 1) := by decide +kernel
theorem dX0_bumpedBy_5 : decode cX0_bumpedBy 5 = .ok (.aload_n 0, 1) := by decide +kernel
theorem dX0_bumpedBy_6 : decode cX0_bumpedBy 6 = .ok (.getfield 21, 3) := by decide +kernel
theorem dX0_bumpedBy_9 : decode cX0_bumpedBy 9 = .ok (.getfield 36, 3) := by decide +kernel
theorem dX0_bumpedBy_12 : decode cX0_bumpedBy 12 = .ok (.if_icmp .ge 51, 3) := by decide +kernel
theorem dX0_bumpedBy_15 : decode cX0_bumpedBy 15 = .ok (.aload_n 0, 1) := by decide +kernel
theorem dX0_bumpedBy_16 : decode cX0_bumpedBy 16 = .ok (.getfield 21, 3) := by decide +kernel
theorem dX0_bumpedBy_19 : decode cX0_bumpedBy 19 = .ok (.iload_n 3, 1) := by decide +kernel
theorem dX0_bumpedBy_20 : decode cX0_bumpedBy 20 = .ok (.invokevirtual 41, 3) := by decide +kernel
theorem dX0_bumpedBy_23 : decode cX0_bumpedBy 23 = .ok (.astore 4, 2) := by decide +kernel
theorem dX0_bumpedBy_25 : decode cX0_bumpedBy 25 = .ok (.aload 4, 2) := by decide +kernel
theorem dX0_bumpedBy_27 : decode cX0_bumpedBy 27 = .ok (.ifnull 30, 3) := by decide +kernel
theorem dX0_bumpedBy_30 : decode cX0_bumpedBy 30 = .ok (.aload_n 0, 1) := by decide +kernel
theorem dX0_bumpedBy_31 : decode cX0_bumpedBy 31 = .ok (.aload_n 1, 1) := by decide +kernel
theorem dX0_bumpedBy_32 : decode cX0_bumpedBy 32 = .ok (.aload 4, 2) := by decide +kernel
theorem dX0_bumpedBy_34 : decode cX0_bumpedBy 34 = .ok (.invokevirtual 55, 3) := by decide +kernel
theorem dX0_bumpedBy_37 : decode cX0_bumpedBy 37 = .ok (.ifCond .eq 20, 3) := by decide +kernel
theorem dX0_bumpedBy_40 : decode cX0_bumpedBy 40 = .ok (.aload_n 2, 1) := by decide +kernel
theorem dX0_bumpedBy_41 : decode cX0_bumpedBy 41 = .ok (.ifnull 13, 3) := by decide +kernel
theorem dX0_bumpedBy_44 : decode cX0_bumpedBy 44 = .ok (.aload_n 0, 1) := by decide +kernel
theorem dX0_bumpedBy_45 : decode cX0_bumpedBy 45 = .ok (.aload 4, 2) := by decide +kernel
theorem dX0_bumpedBy_47 : decode cX0_bumpedBy 47 = .ok (.aload_n 2, 1) := by decide +kernel
theorem dX0_bumpedBy_48 : decode cX0_bumpedBy 48 = .ok (.invokevirtual 59, 3) := by decide +kernel
theorem dX0_bumpedBy_51 : decode cX0_bumpedBy 51 = .ok (.ifCond .eq 6, 3) := by decide +kernel
theorem dX0_bumpedBy_54 : decode cX0_bumpedBy 54 = .ok (.aload 4, 2) := by decide +kernel
theorem dX0_bumpedBy_56 : decode cX0_bumpedBy 56 = .ok (.astore_n 2, 1) := by decide +kernel
theorem dX0_bumpedBy_57 : decode cX0_bumpedBy 57 = .ok (.iinc 3 1, 3) := by decide +kernel
theorem dX0_bumpedBy_60 : decode cX0_bumpedBy 60 = .ok (.goto (-56), 3) := by decide +kernel
theorem dX0_bumpedBy_63 : decode cX0_bumpedBy 63 = .ok (.aload_n 2, 1) := by decide +kernel
theorem dX0_bumpedBy_64 : decode cX0_bumpedBy 64 = .ok (.areturn, 1) := by decide +kernel
theorem dX0_mayBump_0 : decode cX0_mayBump 0 = .ok (.aload_n 1, 1) := by decide +kernel
theorem dX0_mayBump_1 : decode cX0_mayBump 1 = .ok (.getfield 62, 3) := by decide +kernel
theorem dX0_mayBump_4 : decode cX0_mayBump 4 = .ok (.astore_n 3, 1) := by decide +kernel
theorem dX0_mayBump_5 : decode cX0_mayBump 5 = .ok (.aload_n 2, 1) := by decide +kernel
theorem dX0_mayBump_6 : decode cX0_mayBump 6 = .ok (.getfield 62, 3) := by decide +kernel
theorem dX0_mayBump_9 : decode cX0_mayBump 9 = .ok (.astore 4, 2) := by decide +kernel
theorem dX0_mayBump_11 : decode cX0_mayBump 11 = .ok (.aload_n 3, 1) := by decide +kernel
theorem dX0_mayBump_12 : decode cX0_mayBump 12 = .ok (.ifnull 85, 3) := by decide +kernel
theorem dX0_mayBump_15 : decode cX0_mayBump 15 = .ok (.aload 4, 2) := by decide +kernel
theorem dX0_mayBump_17 : decode cX0_mayBump 17 = .ok (.ifnull 80, 3) := by decide +kernel
theorem dX0_mayBump_20 : decode cX0_mayBump 20 = .ok (.aload_n 0, 1) := by decide +kernel
theorem dX0_mayBump_21 : decode cX0_mayBump 21 = .ok (.getfield 21, 3) := by decide +kernel
theorem dX0_mayBump_24 : decode cX0_mayBump 24 = .ok (.aload_n 2, 1) := by decide +kernel
theorem dX0_mayBump_25 : decode cX0_mayBump 25 = .ok (.invokevirtual 66, 3) := by decide +kernel
theorem dX0_mayBump_28 : decode cX0_mayBump 28 = .ok (.ifCond .ne 69, 3) := by decide +kernel
theorem dX0_mayBump_31 : decode cX0_mayBump 31 = .ok (.aload 4, 2) := by decide +kernel
theorem dX0_mayBump_33 : decode cX0_mayBump 33 = .ok (.getfield 70, 3) := by decide +kernel
theorem dX0_mayBump_36 : decode cX0_mayBump 36 = .ok (.aload_n 3, 1) := by decide +kernel
theorem dX0_mayBump_37 : decode cX0_mayBump 37 = .ok (.getfield 70, 3) := by decide +kernel
theorem dX0_mayBump_40 : decode cX0_mayBump 40 = .ok (.if_icmp .ne 57, 3) := by decide +kernel
theorem dX0_mayBump_43 : decode cX0_mayBump 43 = .ok (.aload 4, 2) := by decide +kernel
theorem dX0_mayBump_45 : decode cX0_mayBump 45 = .ok (.getfield 75, 3) := by decide +kernel
theorem dX0_mayBump_48 : decode cX0_mayBump 48 = .ok (.aload_n 3, 1) := by decide +kernel
theorem dX0_mayBump_49 : decode cX0_mayBump 49 = .ok (.getfield 75, 3) := by decide +kernel
theorem dX0_mayBump_52 : decode cX0_mayBump 52 = .ok (.if_icmp .gt 45, 3) := by decide +kernel
theorem dX0_mayBump_55 : decode cX0_mayBump 55 = .ok (.aload 4, 2) := by decide +kernel
theorem dX0_mayBump_57 : decode cX0_mayBump 57 = .ok (.getfield 75, 3) := by decide +kernel
theorem dX0_mayBump_60 : decode cX0_mayBump 60 = .ok (.aload_n 3, 1) := by decide +kernel
theorem dX0_mayBump_61 : decode cX0_mayBump 61 = .ok (.getfield 75, 3) := by decide +kernel
theorem dX0_mayBump_64 : decode cX0_mayBump 64 = .ok (.iconst 2, 1) := by decide +kernel
theorem dX0_mayBump_65 : decode cX0_mayBump 65 = .ok (.isub, 1) := by decide +kernel
theorem dX0_mayBump_66 : decode cX0_mayBump 66 = .ok (.if_icmp .lt 31, 3) := by decide +kernel
theorem dX0_mayBump_69 : decode cX0_mayBump 69 = .ok (.aload_n 0, 1) := by decide +kernel
theorem dX0_mayBump_70 : decode cX0_mayBump 70 = .ok (.aload_n 2, 1) := by decide +kernel
theorem dX0_mayBump_71 : decode cX0_mayBump 71 = .ok (.invokevirtual 78, 3) := by decide +kernel
theorem dX0_mayBump_74 : decode cX0_mayBump 74 = .ok (.aload_n 0, 1) := by decide +kernel
theorem dX0_mayBump_75 : decode cX0_mayBump 75 = .ok (.aload_n 1, 1) := by decide +kernel
theorem dX0_mayBump_76 : decode cX0_mayBump 76 = .ok (.invokevirtual 78, 3) := by decide +kernel
theorem dX0_mayBump_79 : decode cX0_mayBump 79 = .ok (.if_icmp .ge 18, 3) := by decide +kernel
theorem dX0_mayBump_82 : decode cX0_mayBump 82 = .ok (.aload_n 1, 1) := by decide +kernel
theorem dX0_mayBump_83 : decode cX0_mayBump 83 = .ok (.aload 4, 2) := by decide +kernel
theorem dX0_mayBump_85 : decode cX0_mayBump 85 = .ok (.invokestatic 82, 3) := by decide +kernel
theorem dX0_mayBump_88 : decode cX0_mayBump 88 = .ok (.bipush 50, 2) := by decide +kernel
theorem dX0_mayBump_90 : decode cX0_mayBump 90 = .ok (.if_icmp .lt 7, 3) := by decide +kernel
theorem dX0_mayBump_93 : decode cX0_mayBump 93 = .ok (.iconst 1, 1) := by decide +kernel
theorem dX0_mayBump_94 : decode cX0_mayBump 94 = .ok (.goto 4, 3) := by decide +kernel
theorem dX0_mayBump_97 : decode cX0_mayBump 97 = .ok (.iconst 0, 1) := by decide +kernel
theorem dX0_mayBump_98 : decode cX0_mayBump 98 = .ok (.ireturn, 1) := by decide +kernel
theorem dX0_isBetter_0 : decode cX0_isBetter 0 = .ok (.aload_n 1, 1) := by decide +kernel
theorem dX0_isBetter_1 : decode cX0_isBetter 1 = .ok (.invokestatic 86, 3) := by decide +kernel
theorem dX0_isBetter_4 : decode cX0_isBetter 4 = .ok (.istore_n 3, 1) := by decide +kernel
theorem dX0_isBetter_5 : decode cX0_isBetter 5 = .ok (.aload_n 2, 1) := by decide +kernel
theorem dX0_isBetter_6 : decode cX0_isBetter 6 = .ok (.invokestatic 86, 3) := by decide +kernel
theorem dX0_isBetter_9 : decode cX0_isBetter 9 = .ok (.istore 4, 2) := by decide +kernel
theorem dX0_isBetter_11 : decode cX0_isBetter 11 = .ok (.iload_n 3, 1) := by decide +kernel
theorem dX0_isBetter_12 : decode cX0_isBetter 12 = .ok (.iload 4, 2) := by decide +kernel
theorem dX0_isBetter_14 : decode cX0_isBetter 14 = .ok (.if_icmp .eq 15, 3) := by decide +kernel
theorem dX0_isBetter_17 : decode cX0_isBetter 17 = .ok (.iload_n 3, 1) := by decide +kernel
theorem dX0_isBetter_18 : decode cX0_isBetter 18 = .ok (.iload 4, 2) := by decide +kernel
theorem dX0_isBetter_20 : decode cX0_isBetter 20 = .ok (.if_icmp .le 7, 3) := by decide +kernel
theorem dX0_isBetter_23 : decode cX0_isBetter 23 = .ok (.iconst 1, 1) := by decide +kernel
theorem dX0_isBetter_24 : decode cX0_isBetter 24 = .ok (.goto 4, 3) := by decide +kernel
theorem dX0_isBetter_27 : decode cX0_isBetter 27 = .ok (.iconst 0, 1) := by decide +kernel
theorem dX0_isBetter_28 : decode cX0_isBetter 28 = .ok (.ireturn, 1) := by decide +kernel
theorem dX0_isBetter_29 : decode cX0_isBetter 29 = .ok (.aload_n 0, 1) := by decide +kernel
theorem dX0_isBetter_30 : decode cX0_isBetter 30 = .ok (.aload_n 1, 1) := by decide +kernel
theorem dX0_isBetter_31 : decode cX0_isBetter 31 = .ok (.invokevirtual 78, 3) := by decide +kernel
theorem dX0_isBetter_34 : decode cX0_isBetter 34 = .ok (.aload_n 0, 1) := by decide +kernel
theorem dX0_isBetter_35 : decode cX0_isBetter 35 = .ok (.aload_n 2, 1) := by decide +kernel
theorem dX0_isBetter_36 : decode cX0_isBetter 36 = .ok (.invokevirtual 78, 3) := by decide +kernel
theorem dX0_isBetter_39 : decode cX0_isBetter 39 = .ok (.if_icmp .ge 7, 3) := by decide +kernel
theorem dX0_isBetter_42 : decode cX0_isBetter 42 = .ok (.iconst 1, 1) := by decide +kernel
theorem dX0_isBetter_43 : decode cX0_isBetter 43 = .ok (.goto 4, 3) := by decide +kernel
theorem dX0_isBetter_46 : decode cX0_isBetter 46 = .ok (.iconst 0, 1) := by decide +kernel
theorem dX0_isBetter_47 : decode cX0_isBetter 47 = .ok (.ireturn, 1) := by decide +kernel
theorem dX0_gradeOf_0 : decode cX0_gradeOf 0 = .ok (.aload_n 0, 1) := by decide +kernel
theorem dX0_gradeOf_1 : decode cX0_gradeOf 1 = .ok (.getfield 62, 3) := by decide +kernel
theorem dX0_gradeOf_4 : decode cX0_gradeOf 4 = .ok (.astore_n 1, 1) := by decide +kernel
theorem dX0_gradeOf_5 : decode cX0_gradeOf 5 = .ok (.aload_n 1, 1) := by decide +kernel
theorem dX0_gradeOf_6 : decode cX0_gradeOf 6 = .ok (.ifnonnull 7, 3) := by decide +kernel
theorem dX0_gradeOf_9 : decode cX0_gradeOf 9 = .ok (.iconst 0, 1) := by decide +kernel
theorem dX0_gradeOf_10 : decode cX0_gradeOf 10 = .ok (.goto 7, 3) := by decide +kernel
theorem dX0_gradeOf_13 : decode cX0_gradeOf 13 = .ok (.aload_n 1, 1) := by decide +kernel
theorem dX0_gradeOf_14 : decode cX0_gradeOf 14 = .ok (.getfield 75, 3) := by decide +kernel
theorem dX0_gradeOf_17 : decode cX0_gradeOf 17 = .ok (.ireturn, 1) := by decide +kernel
theorem dX0_personAfter_0 : decode cX0_personAfter 0 = .ok (.iload_n 1, 1) := by decide +kernel
theorem dX0_personAfter_1 : decode cX0_personAfter 1 = .ok (.ifCond .lt 26, 3) := by decide +kernel
theorem dX0_personAfter_4 : decode cX0_personAfter 4 = .ok (.iload_n 1, 1) := by decide +kernel
theorem dX0_personAfter_5 : decode cX0_personAfter 5 = .ok (.aload_n 0, 1) := by decide +kernel
theorem dX0_personAfter_6 : decode cX0_personAfter 6 = .ok (.getfield 28, 3) := by decide +kernel
theorem dX0_personAfter_9 : decode cX0_personAfter 9 = .ok (.if_icmp .gt 18, 3) := by decide +kernel
theorem dX0_personAfter_12 : decode cX0_personAfter 12 = .ok (.iload_n 1, 1) := by decide +kernel
theorem dX0_personAfter_13 : decode cX0_personAfter 13 = .ok (.bipush 40, 2) := by decide +kernel
theorem dX0_personAfter_15 : decode cX0_personAfter 15 = .ok (.if_icmp .ge 12, 3) := by decide +kernel
theorem dX0_personAfter_18 : decode cX0_personAfter 18 = .ok (.aload_n 0, 1) := by decide +kernel
theorem dX0_personAfter_19 : decode cX0_personAfter 19 = .ok (.getfield 17, 3) := by decide +kernel
theorem dX0_personAfter_22 : decode cX0_personAfter 22 = .ok (.iload_n 1, 1) := by decide +kernel
theorem dX0_personAfter_23 : decode cX0_personAfter 23 = .ok (.aaload, 1) := by decide +kernel
theorem dX0_personAfter_24 : decode cX0_personAfter 24 = .ok (.goto 4, 3) := by decide +kernel
theorem dX0_personAfter_27 : decode cX0_personAfter 27 = .ok (.aconst_null, 1) := by decide +kernel
theorem dX0_personAfter_28 : decode cX0_personAfter 28 = .ok (.astore_n 2, 1) := by decide +kernel
theorem dX0_personAfter_29 : decode cX0_personAfter 29 = .ok (.aload_n 2, 1) := by decide +kernel
theorem dX0_personAfter_30 : decode cX0_personAfter 30 = .ok (.ifnonnull 8, 3) := by decide +kernel
theorem dX0_personAfter_33 : decode cX0_personAfter 33 = .ok (.bipush (-9), 2) := by decide +kernel
theorem dX0_personAfter_35 : decode cX0_personAfter 35 = .ok (.goto 7, 3) := by decide +kernel
theorem dX0_personAfter_38 : decode cX0_personAfter 38 = .ok (.aload_n 2, 1) := by decide +kernel
theorem dX0_personAfter_39 : decode cX0_personAfter 39 = .ok (.getfield 52, 3) := by decide +kernel
theorem dX0_personAfter_42 : decode cX0_personAfter 42 = .ok (.ireturn, 1) := by decide +kernel
theorem dX0_postOf_0 : decode cX0_postOf 0 = .ok (.iload_n 1, 1) := by decide +kernel
theorem dX0_postOf_1 : decode cX0_postOf 1 = .ok (.ifCond .lt 30, 3) := by decide +kernel
theorem dX0_postOf_4 : decode cX0_postOf 4 = .ok (.iload_n 1, 1) := by decide +kernel
theorem dX0_postOf_5 : decode cX0_postOf 5 = .ok (.aload_n 0, 1) := by decide +kernel
theorem dX0_postOf_6 : decode cX0_postOf 6 = .ok (.getfield 28, 3) := by decide +kernel
theorem dX0_postOf_9 : decode cX0_postOf 9 = .ok (.if_icmp .ge 22, 3) := by decide +kernel
theorem dX0_postOf_12 : decode cX0_postOf 12 = .ok (.iload_n 1, 1) := by decide +kernel
theorem dX0_postOf_13 : decode cX0_postOf 13 = .ok (.iconst 1, 1) := by decide +kernel
theorem dX0_postOf_14 : decode cX0_postOf 14 = .ok (.iadd, 1) := by decide +kernel
theorem dX0_postOf_15 : decode cX0_postOf 15 = .ok (.bipush 40, 2) := by decide +kernel
theorem dX0_postOf_17 : decode cX0_postOf 17 = .ok (.if_icmp .ge 14, 3) := by decide +kernel
theorem dX0_postOf_20 : decode cX0_postOf 20 = .ok (.aload_n 0, 1) := by decide +kernel
theorem dX0_postOf_21 : decode cX0_postOf 21 = .ok (.getfield 17, 3) := by decide +kernel
theorem dX0_postOf_24 : decode cX0_postOf 24 = .ok (.iload_n 1, 1) := by decide +kernel
theorem dX0_postOf_25 : decode cX0_postOf 25 = .ok (.iconst 1, 1) := by decide +kernel
theorem dX0_postOf_26 : decode cX0_postOf 26 = .ok (.iadd, 1) := by decide +kernel
theorem dX0_postOf_27 : decode cX0_postOf 27 = .ok (.aaload, 1) := by decide +kernel
theorem dX0_postOf_28 : decode cX0_postOf 28 = .ok (.goto 4, 3) := by decide +kernel
theorem dX0_postOf_31 : decode cX0_postOf 31 = .ok (.aconst_null, 1) := by decide +kernel
theorem dX0_postOf_32 : decode cX0_postOf 32 = .ok (.astore_n 2, 1) := by decide +kernel
theorem dX0_postOf_33 : decode cX0_postOf 33 = .ok (.aload_n 2, 1) := by decide +kernel
theorem dX0_postOf_34 : decode cX0_postOf 34 = .ok (.ifnonnull 7, 3) := by decide +kernel
theorem dX0_postOf_37 : decode cX0_postOf 37 = .ok (.aconst_null, 1) := by decide +kernel
theorem dX0_postOf_38 : decode cX0_postOf 38 = .ok (.goto 7, 3) := by decide +kernel
theorem dX0_postOf_41 : decode cX0_postOf 41 = .ok (.aload_n 2, 1) := by decide +kernel
theorem dX0_postOf_42 : decode cX0_postOf 42 = .ok (.getfield 62, 3) := by decide +kernel
theorem dX0_postOf_45 : decode cX0_postOf 45 = .ok (.astore_n 3, 1) := by decide +kernel
theorem dX0_postOf_46 : decode cX0_postOf 46 = .ok (.aload_n 3, 1) := by decide +kernel
theorem dX0_postOf_47 : decode cX0_postOf 47 = .ok (.ifnonnull 8, 3) := by decide +kernel
theorem dX0_postOf_50 : decode cX0_postOf 50 = .ok (.bipush (-9), 2) := by decide +kernel
theorem dX0_postOf_52 : decode cX0_postOf 52 = .ok (.goto 7, 3) := by decide +kernel
theorem dX0_postOf_55 : decode cX0_postOf 55 = .ok (.aload_n 3, 1) := by decide +kernel
theorem dX0_postOf_56 : decode cX0_postOf 56 = .ok (.getfield 89, 3) := by decide +kernel
theorem dX0_postOf_59 : decode cX0_postOf 59 = .ok (.ireturn, 1) := by decide +kernel
theorem dX1_init_0 : decode cX1_init 0 = .ok (.aload_n 0, 1) := by decide +kernel
theorem dX1_init_1 : decode cX1_init 1 = .ok (.invokespecial 3, 3) := by decide +kernel
theorem dX1_init_4 : decode cX1_init 4 = .ok (.aload_n 0, 1) := by decide +kernel
theorem dX1_init_5 : decode cX1_init 5 = .ok (.bipush 12, 2) := by decide +kernel
theorem dX1_init_7 : decode cX1_init 7 = .ok (.newarray .int, 2) := by decide +kernel
theorem dX1_init_9 : decode cX1_init 9 = .ok (.putfield 9, 3) := by decide +kernel
theorem dX1_init_12 : decode cX1_init 12 = .ok (.aload_n 0, 1) := by decide +kernel
theorem dX1_init_13 : decode cX1_init 13 = .ok (.bipush 12, 2) := by decide +kernel
theorem dX1_init_15 : decode cX1_init 15 = .ok (.newarray .int, 2) := by decide +kernel
theorem dX1_init_17 : decode cX1_init 17 = .ok (.putfield 15, 3) := by decide +kernel
theorem dX1_init_20 : decode cX1_init 20 = .ok (.aload_n 0, 1) := by decide +kernel
theorem dX1_init_21 : decode cX1_init 21 = .ok (.bipush 10, 2) := by decide +kernel
theorem dX1_init_23 : decode cX1_init 23 = .ok (.newarray .int, 2) := by decide +kernel
theorem dX1_init_25 : decode cX1_init 25 = .ok (.putfield 18, 3) := by decide +kernel
theorem dX1_init_28 : decode cX1_init 28 = .ok (.aload_n 0, 1) := by decide +kernel
theorem dX1_init_29 : decode cX1_init 29 = .ok (.bipush 10, 2) := by decide +kernel
theorem dX1_init_31 : decode cX1_init 31 = .ok (.newarray .int, 2) := by decide +kernel
theorem dX1_init_33 : decode cX1_init 33 = .ok (.putfield 21, 3) := by decide +kernel
theorem dX1_init_36 : decode cX1_init 36 = .ok (.aload_n 0, 1) := by decide +kernel
theorem dX1_init_37 : decode cX1_init 37 = .ok (.aload_n 1, 1) := by decide +kernel
theorem dX1_init_38 : decode cX1_init 38 = .ok (.putfield 24, 3) := by decide +kernel
theorem dX1_init_41 : decode cX1_init 41 = .ok (.return_, 1) := by decide +kernel
theorem dX1_gather_0 : decode cX1_gather 0 = .ok (.aload_n 0, 1) := by decide +kernel
theorem dX1_gather_1 : decode cX1_gather 1 = .ok (.aload_n 1, 1) := by decide +kernel
theorem dX1_gather_2 : decode cX1_gather 2 = .ok (.getfield 28, 3) := by decide +kernel
theorem dX1_gather_5 : decode cX1_gather 5 = .ok (.bipush 12, 2) := by decide +kernel
theorem dX1_gather_7 : decode cX1_gather 7 = .ok (.invokestatic 34, 3) := by decide +kernel
theorem dX1_gather_10 : decode cX1_gather 10 = .ok (.putfield 40, 3) := by decide +kernel
theorem dX1_gather_13 : decode cX1_gather 13 = .ok (.aload_n 0, 1) := by decide +kernel
theorem dX1_gather_14 : decode cX1_gather 14 = .ok (.iconst 0, 1) := by decide +kernel
theorem dX1_gather_15 : decode cX1_gather 15 = .ok (.putfield 43, 3) := by decide +kernel
theorem dX1_gather_18 : decode cX1_gather 18 = .ok (.aload_n 0, 1) := by decide +kernel
theorem dX1_gather_19 : decode cX1_gather 19 = .ok (.iconst 0, 1) := by decide +kernel
theorem dX1_gather_20 : decode cX1_gather 20 = .ok (.putfield 46, 3) := by decide +kernel
theorem dX1_gather_23 : decode cX1_gather 23 = .ok (.aload_n 0, 1) := by decide +kernel
theorem dX1_gather_24 : decode cX1_gather 24 = .ok (.getfield 18, 3) := by decide +kernel
theorem dX1_gather_27 : decode cX1_gather 27 = .ok (.iconst 0, 1) := by decide +kernel
theorem dX1_gather_28 : decode cX1_gather 28 = .ok (.invokestatic 49, 3) := by decide +kernel
theorem dX1_gather_31 : decode cX1_gather 31 = .ok (.iconst 0, 1) := by decide +kernel
theorem dX1_gather_32 : decode cX1_gather 32 = .ok (.istore_n 2, 1) := by decide +kernel
theorem dX1_gather_33 : decode cX1_gather 33 = .ok (.iload_n 2, 1) := by decide +kernel
theorem dX1_gather_34 : decode cX1_gather 34 = .ok (.aload_n 0, 1) := by decide +kernel
theorem dX1_gather_35 : decode cX1_gather 35 = .ok (.getfield 40, 3) := by decide +kernel
theorem dX1_gather_38 : decode cX1_gather 38 = .ok (.if_icmp .ge 25, 3) := by decide +kernel
theorem dX1_gather_41 : decode cX1_gather 41 = .ok (.aload_n 1, 1) := by decide +kernel
theorem dX1_gather_42 : decode cX1_gather 42 = .ok (.iload_n 2, 1) := by decide +kernel
theorem dX1_gather_43 : decode cX1_gather 43 = .ok (.invokevirtual 55, 3) := by decide +kernel
theorem dX1_gather_46 : decode cX1_gather 46 = .ok (.astore_n 3, 1) := by decide +kernel
theorem dX1_gather_47 : decode cX1_gather 47 = .ok (.aload_n 3, 1) := by decide +kernel
theorem dX1_gather_48 : decode cX1_gather 48 = .ok (.ifnull 9, 3) := by decide +kernel
theorem dX1_gather_51 : decode cX1_gather 51 = .ok (.aload_n 0, 1) := by decide +kernel
theorem dX1_gather_52 : decode cX1_gather 52 = .ok (.iload_n 2, 1) := by decide +kernel
theorem dX1_gather_53 : decode cX1_gather 53 = .ok (.aload_n 3, 1) := by decide +kernel
theorem dX1_gather_54 : decode cX1_gather 54 = .ok (.invokevirtual 59, 3) := by decide +kernel
theorem dX1_gather_57 : decode cX1_gather 57 = .ok (.iinc 2 1, 3) := by decide +kernel
theorem dX1_gather_60 : decode cX1_gather 60 = .ok (.goto (-27), 3) := by decide +kernel
theorem dX1_gather_63 : decode cX1_gather 63 = .ok (.aload_n 0, 1) := by decide +kernel
theorem dX1_gather_64 : decode cX1_gather 64 = .ok (.aload_n 1, 1) := by decide +kernel
theorem dX1_gather_65 : decode cX1_gather 65 = .ok (.invokevirtual 63, 3) := by decide +kernel
theorem dX1_gather_68 : decode cX1_gather 68 = .ok (.invokevirtual 67, 3) := by decide +kernel
theorem dX1_gather_71 : decode cX1_gather 71 = .ok (.return_, 1) := by decide +kernel
theorem dX1_choose_0 : decode cX1_choose 0 = .ok (.aload_n 0, 1) := by decide +kernel
theorem dX1_choose_1 : decode cX1_choose 1 = .ok (.iconst 0, 1) := by decide +kernel
theorem dX1_choose_2 : decode cX1_choose 2 = .ok (.putfield 71, 3) := by decide +kernel
theorem dX1_choose_5 : decode cX1_choose 5 = .ok (.iconst 0, 1) := by decide +kernel
theorem dX1_choose_6 : decode cX1_choose 6 = .ok (.istore_n 2, 1) := by decide +kernel
theorem dX1_choose_7 : decode cX1_choose 7 = .ok (.iload_n 2, 1) := by decide +kernel
theorem dX1_choose_8 : decode cX1_choose 8 = .ok (.iconst 1, 1) := by decide +kernel
theorem dX1_choose_9 : decode cX1_choose 9 = .ok (.aload_n 0, 1) := by decide +kernel
theorem dX1_choose_10 : decode cX1_choose 10 = .ok (.getfield 40, 3) := by decide +kernel
theorem dX1_choose_13 : decode cX1_choose 13 = .ok (.ishl, 1) := by decide +kernel
theorem dX1_choose_14 : decode cX1_choose 14 = .ok (.if_icmp .ge 39, 3) := by decide +kernel
theorem dX1_choose_17 : decode cX1_choose 17 = .ok (.iload_n 2, 1) := by decide +kernel
theorem dX1_choose_18 : decode cX1_choose 18 = .ok (.invokestatic 75, 3) := by decide +kernel
theorem dX1_choose_21 : decode cX1_choose 21 = .ok (.iload_n 1, 1) := by decide +kernel
theorem dX1_choose_22 : decode cX1_choose 22 = .ok (.if_icmp .ne 25, 3) := by decide +kernel
theorem dX1_choose_25 : decode cX1_choose 25 = .ok (.iload_n 2, 1) := by decide +kernel
theorem dX1_choose_26 : decode cX1_choose 26 = .ok (.aload_n 0, 1) := by decide +kernel
theorem dX1_choose_27 : decode cX1_choose 27 = .ok (.getfield 43, 3) := by decide +kernel
theorem dX1_choose_30 : decode cX1_choose 30 = .ok (.iand, 1) := by decide +kernel
theorem dX1_choose_31 : decode cX1_choose 31 = .ok (.ifCond .ne 16, 3) := by decide +kernel
theorem dX1_choose_34 : decode cX1_choose 34 = .ok (.aload_n 0, 1) := by decide +kernel
theorem dX1_choose_35 : decode cX1_choose 35 = .ok (.iload_n 2, 1) := by decide +kernel
theorem dX1_choose_36 : decode cX1_choose 36 = .ok (.invokevirtual 81, 3) := by decide +kernel
theorem dX1_choose_39 : decode cX1_choose 39 = .ok (.ifCond .eq 8, 3) := by decide +kernel
theorem dX1_choose_42 : decode cX1_choose 42 = .ok (.aload_n 0, 1) := by decide +kernel
theorem dX1_choose_43 : decode cX1_choose 43 = .ok (.iload_n 2, 1) := by decide +kernel
theorem dX1_choose_44 : decode cX1_choose 44 = .ok (.invokevirtual 85, 3) := by decide +kernel
theorem dX1_choose_47 : decode cX1_choose 47 = .ok (.iinc 2 1, 3) := by decide +kernel
theorem dX1_choose_50 : decode cX1_choose 50 = .ok (.goto (-43), 3) := by decide +kernel
theorem dX1_choose_53 : decode cX1_choose 53 = .ok (.return_, 1) := by decide +kernel
theorem dX1_goes_0 : decode cX1_goes 0 = .ok (.aload_n 0, 1) := by decide +kernel
theorem dX1_goes_1 : decode cX1_goes 1 = .ok (.getfield 71, 3) := by decide +kernel
theorem dX1_goes_4 : decode cX1_goes 4 = .ok (.ifCond .eq 31, 3) := by decide +kernel
theorem dX1_goes_7 : decode cX1_goes 7 = .ok (.iload_n 1, 1) := by decide +kernel
theorem dX1_goes_8 : decode cX1_goes 8 = .ok (.ifCond .lt 27, 3) := by decide +kernel
theorem dX1_goes_11 : decode cX1_goes 11 = .ok (.iload_n 1, 1) := by decide +kernel
theorem dX1_goes_12 : decode cX1_goes 12 = .ok (.aload_n 0, 1) := by decide +kernel
theorem dX1_goes_13 : decode cX1_goes 13 = .ok (.getfield 40, 3) := by decide +kernel
theorem dX1_goes_16 : decode cX1_goes 16 = .ok (.if_icmp .ge 19, 3) := by decide +kernel
theorem dX1_goes_19 : decode cX1_goes 19 = .ok (.aload_n 0, 1) := by decide +kernel
theorem dX1_goes_20 : decode cX1_goes 20 = .ok (.getfield 88, 3) := by decide +kernel
theorem dX1_goes_23 : decode cX1_goes 23 = .ok (.iload_n 1, 1) := by decide +kernel
theorem dX1_goes_24 : decode cX1_goes 24 = .ok (.ishr, 1) := by decide +kernel
theorem dX1_goes_25 : decode cX1_goes 25 = .ok (.iconst 1, 1) := by decide +kernel
theorem dX1_goes_26 : decode cX1_goes 26 = .ok (.iand, 1) := by decide +kernel
theorem dX1_goes_27 : decode cX1_goes 27 = .ok (.iconst 1, 1) := by decide +kernel
theorem dX1_goes_28 : decode cX1_goes 28 = .ok (.if_icmp .ne 7, 3) := by decide +kernel
theorem dX1_goes_31 : decode cX1_goes 31 = .ok (.iconst 1, 1) := by decide +kernel
theorem dX1_goes_32 : decode cX1_goes 32 = .ok (.goto 4, 3) := by decide +kernel
theorem dX1_goes_35 : decode cX1_goes 35 = .ok (.iconst 0, 1) := by decide +kernel
theorem dX1_goes_36 : decode cX1_goes 36 = .ok (.ireturn, 1) := by decide +kernel
theorem dX1_gatherOne_0 : decode cX1_gatherOne 0 = .ok (.iload_n 1, 1) := by decide +kernel
theorem dX1_gatherOne_1 : decode cX1_gatherOne 1 = .ok (.ifCond .lt 9, 3) := by decide +kernel
theorem dX1_gatherOne_4 : decode cX1_gatherOne 4 = .ok (.iload_n 1, 1) := by decide +kernel
theorem dX1_gatherOne_5 : decode cX1_gatherOne 5 = .ok (.bipush 12, 2) := by decide +kernel
theorem dX1_gatherOne_7 : decode cX1_gatherOne 7 = .ok (.if_icmp .lt 4, 3) := by decide +kernel
theorem dX1_gatherOne_10 : decode cX1_gatherOne 10 = .ok (.return_, 1) := by decide +kernel
theorem dX1_gatherOne_11 : decode cX1_gatherOne 11 = .ok (.iconst 1, 1) := by decide +kernel
theorem dX1_gatherOne_12 : decode cX1_gatherOne 12 = .ok (.iload_n 1, 1) := by decide +kernel
theorem dX1_gatherOne_13 : decode cX1_gatherOne 13 = .ok (.ishl, 1) := by decide +kernel
theorem dX1_gatherOne_14 : decode cX1_gatherOne 14 = .ok (.istore_n 3, 1) := by decide +kernel
theorem dX1_gatherOne_15 : decode cX1_gatherOne 15 = .ok (.aload_n 0, 1) := by decide +kernel
theorem dX1_gatherOne_16 : decode cX1_gatherOne 16 = .ok (.getfield 9, 3) := by decide +kernel
theorem dX1_gatherOne_19 : decode cX1_gatherOne 19 = .ok (.iload_n 1, 1) := by decide +kernel
theorem dX1_gatherOne_20 : decode cX1_gatherOne 20 = .ok (.aload_n 0, 1) := by decide +kernel
theorem dX1_gatherOne_21 : decode cX1_gatherOne 21 = .ok (.getfield 24, 3) := by decide +kernel
theorem dX1_gatherOne_24 : decode cX1_gatherOne 24 = .ok (.aload_n 2, 1) := by decide +kernel
theorem dX1_gatherOne_25 : decode cX1_gatherOne 25 = .ok (.invokevirtual 91, 3) := by decide +kernel
theorem dX1_gatherOne_28 : decode cX1_gatherOne 28 = .ok (.aload_n 2, 1) := by decide +kernel
theorem dX1_gatherOne_29 : decode cX1_gatherOne 29 = .ok (.getfield 97, 3) := by decide +kernel
theorem dX1_gatherOne_32 : decode cX1_gatherOne 32 = .ok (.iconst 0, 1) := by decide +kernel
theorem dX1_gatherOne_33 : decode cX1_gatherOne 33 = .ok (.invokestatic 102, 3) := by decide +kernel
theorem dX1_gatherOne_36 : decode cX1_gatherOne 36 = .ok (.iadd, 1) := by decide +kernel
theorem dX1_gatherOne_37 : decode cX1_gatherOne 37 = .ok (.iastore, 1) := by decide +kernel
theorem dX1_gatherOne_38 : decode cX1_gatherOne 38 = .ok (.aload_n 0, 1) := by decide +kernel
theorem dX1_gatherOne_39 : decode cX1_gatherOne 39 = .ok (.getfield 15, 3) := by decide +kernel
theorem dX1_gatherOne_42 : decode cX1_gatherOne 42 = .ok (.iload_n 1, 1) := by decide +kernel
theorem dX1_gatherOne_43 : decode cX1_gatherOne 43 = .ok (.aload_n 0, 1) := by decide +kernel
theorem dX1_gatherOne_44 : decode cX1_gatherOne 44 = .ok (.getfield 24, 3) := by decide +kernel
theorem dX1_gatherOne_47 : decode cX1_gatherOne 47 = .ok (.aload_n 2, 1) := by decide +kernel
theorem dX1_gatherOne_48 : decode cX1_gatherOne 48 = .ok (.aload_n 0, 1) := by decide +kernel
theorem dX1_gatherOne_49 : decode cX1_gatherOne 49 = .ok (.getfield 24, 3) := by decide +kernel
theorem dX1_gatherOne_52 : decode cX1_gatherOne 52 = .ok (.getfield 105, 3) := by decide +kernel
theorem dX1_gatherOne_55 : decode cX1_gatherOne 55 = .ok (.invokevirtual 108, 3) := by decide +kernel
theorem dX1_gatherOne_58 : decode cX1_gatherOne 58 = .ok (.iastore, 1) := by decide +kernel
theorem dX1_gatherOne_59 : decode cX1_gatherOne 59 = .ok (.aload_n 2, 1) := by decide +kernel
theorem dX1_gatherOne_60 : decode cX1_gatherOne 60 = .ok (.invokevirtual 112, 3) := by decide +kernel
theorem dX1_gatherOne_63 : decode cX1_gatherOne 63 = .ok (.ifCond .eq 16, 3) := by decide +kernel
theorem dX1_gatherOne_66 : decode cX1_gatherOne 66 = .ok (.aload_n 0, 1) := by decide +kernel
theorem dX1_gatherOne_67 : decode cX1_gatherOne 67 = .ok (.dup, 1) := by decide +kernel
theorem dX1_gatherOne_68 : decode cX1_gatherOne 68 = .ok (.getfield 46, 3) := by decide +kernel
theorem dX1_gatherOne_71 : decode cX1_gatherOne 71 = .ok (.iload_n 3, 1) := by decide +kernel
theorem dX1_gatherOne_72 : decode cX1_gatherOne 72 = .ok (.ior, 1) := by decide +kernel
theorem dX1_gatherOne_73 : decode cX1_gatherOne 73 = .ok (.putfield 46, 3) := by decide +kernel
theorem dX1_gatherOne_76 : decode cX1_gatherOne 76 = .ok (.goto 24, 3) := by decide +kernel
theorem dX1_gatherOne_79 : decode cX1_gatherOne 79 = .ok (.aload_n 0, 1) := by decide +kernel
theorem dX1_gatherOne_80 : decode cX1_gatherOne 80 = .ok (.getfield 24, 3) := by decide +kernel
theorem dX1_gatherOne_83 : decode cX1_gatherOne 83 = .ok (.aload_n 2, 1) := by decide +kernel
theorem dX1_gatherOne_84 : decode cX1_gatherOne 84 = .ok (.invokevirtual 116, 3) := by decide +kernel
theorem dX1_gatherOne_87 : decode cX1_gatherOne 87 = .ok (.ifCond .eq 13, 3) := by decide +kernel
theorem dX1_gatherOne_90 : decode cX1_gatherOne 90 = .ok (.aload_n 0, 1) := by decide +kernel
theorem dX1_gatherOne_91 : decode cX1_gatherOne 91 = .ok (.dup, 1) := by decide +kernel
theorem dX1_gatherOne_92 : decode cX1_gatherOne 92 = .ok (.getfield 43, 3) := by decide +kernel
theorem dX1_gatherOne_95 : decode cX1_gatherOne 95 = .ok (.iload_n 3, 1) := by decide +kernel
theorem dX1_gatherOne_96 : decode cX1_gatherOne 96 = .ok (.ior, 1) := by decide +kernel
theorem dX1_gatherOne_97 : decode cX1_gatherOne 97 = .ok (.putfield 43, 3) := by decide +kernel
theorem dX1_gatherOne_100 : decode cX1_gatherOne 100 = .ok (.iconst 0, 1) := by decide +kernel
theorem dX1_gatherOne_101 : decode cX1_gatherOne 101 = .ok (.istore 4, 2) := by decide +kernel
theorem dX1_gatherOne_103 : decode cX1_gatherOne 103 = .ok (.iload 4, 2) := by decide +kernel
theorem dX1_gatherOne_105 : decode cX1_gatherOne 105 = .ok (.bipush 10, 2) := by decide +kernel
theorem dX1_gatherOne_107 : decode cX1_gatherOne 107 = .ok (.if_icmp .ge 33, 3) := by decide +kernel
theorem dX1_gatherOne_110 : decode cX1_gatherOne 110 = .ok (.aload_n 2, 1) := by decide +kernel
theorem dX1_gatherOne_111 : decode cX1_gatherOne 111 = .ok (.getfield 120, 3) := by decide +kernel
theorem dX1_gatherOne_114 : decode cX1_gatherOne 114 = .ok (.iload 4, 2) := by decide +kernel
theorem dX1_gatherOne_116 : decode cX1_gatherOne 116 = .ok (.ishr, 1) := by decide +kernel
theorem dX1_gatherOne_117 : decode cX1_gatherOne 117 = .ok (.iconst 1, 1) := by decide +kernel
theorem dX1_gatherOne_118 : decode cX1_gatherOne 118 = .ok (.iand, 1) := by decide +kernel
theorem dX1_gatherOne_119 : decode cX1_gatherOne 119 = .ok (.iconst 1, 1) := by decide +kernel
theorem dX1_gatherOne_120 : decode cX1_gatherOne 120 = .ok (.if_icmp .ne 14, 3) := by decide +kernel
theorem dX1_gatherOne_123 : decode cX1_gatherOne 123 = .ok (.aload_n 0, 1) := by decide +kernel
theorem dX1_gatherOne_124 : decode cX1_gatherOne 124 = .ok (.getfield 18, 3) := by decide +kernel
theorem dX1_gatherOne_127 : decode cX1_gatherOne 127 = .ok (.iload 4, 2) := by decide +kernel
theorem dX1_gatherOne_129 : decode cX1_gatherOne 129 = .ok (.dup2, 1) := by decide +kernel
theorem dX1_gatherOne_130 : decode cX1_gatherOne 130 = .ok (.iaload, 1) := by decide +kernel
theorem dX1_gatherOne_131 : decode cX1_gatherOne 131 = .ok (.iload_n 3, 1) := by decide +kernel
theorem dX1_gatherOne_132 : decode cX1_gatherOne 132 = .ok (.ior, 1) := by decide +kernel
theorem dX1_gatherOne_133 : decode cX1_gatherOne 133 = .ok (.iastore, 1) := by decide +kernel
theorem dX1_gatherOne_134 : decode cX1_gatherOne 134 = .ok (.iinc 4 1, 3) := by decide +kernel
theorem dX1_gatherOne_137 : decode cX1_gatherOne 137 = .ok (.goto (-34), 3) := by decide +kernel
theorem dX1_gatherOne_140 : decode cX1_gatherOne 140 = .ok (.return_, 1) := by decide +kernel
theorem dX1_gatherLeast_0 : decode cX1_gatherLeast 0 = .ok (.iconst 0, 1) := by decide +kernel
theorem dX1_gatherLeast_1 : decode cX1_gatherLeast 1 = .ok (.istore_n 2, 1) := by decide +kernel
theorem dX1_gatherLeast_2 : decode cX1_gatherLeast 2 = .ok (.iload_n 2, 1) := by decide +kernel
theorem dX1_gatherLeast_3 : decode cX1_gatherLeast 3 = .ok (.bipush 10, 2) := by decide +kernel
theorem dX1_gatherLeast_5 : decode cX1_gatherLeast 5 = .ok (.if_icmp .ge 59, 3) := by decide +kernel
theorem dX1_gatherLeast_8 : decode cX1_gatherLeast 8 = .ok (.iload_n 1, 1) := by decide +kernel
theorem dX1_gatherLeast_9 : decode cX1_gatherLeast 9 = .ok (.iload_n 2, 1) := by decide +kernel
theorem dX1_gatherLeast_10 : decode cX1_gatherLeast 10 = .ok (.ishr, 1) := by decide +kernel
theorem dX1_gatherLeast_11 : decode cX1_gatherLeast 11 = .ok (.iconst 1, 1) := by decide +kernel
theorem dX1_gatherLeast_12 : decode cX1_gatherLeast 12 = .ok (.iand, 1) := by decide +kernel
theorem dX1_gatherLeast_13 : decode cX1_gatherLeast 13 = .ok (.iconst 1, 1) := by decide +kernel
theorem dX1_gatherLeast_14 : decode cX1_gatherLeast 14 = .ok (.if_icmp .ne 7, 3) := by decide +kernel
theorem dX1_gatherLeast_17 : decode cX1_gatherLeast 17 = .ok (.iconst 1, 1) := by decide +kernel
theorem dX1_gatherLeast_18 : decode cX1_gatherLeast 18 = .ok (.goto 4, 3) := by decide +kernel
theorem dX1_gatherLeast_21 : decode cX1_gatherLeast 21 = .ok (.iconst 0, 1) := by decide +kernel
theorem dX1_gatherLeast_22 : decode cX1_gatherLeast 22 = .ok (.istore_n 3, 1) := by decide +kernel
theorem dX1_gatherLeast_23 : decode cX1_gatherLeast 23 = .ok (.aload_n 0, 1) := by decide +kernel
theorem dX1_gatherLeast_24 : decode cX1_gatherLeast 24 = .ok (.getfield 21, 3) := by decide +kernel
theorem dX1_gatherLeast_27 : decode cX1_gatherLeast 27 = .ok (.iload_n 2, 1) := by decide +kernel
theorem dX1_gatherLeast_28 : decode cX1_gatherLeast 28 = .ok (.iload_n 3, 1) := by decide +kernel
theorem dX1_gatherLeast_29 : decode cX1_gatherLeast 29 = .ok (.ifCond .eq 27, 3) := by decide +kernel
theorem dX1_gatherLeast_32 : decode cX1_gatherLeast 32 = .ok (.aload_n 0, 1) := by decide +kernel
theorem dX1_gatherLeast_33 : decode cX1_gatherLeast 33 = .ok (.getfield 24, 3) := by decide +kernel
theorem dX1_gatherLeast_36 : decode cX1_gatherLeast 36 = .ok (.getfield 123, 3) := by decide +kernel
theorem dX1_gatherLeast_39 : decode cX1_gatherLeast 39 = .ok (.iconst 1, 1) := by decide +kernel
theorem dX1_gatherLeast_40 : decode cX1_gatherLeast 40 = .ok (.iaload, 1) := by decide +kernel
theorem dX1_gatherLeast_41 : decode cX1_gatherLeast 41 = .ok (.aload_n 0, 1) := by decide +kernel
theorem dX1_gatherLeast_42 : decode cX1_gatherLeast 42 = .ok (.getfield 18, 3) := by decide +kernel
theorem dX1_gatherLeast_45 : decode cX1_gatherLeast 45 = .ok (.iload_n 2, 1) := by decide +kernel
theorem dX1_gatherLeast_46 : decode cX1_gatherLeast 46 = .ok (.iaload, 1) := by decide +kernel
theorem dX1_gatherLeast_47 : decode cX1_gatherLeast 47 = .ok (.invokestatic 75, 3) := by decide +kernel
theorem dX1_gatherLeast_50 : decode cX1_gatherLeast 50 = .ok (.invokestatic 34, 3) := by decide +kernel
theorem dX1_gatherLeast_53 : decode cX1_gatherLeast 53 = .ok (.goto 4, 3) := by decide +kernel
theorem dX1_gatherLeast_56 : decode cX1_gatherLeast 56 = .ok (.iconst 0, 1) := by decide +kernel
theorem dX1_gatherLeast_57 : decode cX1_gatherLeast 57 = .ok (.iastore, 1) := by decide +kernel
theorem dX1_gatherLeast_58 : decode cX1_gatherLeast 58 = .ok (.iinc 2 1, 3) := by decide +kernel
theorem dX1_gatherLeast_61 : decode cX1_gatherLeast 61 = .ok (.goto (-59), 3) := by decide +kernel
theorem dX1_gatherLeast_64 : decode cX1_gatherLeast 64 = .ok (.return_, 1) := by decide +kernel
theorem dX1_keepsSkills_0 : decode cX1_keepsSkills 0 = .ok (.iconst 0, 1) := by decide +kernel
theorem dX1_keepsSkills_1 : decode cX1_keepsSkills 1 = .ok (.istore_n 2, 1) := by decide +kernel
theorem dX1_keepsSkills_2 : decode cX1_keepsSkills 2 = .ok (.iload_n 2, 1) := by decide +kernel
theorem dX1_keepsSkills_3 : decode cX1_keepsSkills 3 = .ok (.bipush 10, 2) := by decide +kernel
theorem dX1_keepsSkills_5 : decode cX1_keepsSkills 5 = .ok (.if_icmp .ge 33, 3) := by decide +kernel
theorem dX1_keepsSkills_8 : decode cX1_keepsSkills 8 = .ok (.aload_n 0, 1) := by decide +kernel
theorem dX1_keepsSkills_9 : decode cX1_keepsSkills 9 = .ok (.getfield 18, 3) := by decide +kernel
theorem dX1_keepsSkills_12 : decode cX1_keepsSkills 12 = .ok (.iload_n 2, 1) := by decide +kernel
theorem dX1_keepsSkills_13 : decode cX1_keepsSkills 13 = .ok (.iaload, 1) := by decide +kernel
theorem dX1_keepsSkills_14 : decode cX1_keepsSkills 14 = .ok (.iload_n 1, 1) := by decide +kernel
theorem dX1_keepsSkills_15 : decode cX1_keepsSkills 15 = .ok (.iconst (-1), 1) := by decide +kernel
theorem dX1_keepsSkills_16 : decode cX1_keepsSkills 16 = .ok (.ixor, 1) := by decide +kernel
theorem dX1_keepsSkills_17 : decode cX1_keepsSkills 17 = .ok (.iand, 1) := by decide +kernel
theorem dX1_keepsSkills_18 : decode cX1_keepsSkills 18 = .ok (.invokestatic 75, 3) := by decide +kernel
theorem dX1_keepsSkills_21 : decode cX1_keepsSkills 21 = .ok (.aload_n 0, 1) := by decide +kernel
theorem dX1_keepsSkills_22 : decode cX1_keepsSkills 22 = .ok (.getfield 21, 3) := by decide +kernel
theorem dX1_keepsSkills_25 : decode cX1_keepsSkills 25 = .ok (.iload_n 2, 1) := by decide +kernel
theorem dX1_keepsSkills_26 : decode cX1_keepsSkills 26 = .ok (.iaload, 1) := by decide +kernel
theorem dX1_keepsSkills_27 : decode cX1_keepsSkills 27 = .ok (.if_icmp .ge 5, 3) := by decide +kernel
theorem dX1_keepsSkills_30 : decode cX1_keepsSkills 30 = .ok (.iconst 0, 1) := by decide +kernel
theorem dX1_keepsSkills_31 : decode cX1_keepsSkills 31 = .ok (.ireturn, 1) := by decide +kernel
theorem dX1_keepsSkills_32 : decode cX1_keepsSkills 32 = .ok (.iinc 2 1, 3) := by decide +kernel
theorem dX1_keepsSkills_35 : decode cX1_keepsSkills 35 = .ok (.goto (-33), 3) := by decide +kernel
theorem dX1_keepsSkills_38 : decode cX1_keepsSkills 38 = .ok (.iconst 1, 1) := by decide +kernel
theorem dX1_keepsSkills_39 : decode cX1_keepsSkills 39 = .ok (.ireturn, 1) := by decide +kernel
theorem dX1_weigh_0 : decode cX1_weigh 0 = .ok (.iload_n 1, 1) := by decide +kernel
theorem dX1_weigh_1 : decode cX1_weigh 1 = .ok (.aload_n 0, 1) := by decide +kernel
theorem dX1_weigh_2 : decode cX1_weigh 2 = .ok (.getfield 46, 3) := by decide +kernel
theorem dX1_weigh_5 : decode cX1_weigh 5 = .ok (.iconst (-1), 1) := by decide +kernel
theorem dX1_weigh_6 : decode cX1_weigh 6 = .ok (.ixor, 1) := by decide +kernel
theorem dX1_weigh_7 : decode cX1_weigh 7 = .ok (.iand, 1) := by decide +kernel
theorem dX1_weigh_8 : decode cX1_weigh 8 = .ok (.invokestatic 75, 3) := by decide +kernel
theorem dX1_weigh_11 : decode cX1_weigh 11 = .ok (.istore_n 2, 1) := by decide +kernel
theorem dX1_weigh_12 : decode cX1_weigh 12 = .ok (.aload_n 0, 1) := by decide +kernel
theorem dX1_weigh_13 : decode cX1_weigh 13 = .ok (.getfield 71, 3) := by decide +kernel
theorem dX1_weigh_16 : decode cX1_weigh 16 = .ok (.ifCond .eq 12, 3) := by decide +kernel
theorem dX1_weigh_19 : decode cX1_weigh 19 = .ok (.iload_n 2, 1) := by decide +kernel
theorem dX1_weigh_20 : decode cX1_weigh 20 = .ok (.aload_n 0, 1) := by decide +kernel
theorem dX1_weigh_21 : decode cX1_weigh 21 = .ok (.getfield 126, 3) := by decide +kernel
theorem dX1_weigh_24 : decode cX1_weigh 24 = .ok (.if_icmp .le 4, 3) := by decide +kernel
theorem dX1_weigh_27 : decode cX1_weigh 27 = .ok (.return_, 1) := by decide +kernel
theorem dX1_weigh_28 : decode cX1_weigh 28 = .ok (.aload_n 0, 1) := by decide +kernel
theorem dX1_weigh_29 : decode cX1_weigh 29 = .ok (.aload_n 0, 1) := by decide +kernel
theorem dX1_weigh_30 : decode cX1_weigh 30 = .ok (.getfield 9, 3) := by decide +kernel
theorem dX1_weigh_33 : decode cX1_weigh 33 = .ok (.iload_n 1, 1) := by decide +kernel
theorem dX1_weigh_34 : decode cX1_weigh 34 = .ok (.invokevirtual 129, 3) := by decide +kernel
theorem dX1_weigh_37 : decode cX1_weigh 37 = .ok (.istore_n 3, 1) := by decide +kernel
theorem dX1_weigh_38 : decode cX1_weigh 38 = .ok (.aload_n 0, 1) := by decide +kernel
theorem dX1_weigh_39 : decode cX1_weigh 39 = .ok (.aload_n 0, 1) := by decide +kernel
theorem dX1_weigh_40 : decode cX1_weigh 40 = .ok (.getfield 15, 3) := by decide +kernel
theorem dX1_weigh_43 : decode cX1_weigh 43 = .ok (.iload_n 1, 1) := by decide +kernel
theorem dX1_weigh_44 : decode cX1_weigh 44 = .ok (.invokevirtual 129, 3) := by decide +kernel
theorem dX1_weigh_47 : decode cX1_weigh 47 = .ok (.istore 4, 2) := by decide +kernel
theorem dX1_weigh_49 : decode cX1_weigh 49 = .ok (.aload_n 0, 1) := by decide +kernel
theorem dX1_weigh_50 : decode cX1_weigh 50 = .ok (.getfield 71, 3) := by decide +kernel
theorem dX1_weigh_53 : decode cX1_weigh 53 = .ok (.ifCond .eq 36, 3) := by decide +kernel
theorem dX1_weigh_56 : decode cX1_weigh 56 = .ok (.iload_n 2, 1) := by decide +kernel
theorem dX1_weigh_57 : decode cX1_weigh 57 = .ok (.aload_n 0, 1) := by decide +kernel
theorem dX1_weigh_58 : decode cX1_weigh 58 = .ok (.getfield 126, 3) := by decide +kernel
theorem dX1_weigh_61 : decode cX1_weigh 61 = .ok (.if_icmp .lt 28, 3) := by decide +kernel
theorem dX1_weigh_64 : decode cX1_weigh 64 = .ok (.iload_n 3, 1) := by decide +kernel
theorem dX1_weigh_65 : decode cX1_weigh 65 = .ok (.aload_n 0, 1) := by decide +kernel
theorem dX1_weigh_66 : decode cX1_weigh 66 = .ok (.getfield 133, 3) := by decide +kernel
theorem dX1_weigh_69 : decode cX1_weigh 69 = .ok (.if_icmp .lt 20, 3) := by decide +kernel
theorem dX1_weigh_72 : decode cX1_weigh 72 = .ok (.iload_n 3, 1) := by decide +kernel
theorem dX1_weigh_73 : decode cX1_weigh 73 = .ok (.aload_n 0, 1) := by decide +kernel
theorem dX1_weigh_74 : decode cX1_weigh 74 = .ok (.getfield 133, 3) := by decide +kernel
theorem dX1_weigh_77 : decode cX1_weigh 77 = .ok (.if_icmp .ne 38, 3) := by decide +kernel
theorem dX1_weigh_80 : decode cX1_weigh 80 = .ok (.iload 4, 2) := by decide +kernel
theorem dX1_weigh_82 : decode cX1_weigh 82 = .ok (.aload_n 0, 1) := by decide +kernel
theorem dX1_weigh_83 : decode cX1_weigh 83 = .ok (.getfield 136, 3) := by decide +kernel
theorem dX1_weigh_86 : decode cX1_weigh 86 = .ok (.if_icmp .ge 29, 3) := by decide +kernel
theorem dX1_weigh_89 : decode cX1_weigh 89 = .ok (.aload_n 0, 1) := by decide +kernel
theorem dX1_weigh_90 : decode cX1_weigh 90 = .ok (.iconst 1, 1) := by decide +kernel
theorem dX1_weigh_91 : decode cX1_weigh 91 = .ok (.putfield 71, 3) := by decide +kernel
theorem dX1_weigh_94 : decode cX1_weigh 94 = .ok (.aload_n 0, 1) := by decide +kernel
theorem dX1_weigh_95 : decode cX1_weigh 95 = .ok (.iload_n 1, 1) := by decide +kernel
theorem dX1_weigh_96 : decode cX1_weigh 96 = .ok (.putfield 88, 3) := by decide +kernel
theorem dX1_weigh_99 : decode cX1_weigh 99 = .ok (.aload_n 0, 1) := by decide +kernel
theorem dX1_weigh_100 : decode cX1_weigh 100 = .ok (.iload_n 2, 1) := by decide +kernel
theorem dX1_weigh_101 : decode cX1_weigh 101 = .ok (.putfield 126, 3) := by decide +kernel
theorem dX1_weigh_104 : decode cX1_weigh 104 = .ok (.aload_n 0, 1) := by decide +kernel
theorem dX1_weigh_105 : decode cX1_weigh 105 = .ok (.iload_n 3, 1) := by decide +kernel
theorem dX1_weigh_106 : decode cX1_weigh 106 = .ok (.putfield 133, 3) := by decide +kernel
theorem dX1_weigh_109 : decode cX1_weigh 109 = .ok (.aload_n 0, 1) := by decide +kernel
theorem dX1_weigh_110 : decode cX1_weigh 110 = .ok (.iload 4, 2) := by decide +kernel
theorem dX1_weigh_112 : decode cX1_weigh 112 = .ok (.putfield 136, 3) := by decide +kernel
theorem dX1_weigh_115 : decode cX1_weigh 115 = .ok (.return_, 1) := by decide +kernel
theorem dX1_together_0 : decode cX1_together 0 = .ok (.iconst 0, 1) := by decide +kernel
theorem dX1_together_1 : decode cX1_together 1 = .ok (.istore_n 3, 1) := by decide +kernel
theorem dX1_together_2 : decode cX1_together 2 = .ok (.iconst 0, 1) := by decide +kernel
theorem dX1_together_3 : decode cX1_together 3 = .ok (.istore 4, 2) := by decide +kernel
theorem dX1_together_5 : decode cX1_together 5 = .ok (.iload 4, 2) := by decide +kernel
theorem dX1_together_7 : decode cX1_together 7 = .ok (.aload_n 0, 1) := by decide +kernel
theorem dX1_together_8 : decode cX1_together 8 = .ok (.getfield 40, 3) := by decide +kernel
theorem dX1_together_11 : decode cX1_together 11 = .ok (.if_icmp .ge 33, 3) := by decide +kernel
theorem dX1_together_14 : decode cX1_together 14 = .ok (.iload 4, 2) := by decide +kernel
theorem dX1_together_16 : decode cX1_together 16 = .ok (.aload_n 1, 1) := by decide +kernel
theorem dX1_together_17 : decode cX1_together 17 = .ok (.arraylength, 1) := by decide +kernel
theorem dX1_together_18 : decode cX1_together 18 = .ok (.if_icmp .ge 26, 3) := by decide +kernel
theorem dX1_together_21 : decode cX1_together 21 = .ok (.iload_n 2, 1) := by decide +kernel
theorem dX1_together_22 : decode cX1_together 22 = .ok (.iload 4, 2) := by decide +kernel
theorem dX1_together_24 : decode cX1_together 24 = .ok (.ishr, 1) := by decide +kernel
theorem dX1_together_25 : decode cX1_together 25 = .ok (.iconst 1, 1) := by decide +kernel
theorem dX1_together_26 : decode cX1_together 26 = .ok (.iand, 1) := by decide +kernel
theorem dX1_together_27 : decode cX1_together 27 = .ok (.iconst 1, 1) := by decide +kernel
theorem dX1_together_28 : decode cX1_together 28 = .ok (.if_icmp .ne 10, 3) := by decide +kernel
theorem dX1_together_31 : decode cX1_together 31 = .ok (.iload_n 3, 1) := by decide +kernel
theorem dX1_together_32 : decode cX1_together 32 = .ok (.aload_n 1, 1) := by decide +kernel
theorem dX1_together_33 : decode cX1_together 33 = .ok (.iload 4, 2) := by decide +kernel
theorem dX1_together_35 : decode cX1_together 35 = .ok (.iaload, 1) := by decide +kernel
theorem dX1_together_36 : decode cX1_together 36 = .ok (.iadd, 1) := by decide +kernel
theorem dX1_together_37 : decode cX1_together 37 = .ok (.istore_n 3, 1) := by decide +kernel
theorem dX1_together_38 : decode cX1_together 38 = .ok (.iinc 4 1, 3) := by decide +kernel
theorem dX1_together_41 : decode cX1_together 41 = .ok (.goto (-36), 3) := by decide +kernel
theorem dX1_together_44 : decode cX1_together 44 = .ok (.iload_n 3, 1) := by decide +kernel
theorem dX1_together_45 : decode cX1_together 45 = .ok (.ireturn, 1) := by decide +kernel
theorem dX2_init_0 : decode cX2_init 0 = .ok (.aload_n 0, 1) := by decide +kernel
theorem dX2_init_1 : decode cX2_init 1 = .ok (.invokespecial 3, 3) := by decide +kernel
theorem dX2_init_4 : decode cX2_init 4 = .ok (.aload_n 0, 1) := by decide +kernel
theorem dX2_init_5 : decode cX2_init 5 = .ok (.bipush 60, 2) := by decide +kernel
theorem dX2_init_7 : decode cX2_init 7 = .ok (.newarray .int, 2) := by decide +kernel
theorem dX2_init_9 : decode cX2_init 9 = .ok (.putfield 9, 3) := by decide +kernel
theorem dX2_init_12 : decode cX2_init 12 = .ok (.aload_n 0, 1) := by decide +kernel
theorem dX2_init_13 : decode cX2_init 13 = .ok (.bipush 60, 2) := by decide +kernel
theorem dX2_init_15 : decode cX2_init 15 = .ok (.newarray .int, 2) := by decide +kernel
theorem dX2_init_17 : decode cX2_init 17 = .ok (.putfield 15, 3) := by decide +kernel
theorem dX2_init_20 : decode cX2_init 20 = .ok (.aload_n 0, 1) := by decide +kernel
theorem dX2_init_21 : decode cX2_init 21 = .ok (.bipush 60, 2) := by decide +kernel
theorem dX2_init_23 : decode cX2_init 23 = .ok (.newarray .int, 2) := by decide +kernel
theorem dX2_init_25 : decode cX2_init 25 = .ok (.putfield 18, 3) := by decide +kernel
theorem dX2_init_28 : decode cX2_init 28 = .ok (.aload_n 0, 1) := by decide +kernel
theorem dX2_init_29 : decode cX2_init 29 = .ok (.sipush 201, 3) := by decide +kernel
theorem dX2_init_32 : decode cX2_init 32 = .ok (.newarray .int, 2) := by decide +kernel
theorem dX2_init_34 : decode cX2_init 34 = .ok (.putfield 21, 3) := by decide +kernel
theorem dX2_init_37 : decode cX2_init 37 = .ok (.aload_n 0, 1) := by decide +kernel
theorem dX2_init_38 : decode cX2_init 38 = .ok (.sipush 1206, 3) := by decide +kernel
theorem dX2_init_41 : decode cX2_init 41 = .ok (.newarray .int, 2) := by decide +kernel
theorem dX2_init_43 : decode cX2_init 43 = .ok (.putfield 24, 3) := by decide +kernel
theorem dX2_init_46 : decode cX2_init 46 = .ok (.aload_n 0, 1) := by decide +kernel
theorem dX2_init_47 : decode cX2_init 47 = .ok (.bipush 6, 2) := by decide +kernel
theorem dX2_init_49 : decode cX2_init 49 = .ok (.newarray .int, 2) := by decide +kernel
theorem dX2_init_51 : decode cX2_init 51 = .ok (.putfield 27, 3) := by decide +kernel
theorem dX2_init_54 : decode cX2_init 54 = .ok (.aload_n 0, 1) := by decide +kernel
theorem dX2_init_55 : decode cX2_init 55 = .ok (.iconst 3, 1) := by decide +kernel
theorem dX2_init_56 : decode cX2_init 56 = .ok (.newarray .int, 2) := by decide +kernel
theorem dX2_init_58 : decode cX2_init 58 = .ok (.putfield 30, 3) := by decide +kernel
theorem dX2_init_61 : decode cX2_init 61 = .ok (.aload_n 0, 1) := by decide +kernel
theorem dX2_init_62 : decode cX2_init 62 = .ok (.iconst 3, 1) := by decide +kernel
theorem dX2_init_63 : decode cX2_init 63 = .ok (.newarray .int, 2) := by decide +kernel
theorem dX2_init_65 : decode cX2_init 65 = .ok (.putfield 33, 3) := by decide +kernel
theorem dX2_init_68 : decode cX2_init 68 = .ok (.return_, 1) := by decide +kernel
theorem dX2_add_0 : decode cX2_add 0 = .ok (.aload_n 0, 1) := by decide +kernel
theorem dX2_add_1 : decode cX2_add 1 = .ok (.getfield 36, 3) := by decide +kernel
theorem dX2_add_4 : decode cX2_add 4 = .ok (.bipush 60, 2) := by decide +kernel
theorem dX2_add_6 : decode cX2_add 6 = .ok (.if_icmp .ge 43, 3) := by decide +kernel
theorem dX2_add_9 : decode cX2_add 9 = .ok (.aload_n 0, 1) := by decide +kernel
theorem dX2_add_10 : decode cX2_add 10 = .ok (.getfield 9, 3) := by decide +kernel
theorem dX2_add_13 : decode cX2_add 13 = .ok (.aload_n 0, 1) := by decide +kernel
theorem dX2_add_14 : decode cX2_add 14 = .ok (.getfield 36, 3) := by decide +kernel
theorem dX2_add_17 : decode cX2_add 17 = .ok (.iload_n 1, 1) := by decide +kernel
theorem dX2_add_18 : decode cX2_add 18 = .ok (.iastore, 1) := by decide +kernel
theorem dX2_add_19 : decode cX2_add 19 = .ok (.aload_n 0, 1) := by decide +kernel
theorem dX2_add_20 : decode cX2_add 20 = .ok (.getfield 15, 3) := by decide +kernel
theorem dX2_add_23 : decode cX2_add 23 = .ok (.aload_n 0, 1) := by decide +kernel
theorem dX2_add_24 : decode cX2_add 24 = .ok (.getfield 36, 3) := by decide +kernel
theorem dX2_add_27 : decode cX2_add 27 = .ok (.iload_n 2, 1) := by decide +kernel
theorem dX2_add_28 : decode cX2_add 28 = .ok (.iastore, 1) := by decide +kernel
theorem dX2_add_29 : decode cX2_add 29 = .ok (.aload_n 0, 1) := by decide +kernel
theorem dX2_add_30 : decode cX2_add 30 = .ok (.getfield 18, 3) := by decide +kernel
theorem dX2_add_33 : decode cX2_add 33 = .ok (.aload_n 0, 1) := by decide +kernel
theorem dX2_add_34 : decode cX2_add 34 = .ok (.getfield 36, 3) := by decide +kernel
theorem dX2_add_37 : decode cX2_add 37 = .ok (.iload_n 3, 1) := by decide +kernel
theorem dX2_add_38 : decode cX2_add 38 = .ok (.iastore, 1) := by decide +kernel
theorem dX2_add_39 : decode cX2_add 39 = .ok (.aload_n 0, 1) := by decide +kernel
theorem dX2_add_40 : decode cX2_add 40 = .ok (.dup, 1) := by decide +kernel
theorem dX2_add_41 : decode cX2_add 41 = .ok (.getfield 36, 3) := by decide +kernel
theorem dX2_add_44 : decode cX2_add 44 = .ok (.iconst 1, 1) := by decide +kernel
theorem dX2_add_45 : decode cX2_add 45 = .ok (.iadd, 1) := by decide +kernel
theorem dX2_add_46 : decode cX2_add 46 = .ok (.putfield 36, 3) := by decide +kernel
theorem dX2_add_49 : decode cX2_add 49 = .ok (.aload_n 0, 1) := by decide +kernel
theorem dX2_add_50 : decode cX2_add 50 = .ok (.getfield 36, 3) := by decide +kernel
theorem dX2_add_53 : decode cX2_add 53 = .ok (.ireturn, 1) := by decide +kernel
theorem dX2_within_0 : decode cX2_within 0 = .ok (.iconst 0, 1) := by decide +kernel
theorem dX2_within_1 : decode cX2_within 1 = .ok (.istore_n 3, 1) := by decide +kernel
theorem dX2_within_2 : decode cX2_within 2 = .ok (.iconst 0, 1) := by decide +kernel
theorem dX2_within_3 : decode cX2_within 3 = .ok (.istore 4, 2) := by decide +kernel
theorem dX2_within_5 : decode cX2_within 5 = .ok (.iload 4, 2) := by decide +kernel
theorem dX2_within_7 : decode cX2_within 7 = .ok (.aload_n 0, 1) := by decide +kernel
theorem dX2_within_8 : decode cX2_within 8 = .ok (.getfield 36, 3) := by decide +kernel
theorem dX2_within_11 : decode cX2_within 11 = .ok (.if_icmp .ge 62, 3) := by decide +kernel
theorem dX2_within_14 : decode cX2_within 14 = .ok (.iload 4, 2) := by decide +kernel
theorem dX2_within_16 : decode cX2_within 16 = .ok (.bipush 60, 2) := by decide +kernel
theorem dX2_within_18 : decode cX2_within 18 = .ok (.if_icmp .ge 55, 3) := by decide +kernel
theorem dX2_within_21 : decode cX2_within 21 = .ok (.aload_n 0, 1) := by decide +kernel
theorem dX2_within_22 : decode cX2_within 22 = .ok (.getfield 9, 3) := by decide +kernel
theorem dX2_within_25 : decode cX2_within 25 = .ok (.iload 4, 2) := by decide +kernel
theorem dX2_within_27 : decode cX2_within 27 = .ok (.iaload, 1) := by decide +kernel
theorem dX2_within_28 : decode cX2_within 28 = .ok (.iload_n 1, 1) := by decide +kernel
theorem dX2_within_29 : decode cX2_within 29 = .ok (.if_icmp .ne 38, 3) := by decide +kernel
theorem dX2_within_32 : decode cX2_within 32 = .ok (.aload_n 0, 1) := by decide +kernel
theorem dX2_within_33 : decode cX2_within 33 = .ok (.getfield 15, 3) := by decide +kernel
theorem dX2_within_36 : decode cX2_within 36 = .ok (.iload 4, 2) := by decide +kernel
theorem dX2_within_38 : decode cX2_within 38 = .ok (.iaload, 1) := by decide +kernel
theorem dX2_within_39 : decode cX2_within 39 = .ok (.iload_n 2, 1) := by decide +kernel
theorem dX2_within_40 : decode cX2_within 40 = .ok (.if_icmp .gt 27, 3) := by decide +kernel
theorem dX2_within_43 : decode cX2_within 43 = .ok (.aload_n 0, 1) := by decide +kernel
theorem dX2_within_44 : decode cX2_within 44 = .ok (.getfield 15, 3) := by decide +kernel
theorem dX2_within_47 : decode cX2_within 47 = .ok (.iload 4, 2) := by decide +kernel
theorem dX2_within_49 : decode cX2_within 49 = .ok (.iaload, 1) := by decide +kernel
theorem dX2_within_50 : decode cX2_within 50 = .ok (.iload_n 2, 1) := by decide +kernel
theorem dX2_within_51 : decode cX2_within 51 = .ok (.bipush 90, 2) := by decide +kernel
theorem dX2_within_53 : decode cX2_within 53 = .ok (.isub, 1) := by decide +kernel
theorem dX2_within_54 : decode cX2_within 54 = .ok (.if_icmp .le 13, 3) := by decide +kernel
theorem dX2_within_57 : decode cX2_within 57 = .ok (.iload_n 3, 1) := by decide +kernel
theorem dX2_within_58 : decode cX2_within 58 = .ok (.aload_n 0, 1) := by decide +kernel
theorem dX2_within_59 : decode cX2_within 59 = .ok (.getfield 18, 3) := by decide +kernel
theorem dX2_within_62 : decode cX2_within 62 = .ok (.iload 4, 2) := by decide +kernel
theorem dX2_within_64 : decode cX2_within 64 = .ok (.iaload, 1) := by decide +kernel
theorem dX2_within_65 : decode cX2_within 65 = .ok (.iadd, 1) := by decide +kernel
theorem dX2_within_66 : decode cX2_within 66 = .ok (.istore_n 3, 1) := by decide +kernel
theorem dX2_within_67 : decode cX2_within 67 = .ok (.iinc 4 1, 3) := by decide +kernel
theorem dX2_within_70 : decode cX2_within 70 = .ok (.goto (-65), 3) := by decide +kernel
theorem dX2_within_73 : decode cX2_within 73 = .ok (.iload_n 3, 1) := by decide +kernel
theorem dX2_within_74 : decode cX2_within 74 = .ok (.ireturn, 1) := by decide +kernel
theorem dX2_part_0 : decode cX2_part 0 = .ok (.aload_n 0, 1) := by decide +kernel
theorem dX2_part_1 : decode cX2_part 1 = .ok (.iconst 1, 1) := by decide +kernel
theorem dX2_part_2 : decode cX2_part 2 = .ok (.iload 4, 2) := by decide +kernel
theorem dX2_part_4 : decode cX2_part 4 = .ok (.bipush 6, 2) := by decide +kernel
theorem dX2_part_6 : decode cX2_part 6 = .ok (.invokestatic 40, 3) := by decide +kernel
theorem dX2_part_9 : decode cX2_part 9 = .ok (.invokestatic 46, 3) := by decide +kernel
theorem dX2_part_12 : decode cX2_part 12 = .ok (.iconst 1, 1) := by decide +kernel
theorem dX2_part_13 : decode cX2_part 13 = .ok (.isub, 1) := by decide +kernel
theorem dX2_part_14 : decode cX2_part 14 = .ok (.putfield 49, 3) := by decide +kernel
theorem dX2_part_17 : decode cX2_part 17 = .ok (.aload_n 0, 1) := by decide +kernel
theorem dX2_part_18 : decode cX2_part 18 = .ok (.iconst 1, 1) := by decide +kernel
theorem dX2_part_19 : decode cX2_part 19 = .ok (.iload 5, 2) := by decide +kernel
theorem dX2_part_21 : decode cX2_part 21 = .ok (.invokestatic 46, 3) := by decide +kernel
theorem dX2_part_24 : decode cX2_part 24 = .ok (.putfield 52, 3) := by decide +kernel
theorem dX2_part_27 : decode cX2_part 27 = .ok (.aload_n 0, 1) := by decide +kernel
theorem dX2_part_28 : decode cX2_part 28 = .ok (.iconst 0, 1) := by decide +kernel
theorem dX2_part_29 : decode cX2_part 29 = .ok (.iload_n 3, 1) := by decide +kernel
theorem dX2_part_30 : decode cX2_part 30 = .ok (.sipush 200, 3) := by decide +kernel
theorem dX2_part_33 : decode cX2_part 33 = .ok (.invokestatic 40, 3) := by decide +kernel
theorem dX2_part_36 : decode cX2_part 36 = .ok (.invokestatic 46, 3) := by decide +kernel
theorem dX2_part_39 : decode cX2_part 39 = .ok (.aload_n 0, 1) := by decide +kernel
theorem dX2_part_40 : decode cX2_part 40 = .ok (.getfield 52, 3) := by decide +kernel
theorem dX2_part_43 : decode cX2_part 43 = .ok (.idiv, 1) := by decide +kernel
theorem dX2_part_44 : decode cX2_part 44 = .ok (.putfield 55, 3) := by decide +kernel
theorem dX2_part_47 : decode cX2_part 47 = .ok (.aload_n 0, 1) := by decide +kernel
theorem dX2_part_48 : decode cX2_part 48 = .ok (.iload_n 3, 1) := by decide +kernel
theorem dX2_part_49 : decode cX2_part 49 = .ok (.aload_n 0, 1) := by decide +kernel
theorem dX2_part_50 : decode cX2_part 50 = .ok (.getfield 55, 3) := by decide +kernel
theorem dX2_part_53 : decode cX2_part 53 = .ok (.aload_n 0, 1) := by decide +kernel
theorem dX2_part_54 : decode cX2_part 54 = .ok (.getfield 52, 3) := by decide +kernel
theorem dX2_part_57 : decode cX2_part 57 = .ok (.imul, 1) := by decide +kernel
theorem dX2_part_58 : decode cX2_part 58 = .ok (.isub, 1) := by decide +kernel
theorem dX2_part_59 : decode cX2_part 59 = .ok (.putfield 58, 3) := by decide +kernel
theorem dX2_part_62 : decode cX2_part 62 = .ok (.iconst 0, 1) := by decide +kernel
theorem dX2_part_63 : decode cX2_part 63 = .ok (.istore 6, 2) := by decide +kernel
theorem dX2_part_65 : decode cX2_part 65 = .ok (.iload 6, 2) := by decide +kernel
theorem dX2_part_67 : decode cX2_part 67 = .ok (.aload_n 0, 1) := by decide +kernel
theorem dX2_part_68 : decode cX2_part 68 = .ok (.getfield 49, 3) := by decide +kernel
theorem dX2_part_71 : decode cX2_part 71 = .ok (.if_icmp .gt 28, 3) := by decide +kernel
theorem dX2_part_74 : decode cX2_part 74 = .ok (.aload_n 0, 1) := by decide +kernel
theorem dX2_part_75 : decode cX2_part 75 = .ok (.getfield 27, 3) := by decide +kernel
theorem dX2_part_78 : decode cX2_part 78 = .ok (.iload 6, 2) := by decide +kernel
theorem dX2_part_80 : decode cX2_part 80 = .ok (.aload_n 0, 1) := by decide +kernel
theorem dX2_part_81 : decode cX2_part 81 = .ok (.iload_n 1, 1) := by decide +kernel
theorem dX2_part_82 : decode cX2_part 82 = .ok (.iload_n 2, 1) := by decide +kernel
theorem dX2_part_83 : decode cX2_part 83 = .ok (.bipush 7, 2) := by decide +kernel
theorem dX2_part_85 : decode cX2_part 85 = .ok (.iload 6, 2) := by decide +kernel
theorem dX2_part_87 : decode cX2_part 87 = .ok (.imul, 1) := by decide +kernel
theorem dX2_part_88 : decode cX2_part 88 = .ok (.iadd, 1) := by decide +kernel
theorem dX2_part_89 : decode cX2_part 89 = .ok (.invokevirtual 61, 3) := by decide +kernel
theorem dX2_part_92 : decode cX2_part 92 = .ok (.iastore, 1) := by decide +kernel
theorem dX2_part_93 : decode cX2_part 93 = .ok (.iinc 6 1, 3) := by decide +kernel
theorem dX2_part_96 : decode cX2_part 96 = .ok (.goto (-31), 3) := by decide +kernel
theorem dX2_part_99 : decode cX2_part 99 = .ok (.aload_n 0, 1) := by decide +kernel
theorem dX2_part_100 : decode cX2_part 100 = .ok (.iload_n 3, 1) := by decide +kernel
theorem dX2_part_101 : decode cX2_part 101 = .ok (.invokevirtual 64, 3) := by decide +kernel
theorem dX2_part_104 : decode cX2_part 104 = .ok (.aload_n 0, 1) := by decide +kernel
theorem dX2_part_105 : decode cX2_part 105 = .ok (.getfield 49, 3) := by decide +kernel
theorem dX2_part_108 : decode cX2_part 108 = .ok (.iconst 1, 1) := by decide +kernel
theorem dX2_part_109 : decode cX2_part 109 = .ok (.isub, 1) := by decide +kernel
theorem dX2_part_110 : decode cX2_part 110 = .ok (.istore 6, 2) := by decide +kernel
theorem dX2_part_112 : decode cX2_part 112 = .ok (.iload 6, 2) := by decide +kernel
theorem dX2_part_114 : decode cX2_part 114 = .ok (.ifCond .lt 15, 3) := by decide +kernel
theorem dX2_part_117 : decode cX2_part 117 = .ok (.aload_n 0, 1) := by decide +kernel
theorem dX2_part_118 : decode cX2_part 118 = .ok (.iload 6, 2) := by decide +kernel
theorem dX2_part_120 : decode cX2_part 120 = .ok (.invokevirtual 68, 3) := by decide +kernel
theorem dX2_part_123 : decode cX2_part 123 = .ok (.iinc 6 (-1), 3) := by decide +kernel
theorem dX2_part_126 : decode cX2_part 126 = .ok (.goto (-14), 3) := by decide +kernel
theorem dX2_part_129 : decode cX2_part 129 = .ok (.return_, 1) := by decide +kernel
theorem dX2_fillLastWeek_0 : decode cX2_fillLastWeek 0 = .ok (.aload_n 0, 1) := by decide +kernel
theorem dX2_fillLastWeek_1 : decode cX2_fillLastWeek 1 = .ok (.getfield 49, 3) := by decide +kernel
theorem dX2_fillLastWeek_4 : decode cX2_fillLastWeek 4 = .ok (.aload_n 0, 1) := by decide +kernel
theorem dX2_fillLastWeek_5 : decode cX2_fillLastWeek 5 = .ok (.getfield 27, 3) := by decide +kernel
theorem dX2_fillLastWeek_8 : decode cX2_fillLastWeek 8 = .ok (.aload_n 0, 1) := by decide +kernel
theorem dX2_fillLastWeek_9 : decode cX2_fillLastWeek 9 = .ok (.getfield 49, 3) := by decide +kernel
theorem dX2_fillLastWeek_12 : decode cX2_fillLastWeek 12 = .ok (.iaload, 1) := by decide +kernel
theorem dX2_fillLastWeek_13 : decode cX2_fillLastWeek 13 = .ok (.iload_n 1, 1) := by decide +kernel
theorem dX2_fillLastWeek_14 : decode cX2_fillLastWeek 14 = .ok (.iadd, 1) := by decide +kernel
theorem dX2_fillLastWeek_15 : decode cX2_fillLastWeek 15 = .ok (.invokestatic 71, 3) := by decide +kernel
theorem dX2_fillLastWeek_18 : decode cX2_fillLastWeek 18 = .ok (.invokestatic 75, 3) := by decide +kernel
theorem dX2_fillLastWeek_21 : decode cX2_fillLastWeek 21 = .ok (.istore_n 2, 1) := by decide +kernel
theorem dX2_fillLastWeek_22 : decode cX2_fillLastWeek 22 = .ok (.iconst 0, 1) := by decide +kernel
theorem dX2_fillLastWeek_23 : decode cX2_fillLastWeek 23 = .ok (.istore_n 3, 1) := by decide +kernel
theorem dX2_fillLastWeek_24 : decode cX2_fillLastWeek 24 = .ok (.iload_n 3, 1) := by decide +kernel
theorem dX2_fillLastWeek_25 : decode cX2_fillLastWeek 25 = .ok (.aload_n 0, 1) := by decide +kernel
theorem dX2_fillLastWeek_26 : decode cX2_fillLastWeek 26 = .ok (.getfield 55, 3) := by decide +kernel
theorem dX2_fillLastWeek_29 : decode cX2_fillLastWeek 29 = .ok (.if_icmp .gt 33, 3) := by decide +kernel
theorem dX2_fillLastWeek_32 : decode cX2_fillLastWeek 32 = .ok (.aload_n 0, 1) := by decide +kernel
theorem dX2_fillLastWeek_33 : decode cX2_fillLastWeek 33 = .ok (.getfield 21, 3) := by decide +kernel
theorem dX2_fillLastWeek_36 : decode cX2_fillLastWeek 36 = .ok (.iload_n 3, 1) := by decide +kernel
theorem dX2_fillLastWeek_37 : decode cX2_fillLastWeek 37 = .ok (.aload_n 0, 1) := by decide +kernel
theorem dX2_fillLastWeek_38 : decode cX2_fillLastWeek 38 = .ok (.getfield 55, 3) := by decide +kernel
theorem dX2_fillLastWeek_41 : decode cX2_fillLastWeek 41 = .ok (.iload_n 3, 1) := by decide +kernel
theorem dX2_fillLastWeek_42 : decode cX2_fillLastWeek 42 = .ok (.isub, 1) := by decide +kernel
theorem dX2_fillLastWeek_43 : decode cX2_fillLastWeek 43 = .ok (.aload_n 0, 1) := by decide +kernel
theorem dX2_fillLastWeek_44 : decode cX2_fillLastWeek 44 = .ok (.getfield 52, 3) := by decide +kernel
theorem dX2_fillLastWeek_47 : decode cX2_fillLastWeek 47 = .ok (.imul, 1) := by decide +kernel
theorem dX2_fillLastWeek_48 : decode cX2_fillLastWeek 48 = .ok (.aload_n 0, 1) := by decide +kernel
theorem dX2_fillLastWeek_49 : decode cX2_fillLastWeek 49 = .ok (.getfield 58, 3) := by decide +kernel
theorem dX2_fillLastWeek_52 : decode cX2_fillLastWeek 52 = .ok (.iadd, 1) := by decide +kernel
theorem dX2_fillLastWeek_53 : decode cX2_fillLastWeek 53 = .ok (.iload_n 2, 1) := by decide +kernel
theorem dX2_fillLastWeek_54 : decode cX2_fillLastWeek 54 = .ok (.imul, 1) := by decide +kernel
theorem dX2_fillLastWeek_55 : decode cX2_fillLastWeek 55 = .ok (.iastore, 1) := by decide +kernel
theorem dX2_fillLastWeek_56 : decode cX2_fillLastWeek 56 = .ok (.iinc 3 1, 3) := by decide +kernel
theorem dX2_fillLastWeek_59 : decode cX2_fillLastWeek 59 = .ok (.goto (-35), 3) := by decide +kernel
theorem dX2_fillLastWeek_62 : decode cX2_fillLastWeek 62 = .ok (.return_, 1) := by decide +kernel
theorem dX2_weeksEach_0 : decode cX2_weeksEach 0 = .ok (.iload_n 1, 1) := by decide +kernel
theorem dX2_weeksEach_1 : decode cX2_weeksEach 1 = .ok (.invokestatic 78, 3) := by decide +kernel
theorem dX2_weeksEach_4 : decode cX2_weeksEach 4 = .ok (.bipush 7, 2) := by decide +kernel
theorem dX2_weeksEach_6 : decode cX2_weeksEach 6 = .ok (.iadd, 1) := by decide +kernel
theorem dX2_weeksEach_7 : decode cX2_weeksEach 7 = .ok (.iconst 1, 1) := by decide +kernel
theorem dX2_weeksEach_8 : decode cX2_weeksEach 8 = .ok (.isub, 1) := by decide +kernel
theorem dX2_weeksEach_9 : decode cX2_weeksEach 9 = .ok (.bipush 7, 2) := by decide +kernel
theorem dX2_weeksEach_11 : decode cX2_weeksEach 11 = .ok (.idiv, 1) := by decide +kernel
theorem dX2_weeksEach_12 : decode cX2_weeksEach 12 = .ok (.iload_n 0, 1) := by decide +kernel
theorem dX2_weeksEach_13 : decode cX2_weeksEach 13 = .ok (.iadd, 1) := by decide +kernel
theorem dX2_weeksEach_14 : decode cX2_weeksEach 14 = .ok (.ireturn, 1) := by decide +kernel
theorem dX2_fillWeek_0 : decode cX2_fillWeek 0 = .ok (.aload_n 0, 1) := by decide +kernel
theorem dX2_fillWeek_1 : decode cX2_fillWeek 1 = .ok (.getfield 33, 3) := by decide +kernel
theorem dX2_fillWeek_4 : decode cX2_fillWeek 4 = .ok (.iconst (-1), 1) := by decide +kernel
theorem dX2_fillWeek_5 : decode cX2_fillWeek 5 = .ok (.invokestatic 81, 3) := by decide +kernel
theorem dX2_fillWeek_8 : decode cX2_fillWeek 8 = .ok (.aload_n 0, 1) := by decide +kernel
theorem dX2_fillWeek_9 : decode cX2_fillWeek 9 = .ok (.getfield 55, 3) := by decide +kernel
theorem dX2_fillWeek_12 : decode cX2_fillWeek 12 = .ok (.istore_n 2, 1) := by decide +kernel
theorem dX2_fillWeek_13 : decode cX2_fillWeek 13 = .ok (.iload_n 2, 1) := by decide +kernel
theorem dX2_fillWeek_14 : decode cX2_fillWeek 14 = .ok (.ifCond .lt 21, 3) := by decide +kernel
theorem dX2_fillWeek_17 : decode cX2_fillWeek 17 = .ok (.aload_n 0, 1) := by decide +kernel
theorem dX2_fillWeek_18 : decode cX2_fillWeek 18 = .ok (.iload_n 1, 1) := by decide +kernel
theorem dX2_fillWeek_19 : decode cX2_fillWeek 19 = .ok (.iload_n 2, 1) := by decide +kernel
theorem dX2_fillWeek_20 : decode cX2_fillWeek 20 = .ok (.invokevirtual 87, 3) := by decide +kernel
theorem dX2_fillWeek_23 : decode cX2_fillWeek 23 = .ok (.aload_n 0, 1) := by decide +kernel
theorem dX2_fillWeek_24 : decode cX2_fillWeek 24 = .ok (.iload_n 1, 1) := by decide +kernel
theorem dX2_fillWeek_25 : decode cX2_fillWeek 25 = .ok (.iload_n 2, 1) := by decide +kernel
theorem dX2_fillWeek_26 : decode cX2_fillWeek 26 = .ok (.invokevirtual 91, 3) := by decide +kernel
theorem dX2_fillWeek_29 : decode cX2_fillWeek 29 = .ok (.iinc 2 (-1), 3) := by decide +kernel
theorem dX2_fillWeek_32 : decode cX2_fillWeek 32 = .ok (.goto (-19), 3) := by decide +kernel
theorem dX2_fillWeek_35 : decode cX2_fillWeek 35 = .ok (.return_, 1) := by decide +kernel
theorem dX2_keepLeast_0 : decode cX2_keepLeast 0 = .ok (.aload_n 0, 1) := by decide +kernel
theorem dX2_keepLeast_1 : decode cX2_keepLeast 1 = .ok (.getfield 27, 3) := by decide +kernel
theorem dX2_keepLeast_4 : decode cX2_keepLeast 4 = .ok (.iload_n 1, 1) := by decide +kernel
theorem dX2_keepLeast_5 : decode cX2_keepLeast 5 = .ok (.iaload, 1) := by decide +kernel
theorem dX2_keepLeast_6 : decode cX2_keepLeast 6 = .ok (.iload_n 2, 1) := by decide +kernel
theorem dX2_keepLeast_7 : decode cX2_keepLeast 7 = .ok (.aload_n 0, 1) := by decide +kernel
theorem dX2_keepLeast_8 : decode cX2_keepLeast 8 = .ok (.getfield 52, 3) := by decide +kernel
theorem dX2_keepLeast_11 : decode cX2_keepLeast 11 = .ok (.imul, 1) := by decide +kernel
theorem dX2_keepLeast_12 : decode cX2_keepLeast 12 = .ok (.iadd, 1) := by decide +kernel
theorem dX2_keepLeast_13 : decode cX2_keepLeast 13 = .ok (.invokestatic 71, 3) := by decide +kernel
theorem dX2_keepLeast_16 : decode cX2_keepLeast 16 = .ok (.istore_n 3, 1) := by decide +kernel
theorem dX2_keepLeast_17 : decode cX2_keepLeast 17 = .ok (.iload_n 2, 1) := by decide +kernel
theorem dX2_keepLeast_18 : decode cX2_keepLeast 18 = .ok (.aload_n 0, 1) := by decide +kernel
theorem dX2_keepLeast_19 : decode cX2_keepLeast 19 = .ok (.getfield 52, 3) := by decide +kernel
theorem dX2_keepLeast_22 : decode cX2_keepLeast 22 = .ok (.imul, 1) := by decide +kernel
theorem dX2_keepLeast_23 : decode cX2_keepLeast 23 = .ok (.iload_n 1, 1) := by decide +kernel
theorem dX2_keepLeast_24 : decode cX2_keepLeast 24 = .ok (.iload_n 3, 1) := by decide +kernel
theorem dX2_keepLeast_25 : decode cX2_keepLeast 25 = .ok (.invokestatic 75, 3) := by decide +kernel
theorem dX2_keepLeast_28 : decode cX2_keepLeast 28 = .ok (.imul, 1) := by decide +kernel
theorem dX2_keepLeast_29 : decode cX2_keepLeast 29 = .ok (.aload_n 0, 1) := by decide +kernel
theorem dX2_keepLeast_30 : decode cX2_keepLeast 30 = .ok (.getfield 21, 3) := by decide +kernel
theorem dX2_keepLeast_33 : decode cX2_keepLeast 33 = .ok (.iload_n 2, 1) := by decide +kernel
theorem dX2_keepLeast_34 : decode cX2_keepLeast 34 = .ok (.iaload, 1) := by decide +kernel
theorem dX2_keepLeast_35 : decode cX2_keepLeast 35 = .ok (.iadd, 1) := by decide +kernel
theorem dX2_keepLeast_36 : decode cX2_keepLeast 36 = .ok (.istore 4, 2) := by decide +kernel
theorem dX2_keepLeast_38 : decode cX2_keepLeast 38 = .ok (.aload_n 0, 1) := by decide +kernel
theorem dX2_keepLeast_39 : decode cX2_keepLeast 39 = .ok (.getfield 33, 3) := by decide +kernel
theorem dX2_keepLeast_42 : decode cX2_keepLeast 42 = .ok (.iload_n 3, 1) := by decide +kernel
theorem dX2_keepLeast_43 : decode cX2_keepLeast 43 = .ok (.iaload, 1) := by decide +kernel
theorem dX2_keepLeast_44 : decode cX2_keepLeast 44 = .ok (.ifCond .lt 14, 3) := by decide +kernel
theorem dX2_keepLeast_47 : decode cX2_keepLeast 47 = .ok (.iload 4, 2) := by decide +kernel
theorem dX2_keepLeast_49 : decode cX2_keepLeast 49 = .ok (.aload_n 0, 1) := by decide +kernel
theorem dX2_keepLeast_50 : decode cX2_keepLeast 50 = .ok (.getfield 30, 3) := by decide +kernel
theorem dX2_keepLeast_53 : decode cX2_keepLeast 53 = .ok (.iload_n 3, 1) := by decide +kernel
theorem dX2_keepLeast_54 : decode cX2_keepLeast 54 = .ok (.iaload, 1) := by decide +kernel
theorem dX2_keepLeast_55 : decode cX2_keepLeast 55 = .ok (.if_icmp .ge 18, 3) := by decide +kernel
theorem dX2_keepLeast_58 : decode cX2_keepLeast 58 = .ok (.aload_n 0, 1) := by decide +kernel
theorem dX2_keepLeast_59 : decode cX2_keepLeast 59 = .ok (.getfield 30, 3) := by decide +kernel
theorem dX2_keepLeast_62 : decode cX2_keepLeast 62 = .ok (.iload_n 3, 1) := by decide +kernel
theorem dX2_keepLeast_63 : decode cX2_keepLeast 63 = .ok (.iload 4, 2) := by decide +kernel
theorem dX2_keepLeast_65 : decode cX2_keepLeast 65 = .ok (.iastore, 1) := by decide +kernel
theorem dX2_keepLeast_66 : decode cX2_keepLeast 66 = .ok (.aload_n 0, 1) := by decide +kernel
theorem dX2_keepLeast_67 : decode cX2_keepLeast 67 = .ok (.getfield 33, 3) := by decide +kernel
theorem dX2_keepLeast_70 : decode cX2_keepLeast 70 = .ok (.iload_n 3, 1) := by decide +kernel
theorem dX2_keepLeast_71 : decode cX2_keepLeast 71 = .ok (.iload_n 2, 1) := by decide +kernel
theorem dX2_keepLeast_72 : decode cX2_keepLeast 72 = .ok (.iastore, 1) := by decide +kernel
theorem dX2_keepLeast_73 : decode cX2_keepLeast 73 = .ok (.return_, 1) := by decide +kernel
theorem dX2_takeLeast_0 : decode cX2_takeLeast 0 = .ok (.iconst (-1), 1) := by decide +kernel
theorem dX2_takeLeast_1 : decode cX2_takeLeast 1 = .ok (.istore_n 3, 1) := by decide +kernel
theorem dX2_takeLeast_2 : decode cX2_takeLeast 2 = .ok (.iload_n 2, 1) := by decide +kernel
theorem dX2_takeLeast_3 : decode cX2_takeLeast 3 = .ok (.istore 4, 2) := by decide +kernel
theorem dX2_takeLeast_5 : decode cX2_takeLeast 5 = .ok (.iconst 2, 1) := by decide +kernel
theorem dX2_takeLeast_6 : decode cX2_takeLeast 6 = .ok (.istore 5, 2) := by decide +kernel
theorem dX2_takeLeast_8 : decode cX2_takeLeast 8 = .ok (.iload 5, 2) := by decide +kernel
theorem dX2_takeLeast_10 : decode cX2_takeLeast 10 = .ok (.ifCond .lt 64, 3) := by decide +kernel
theorem dX2_takeLeast_13 : decode cX2_takeLeast 13 = .ok (.aload_n 0, 1) := by decide +kernel
theorem dX2_takeLeast_14 : decode cX2_takeLeast 14 = .ok (.getfield 33, 3) := by decide +kernel
theorem dX2_takeLeast_17 : decode cX2_takeLeast 17 = .ok (.iload 5, 2) := by decide +kernel
theorem dX2_takeLeast_19 : decode cX2_takeLeast 19 = .ok (.iaload, 1) := by decide +kernel
theorem dX2_takeLeast_20 : decode cX2_takeLeast 20 = .ok (.ifCond .lt 48, 3) := by decide +kernel
theorem dX2_takeLeast_23 : decode cX2_takeLeast 23 = .ok (.aload_n 0, 1) := by decide +kernel
theorem dX2_takeLeast_24 : decode cX2_takeLeast 24 = .ok (.getfield 30, 3) := by decide +kernel
theorem dX2_takeLeast_27 : decode cX2_takeLeast 27 = .ok (.iload 5, 2) := by decide +kernel
theorem dX2_takeLeast_29 : decode cX2_takeLeast 29 = .ok (.iaload, 1) := by decide +kernel
theorem dX2_takeLeast_30 : decode cX2_takeLeast 30 = .ok (.iload_n 2, 1) := by decide +kernel
theorem dX2_takeLeast_31 : decode cX2_takeLeast 31 = .ok (.aload_n 0, 1) := by decide +kernel
theorem dX2_takeLeast_32 : decode cX2_takeLeast 32 = .ok (.getfield 52, 3) := by decide +kernel
theorem dX2_takeLeast_35 : decode cX2_takeLeast 35 = .ok (.imul, 1) := by decide +kernel
theorem dX2_takeLeast_36 : decode cX2_takeLeast 36 = .ok (.iload_n 1, 1) := by decide +kernel
theorem dX2_takeLeast_37 : decode cX2_takeLeast 37 = .ok (.iload 5, 2) := by decide +kernel
theorem dX2_takeLeast_39 : decode cX2_takeLeast 39 = .ok (.invokestatic 75, 3) := by decide +kernel
theorem dX2_takeLeast_42 : decode cX2_takeLeast 42 = .ok (.imul, 1) := by decide +kernel
theorem dX2_takeLeast_43 : decode cX2_takeLeast 43 = .ok (.isub, 1) := by decide +kernel
theorem dX2_takeLeast_44 : decode cX2_takeLeast 44 = .ok (.istore 6, 2) := by decide +kernel
theorem dX2_takeLeast_46 : decode cX2_takeLeast 46 = .ok (.iload_n 3, 1) := by decide +kernel
theorem dX2_takeLeast_47 : decode cX2_takeLeast 47 = .ok (.ifCond .lt 9, 3) := by decide +kernel
theorem dX2_takeLeast_50 : decode cX2_takeLeast 50 = .ok (.iload 6, 2) := by decide +kernel
theorem dX2_takeLeast_52 : decode cX2_takeLeast 52 = .ok (.iload_n 3, 1) := by decide +kernel
theorem dX2_takeLeast_53 : decode cX2_takeLeast 53 = .ok (.if_icmp .ge 15, 3) := by decide +kernel
theorem dX2_takeLeast_56 : decode cX2_takeLeast 56 = .ok (.iload 6, 2) := by decide +kernel
theorem dX2_takeLeast_58 : decode cX2_takeLeast 58 = .ok (.istore_n 3, 1) := by decide +kernel
theorem dX2_takeLeast_59 : decode cX2_takeLeast 59 = .ok (.aload_n 0, 1) := by decide +kernel
theorem dX2_takeLeast_60 : decode cX2_takeLeast 60 = .ok (.getfield 33, 3) := by decide +kernel
theorem dX2_takeLeast_63 : decode cX2_takeLeast 63 = .ok (.iload 5, 2) := by decide +kernel
theorem dX2_takeLeast_65 : decode cX2_takeLeast 65 = .ok (.iaload, 1) := by decide +kernel
theorem dX2_takeLeast_66 : decode cX2_takeLeast 66 = .ok (.istore 4, 2) := by decide +kernel
theorem dX2_takeLeast_68 : decode cX2_takeLeast 68 = .ok (.iinc 5 (-1), 3) := by decide +kernel
theorem dX2_takeLeast_71 : decode cX2_takeLeast 71 = .ok (.goto (-63), 3) := by decide +kernel
theorem dX2_takeLeast_74 : decode cX2_takeLeast 74 = .ok (.aload_n 0, 1) := by decide +kernel
theorem dX2_takeLeast_75 : decode cX2_takeLeast 75 = .ok (.getfield 21, 3) := by decide +kernel
theorem dX2_takeLeast_78 : decode cX2_takeLeast 78 = .ok (.iload_n 2, 1) := by decide +kernel
theorem dX2_takeLeast_79 : decode cX2_takeLeast 79 = .ok (.iload_n 3, 1) := by decide +kernel
theorem dX2_takeLeast_80 : decode cX2_takeLeast 80 = .ok (.iastore, 1) := by decide +kernel
theorem dX2_takeLeast_81 : decode cX2_takeLeast 81 = .ok (.aload_n 0, 1) := by decide +kernel
theorem dX2_takeLeast_82 : decode cX2_takeLeast 82 = .ok (.getfield 24, 3) := by decide +kernel
theorem dX2_takeLeast_85 : decode cX2_takeLeast 85 = .ok (.iload_n 1, 1) := by decide +kernel
theorem dX2_takeLeast_86 : decode cX2_takeLeast 86 = .ok (.sipush 201, 3) := by decide +kernel
theorem dX2_takeLeast_89 : decode cX2_takeLeast 89 = .ok (.imul, 1) := by decide +kernel
theorem dX2_takeLeast_90 : decode cX2_takeLeast 90 = .ok (.iload_n 2, 1) := by decide +kernel
theorem dX2_takeLeast_91 : decode cX2_takeLeast 91 = .ok (.iadd, 1) := by decide +kernel
theorem dX2_takeLeast_92 : decode cX2_takeLeast 92 = .ok (.iload 4, 2) := by decide +kernel
theorem dX2_takeLeast_94 : decode cX2_takeLeast 94 = .ok (.iastore, 1) := by decide +kernel
theorem dX2_takeLeast_95 : decode cX2_takeLeast 95 = .ok (.return_, 1) := by decide +kernel
theorem dX2_weeksPaid_0 : decode cX2_weeksPaid 0 = .ok (.aload_n 0, 1) := by decide +kernel
theorem dX2_weeksPaid_1 : decode cX2_weeksPaid 1 = .ok (.getfield 21, 3) := by decide +kernel
theorem dX2_weeksPaid_4 : decode cX2_weeksPaid 4 = .ok (.iconst 0, 1) := by decide +kernel
theorem dX2_weeksPaid_5 : decode cX2_weeksPaid 5 = .ok (.iaload, 1) := by decide +kernel
theorem dX2_weeksPaid_6 : decode cX2_weeksPaid 6 = .ok (.ireturn, 1) := by decide +kernel
theorem dX2_partIn_0 : decode cX2_partIn 0 = .ok (.iconst 0, 1) := by decide +kernel
theorem dX2_partIn_1 : decode cX2_partIn 1 = .ok (.istore_n 2, 1) := by decide +kernel
theorem dX2_partIn_2 : decode cX2_partIn 2 = .ok (.iconst 0, 1) := by decide +kernel
theorem dX2_partIn_3 : decode cX2_partIn 3 = .ok (.istore_n 3, 1) := by decide +kernel
theorem dX2_partIn_4 : decode cX2_partIn 4 = .ok (.iload_n 3, 1) := by decide +kernel
theorem dX2_partIn_5 : decode cX2_partIn 5 = .ok (.iload_n 1, 1) := by decide +kernel
theorem dX2_partIn_6 : decode cX2_partIn 6 = .ok (.if_icmp .ge 24, 3) := by decide +kernel
theorem dX2_partIn_9 : decode cX2_partIn 9 = .ok (.iload_n 3, 1) := by decide +kernel
theorem dX2_partIn_10 : decode cX2_partIn 10 = .ok (.aload_n 0, 1) := by decide +kernel
theorem dX2_partIn_11 : decode cX2_partIn 11 = .ok (.getfield 49, 3) := by decide +kernel
theorem dX2_partIn_14 : decode cX2_partIn 14 = .ok (.if_icmp .ge 16, 3) := by decide +kernel
theorem dX2_partIn_17 : decode cX2_partIn 17 = .ok (.aload_n 0, 1) := by decide +kernel
theorem dX2_partIn_18 : decode cX2_partIn 18 = .ok (.iload_n 3, 1) := by decide +kernel
theorem dX2_partIn_19 : decode cX2_partIn 19 = .ok (.iload_n 2, 1) := by decide +kernel
theorem dX2_partIn_20 : decode cX2_partIn 20 = .ok (.invokevirtual 94, 3) := by decide +kernel
theorem dX2_partIn_23 : decode cX2_partIn 23 = .ok (.istore_n 2, 1) := by decide +kernel
theorem dX2_partIn_24 : decode cX2_partIn 24 = .ok (.iinc 3 1, 3) := by decide +kernel
theorem dX2_partIn_27 : decode cX2_partIn 27 = .ok (.goto (-23), 3) := by decide +kernel
theorem dX2_partIn_30 : decode cX2_partIn 30 = .ok (.iload_n 1, 1) := by decide +kernel
theorem dX2_partIn_31 : decode cX2_partIn 31 = .ok (.aload_n 0, 1) := by decide +kernel
theorem dX2_partIn_32 : decode cX2_partIn 32 = .ok (.getfield 49, 3) := by decide +kernel
theorem dX2_partIn_35 : decode cX2_partIn 35 = .ok (.if_icmp .ne 20, 3) := by decide +kernel
theorem dX2_partIn_38 : decode cX2_partIn 38 = .ok (.aload_n 0, 1) := by decide +kernel
theorem dX2_partIn_39 : decode cX2_partIn 39 = .ok (.getfield 55, 3) := by decide +kernel
theorem dX2_partIn_42 : decode cX2_partIn 42 = .ok (.iload_n 2, 1) := by decide +kernel
theorem dX2_partIn_43 : decode cX2_partIn 43 = .ok (.isub, 1) := by decide +kernel
theorem dX2_partIn_44 : decode cX2_partIn 44 = .ok (.aload_n 0, 1) := by decide +kernel
theorem dX2_partIn_45 : decode cX2_partIn 45 = .ok (.getfield 52, 3) := by decide +kernel
theorem dX2_partIn_48 : decode cX2_partIn 48 = .ok (.imul, 1) := by decide +kernel
theorem dX2_partIn_49 : decode cX2_partIn 49 = .ok (.aload_n 0, 1) := by decide +kernel
theorem dX2_partIn_50 : decode cX2_partIn 50 = .ok (.getfield 58, 3) := by decide +kernel
theorem dX2_partIn_53 : decode cX2_partIn 53 = .ok (.iadd, 1) := by decide +kernel
theorem dX2_partIn_54 : decode cX2_partIn 54 = .ok (.ireturn, 1) := by decide +kernel
theorem dX2_partIn_55 : decode cX2_partIn 55 = .ok (.aload_n 0, 1) := by decide +kernel
theorem dX2_partIn_56 : decode cX2_partIn 56 = .ok (.iload_n 1, 1) := by decide +kernel
theorem dX2_partIn_57 : decode cX2_partIn 57 = .ok (.iload_n 2, 1) := by decide +kernel
theorem dX2_partIn_58 : decode cX2_partIn 58 = .ok (.invokevirtual 94, 3) := by decide +kernel
theorem dX2_partIn_61 : decode cX2_partIn 61 = .ok (.iload_n 2, 1) := by decide +kernel
theorem dX2_partIn_62 : decode cX2_partIn 62 = .ok (.isub, 1) := by decide +kernel
theorem dX2_partIn_63 : decode cX2_partIn 63 = .ok (.aload_n 0, 1) := by decide +kernel
theorem dX2_partIn_64 : decode cX2_partIn 64 = .ok (.getfield 52, 3) := by decide +kernel
theorem dX2_partIn_67 : decode cX2_partIn 67 = .ok (.imul, 1) := by decide +kernel
theorem dX2_partIn_68 : decode cX2_partIn 68 = .ok (.ireturn, 1) := by decide +kernel
theorem dX2_behind_0 : decode cX2_behind 0 = .ok (.iload_n 1, 1) := by decide +kernel
theorem dX2_behind_1 : decode cX2_behind 1 = .ok (.sipush 201, 3) := by decide +kernel
theorem dX2_behind_4 : decode cX2_behind 4 = .ok (.imul, 1) := by decide +kernel
theorem dX2_behind_5 : decode cX2_behind 5 = .ok (.iload_n 2, 1) := by decide +kernel
theorem dX2_behind_6 : decode cX2_behind 6 = .ok (.iadd, 1) := by decide +kernel
theorem dX2_behind_7 : decode cX2_behind 7 = .ok (.istore_n 3, 1) := by decide +kernel
theorem dX2_behind_8 : decode cX2_behind 8 = .ok (.iload_n 3, 1) := by decide +kernel
theorem dX2_behind_9 : decode cX2_behind 9 = .ok (.ifCond .lt 21, 3) := by decide +kernel
theorem dX2_behind_12 : decode cX2_behind 12 = .ok (.iload_n 3, 1) := by decide +kernel
theorem dX2_behind_13 : decode cX2_behind 13 = .ok (.aload_n 0, 1) := by decide +kernel
theorem dX2_behind_14 : decode cX2_behind 14 = .ok (.getfield 24, 3) := by decide +kernel
theorem dX2_behind_17 : decode cX2_behind 17 = .ok (.arraylength, 1) := by decide +kernel
theorem dX2_behind_18 : decode cX2_behind 18 = .ok (.if_icmp .ge 12, 3) := by decide +kernel
theorem dX2_behind_21 : decode cX2_behind 21 = .ok (.aload_n 0, 1) := by decide +kernel
theorem dX2_behind_22 : decode cX2_behind 22 = .ok (.getfield 24, 3) := by decide +kernel
theorem dX2_behind_25 : decode cX2_behind 25 = .ok (.iload_n 3, 1) := by decide +kernel
theorem dX2_behind_26 : decode cX2_behind 26 = .ok (.iaload, 1) := by decide +kernel
theorem dX2_behind_27 : decode cX2_behind 27 = .ok (.goto 4, 3) := by decide +kernel
theorem dX2_behind_30 : decode cX2_behind 30 = .ok (.iload_n 2, 1) := by decide +kernel
theorem dX2_behind_31 : decode cX2_behind 31 = .ok (.ireturn, 1) := by decide +kernel
theorem dX3_init_0 : decode cX3_init 0 = .ok (.aload_n 0, 1) := by decide +kernel
theorem dX3_init_1 : decode cX3_init 1 = .ok (.invokespecial 3, 3) := by decide +kernel
theorem dX3_init_4 : decode cX3_init 4 = .ok (.aload_n 0, 1) := by decide +kernel
theorem dX3_init_5 : decode cX3_init 5 = .ok (.bipush 12, 2) := by decide +kernel
theorem dX3_init_7 : decode cX3_init 7 = .ok (.newarray .int, 2) := by decide +kernel
theorem dX3_init_9 : decode cX3_init 9 = .ok (.putfield 9, 3) := by decide +kernel
theorem dX3_init_12 : decode cX3_init 12 = .ok (.aload_n 0, 1) := by decide +kernel
theorem dX3_init_13 : decode cX3_init 13 = .ok (.bipush 40, 2) := by decide +kernel
theorem dX3_init_15 : decode cX3_init 15 = .ok (.anewarray 15, 3) := by decide +kernel
theorem dX3_init_18 : decode cX3_init 18 = .ok (.putfield 17, 3) := by decide +kernel
theorem dX3_init_21 : decode cX3_init 21 = .ok (.aload_n 0, 1) := by decide +kernel
theorem dX3_init_22 : decode cX3_init 22 = .ok (.bipush 40, 2) := by decide +kernel
theorem dX3_init_24 : decode cX3_init 24 = .ok (.anewarray 21, 3) := by decide +kernel
theorem dX3_init_27 : decode cX3_init 27 = .ok (.putfield 23, 3) := by decide +kernel
theorem dX3_init_30 : decode cX3_init 30 = .ok (.aload_n 0, 1) := by decide +kernel
theorem dX3_init_31 : decode cX3_init 31 = .ok (.bipush 120, 2) := by decide +kernel
theorem dX3_init_33 : decode cX3_init 33 = .ok (.anewarray 27, 3) := by decide +kernel
theorem dX3_init_36 : decode cX3_init 36 = .ok (.putfield 29, 3) := by decide +kernel
theorem dX3_init_39 : decode cX3_init 39 = .ok (.aload_n 0, 1) := by decide +kernel
theorem dX3_init_40 : decode cX3_init 40 = .ok (.iconst 4, 1) := by decide +kernel
theorem dX3_init_41 : decode cX3_init 41 = .ok (.newarray .int, 2) := by decide +kernel
theorem dX3_init_43 : decode cX3_init 43 = .ok (.dup, 1) := by decide +kernel
theorem dX3_init_44 : decode cX3_init 44 = .ok (.iconst 0, 1) := by decide +kernel
theorem dX3_init_45 : decode cX3_init 45 = .ok (.iconst 4, 1) := by decide +kernel
theorem dX3_init_46 : decode cX3_init 46 = .ok (.iastore, 1) := by decide +kernel
theorem dX3_init_47 : decode cX3_init 47 = .ok (.dup, 1) := by decide +kernel
theorem dX3_init_48 : decode cX3_init 48 = .ok (.iconst 1, 1) := by decide +kernel
theorem dX3_init_49 : decode cX3_init 49 = .ok (.iconst 3, 1) := by decide +kernel
theorem dX3_init_50 : decode cX3_init 50 = .ok (.iastore, 1) := by decide +kernel
theorem dX3_init_51 : decode cX3_init 51 = .ok (.dup, 1) := by decide +kernel
theorem dX3_init_52 : decode cX3_init 52 = .ok (.iconst 2, 1) := by decide +kernel
theorem dX3_init_53 : decode cX3_init 53 = .ok (.iconst 2, 1) := by decide +kernel
theorem dX3_init_54 : decode cX3_init 54 = .ok (.iastore, 1) := by decide +kernel
theorem dX3_init_55 : decode cX3_init 55 = .ok (.dup, 1) := by decide +kernel
theorem dX3_init_56 : decode cX3_init 56 = .ok (.iconst 3, 1) := by decide +kernel
theorem dX3_init_57 : decode cX3_init 57 = .ok (.iconst 1, 1) := by decide +kernel
theorem dX3_init_58 : decode cX3_init 58 = .ok (.iastore, 1) := by decide +kernel
theorem dX3_init_59 : decode cX3_init 59 = .ok (.putfield 33, 3) := by decide +kernel
theorem dX3_init_62 : decode cX3_init 62 = .ok (.aload_n 0, 1) := by decide +kernel
theorem dX3_init_63 : decode cX3_init 63 = .ok (.iconst 3, 1) := by decide +kernel
theorem dX3_init_64 : decode cX3_init 64 = .ok (.newarray .int, 2) := by decide +kernel
theorem dX3_init_66 : decode cX3_init 66 = .ok (.dup, 1) := by decide +kernel
theorem dX3_init_67 : decode cX3_init 67 = .ok (.iconst 0, 1) := by decide +kernel
theorem dX3_init_68 : decode cX3_init 68 = .ok (.iconst 1, 1) := by decide +kernel
theorem dX3_init_69 : decode cX3_init 69 = .ok (.iastore, 1) := by decide +kernel
theorem dX3_init_70 : decode cX3_init 70 = .ok (.dup, 1) := by decide +kernel
theorem dX3_init_71 : decode cX3_init 71 = .ok (.iconst 1, 1) := by decide +kernel
theorem dX3_init_72 : decode cX3_init 72 = .ok (.iconst 0, 1) := by decide +kernel
theorem dX3_init_73 : decode cX3_init 73 = .ok (.iastore, 1) := by decide +kernel
theorem dX3_init_74 : decode cX3_init 74 = .ok (.dup, 1) := by decide +kernel
theorem dX3_init_75 : decode cX3_init 75 = .ok (.iconst 2, 1) := by decide +kernel
theorem dX3_init_76 : decode cX3_init 76 = .ok (.sipush 600, 3) := by decide +kernel
theorem dX3_init_79 : decode cX3_init 79 = .ok (.iastore, 1) := by decide +kernel
theorem dX3_init_80 : decode cX3_init 80 = .ok (.putfield 36, 3) := by decide +kernel
theorem dX3_init_83 : decode cX3_init 83 = .ok (.return_, 1) := by decide +kernel
theorem dX3_isUnit_0 : decode cX3_isUnit 0 = .ok (.iload_n 1, 1) := by decide +kernel
theorem dX3_isUnit_1 : decode cX3_isUnit 1 = .ok (.ifCond .lt 15, 3) := by decide +kernel
theorem dX3_isUnit_4 : decode cX3_isUnit 4 = .ok (.iload_n 1, 1) := by decide +kernel
theorem dX3_isUnit_5 : decode cX3_isUnit 5 = .ok (.aload_n 0, 1) := by decide +kernel
theorem dX3_isUnit_6 : decode cX3_isUnit 6 = .ok (.getfield 39, 3) := by decide +kernel
theorem dX3_isUnit_9 : decode cX3_isUnit 9 = .ok (.if_icmp .ge 7, 3) := by decide +kernel
theorem dX3_isUnit_12 : decode cX3_isUnit 12 = .ok (.iconst 1, 1) := by decide +kernel
theorem dX3_isUnit_13 : decode cX3_isUnit 13 = .ok (.goto 4, 3) := by decide +kernel
theorem dX3_isUnit_16 : decode cX3_isUnit 16 = .ok (.iconst 0, 1) := by decide +kernel
theorem dX3_isUnit_17 : decode cX3_isUnit 17 = .ok (.ireturn, 1) := by decide +kernel
theorem dX3_postAt_0 : decode cX3_postAt 0 = .ok (.iload_n 1, 1) := by decide +kernel
theorem dX3_postAt_1 : decode cX3_postAt 1 = .ok (.ifCond .lt 20, 3) := by decide +kernel
theorem dX3_postAt_4 : decode cX3_postAt 4 = .ok (.iload_n 1, 1) := by decide +kernel
theorem dX3_postAt_5 : decode cX3_postAt 5 = .ok (.aload_n 0, 1) := by decide +kernel
theorem dX3_postAt_6 : decode cX3_postAt 6 = .ok (.getfield 43, 3) := by decide +kernel
theorem dX3_postAt_9 : decode cX3_postAt 9 = .ok (.if_icmp .ge 12, 3) := by decide +kernel
theorem dX3_postAt_12 : decode cX3_postAt 12 = .ok (.aload_n 0, 1) := by decide +kernel
theorem dX3_postAt_13 : decode cX3_postAt 13 = .ok (.getfield 17, 3) := by decide +kernel
theorem dX3_postAt_16 : decode cX3_postAt 16 = .ok (.iload_n 1, 1) := by decide +kernel
theorem dX3_postAt_17 : decode cX3_postAt 17 = .ok (.aaload, 1) := by decide +kernel
theorem dX3_postAt_18 : decode cX3_postAt 18 = .ok (.goto 4, 3) := by decide +kernel
theorem dX3_postAt_21 : decode cX3_postAt 21 = .ok (.aconst_null, 1) := by decide +kernel
theorem dX3_postAt_22 : decode cX3_postAt 22 = .ok (.areturn, 1) := by decide +kernel
theorem dX3_personAt_0 : decode cX3_personAt 0 = .ok (.iload_n 1, 1) := by decide +kernel
theorem dX3_personAt_1 : decode cX3_personAt 1 = .ok (.ifCond .lt 20, 3) := by decide +kernel
theorem dX3_personAt_4 : decode cX3_personAt 4 = .ok (.iload_n 1, 1) := by decide +kernel
theorem dX3_personAt_5 : decode cX3_personAt 5 = .ok (.aload_n 0, 1) := by decide +kernel
theorem dX3_personAt_6 : decode cX3_personAt 6 = .ok (.getfield 46, 3) := by decide +kernel
theorem dX3_personAt_9 : decode cX3_personAt 9 = .ok (.if_icmp .ge 12, 3) := by decide +kernel
theorem dX3_personAt_12 : decode cX3_personAt 12 = .ok (.aload_n 0, 1) := by decide +kernel
theorem dX3_personAt_13 : decode cX3_personAt 13 = .ok (.getfield 23, 3) := by decide +kernel
theorem dX3_personAt_16 : decode cX3_personAt 16 = .ok (.iload_n 1, 1) := by decide +kernel
theorem dX3_personAt_17 : decode cX3_personAt 17 = .ok (.aaload, 1) := by decide +kernel
theorem dX3_personAt_18 : decode cX3_personAt 18 = .ok (.goto 4, 3) := by decide +kernel
theorem dX3_personAt_21 : decode cX3_personAt 21 = .ok (.aconst_null, 1) := by decide +kernel
theorem dX3_personAt_22 : decode cX3_personAt 22 = .ok (.areturn, 1) := by decide +kernel
theorem dX3_tellingAt_0 : decode cX3_tellingAt 0 = .ok (.iload_n 1, 1) := by decide +kernel
theorem dX3_tellingAt_1 : decode cX3_tellingAt 1 = .ok (.ifCond .lt 20, 3) := by decide +kernel
theorem dX3_tellingAt_4 : decode cX3_tellingAt 4 = .ok (.iload_n 1, 1) := by decide +kernel
theorem dX3_tellingAt_5 : decode cX3_tellingAt 5 = .ok (.aload_n 0, 1) := by decide +kernel
theorem dX3_tellingAt_6 : decode cX3_tellingAt 6 = .ok (.getfield 49, 3) := by decide +kernel
theorem dX3_tellingAt_9 : decode cX3_tellingAt 9 = .ok (.if_icmp .ge 12, 3) := by decide +kernel
theorem dX3_tellingAt_12 : decode cX3_tellingAt 12 = .ok (.aload_n 0, 1) := by decide +kernel
theorem dX3_tellingAt_13 : decode cX3_tellingAt 13 = .ok (.getfield 29, 3) := by decide +kernel
theorem dX3_tellingAt_16 : decode cX3_tellingAt 16 = .ok (.iload_n 1, 1) := by decide +kernel
theorem dX3_tellingAt_17 : decode cX3_tellingAt 17 = .ok (.aaload, 1) := by decide +kernel
theorem dX3_tellingAt_18 : decode cX3_tellingAt 18 = .ok (.goto 4, 3) := by decide +kernel
theorem dX3_tellingAt_21 : decode cX3_tellingAt 21 = .ok (.aconst_null, 1) := by decide +kernel
theorem dX3_tellingAt_22 : decode cX3_tellingAt 22 = .ok (.areturn, 1) := by decide +kernel
theorem dX3_addUnit_0 : decode cX3_addUnit 0 = .ok (.aload_n 0, 1) := by decide +kernel
theorem dX3_addUnit_1 : decode cX3_addUnit 1 = .ok (.getfield 39, 3) := by decide +kernel
theorem dX3_addUnit_4 : decode cX3_addUnit 4 = .ok (.istore_n 2, 1) := by decide +kernel
theorem dX3_addUnit_5 : decode cX3_addUnit 5 = .ok (.iload_n 2, 1) := by decide +kernel
theorem dX3_addUnit_6 : decode cX3_addUnit 6 = .ok (.bipush 12, 2) := by decide +kernel
theorem dX3_addUnit_8 : decode cX3_addUnit 8 = .ok (.if_icmp .ge 41, 3) := by decide +kernel
theorem dX3_addUnit_11 : decode cX3_addUnit 11 = .ok (.aload_n 0, 1) := by decide +kernel
theorem dX3_addUnit_12 : decode cX3_addUnit 12 = .ok (.getfield 9, 3) := by decide +kernel
theorem dX3_addUnit_15 : decode cX3_addUnit 15 = .ok (.iload_n 2, 1) := by decide +kernel
theorem dX3_addUnit_16 : decode cX3_addUnit 16 = .ok (.iconst 1, 1) := by decide +kernel
theorem dX3_addUnit_17 : decode cX3_addUnit 17 = .ok (.iload_n 2, 1) := by decide +kernel
theorem dX3_addUnit_18 : decode cX3_addUnit 18 = .ok (.ishl, 1) := by decide +kernel
theorem dX3_addUnit_19 : decode cX3_addUnit 19 = .ok (.aload_n 0, 1) := by decide +kernel
theorem dX3_addUnit_20 : decode cX3_addUnit 20 = .ok (.iload_n 1, 1) := by decide +kernel
theorem dX3_addUnit_21 : decode cX3_addUnit 21 = .ok (.invokevirtual 52, 3) := by decide +kernel
theorem dX3_addUnit_24 : decode cX3_addUnit 24 = .ok (.ifCond .eq 12, 3) := by decide +kernel
theorem dX3_addUnit_27 : decode cX3_addUnit 27 = .ok (.aload_n 0, 1) := by decide +kernel
theorem dX3_addUnit_28 : decode cX3_addUnit 28 = .ok (.getfield 9, 3) := by decide +kernel
theorem dX3_addUnit_31 : decode cX3_addUnit 31 = .ok (.iload_n 1, 1) := by decide +kernel
theorem dX3_addUnit_32 : decode cX3_addUnit 32 = .ok (.iaload, 1) := by decide +kernel
theorem dX3_addUnit_33 : decode cX3_addUnit 33 = .ok (.goto 4, 3) := by decide +kernel
theorem dX3_addUnit_36 : decode cX3_addUnit 36 = .ok (.iconst 0, 1) := by decide +kernel
theorem dX3_addUnit_37 : decode cX3_addUnit 37 = .ok (.ior, 1) := by decide +kernel
theorem dX3_addUnit_38 : decode cX3_addUnit 38 = .ok (.iastore, 1) := by decide +kernel
theorem dX3_addUnit_39 : decode cX3_addUnit 39 = .ok (.aload_n 0, 1) := by decide +kernel
theorem dX3_addUnit_40 : decode cX3_addUnit 40 = .ok (.dup, 1) := by decide +kernel
theorem dX3_addUnit_41 : decode cX3_addUnit 41 = .ok (.getfield 39, 3) := by decide +kernel
theorem dX3_addUnit_44 : decode cX3_addUnit 44 = .ok (.iconst 1, 1) := by decide +kernel
theorem dX3_addUnit_45 : decode cX3_addUnit 45 = .ok (.iadd, 1) := by decide +kernel
theorem dX3_addUnit_46 : decode cX3_addUnit 46 = .ok (.putfield 39, 3) := by decide +kernel
theorem dX3_addUnit_49 : decode cX3_addUnit 49 = .ok (.iload_n 2, 1) := by decide +kernel
theorem dX3_addUnit_50 : decode cX3_addUnit 50 = .ok (.ireturn, 1) := by decide +kernel
theorem dX3_addPost_0 : decode cX3_addPost 0 = .ok (.aload_n 0, 1) := by decide +kernel
theorem dX3_addPost_1 : decode cX3_addPost 1 = .ok (.getfield 43, 3) := by decide +kernel
theorem dX3_addPost_4 : decode cX3_addPost 4 = .ok (.istore_n 2, 1) := by decide +kernel
theorem dX3_addPost_5 : decode cX3_addPost 5 = .ok (.iload_n 2, 1) := by decide +kernel
theorem dX3_addPost_6 : decode cX3_addPost 6 = .ok (.bipush 40, 2) := by decide +kernel
theorem dX3_addPost_8 : decode cX3_addPost 8 = .ok (.if_icmp .ge 20, 3) := by decide +kernel
theorem dX3_addPost_11 : decode cX3_addPost 11 = .ok (.aload_n 0, 1) := by decide +kernel
theorem dX3_addPost_12 : decode cX3_addPost 12 = .ok (.getfield 17, 3) := by decide +kernel
theorem dX3_addPost_15 : decode cX3_addPost 15 = .ok (.iload_n 2, 1) := by decide +kernel
theorem dX3_addPost_16 : decode cX3_addPost 16 = .ok (.aload_n 1, 1) := by decide +kernel
theorem dX3_addPost_17 : decode cX3_addPost 17 = .ok (.aastore, 1) := by decide +kernel
theorem dX3_addPost_18 : decode cX3_addPost 18 = .ok (.aload_n 0, 1) := by decide +kernel
theorem dX3_addPost_19 : decode cX3_addPost 19 = .ok (.dup, 1) := by decide +kernel
theorem dX3_addPost_20 : decode cX3_addPost 20 = .ok (.getfield 43, 3) := by decide +kernel
theorem dX3_addPost_23 : decode cX3_addPost 23 = .ok (.iconst 1, 1) := by decide +kernel
theorem dX3_addPost_24 : decode cX3_addPost 24 = .ok (.iadd, 1) := by decide +kernel
theorem dX3_addPost_25 : decode cX3_addPost 25 = .ok (.putfield 43, 3) := by decide +kernel
theorem dX3_addPost_28 : decode cX3_addPost 28 = .ok (.iload_n 2, 1) := by decide +kernel
theorem dX3_addPost_29 : decode cX3_addPost 29 = .ok (.ireturn, 1) := by decide +kernel
theorem dX3_addPerson_0 : decode cX3_addPerson 0 = .ok (.aload_n 0, 1) := by decide +kernel
theorem dX3_addPerson_1 : decode cX3_addPerson 1 = .ok (.getfield 46, 3) := by decide +kernel
theorem dX3_addPerson_4 : decode cX3_addPerson 4 = .ok (.istore_n 2, 1) := by decide +kernel
theorem dX3_addPerson_5 : decode cX3_addPerson 5 = .ok (.iload_n 2, 1) := by decide +kernel
theorem dX3_addPerson_6 : decode cX3_addPerson 6 = .ok (.bipush 40, 2) := by decide +kernel
theorem dX3_addPerson_8 : decode cX3_addPerson 8 = .ok (.if_icmp .ge 20, 3) := by decide +kernel
theorem dX3_addPerson_11 : decode cX3_addPerson 11 = .ok (.aload_n 0, 1) := by decide +kernel
theorem dX3_addPerson_12 : decode cX3_addPerson 12 = .ok (.getfield 23, 3) := by decide +kernel
theorem dX3_addPerson_15 : decode cX3_addPerson 15 = .ok (.iload_n 2, 1) := by decide +kernel
theorem dX3_addPerson_16 : decode cX3_addPerson 16 = .ok (.aload_n 1, 1) := by decide +kernel
theorem dX3_addPerson_17 : decode cX3_addPerson 17 = .ok (.aastore, 1) := by decide +kernel
theorem dX3_addPerson_18 : decode cX3_addPerson 18 = .ok (.aload_n 0, 1) := by decide +kernel
theorem dX3_addPerson_19 : decode cX3_addPerson 19 = .ok (.dup, 1) := by decide +kernel
theorem dX3_addPerson_20 : decode cX3_addPerson 20 = .ok (.getfield 46, 3) := by decide +kernel
theorem dX3_addPerson_23 : decode cX3_addPerson 23 = .ok (.iconst 1, 1) := by decide +kernel
theorem dX3_addPerson_24 : decode cX3_addPerson 24 = .ok (.iadd, 1) := by decide +kernel
theorem dX3_addPerson_25 : decode cX3_addPerson 25 = .ok (.putfield 46, 3) := by decide +kernel
theorem dX3_addPerson_28 : decode cX3_addPerson 28 = .ok (.iload_n 2, 1) := by decide +kernel
theorem dX3_addPerson_29 : decode cX3_addPerson 29 = .ok (.ireturn, 1) := by decide +kernel
theorem dX3_addTelling_0 : decode cX3_addTelling 0 = .ok (.aload_n 0, 1) := by decide +kernel
theorem dX3_addTelling_1 : decode cX3_addTelling 1 = .ok (.getfield 49, 3) := by decide +kernel
theorem dX3_addTelling_4 : decode cX3_addTelling 4 = .ok (.istore 4, 2) := by decide +kernel
theorem dX3_addTelling_6 : decode cX3_addTelling 6 = .ok (.iload 4, 2) := by decide +kernel
theorem dX3_addTelling_8 : decode cX3_addTelling 8 = .ok (.bipush 120, 2) := by decide +kernel
theorem dX3_addTelling_10 : decode cX3_addTelling 10 = .ok (.if_icmp .ge 49, 3) := by decide +kernel
theorem dX3_addTelling_13 : decode cX3_addTelling 13 = .ok (.new 27, 3) := by decide +kernel
theorem dX3_addTelling_16 : decode cX3_addTelling 16 = .ok (.dup, 1) := by decide +kernel
theorem dX3_addTelling_17 : decode cX3_addTelling 17 = .ok (.aload_n 1, 1) := by decide +kernel
theorem dX3_addTelling_18 : decode cX3_addTelling 18 = .ok (.iload_n 2, 1) := by decide +kernel
theorem dX3_addTelling_19 : decode cX3_addTelling 19 = .ok (.aload_n 0, 1) := by decide +kernel
theorem dX3_addTelling_20 : decode cX3_addTelling 20 = .ok (.getfield 56, 3) := by decide +kernel
theorem dX3_addTelling_23 : decode cX3_addTelling 23 = .ok (.iload_n 3, 1) := by decide +kernel
theorem dX3_addTelling_24 : decode cX3_addTelling 24 = .ok (.aload_n 1, 1) := by decide +kernel
theorem dX3_addTelling_25 : decode cX3_addTelling 25 = .ok (.iload_n 2, 1) := by decide +kernel
theorem dX3_addTelling_26 : decode cX3_addTelling 26 = .ok (.invokevirtual 59, 3) := by decide +kernel
theorem dX3_addTelling_29 : decode cX3_addTelling 29 = .ok (.invokespecial 63, 3) := by decide +kernel
theorem dX3_addTelling_32 : decode cX3_addTelling 32 = .ok (.astore 5, 2) := by decide +kernel
theorem dX3_addTelling_34 : decode cX3_addTelling 34 = .ok (.aload_n 0, 1) := by decide +kernel
theorem dX3_addTelling_35 : decode cX3_addTelling 35 = .ok (.getfield 29, 3) := by decide +kernel
theorem dX3_addTelling_38 : decode cX3_addTelling 38 = .ok (.iload 4, 2) := by decide +kernel
theorem dX3_addTelling_40 : decode cX3_addTelling 40 = .ok (.aload 5, 2) := by decide +kernel
theorem dX3_addTelling_42 : decode cX3_addTelling 42 = .ok (.aastore, 1) := by decide +kernel
theorem dX3_addTelling_43 : decode cX3_addTelling 43 = .ok (.aload_n 1, 1) := by decide +kernel
theorem dX3_addTelling_44 : decode cX3_addTelling 44 = .ok (.aload 5, 2) := by decide +kernel
theorem dX3_addTelling_46 : decode cX3_addTelling 46 = .ok (.invokevirtual 66, 3) := by decide +kernel
theorem dX3_addTelling_49 : decode cX3_addTelling 49 = .ok (.aload_n 0, 1) := by decide +kernel
theorem dX3_addTelling_50 : decode cX3_addTelling 50 = .ok (.dup, 1) := by decide +kernel
theorem dX3_addTelling_51 : decode cX3_addTelling 51 = .ok (.getfield 49, 3) := by decide +kernel
theorem dX3_addTelling_54 : decode cX3_addTelling 54 = .ok (.iconst 1, 1) := by decide +kernel
theorem dX3_addTelling_55 : decode cX3_addTelling 55 = .ok (.iadd, 1) := by decide +kernel
theorem dX3_addTelling_56 : decode cX3_addTelling 56 = .ok (.putfield 49, 3) := by decide +kernel
theorem dX3_addTelling_59 : decode cX3_addTelling 59 = .ok (.iload 4, 2) := by decide +kernel
theorem dX3_addTelling_61 : decode cX3_addTelling 61 = .ok (.ireturn, 1) := by decide +kernel
theorem dX3_isOpenBelow_0 : decode cX3_isOpenBelow 0 = .ok (.aload_n 1, 1) := by decide +kernel
theorem dX3_isOpenBelow_1 : decode cX3_isOpenBelow 1 = .ok (.invokevirtual 70, 3) := by decide +kernel
theorem dX3_isOpenBelow_4 : decode cX3_isOpenBelow 4 = .ok (.ifCond .eq 43, 3) := by decide +kernel
theorem dX3_isOpenBelow_7 : decode cX3_isOpenBelow 7 = .ok (.aload_n 0, 1) := by decide +kernel
theorem dX3_isOpenBelow_8 : decode cX3_isOpenBelow 8 = .ok (.aload_n 1, 1) := by decide +kernel
theorem dX3_isOpenBelow_9 : decode cX3_isOpenBelow 9 = .ok (.getfield 74, 3) := by decide +kernel
theorem dX3_isOpenBelow_12 : decode cX3_isOpenBelow 12 = .ok (.invokevirtual 52, 3) := by decide +kernel
theorem dX3_isOpenBelow_15 : decode cX3_isOpenBelow 15 = .ok (.ifCond .eq 32, 3) := by decide +kernel
theorem dX3_isOpenBelow_18 : decode cX3_isOpenBelow 18 = .ok (.aload_n 0, 1) := by decide +kernel
theorem dX3_isOpenBelow_19 : decode cX3_isOpenBelow 19 = .ok (.iload_n 2, 1) := by decide +kernel
theorem dX3_isOpenBelow_20 : decode cX3_isOpenBelow 20 = .ok (.invokevirtual 52, 3) := by decide +kernel
theorem dX3_isOpenBelow_23 : decode cX3_isOpenBelow 23 = .ok (.ifCond .eq 24, 3) := by decide +kernel
theorem dX3_isOpenBelow_26 : decode cX3_isOpenBelow 26 = .ok (.aload_n 0, 1) := by decide +kernel
theorem dX3_isOpenBelow_27 : decode cX3_isOpenBelow 27 = .ok (.getfield 9, 3) := by decide +kernel
theorem dX3_isOpenBelow_30 : decode cX3_isOpenBelow 30 = .ok (.aload_n 1, 1) := by decide +kernel
theorem dX3_isOpenBelow_31 : decode cX3_isOpenBelow 31 = .ok (.getfield 74, 3) := by decide +kernel
theorem dX3_isOpenBelow_34 : decode cX3_isOpenBelow 34 = .ok (.iaload, 1) := by decide +kernel
theorem dX3_isOpenBelow_35 : decode cX3_isOpenBelow 35 = .ok (.iload_n 2, 1) := by decide +kernel
theorem dX3_isOpenBelow_36 : decode cX3_isOpenBelow 36 = .ok (.ishr, 1) := by decide +kernel
theorem dX3_isOpenBelow_37 : decode cX3_isOpenBelow 37 = .ok (.iconst 1, 1) := by decide +kernel
theorem dX3_isOpenBelow_38 : decode cX3_isOpenBelow 38 = .ok (.iand, 1) := by decide +kernel
theorem dX3_isOpenBelow_39 : decode cX3_isOpenBelow 39 = .ok (.iconst 1, 1) := by decide +kernel
theorem dX3_isOpenBelow_40 : decode cX3_isOpenBelow 40 = .ok (.if_icmp .ne 7, 3) := by decide +kernel
theorem dX3_isOpenBelow_43 : decode cX3_isOpenBelow 43 = .ok (.iconst 1, 1) := by decide +kernel
theorem dX3_isOpenBelow_44 : decode cX3_isOpenBelow 44 = .ok (.goto 4, 3) := by decide +kernel
theorem dX3_isOpenBelow_47 : decode cX3_isOpenBelow 47 = .ok (.iconst 0, 1) := by decide +kernel
theorem dX3_isOpenBelow_48 : decode cX3_isOpenBelow 48 = .ok (.ireturn, 1) := by decide +kernel
theorem dX3_isAlike_0 : decode cX3_isAlike 0 = .ok (.aload_n 1, 1) := by decide +kernel
theorem dX3_isAlike_1 : decode cX3_isAlike 1 = .ok (.getfield 77, 3) := by decide +kernel
theorem dX3_isAlike_4 : decode cX3_isAlike 4 = .ok (.aload_n 2, 1) := by decide +kernel
theorem dX3_isAlike_5 : decode cX3_isAlike 5 = .ok (.getfield 77, 3) := by decide +kernel
theorem dX3_isAlike_8 : decode cX3_isAlike 8 = .ok (.if_icmp .ne 19, 3) := by decide +kernel
theorem dX3_isAlike_11 : decode cX3_isAlike 11 = .ok (.aload_n 1, 1) := by decide +kernel
theorem dX3_isAlike_12 : decode cX3_isAlike 12 = .ok (.getfield 80, 3) := by decide +kernel
theorem dX3_isAlike_15 : decode cX3_isAlike 15 = .ok (.aload_n 2, 1) := by decide +kernel
theorem dX3_isAlike_16 : decode cX3_isAlike 16 = .ok (.getfield 80, 3) := by decide +kernel
theorem dX3_isAlike_19 : decode cX3_isAlike 19 = .ok (.isub, 1) := by decide +kernel
theorem dX3_isAlike_20 : decode cX3_isAlike 20 = .ok (.invokestatic 83, 3) := by decide +kernel
theorem dX3_isAlike_23 : decode cX3_isAlike 23 = .ok (.iconst 1, 1) := by decide +kernel
theorem dX3_isAlike_24 : decode cX3_isAlike 24 = .ok (.if_icmp .le 5, 3) := by decide +kernel
theorem dX3_isAlike_27 : decode cX3_isAlike 27 = .ok (.iconst 0, 1) := by decide +kernel
theorem dX3_isAlike_28 : decode cX3_isAlike 28 = .ok (.ireturn, 1) := by decide +kernel
theorem dX3_isAlike_29 : decode cX3_isAlike 29 = .ok (.aload_n 1, 1) := by decide +kernel
theorem dX3_isAlike_30 : decode cX3_isAlike 30 = .ok (.getfield 89, 3) := by decide +kernel
theorem dX3_isAlike_33 : decode cX3_isAlike 33 = .ok (.ifCond .ne 12, 3) := by decide +kernel
theorem dX3_isAlike_36 : decode cX3_isAlike 36 = .ok (.aload_n 2, 1) := by decide +kernel
theorem dX3_isAlike_37 : decode cX3_isAlike 37 = .ok (.getfield 89, 3) := by decide +kernel
theorem dX3_isAlike_40 : decode cX3_isAlike 40 = .ok (.ifCond .ne 5, 3) := by decide +kernel
theorem dX3_isAlike_43 : decode cX3_isAlike 43 = .ok (.iconst 1, 1) := by decide +kernel
theorem dX3_isAlike_44 : decode cX3_isAlike 44 = .ok (.ireturn, 1) := by decide +kernel
theorem dX3_isAlike_45 : decode cX3_isAlike 45 = .ok (.aload_n 1, 1) := by decide +kernel
theorem dX3_isAlike_46 : decode cX3_isAlike 46 = .ok (.getfield 89, 3) := by decide +kernel
theorem dX3_isAlike_49 : decode cX3_isAlike 49 = .ok (.aload_n 2, 1) := by decide +kernel
theorem dX3_isAlike_50 : decode cX3_isAlike 50 = .ok (.getfield 89, 3) := by decide +kernel
theorem dX3_isAlike_53 : decode cX3_isAlike 53 = .ok (.iand, 1) := by decide +kernel
theorem dX3_isAlike_54 : decode cX3_isAlike 54 = .ok (.invokestatic 92, 3) := by decide +kernel
theorem dX3_isAlike_57 : decode cX3_isAlike 57 = .ok (.aload_n 0, 1) := by decide +kernel
theorem dX3_isAlike_58 : decode cX3_isAlike 58 = .ok (.getfield 36, 3) := by decide +kernel
theorem dX3_isAlike_61 : decode cX3_isAlike 61 = .ok (.iconst 0, 1) := by decide +kernel
theorem dX3_isAlike_62 : decode cX3_isAlike 62 = .ok (.iaload, 1) := by decide +kernel
theorem dX3_isAlike_63 : decode cX3_isAlike 63 = .ok (.if_icmp .lt 7, 3) := by decide +kernel
theorem dX3_isAlike_66 : decode cX3_isAlike 66 = .ok (.iconst 1, 1) := by decide +kernel
theorem dX3_isAlike_67 : decode cX3_isAlike 67 = .ok (.goto 4, 3) := by decide +kernel
theorem dX3_isAlike_70 : decode cX3_isAlike 70 = .ok (.iconst 0, 1) := by decide +kernel
theorem dX3_isAlike_71 : decode cX3_isAlike 71 = .ok (.ireturn, 1) := by decide +kernel
theorem dX3_isProtected_0 : decode cX3_isProtected 0 = .ok (.aload_n 0, 1) := by decide +kernel
theorem dX3_isProtected_1 : decode cX3_isProtected 1 = .ok (.getfield 56, 3) := by decide +kernel
theorem dX3_isProtected_4 : decode cX3_isProtected 4 = .ok (.aload_n 1, 1) := by decide +kernel
theorem dX3_isProtected_5 : decode cX3_isProtected 5 = .ok (.getfield 97, 3) := by decide +kernel
theorem dX3_isProtected_8 : decode cX3_isProtected 8 = .ok (.if_icmp .gt 7, 3) := by decide +kernel
theorem dX3_isProtected_11 : decode cX3_isProtected 11 = .ok (.iconst 1, 1) := by decide +kernel
theorem dX3_isProtected_12 : decode cX3_isProtected 12 = .ok (.goto 4, 3) := by decide +kernel
theorem dX3_isProtected_15 : decode cX3_isProtected 15 = .ok (.iconst 0, 1) := by decide +kernel
theorem dX3_isProtected_16 : decode cX3_isProtected 16 = .ok (.ireturn, 1) := by decide +kernel
theorem dX3_wholeYears_0 : decode cX3_wholeYears 0 = .ok (.aload_n 0, 1) := by decide +kernel
theorem dX3_wholeYears_1 : decode cX3_wholeYears 1 = .ok (.getfield 56, 3) := by decide +kernel
theorem dX3_wholeYears_4 : decode cX3_wholeYears 4 = .ok (.aload_n 1, 1) := by decide +kernel
theorem dX3_wholeYears_5 : decode cX3_wholeYears 5 = .ok (.getfield 100, 3) := by decide +kernel
theorem dX3_wholeYears_8 : decode cX3_wholeYears 8 = .ok (.isub, 1) := by decide +kernel
theorem dX3_wholeYears_9 : decode cX3_wholeYears 9 = .ok (.sipush 365, 3) := by decide +kernel
theorem dX3_wholeYears_12 : decode cX3_wholeYears 12 = .ok (.idiv, 1) := by decide +kernel
theorem dX3_wholeYears_13 : decode cX3_wholeYears 13 = .ok (.ireturn, 1) := by decide +kernel
theorem dX3_severanceOf_0 : decode cX3_severanceOf 0 = .ok (.aload_n 0, 1) := by decide +kernel
theorem dX3_severanceOf_1 : decode cX3_severanceOf 1 = .ok (.aload_n 1, 1) := by decide +kernel
theorem dX3_severanceOf_2 : decode cX3_severanceOf 2 = .ok (.invokevirtual 103, 3) := by decide +kernel
theorem dX3_severanceOf_5 : decode cX3_severanceOf 5 = .ok (.bipush 30, 2) := by decide +kernel
theorem dX3_severanceOf_7 : decode cX3_severanceOf 7 = .ok (.invokestatic 107, 3) := by decide +kernel
theorem dX3_severanceOf_10 : decode cX3_severanceOf 10 = .ok (.aload_n 1, 1) := by decide +kernel
theorem dX3_severanceOf_11 : decode cX3_severanceOf 11 = .ok (.getfield 111, 3) := by decide +kernel
theorem dX3_severanceOf_14 : decode cX3_severanceOf 14 = .ok (.aload_n 0, 1) := by decide +kernel
theorem dX3_severanceOf_15 : decode cX3_severanceOf 15 = .ok (.getfield 36, 3) := by decide +kernel
theorem dX3_severanceOf_18 : decode cX3_severanceOf 18 = .ok (.iconst 2, 1) := by decide +kernel
theorem dX3_severanceOf_19 : decode cX3_severanceOf 19 = .ok (.iaload, 1) := by decide +kernel
theorem dX3_severanceOf_20 : decode cX3_severanceOf 20 = .ok (.invokestatic 107, 3) := by decide +kernel
theorem dX3_severanceOf_23 : decode cX3_severanceOf 23 = .ok (.imul, 1) := by decide +kernel
theorem dX3_severanceOf_24 : decode cX3_severanceOf 24 = .ok (.ireturn, 1) := by decide +kernel
theorem dX3_partAsOf_0 : decode cX3_partAsOf 0 = .ok (.aload_n 1, 1) := by decide +kernel
theorem dX3_partAsOf_1 : decode cX3_partAsOf 1 = .ok (.getfield 114, 3) := by decide +kernel
theorem dX3_partAsOf_4 : decode cX3_partAsOf 4 = .ok (.astore 4, 2) := by decide +kernel
theorem dX3_partAsOf_6 : decode cX3_partAsOf 6 = .ok (.iload_n 2, 1) := by decide +kernel
theorem dX3_partAsOf_7 : decode cX3_partAsOf 7 = .ok (.tableswitch 76 0 3 #[29, 36, 52, 63], 29) := by decide +kernel
theorem dX3_partAsOf_36 : decode cX3_partAsOf 36 = .ok (.aload_n 1, 1) := by decide +kernel
theorem dX3_partAsOf_37 : decode cX3_partAsOf 37 = .ok (.iconst 0, 1) := by decide +kernel
theorem dX3_partAsOf_38 : decode cX3_partAsOf 38 = .ok (.iload_n 3, 1) := by decide +kernel
theorem dX3_partAsOf_39 : decode cX3_partAsOf 39 = .ok (.invokevirtual 118, 3) := by decide +kernel
theorem dX3_partAsOf_42 : decode cX3_partAsOf 42 = .ok (.ireturn, 1) := by decide +kernel
theorem dX3_partAsOf_43 : decode cX3_partAsOf 43 = .ok (.aload 4, 2) := by decide +kernel
theorem dX3_partAsOf_45 : decode cX3_partAsOf 45 = .ok (.ifnonnull 7, 3) := by decide +kernel
theorem dX3_partAsOf_48 : decode cX3_partAsOf 48 = .ok (.iconst 0, 1) := by decide +kernel
theorem dX3_partAsOf_49 : decode cX3_partAsOf 49 = .ok (.goto 9, 3) := by decide +kernel
theorem dX3_partAsOf_52 : decode cX3_partAsOf 52 = .ok (.aload_n 1, 1) := by decide +kernel
theorem dX3_partAsOf_53 : decode cX3_partAsOf 53 = .ok (.aload 4, 2) := by decide +kernel
theorem dX3_partAsOf_55 : decode cX3_partAsOf 55 = .ok (.invokestatic 121, 3) := by decide +kernel
theorem dX3_partAsOf_58 : decode cX3_partAsOf 58 = .ok (.ireturn, 1) := by decide +kernel
theorem dX3_partAsOf_59 : decode cX3_partAsOf 59 = .ok (.aload_n 0, 1) := by decide +kernel
theorem dX3_partAsOf_60 : decode cX3_partAsOf 60 = .ok (.aload_n 1, 1) := by decide +kernel
theorem dX3_partAsOf_61 : decode cX3_partAsOf 61 = .ok (.iconst 1, 1) := by decide +kernel
theorem dX3_partAsOf_62 : decode cX3_partAsOf 62 = .ok (.iload_n 3, 1) := by decide +kernel
theorem dX3_partAsOf_63 : decode cX3_partAsOf 63 = .ok (.invokevirtual 118, 3) := by decide +kernel
theorem dX3_partAsOf_66 : decode cX3_partAsOf 66 = .ok (.invokevirtual 125, 3) := by decide +kernel
theorem dX3_partAsOf_69 : decode cX3_partAsOf 69 = .ok (.ireturn, 1) := by decide +kernel
theorem dX3_partAsOf_70 : decode cX3_partAsOf 70 = .ok (.iconst 5, 1) := by decide +kernel
theorem dX3_partAsOf_71 : decode cX3_partAsOf 71 = .ok (.aload_n 0, 1) := by decide +kernel
theorem dX3_partAsOf_72 : decode cX3_partAsOf 72 = .ok (.aload_n 1, 1) := by decide +kernel
theorem dX3_partAsOf_73 : decode cX3_partAsOf 73 = .ok (.invokevirtual 103, 3) := by decide +kernel
theorem dX3_partAsOf_76 : decode cX3_partAsOf 76 = .ok (.imul, 1) := by decide +kernel
theorem dX3_partAsOf_77 : decode cX3_partAsOf 77 = .ok (.bipush 100, 2) := by decide +kernel
theorem dX3_partAsOf_79 : decode cX3_partAsOf 79 = .ok (.invokestatic 107, 3) := by decide +kernel
theorem dX3_partAsOf_82 : decode cX3_partAsOf 82 = .ok (.ireturn, 1) := by decide +kernel
theorem dX3_partAsOf_83 : decode cX3_partAsOf 83 = .ok (.iconst 0, 1) := by decide +kernel
theorem dX3_partAsOf_84 : decode cX3_partAsOf 84 = .ok (.ireturn, 1) := by decide +kernel
theorem dX3_recordOf_0 : decode cX3_recordOf 0 = .ok (.bipush 100, 2) := by decide +kernel
theorem dX3_recordOf_2 : decode cX3_recordOf 2 = .ok (.bipush 20, 2) := by decide +kernel
theorem dX3_recordOf_4 : decode cX3_recordOf 4 = .ok (.iload_n 1, 1) := by decide +kernel
theorem dX3_recordOf_5 : decode cX3_recordOf 5 = .ok (.imul, 1) := by decide +kernel
theorem dX3_recordOf_6 : decode cX3_recordOf 6 = .ok (.isub, 1) := by decide +kernel
theorem dX3_recordOf_7 : decode cX3_recordOf 7 = .ok (.iconst 0, 1) := by decide +kernel
theorem dX3_recordOf_8 : decode cX3_recordOf 8 = .ok (.invokestatic 128, 3) := by decide +kernel
theorem dX3_recordOf_11 : decode cX3_recordOf 11 = .ok (.ireturn, 1) := by decide +kernel
theorem dX3_markAsOf_0 : decode cX3_markAsOf 0 = .ok (.iconst 0, 1) := by decide +kernel
theorem dX3_markAsOf_1 : decode cX3_markAsOf 1 = .ok (.istore_n 3, 1) := by decide +kernel
theorem dX3_markAsOf_2 : decode cX3_markAsOf 2 = .ok (.iconst 0, 1) := by decide +kernel
theorem dX3_markAsOf_3 : decode cX3_markAsOf 3 = .ok (.istore 4, 2) := by decide +kernel
theorem dX3_markAsOf_5 : decode cX3_markAsOf 5 = .ok (.iload 4, 2) := by decide +kernel
theorem dX3_markAsOf_7 : decode cX3_markAsOf 7 = .ok (.iconst 4, 1) := by decide +kernel
theorem dX3_markAsOf_8 : decode cX3_markAsOf 8 = .ok (.if_icmp .ge 28, 3) := by decide +kernel
theorem dX3_markAsOf_11 : decode cX3_markAsOf 11 = .ok (.iload_n 3, 1) := by decide +kernel
theorem dX3_markAsOf_12 : decode cX3_markAsOf 12 = .ok (.aload_n 0, 1) := by decide +kernel
theorem dX3_markAsOf_13 : decode cX3_markAsOf 13 = .ok (.getfield 33, 3) := by decide +kernel
theorem dX3_markAsOf_16 : decode cX3_markAsOf 16 = .ok (.iload 4, 2) := by decide +kernel
theorem dX3_markAsOf_18 : decode cX3_markAsOf 18 = .ok (.iaload, 1) := by decide +kernel
theorem dX3_markAsOf_19 : decode cX3_markAsOf 19 = .ok (.aload_n 0, 1) := by decide +kernel
theorem dX3_markAsOf_20 : decode cX3_markAsOf 20 = .ok (.aload_n 1, 1) := by decide +kernel
theorem dX3_markAsOf_21 : decode cX3_markAsOf 21 = .ok (.iload 4, 2) := by decide +kernel
theorem dX3_markAsOf_23 : decode cX3_markAsOf 23 = .ok (.iload_n 2, 1) := by decide +kernel
theorem dX3_markAsOf_24 : decode cX3_markAsOf 24 = .ok (.invokevirtual 131, 3) := by decide +kernel
theorem dX3_markAsOf_27 : decode cX3_markAsOf 27 = .ok (.imul, 1) := by decide +kernel
theorem dX3_markAsOf_28 : decode cX3_markAsOf 28 = .ok (.iadd, 1) := by decide +kernel
theorem dX3_markAsOf_29 : decode cX3_markAsOf 29 = .ok (.istore_n 3, 1) := by decide +kernel
theorem dX3_markAsOf_30 : decode cX3_markAsOf 30 = .ok (.iinc 4 1, 3) := by decide +kernel
theorem dX3_markAsOf_33 : decode cX3_markAsOf 33 = .ok (.goto (-28), 3) := by decide +kernel
theorem dX3_markAsOf_36 : decode cX3_markAsOf 36 = .ok (.iload_n 3, 1) := by decide +kernel
theorem dX3_markAsOf_37 : decode cX3_markAsOf 37 = .ok (.ireturn, 1) := by decide +kernel
theorem dX3_fitFor_0 : decode cX3_fitFor 0 = .ok (.aload_n 1, 1) := by decide +kernel
theorem dX3_fitFor_1 : decode cX3_fitFor 1 = .ok (.getfield 114, 3) := by decide +kernel
theorem dX3_fitFor_4 : decode cX3_fitFor 4 = .ok (.astore_n 3, 1) := by decide +kernel
theorem dX3_fitFor_5 : decode cX3_fitFor 5 = .ok (.aload_n 1, 1) := by decide +kernel
theorem dX3_fitFor_6 : decode cX3_fitFor 6 = .ok (.aload_n 2, 1) := by decide +kernel
theorem dX3_fitFor_7 : decode cX3_fitFor 7 = .ok (.invokestatic 121, 3) := by decide +kernel
theorem dX3_fitFor_10 : decode cX3_fitFor 10 = .ok (.istore 4, 2) := by decide +kernel
theorem dX3_fitFor_12 : decode cX3_fitFor 12 = .ok (.aload_n 3, 1) := by decide +kernel
theorem dX3_fitFor_13 : decode cX3_fitFor 13 = .ok (.ifnonnull 19, 3) := by decide +kernel
theorem dX3_fitFor_16 : decode cX3_fitFor 16 = .ok (.iload 4, 2) := by decide +kernel
theorem dX3_fitFor_18 : decode cX3_fitFor 18 = .ok (.bipush 10, 2) := by decide +kernel
theorem dX3_fitFor_20 : decode cX3_fitFor 20 = .ok (.aload_n 2, 1) := by decide +kernel
theorem dX3_fitFor_21 : decode cX3_fitFor 21 = .ok (.getfield 80, 3) := by decide +kernel
theorem dX3_fitFor_24 : decode cX3_fitFor 24 = .ok (.iconst 1, 1) := by decide +kernel
theorem dX3_fitFor_25 : decode cX3_fitFor 25 = .ok (.isub, 1) := by decide +kernel
theorem dX3_fitFor_26 : decode cX3_fitFor 26 = .ok (.invokestatic 83, 3) := by decide +kernel
theorem dX3_fitFor_29 : decode cX3_fitFor 29 = .ok (.imul, 1) := by decide +kernel
theorem dX3_fitFor_30 : decode cX3_fitFor 30 = .ok (.isub, 1) := by decide +kernel
theorem dX3_fitFor_31 : decode cX3_fitFor 31 = .ok (.ireturn, 1) := by decide +kernel
theorem dX3_fitFor_32 : decode cX3_fitFor 32 = .ok (.iload 4, 2) := by decide +kernel
theorem dX3_fitFor_34 : decode cX3_fitFor 34 = .ok (.bipush 10, 2) := by decide +kernel
theorem dX3_fitFor_36 : decode cX3_fitFor 36 = .ok (.aload_n 2, 1) := by decide +kernel
theorem dX3_fitFor_37 : decode cX3_fitFor 37 = .ok (.getfield 80, 3) := by decide +kernel
theorem dX3_fitFor_40 : decode cX3_fitFor 40 = .ok (.aload_n 3, 1) := by decide +kernel
theorem dX3_fitFor_41 : decode cX3_fitFor 41 = .ok (.getfield 80, 3) := by decide +kernel
theorem dX3_fitFor_44 : decode cX3_fitFor 44 = .ok (.isub, 1) := by decide +kernel
theorem dX3_fitFor_45 : decode cX3_fitFor 45 = .ok (.invokestatic 83, 3) := by decide +kernel
theorem dX3_fitFor_48 : decode cX3_fitFor 48 = .ok (.imul, 1) := by decide +kernel
theorem dX3_fitFor_49 : decode cX3_fitFor 49 = .ok (.isub, 1) := by decide +kernel
theorem dX3_fitFor_50 : decode cX3_fitFor 50 = .ok (.iconst 2, 1) := by decide +kernel
theorem dX3_fitFor_51 : decode cX3_fitFor 51 = .ok (.aload_n 2, 1) := by decide +kernel
theorem dX3_fitFor_52 : decode cX3_fitFor 52 = .ok (.getfield 135, 3) := by decide +kernel
theorem dX3_fitFor_55 : decode cX3_fitFor 55 = .ok (.aload_n 3, 1) := by decide +kernel
theorem dX3_fitFor_56 : decode cX3_fitFor 56 = .ok (.getfield 135, 3) := by decide +kernel
theorem dX3_fitFor_59 : decode cX3_fitFor 59 = .ok (.isub, 1) := by decide +kernel
theorem dX3_fitFor_60 : decode cX3_fitFor 60 = .ok (.invokestatic 83, 3) := by decide +kernel
theorem dX3_fitFor_63 : decode cX3_fitFor 63 = .ok (.imul, 1) := by decide +kernel
theorem dX3_fitFor_64 : decode cX3_fitFor 64 = .ok (.isub, 1) := by decide +kernel
theorem dX3_fitFor_65 : decode cX3_fitFor 65 = .ok (.ireturn, 1) := by decide +kernel
theorem dX3_openPosts_0 : decode cX3_openPosts 0 = .ok (.iconst 0, 1) := by decide +kernel
theorem dX3_openPosts_1 : decode cX3_openPosts 1 = .ok (.istore_n 1, 1) := by decide +kernel
theorem dX3_openPosts_2 : decode cX3_openPosts 2 = .ok (.iconst 0, 1) := by decide +kernel
theorem dX3_openPosts_3 : decode cX3_openPosts 3 = .ok (.istore_n 2, 1) := by decide +kernel
theorem dX3_openPosts_4 : decode cX3_openPosts 4 = .ok (.iload_n 2, 1) := by decide +kernel
theorem dX3_openPosts_5 : decode cX3_openPosts 5 = .ok (.aload_n 0, 1) := by decide +kernel
theorem dX3_openPosts_6 : decode cX3_openPosts 6 = .ok (.getfield 43, 3) := by decide +kernel
theorem dX3_openPosts_9 : decode cX3_openPosts 9 = .ok (.if_icmp .ge 29, 3) := by decide +kernel
theorem dX3_openPosts_12 : decode cX3_openPosts 12 = .ok (.aload_n 0, 1) := by decide +kernel
theorem dX3_openPosts_13 : decode cX3_openPosts 13 = .ok (.iload_n 2, 1) := by decide +kernel
theorem dX3_openPosts_14 : decode cX3_openPosts 14 = .ok (.invokevirtual 138, 3) := by decide +kernel
theorem dX3_openPosts_17 : decode cX3_openPosts 17 = .ok (.astore_n 3, 1) := by decide +kernel
theorem dX3_openPosts_18 : decode cX3_openPosts 18 = .ok (.aload_n 3, 1) := by decide +kernel
theorem dX3_openPosts_19 : decode cX3_openPosts 19 = .ok (.ifnull 13, 3) := by decide +kernel
theorem dX3_openPosts_22 : decode cX3_openPosts 22 = .ok (.aload_n 3, 1) := by decide +kernel
theorem dX3_openPosts_23 : decode cX3_openPosts 23 = .ok (.invokevirtual 70, 3) := by decide +kernel
theorem dX3_openPosts_26 : decode cX3_openPosts 26 = .ok (.ifCond .eq 6, 3) := by decide +kernel
theorem dX3_openPosts_29 : decode cX3_openPosts 29 = .ok (.iinc 1 1, 3) := by decide +kernel
theorem dX3_openPosts_32 : decode cX3_openPosts 32 = .ok (.iinc 2 1, 3) := by decide +kernel
theorem dX3_openPosts_35 : decode cX3_openPosts 35 = .ok (.goto (-31), 3) := by decide +kernel
theorem dX3_openPosts_38 : decode cX3_openPosts 38 = .ok (.iload_n 1, 1) := by decide +kernel
theorem dX3_openPosts_39 : decode cX3_openPosts 39 = .ok (.ireturn, 1) := by decide +kernel
theorem dX3_vacantPosts_0 : decode cX3_vacantPosts 0 = .ok (.iconst 0, 1) := by decide +kernel
theorem dX3_vacantPosts_1 : decode cX3_vacantPosts 1 = .ok (.istore_n 1, 1) := by decide +kernel
theorem dX3_vacantPosts_2 : decode cX3_vacantPosts 2 = .ok (.iconst 0, 1) := by decide +kernel
theorem dX3_vacantPosts_3 : decode cX3_vacantPosts 3 = .ok (.istore_n 2, 1) := by decide +kernel
theorem dX3_vacantPosts_4 : decode cX3_vacantPosts 4 = .ok (.iload_n 2, 1) := by decide +kernel
theorem dX3_vacantPosts_5 : decode cX3_vacantPosts 5 = .ok (.aload_n 0, 1) := by decide +kernel
theorem dX3_vacantPosts_6 : decode cX3_vacantPosts 6 = .ok (.getfield 43, 3) := by decide +kernel
theorem dX3_vacantPosts_9 : decode cX3_vacantPosts 9 = .ok (.if_icmp .ge 29, 3) := by decide +kernel
theorem dX3_vacantPosts_12 : decode cX3_vacantPosts 12 = .ok (.aload_n 0, 1) := by decide +kernel
theorem dX3_vacantPosts_13 : decode cX3_vacantPosts 13 = .ok (.iload_n 2, 1) := by decide +kernel
theorem dX3_vacantPosts_14 : decode cX3_vacantPosts 14 = .ok (.invokevirtual 138, 3) := by decide +kernel
theorem dX3_vacantPosts_17 : decode cX3_vacantPosts 17 = .ok (.astore_n 3, 1) := by decide +kernel
theorem dX3_vacantPosts_18 : decode cX3_vacantPosts 18 = .ok (.aload_n 3, 1) := by decide +kernel
theorem dX3_vacantPosts_19 : decode cX3_vacantPosts 19 = .ok (.ifnull 13, 3) := by decide +kernel
theorem dX3_vacantPosts_22 : decode cX3_vacantPosts 22 = .ok (.aload_n 3, 1) := by decide +kernel
theorem dX3_vacantPosts_23 : decode cX3_vacantPosts 23 = .ok (.invokevirtual 142, 3) := by decide +kernel
theorem dX3_vacantPosts_26 : decode cX3_vacantPosts 26 = .ok (.ifCond .eq 6, 3) := by decide +kernel
theorem dX3_vacantPosts_29 : decode cX3_vacantPosts 29 = .ok (.iinc 1 1, 3) := by decide +kernel
theorem dX3_vacantPosts_32 : decode cX3_vacantPosts 32 = .ok (.iinc 2 1, 3) := by decide +kernel
theorem dX3_vacantPosts_35 : decode cX3_vacantPosts 35 = .ok (.goto (-31), 3) := by decide +kernel
theorem dX3_vacantPosts_38 : decode cX3_vacantPosts 38 = .ok (.iload_n 1, 1) := by decide +kernel
theorem dX3_vacantPosts_39 : decode cX3_vacantPosts 39 = .ok (.ireturn, 1) := by decide +kernel
theorem dX3_peopleHere_0 : decode cX3_peopleHere 0 = .ok (.iconst 0, 1) := by decide +kernel
theorem dX3_peopleHere_1 : decode cX3_peopleHere 1 = .ok (.istore_n 1, 1) := by decide +kernel
theorem dX3_peopleHere_2 : decode cX3_peopleHere 2 = .ok (.iconst 0, 1) := by decide +kernel
theorem dX3_peopleHere_3 : decode cX3_peopleHere 3 = .ok (.istore_n 2, 1) := by decide +kernel
theorem dX3_peopleHere_4 : decode cX3_peopleHere 4 = .ok (.iload_n 2, 1) := by decide +kernel
theorem dX3_peopleHere_5 : decode cX3_peopleHere 5 = .ok (.aload_n 0, 1) := by decide +kernel
theorem dX3_peopleHere_6 : decode cX3_peopleHere 6 = .ok (.getfield 46, 3) := by decide +kernel
theorem dX3_peopleHere_9 : decode cX3_peopleHere 9 = .ok (.if_icmp .ge 29, 3) := by decide +kernel
theorem dX3_peopleHere_12 : decode cX3_peopleHere 12 = .ok (.aload_n 0, 1) := by decide +kernel
theorem dX3_peopleHere_13 : decode cX3_peopleHere 13 = .ok (.iload_n 2, 1) := by decide +kernel
theorem dX3_peopleHere_14 : decode cX3_peopleHere 14 = .ok (.invokevirtual 145, 3) := by decide +kernel
theorem dX3_peopleHere_17 : decode cX3_peopleHere 17 = .ok (.astore_n 3, 1) := by decide +kernel
theorem dX3_peopleHere_18 : decode cX3_peopleHere 18 = .ok (.aload_n 3, 1) := by decide +kernel
theorem dX3_peopleHere_19 : decode cX3_peopleHere 19 = .ok (.ifnull 13, 3) := by decide +kernel
theorem dX3_peopleHere_22 : decode cX3_peopleHere 22 = .ok (.aload_n 3, 1) := by decide +kernel
theorem dX3_peopleHere_23 : decode cX3_peopleHere 23 = .ok (.invokevirtual 149, 3) := by decide +kernel
theorem dX3_peopleHere_26 : decode cX3_peopleHere 26 = .ok (.ifCond .eq 6, 3) := by decide +kernel
theorem dX3_peopleHere_29 : decode cX3_peopleHere 29 = .ok (.iinc 1 1, 3) := by decide +kernel
theorem dX3_peopleHere_32 : decode cX3_peopleHere 32 = .ok (.iinc 2 1, 3) := by decide +kernel
theorem dX3_peopleHere_35 : decode cX3_peopleHere 35 = .ok (.goto (-31), 3) := by decide +kernel
theorem dX3_peopleHere_38 : decode cX3_peopleHere 38 = .ok (.iload_n 1, 1) := by decide +kernel
theorem dX3_peopleHere_39 : decode cX3_peopleHere 39 = .ok (.ireturn, 1) := by decide +kernel
theorem dX3_volunteersHere_0 : decode cX3_volunteersHere 0 = .ok (.iconst 0, 1) := by decide +kernel
theorem dX3_volunteersHere_1 : decode cX3_volunteersHere 1 = .ok (.istore_n 1, 1) := by decide +kernel
theorem dX3_volunteersHere_2 : decode cX3_volunteersHere 2 = .ok (.iconst 0, 1) := by decide +kernel
theorem dX3_volunteersHere_3 : decode cX3_volunteersHere 3 = .ok (.istore_n 2, 1) := by decide +kernel
theorem dX3_volunteersHere_4 : decode cX3_volunteersHere 4 = .ok (.iload_n 2, 1) := by decide +kernel
theorem dX3_volunteersHere_5 : decode cX3_volunteersHere 5 = .ok (.aload_n 0, 1) := by decide +kernel
theorem dX3_volunteersHere_6 : decode cX3_volunteersHere 6 = .ok (.getfield 46, 3) := by decide +kernel
theorem dX3_volunteersHere_9 : decode cX3_volunteersHere 9 = .ok (.if_icmp .ge 36, 3) := by decide +kernel
theorem dX3_volunteersHere_12 : decode cX3_volunteersHere 12 = .ok (.aload_n 0, 1) := by decide +kernel
theorem dX3_volunteersHere_13 : decode cX3_volunteersHere 13 = .ok (.iload_n 2, 1) := by decide +kernel
theorem dX3_volunteersHere_14 : decode cX3_volunteersHere 14 = .ok (.invokevirtual 145, 3) := by decide +kernel
theorem dX3_volunteersHere_17 : decode cX3_volunteersHere 17 = .ok (.astore_n 3, 1) := by decide +kernel
theorem dX3_volunteersHere_18 : decode cX3_volunteersHere 18 = .ok (.aload_n 3, 1) := by decide +kernel
theorem dX3_volunteersHere_19 : decode cX3_volunteersHere 19 = .ok (.ifnull 20, 3) := by decide +kernel
theorem dX3_volunteersHere_22 : decode cX3_volunteersHere 22 = .ok (.aload_n 3, 1) := by decide +kernel
theorem dX3_volunteersHere_23 : decode cX3_volunteersHere 23 = .ok (.invokevirtual 149, 3) := by decide +kernel
theorem dX3_volunteersHere_26 : decode cX3_volunteersHere 26 = .ok (.ifCond .eq 13, 3) := by decide +kernel
theorem dX3_volunteersHere_29 : decode cX3_volunteersHere 29 = .ok (.aload_n 3, 1) := by decide +kernel
theorem dX3_volunteersHere_30 : decode cX3_volunteersHere 30 = .ok (.invokevirtual 152, 3) := by decide +kernel
theorem dX3_volunteersHere_33 : decode cX3_volunteersHere 33 = .ok (.ifCond .eq 6, 3) := by decide +kernel
theorem dX3_volunteersHere_36 : decode cX3_volunteersHere 36 = .ok (.iinc 1 1, 3) := by decide +kernel
theorem dX3_volunteersHere_39 : decode cX3_volunteersHere 39 = .ok (.iinc 2 1, 3) := by decide +kernel
theorem dX3_volunteersHere_42 : decode cX3_volunteersHere 42 = .ok (.goto (-38), 3) := by decide +kernel
theorem dX3_volunteersHere_45 : decode cX3_volunteersHere 45 = .ok (.iload_n 1, 1) := by decide +kernel
theorem dX3_volunteersHere_46 : decode cX3_volunteersHere 46 = .ok (.ireturn, 1) := by decide +kernel
theorem dX3_firstToReturn_0 : decode cX3_firstToReturn 0 = .ok (.aconst_null, 1) := by decide +kernel
theorem dX3_firstToReturn_1 : decode cX3_firstToReturn 1 = .ok (.astore_n 2, 1) := by decide +kernel
theorem dX3_firstToReturn_2 : decode cX3_firstToReturn 2 = .ok (.iconst 0, 1) := by decide +kernel
theorem dX3_firstToReturn_3 : decode cX3_firstToReturn 3 = .ok (.istore_n 3, 1) := by decide +kernel
theorem dX3_firstToReturn_4 : decode cX3_firstToReturn 4 = .ok (.iload_n 3, 1) := by decide +kernel
theorem dX3_firstToReturn_5 : decode cX3_firstToReturn 5 = .ok (.aload_n 0, 1) := by decide +kernel
theorem dX3_firstToReturn_6 : decode cX3_firstToReturn 6 = .ok (.getfield 46, 3) := by decide +kernel
theorem dX3_firstToReturn_9 : decode cX3_firstToReturn 9 = .ok (.if_icmp .ge 50, 3) := by decide +kernel
theorem dX3_firstToReturn_12 : decode cX3_firstToReturn 12 = .ok (.aload_n 0, 1) := by decide +kernel
theorem dX3_firstToReturn_13 : decode cX3_firstToReturn 13 = .ok (.iload_n 3, 1) := by decide +kernel
theorem dX3_firstToReturn_14 : decode cX3_firstToReturn 14 = .ok (.invokevirtual 145, 3) := by decide +kernel
theorem dX3_firstToReturn_17 : decode cX3_firstToReturn 17 = .ok (.astore 4, 2) := by decide +kernel
theorem dX3_firstToReturn_19 : decode cX3_firstToReturn 19 = .ok (.aload 4, 2) := by decide +kernel
theorem dX3_firstToReturn_21 : decode cX3_firstToReturn 21 = .ok (.ifnull 32, 3) := by decide +kernel
theorem dX3_firstToReturn_24 : decode cX3_firstToReturn 24 = .ok (.aload_n 0, 1) := by decide +kernel
theorem dX3_firstToReturn_25 : decode cX3_firstToReturn 25 = .ok (.aload 4, 2) := by decide +kernel
theorem dX3_firstToReturn_27 : decode cX3_firstToReturn 27 = .ok (.aload_n 1, 1) := by decide +kernel
theorem dX3_firstToReturn_28 : decode cX3_firstToReturn 28 = .ok (.invokevirtual 155, 3) := by decide +kernel
theorem dX3_firstToReturn_31 : decode cX3_firstToReturn 31 = .ok (.ifCond .eq 22, 3) := by decide +kernel
theorem dX3_firstToReturn_34 : decode cX3_firstToReturn 34 = .ok (.aload_n 2, 1) := by decide +kernel
theorem dX3_firstToReturn_35 : decode cX3_firstToReturn 35 = .ok (.ifnull 15, 3) := by decide +kernel
theorem dX3_firstToReturn_38 : decode cX3_firstToReturn 38 = .ok (.aload 4, 2) := by decide +kernel
theorem dX3_firstToReturn_40 : decode cX3_firstToReturn 40 = .ok (.getfield 159, 3) := by decide +kernel
theorem dX3_firstToReturn_43 : decode cX3_firstToReturn 43 = .ok (.aload_n 2, 1) := by decide +kernel
theorem dX3_firstToReturn_44 : decode cX3_firstToReturn 44 = .ok (.getfield 159, 3) := by decide +kernel
theorem dX3_firstToReturn_47 : decode cX3_firstToReturn 47 = .ok (.if_icmp .ge 6, 3) := by decide +kernel
theorem dX3_firstToReturn_50 : decode cX3_firstToReturn 50 = .ok (.aload 4, 2) := by decide +kernel
theorem dX3_firstToReturn_52 : decode cX3_firstToReturn 52 = .ok (.astore_n 2, 1) := by decide +kernel
theorem dX3_firstToReturn_53 : decode cX3_firstToReturn 53 = .ok (.iinc 3 1, 3) := by decide +kernel
theorem dX3_firstToReturn_56 : decode cX3_firstToReturn 56 = .ok (.goto (-52), 3) := by decide +kernel
theorem dX3_firstToReturn_59 : decode cX3_firstToReturn 59 = .ok (.aload_n 2, 1) := by decide +kernel
theorem dX3_firstToReturn_60 : decode cX3_firstToReturn 60 = .ok (.areturn, 1) := by decide +kernel
theorem dX3_mayReturn_0 : decode cX3_mayReturn 0 = .ok (.aload_n 1, 1) := by decide +kernel
theorem dX3_mayReturn_1 : decode cX3_mayReturn 1 = .ok (.getfield 162, 3) := by decide +kernel
theorem dX3_mayReturn_4 : decode cX3_mayReturn 4 = .ok (.astore_n 3, 1) := by decide +kernel
theorem dX3_mayReturn_5 : decode cX3_mayReturn 5 = .ok (.aload_n 3, 1) := by decide +kernel
theorem dX3_mayReturn_6 : decode cX3_mayReturn 6 = .ok (.ifnull 56, 3) := by decide +kernel
theorem dX3_mayReturn_9 : decode cX3_mayReturn 9 = .ok (.aload_n 1, 1) := by decide +kernel
theorem dX3_mayReturn_10 : decode cX3_mayReturn 10 = .ok (.invokevirtual 149, 3) := by decide +kernel
theorem dX3_mayReturn_13 : decode cX3_mayReturn 13 = .ok (.ifCond .ne 49, 3) := by decide +kernel
theorem dX3_mayReturn_16 : decode cX3_mayReturn 16 = .ok (.aload_n 3, 1) := by decide +kernel
theorem dX3_mayReturn_17 : decode cX3_mayReturn 17 = .ok (.invokevirtual 70, 3) := by decide +kernel
theorem dX3_mayReturn_20 : decode cX3_mayReturn 20 = .ok (.ifCond .ne 42, 3) := by decide +kernel
theorem dX3_mayReturn_23 : decode cX3_mayReturn 23 = .ok (.aload_n 0, 1) := by decide +kernel
theorem dX3_mayReturn_24 : decode cX3_mayReturn 24 = .ok (.getfield 56, 3) := by decide +kernel
theorem dX3_mayReturn_27 : decode cX3_mayReturn 27 = .ok (.aload_n 3, 1) := by decide +kernel
theorem dX3_mayReturn_28 : decode cX3_mayReturn 28 = .ok (.getfield 165, 3) := by decide +kernel
theorem dX3_mayReturn_31 : decode cX3_mayReturn 31 = .ok (.isub, 1) := by decide +kernel
theorem dX3_mayReturn_32 : decode cX3_mayReturn 32 = .ok (.sipush 180, 3) := by decide +kernel
theorem dX3_mayReturn_35 : decode cX3_mayReturn 35 = .ok (.if_icmp .gt 27, 3) := by decide +kernel
theorem dX3_mayReturn_38 : decode cX3_mayReturn 38 = .ok (.aload_n 1, 1) := by decide +kernel
theorem dX3_mayReturn_39 : decode cX3_mayReturn 39 = .ok (.getfield 159, 3) := by decide +kernel
theorem dX3_mayReturn_42 : decode cX3_mayReturn 42 = .ok (.aload_n 3, 1) := by decide +kernel
theorem dX3_mayReturn_43 : decode cX3_mayReturn 43 = .ok (.getfield 165, 3) := by decide +kernel
theorem dX3_mayReturn_46 : decode cX3_mayReturn 46 = .ok (.if_icmp .lt 16, 3) := by decide +kernel
theorem dX3_mayReturn_49 : decode cX3_mayReturn 49 = .ok (.aload_n 0, 1) := by decide +kernel
theorem dX3_mayReturn_50 : decode cX3_mayReturn 50 = .ok (.aload_n 3, 1) := by decide +kernel
theorem dX3_mayReturn_51 : decode cX3_mayReturn 51 = .ok (.aload_n 2, 1) := by decide +kernel
theorem dX3_mayReturn_52 : decode cX3_mayReturn 52 = .ok (.invokevirtual 168, 3) := by decide +kernel
theorem dX3_mayReturn_55 : decode cX3_mayReturn 55 = .ok (.ifCond .eq 7, 3) := by decide +kernel
theorem dX3_mayReturn_58 : decode cX3_mayReturn 58 = .ok (.iconst 1, 1) := by decide +kernel
theorem dX3_mayReturn_59 : decode cX3_mayReturn 59 = .ok (.goto 4, 3) := by decide +kernel
theorem dX3_mayReturn_62 : decode cX3_mayReturn 62 = .ok (.iconst 0, 1) := by decide +kernel
theorem dX3_mayReturn_63 : decode cX3_mayReturn 63 = .ok (.ireturn, 1) := by decide +kernel
theorem dX4_init_0 : decode cX4_init 0 = .ok (.aload_n 0, 1) := by decide +kernel
theorem dX4_init_1 : decode cX4_init 1 = .ok (.invokespecial 3, 3) := by decide +kernel
theorem dX4_init_4 : decode cX4_init 4 = .ok (.aload_n 0, 1) := by decide +kernel
theorem dX4_init_5 : decode cX4_init 5 = .ok (.bipush 8, 2) := by decide +kernel
theorem dX4_init_7 : decode cX4_init 7 = .ok (.anewarray 9, 3) := by decide +kernel
theorem dX4_init_10 : decode cX4_init 10 = .ok (.putfield 11, 3) := by decide +kernel
theorem dX4_init_13 : decode cX4_init 13 = .ok (.aload_n 0, 1) := by decide +kernel
theorem dX4_init_14 : decode cX4_init 14 = .ok (.bipush 8, 2) := by decide +kernel
theorem dX4_init_16 : decode cX4_init 16 = .ok (.anewarray 17, 3) := by decide +kernel
theorem dX4_init_19 : decode cX4_init 19 = .ok (.putfield 19, 3) := by decide +kernel
theorem dX4_init_22 : decode cX4_init 22 = .ok (.aload_n 0, 1) := by decide +kernel
theorem dX4_init_23 : decode cX4_init 23 = .ok (.bipush 64, 2) := by decide +kernel
theorem dX4_init_25 : decode cX4_init 25 = .ok (.newarray .int, 2) := by decide +kernel
theorem dX4_init_27 : decode cX4_init 27 = .ok (.putfield 23, 3) := by decide +kernel
theorem dX4_init_30 : decode cX4_init 30 = .ok (.aload_n 0, 1) := by decide +kernel
theorem dX4_init_31 : decode cX4_init 31 = .ok (.sipush 2304, 3) := by decide +kernel
theorem dX4_init_34 : decode cX4_init 34 = .ok (.newarray .int, 2) := by decide +kernel
theorem dX4_init_36 : decode cX4_init 36 = .ok (.putfield 27, 3) := by decide +kernel
theorem dX4_init_39 : decode cX4_init 39 = .ok (.aload_n 0, 1) := by decide +kernel
theorem dX4_init_40 : decode cX4_init 40 = .ok (.bipush 8, 2) := by decide +kernel
theorem dX4_init_42 : decode cX4_init 42 = .ok (.anewarray 17, 3) := by decide +kernel
theorem dX4_init_45 : decode cX4_init 45 = .ok (.putfield 30, 3) := by decide +kernel
theorem dX4_init_48 : decode cX4_init 48 = .ok (.aload_n 0, 1) := by decide +kernel
theorem dX4_init_49 : decode cX4_init 49 = .ok (.aload_n 1, 1) := by decide +kernel
theorem dX4_init_50 : decode cX4_init 50 = .ok (.putfield 33, 3) := by decide +kernel
theorem dX4_init_53 : decode cX4_init 53 = .ok (.return_, 1) := by decide +kernel
theorem dX4_isTold_0 : decode cX4_isTold 0 = .ok (.iconst 0, 1) := by decide +kernel
theorem dX4_isTold_1 : decode cX4_isTold 1 = .ok (.istore_n 2, 1) := by decide +kernel
theorem dX4_isTold_2 : decode cX4_isTold 2 = .ok (.iload_n 2, 1) := by decide +kernel
theorem dX4_isTold_3 : decode cX4_isTold 3 = .ok (.aload_n 0, 1) := by decide +kernel
theorem dX4_isTold_4 : decode cX4_isTold 4 = .ok (.getfield 37, 3) := by decide +kernel
theorem dX4_isTold_7 : decode cX4_isTold 7 = .ok (.if_icmp .ge 20, 3) := by decide +kernel
theorem dX4_isTold_10 : decode cX4_isTold 10 = .ok (.aload_n 0, 1) := by decide +kernel
theorem dX4_isTold_11 : decode cX4_isTold 11 = .ok (.iload_n 2, 1) := by decide +kernel
theorem dX4_isTold_12 : decode cX4_isTold 12 = .ok (.invokevirtual 41, 3) := by decide +kernel
theorem dX4_isTold_15 : decode cX4_isTold 15 = .ok (.aload_n 1, 1) := by decide +kernel
theorem dX4_isTold_16 : decode cX4_isTold 16 = .ok (.if_acmp .ne 5, 3) := by decide +kernel
theorem dX4_isTold_19 : decode cX4_isTold 19 = .ok (.iconst 1, 1) := by decide +kernel
theorem dX4_isTold_20 : decode cX4_isTold 20 = .ok (.ireturn, 1) := by decide +kernel
theorem dX4_isTold_21 : decode cX4_isTold 21 = .ok (.iinc 2 1, 3) := by decide +kernel
theorem dX4_isTold_24 : decode cX4_isTold 24 = .ok (.goto (-22), 3) := by decide +kernel
theorem dX4_isTold_27 : decode cX4_isTold 27 = .ok (.iconst 0, 1) := by decide +kernel
theorem dX4_isTold_28 : decode cX4_isTold 28 = .ok (.ireturn, 1) := by decide +kernel
theorem dX4_addLeaver_0 : decode cX4_addLeaver 0 = .ok (.aload_n 0, 1) := by decide +kernel
theorem dX4_addLeaver_1 : decode cX4_addLeaver 1 = .ok (.getfield 37, 3) := by decide +kernel
theorem dX4_addLeaver_4 : decode cX4_addLeaver 4 = .ok (.bipush 8, 2) := by decide +kernel
theorem dX4_addLeaver_6 : decode cX4_addLeaver 6 = .ok (.if_icmp .ge 23, 3) := by decide +kernel
theorem dX4_addLeaver_9 : decode cX4_addLeaver 9 = .ok (.aload_n 0, 1) := by decide +kernel
theorem dX4_addLeaver_10 : decode cX4_addLeaver 10 = .ok (.getfield 11, 3) := by decide +kernel
theorem dX4_addLeaver_13 : decode cX4_addLeaver 13 = .ok (.aload_n 0, 1) := by decide +kernel
theorem dX4_addLeaver_14 : decode cX4_addLeaver 14 = .ok (.getfield 37, 3) := by decide +kernel
theorem dX4_addLeaver_17 : decode cX4_addLeaver 17 = .ok (.aload_n 1, 1) := by decide +kernel
theorem dX4_addLeaver_18 : decode cX4_addLeaver 18 = .ok (.aastore, 1) := by decide +kernel
theorem dX4_addLeaver_19 : decode cX4_addLeaver 19 = .ok (.aload_n 0, 1) := by decide +kernel
theorem dX4_addLeaver_20 : decode cX4_addLeaver 20 = .ok (.dup, 1) := by decide +kernel
theorem dX4_addLeaver_21 : decode cX4_addLeaver 21 = .ok (.getfield 37, 3) := by decide +kernel
theorem dX4_addLeaver_24 : decode cX4_addLeaver 24 = .ok (.iconst 1, 1) := by decide +kernel
theorem dX4_addLeaver_25 : decode cX4_addLeaver 25 = .ok (.iadd, 1) := by decide +kernel
theorem dX4_addLeaver_26 : decode cX4_addLeaver 26 = .ok (.putfield 37, 3) := by decide +kernel
theorem dX4_addLeaver_29 : decode cX4_addLeaver 29 = .ok (.aload_n 0, 1) := by decide +kernel
theorem dX4_addLeaver_30 : decode cX4_addLeaver 30 = .ok (.getfield 37, 3) := by decide +kernel
theorem dX4_addLeaver_33 : decode cX4_addLeaver 33 = .ok (.ireturn, 1) := by decide +kernel
theorem dX4_leaverAt_0 : decode cX4_leaverAt 0 = .ok (.iload_n 1, 1) := by decide +kernel
theorem dX4_leaverAt_1 : decode cX4_leaverAt 1 = .ok (.ifCond .lt 26, 3) := by decide +kernel
theorem dX4_leaverAt_4 : decode cX4_leaverAt 4 = .ok (.iload_n 1, 1) := by decide +kernel
theorem dX4_leaverAt_5 : decode cX4_leaverAt 5 = .ok (.aload_n 0, 1) := by decide +kernel
theorem dX4_leaverAt_6 : decode cX4_leaverAt 6 = .ok (.getfield 37, 3) := by decide +kernel
theorem dX4_leaverAt_9 : decode cX4_leaverAt 9 = .ok (.if_icmp .ge 18, 3) := by decide +kernel
theorem dX4_leaverAt_12 : decode cX4_leaverAt 12 = .ok (.iload_n 1, 1) := by decide +kernel
theorem dX4_leaverAt_13 : decode cX4_leaverAt 13 = .ok (.bipush 8, 2) := by decide +kernel
theorem dX4_leaverAt_15 : decode cX4_leaverAt 15 = .ok (.if_icmp .ge 12, 3) := by decide +kernel
theorem dX4_leaverAt_18 : decode cX4_leaverAt 18 = .ok (.aload_n 0, 1) := by decide +kernel
theorem dX4_leaverAt_19 : decode cX4_leaverAt 19 = .ok (.getfield 11, 3) := by decide +kernel
theorem dX4_leaverAt_22 : decode cX4_leaverAt 22 = .ok (.iload_n 1, 1) := by decide +kernel
theorem dX4_leaverAt_23 : decode cX4_leaverAt 23 = .ok (.aaload, 1) := by decide +kernel
theorem dX4_leaverAt_24 : decode cX4_leaverAt 24 = .ok (.goto 4, 3) := by decide +kernel
theorem dX4_leaverAt_27 : decode cX4_leaverAt 27 = .ok (.aconst_null, 1) := by decide +kernel
theorem dX4_leaverAt_28 : decode cX4_leaverAt 28 = .ok (.areturn, 1) := by decide +kernel
theorem dX4_vacantAt_0 : decode cX4_vacantAt 0 = .ok (.iload_n 1, 1) := by decide +kernel
theorem dX4_vacantAt_1 : decode cX4_vacantAt 1 = .ok (.ifCond .lt 26, 3) := by decide +kernel
theorem dX4_vacantAt_4 : decode cX4_vacantAt 4 = .ok (.iload_n 1, 1) := by decide +kernel
theorem dX4_vacantAt_5 : decode cX4_vacantAt 5 = .ok (.aload_n 0, 1) := by decide +kernel
theorem dX4_vacantAt_6 : decode cX4_vacantAt 6 = .ok (.getfield 45, 3) := by decide +kernel
theorem dX4_vacantAt_9 : decode cX4_vacantAt 9 = .ok (.if_icmp .ge 18, 3) := by decide +kernel
theorem dX4_vacantAt_12 : decode cX4_vacantAt 12 = .ok (.iload_n 1, 1) := by decide +kernel
theorem dX4_vacantAt_13 : decode cX4_vacantAt 13 = .ok (.bipush 8, 2) := by decide +kernel
theorem dX4_vacantAt_15 : decode cX4_vacantAt 15 = .ok (.if_icmp .ge 12, 3) := by decide +kernel
theorem dX4_vacantAt_18 : decode cX4_vacantAt 18 = .ok (.aload_n 0, 1) := by decide +kernel
theorem dX4_vacantAt_19 : decode cX4_vacantAt 19 = .ok (.getfield 19, 3) := by decide +kernel
theorem dX4_vacantAt_22 : decode cX4_vacantAt 22 = .ok (.iload_n 1, 1) := by decide +kernel
theorem dX4_vacantAt_23 : decode cX4_vacantAt 23 = .ok (.aaload, 1) := by decide +kernel
theorem dX4_vacantAt_24 : decode cX4_vacantAt 24 = .ok (.goto 4, 3) := by decide +kernel
theorem dX4_vacantAt_27 : decode cX4_vacantAt 27 = .ok (.aconst_null, 1) := by decide +kernel
theorem dX4_vacantAt_28 : decode cX4_vacantAt 28 = .ok (.areturn, 1) := by decide +kernel
theorem dX4_settle_0 : decode cX4_settle 0 = .ok (.aload_n 0, 1) := by decide +kernel
theorem dX4_settle_1 : decode cX4_settle 1 = .ok (.invokevirtual 48, 3) := by decide +kernel
theorem dX4_settle_4 : decode cX4_settle 4 = .ok (.iconst 0, 1) := by decide +kernel
theorem dX4_settle_5 : decode cX4_settle 5 = .ok (.istore_n 1, 1) := by decide +kernel
theorem dX4_settle_6 : decode cX4_settle 6 = .ok (.iload_n 1, 1) := by decide +kernel
theorem dX4_settle_7 : decode cX4_settle 7 = .ok (.aload_n 0, 1) := by decide +kernel
theorem dX4_settle_8 : decode cX4_settle 8 = .ok (.getfield 37, 3) := by decide +kernel
theorem dX4_settle_11 : decode cX4_settle 11 = .ok (.if_icmp .ge 14, 3) := by decide +kernel
theorem dX4_settle_14 : decode cX4_settle 14 = .ok (.aload_n 0, 1) := by decide +kernel
theorem dX4_settle_15 : decode cX4_settle 15 = .ok (.iload_n 1, 1) := by decide +kernel
theorem dX4_settle_16 : decode cX4_settle 16 = .ok (.invokevirtual 51, 3) := by decide +kernel
theorem dX4_settle_19 : decode cX4_settle 19 = .ok (.iinc 1 1, 3) := by decide +kernel
theorem dX4_settle_22 : decode cX4_settle 22 = .ok (.goto (-16), 3) := by decide +kernel
theorem dX4_settle_25 : decode cX4_settle 25 = .ok (.aload_n 0, 1) := by decide +kernel
theorem dX4_settle_26 : decode cX4_settle 26 = .ok (.getfield 27, 3) := by decide +kernel
theorem dX4_settle_29 : decode cX4_settle 29 = .ok (.iconst 0, 1) := by decide +kernel
theorem dX4_settle_30 : decode cX4_settle 30 = .ok (.invokestatic 55, 3) := by decide +kernel
theorem dX4_settle_33 : decode cX4_settle 33 = .ok (.aload_n 0, 1) := by decide +kernel
theorem dX4_settle_34 : decode cX4_settle 34 = .ok (.getfield 37, 3) := by decide +kernel
theorem dX4_settle_37 : decode cX4_settle 37 = .ok (.iconst 1, 1) := by decide +kernel
theorem dX4_settle_38 : decode cX4_settle 38 = .ok (.isub, 1) := by decide +kernel
theorem dX4_settle_39 : decode cX4_settle 39 = .ok (.istore_n 1, 1) := by decide +kernel
theorem dX4_settle_40 : decode cX4_settle 40 = .ok (.iload_n 1, 1) := by decide +kernel
theorem dX4_settle_41 : decode cX4_settle 41 = .ok (.ifCond .lt 14, 3) := by decide +kernel
theorem dX4_settle_44 : decode cX4_settle 44 = .ok (.aload_n 0, 1) := by decide +kernel
theorem dX4_settle_45 : decode cX4_settle 45 = .ok (.iload_n 1, 1) := by decide +kernel
theorem dX4_settle_46 : decode cX4_settle 46 = .ok (.invokevirtual 61, 3) := by decide +kernel
theorem dX4_settle_49 : decode cX4_settle 49 = .ok (.iinc 1 (-1), 3) := by decide +kernel
theorem dX4_settle_52 : decode cX4_settle 52 = .ok (.goto (-12), 3) := by decide +kernel
theorem dX4_settle_55 : decode cX4_settle 55 = .ok (.aload_n 0, 1) := by decide +kernel
theorem dX4_settle_56 : decode cX4_settle 56 = .ok (.invokevirtual 64, 3) := by decide +kernel
theorem dX4_settle_59 : decode cX4_settle 59 = .ok (.return_, 1) := by decide +kernel
theorem dX4_gatherVacant_0 : decode cX4_gatherVacant 0 = .ok (.aload_n 0, 1) := by decide +kernel
theorem dX4_gatherVacant_1 : decode cX4_gatherVacant 1 = .ok (.iconst 0, 1) := by decide +kernel
theorem dX4_gatherVacant_2 : decode cX4_gatherVacant 2 = .ok (.putfield 45, 3) := by decide +kernel
theorem dX4_gatherVacant_5 : decode cX4_gatherVacant 5 = .ok (.iconst 0, 1) := by decide +kernel
theorem dX4_gatherVacant_6 : decode cX4_gatherVacant 6 = .ok (.istore_n 1, 1) := by decide +kernel
theorem dX4_gatherVacant_7 : decode cX4_gatherVacant 7 = .ok (.iload_n 1, 1) := by decide +kernel
theorem dX4_gatherVacant_8 : decode cX4_gatherVacant 8 = .ok (.aload_n 0, 1) := by decide +kernel
theorem dX4_gatherVacant_9 : decode cX4_gatherVacant 9 = .ok (.getfield 33, 3) := by decide +kernel
theorem dX4_gatherVacant_12 : decode cX4_gatherVacant 12 = .ok (.getfield 67, 3) := by decide +kernel
theorem dX4_gatherVacant_15 : decode cX4_gatherVacant 15 = .ok (.if_icmp .ge 58, 3) := by decide +kernel
theorem dX4_gatherVacant_18 : decode cX4_gatherVacant 18 = .ok (.aload_n 0, 1) := by decide +kernel
theorem dX4_gatherVacant_19 : decode cX4_gatherVacant 19 = .ok (.getfield 45, 3) := by decide +kernel
theorem dX4_gatherVacant_22 : decode cX4_gatherVacant 22 = .ok (.bipush 8, 2) := by decide +kernel
theorem dX4_gatherVacant_24 : decode cX4_gatherVacant 24 = .ok (.if_icmp .ge 49, 3) := by decide +kernel
theorem dX4_gatherVacant_27 : decode cX4_gatherVacant 27 = .ok (.aload_n 0, 1) := by decide +kernel
theorem dX4_gatherVacant_28 : decode cX4_gatherVacant 28 = .ok (.getfield 33, 3) := by decide +kernel
theorem dX4_gatherVacant_31 : decode cX4_gatherVacant 31 = .ok (.iload_n 1, 1) := by decide +kernel
theorem dX4_gatherVacant_32 : decode cX4_gatherVacant 32 = .ok (.invokevirtual 72, 3) := by decide +kernel
theorem dX4_gatherVacant_35 : decode cX4_gatherVacant 35 = .ok (.astore_n 2, 1) := by decide +kernel
theorem dX4_gatherVacant_36 : decode cX4_gatherVacant 36 = .ok (.aload_n 2, 1) := by decide +kernel
theorem dX4_gatherVacant_37 : decode cX4_gatherVacant 37 = .ok (.ifnull 30, 3) := by decide +kernel
theorem dX4_gatherVacant_40 : decode cX4_gatherVacant 40 = .ok (.aload_n 2, 1) := by decide +kernel
theorem dX4_gatherVacant_41 : decode cX4_gatherVacant 41 = .ok (.invokevirtual 76, 3) := by decide +kernel
theorem dX4_gatherVacant_44 : decode cX4_gatherVacant 44 = .ok (.ifCond .eq 23, 3) := by decide +kernel
theorem dX4_gatherVacant_47 : decode cX4_gatherVacant 47 = .ok (.aload_n 0, 1) := by decide +kernel
theorem dX4_gatherVacant_48 : decode cX4_gatherVacant 48 = .ok (.getfield 19, 3) := by decide +kernel
theorem dX4_gatherVacant_51 : decode cX4_gatherVacant 51 = .ok (.aload_n 0, 1) := by decide +kernel
theorem dX4_gatherVacant_52 : decode cX4_gatherVacant 52 = .ok (.getfield 45, 3) := by decide +kernel
theorem dX4_gatherVacant_55 : decode cX4_gatherVacant 55 = .ok (.aload_n 2, 1) := by decide +kernel
theorem dX4_gatherVacant_56 : decode cX4_gatherVacant 56 = .ok (.aastore, 1) := by decide +kernel
theorem dX4_gatherVacant_57 : decode cX4_gatherVacant 57 = .ok (.aload_n 0, 1) := by decide +kernel
theorem dX4_gatherVacant_58 : decode cX4_gatherVacant 58 = .ok (.dup, 1) := by decide +kernel
theorem dX4_gatherVacant_59 : decode cX4_gatherVacant 59 = .ok (.getfield 45, 3) := by decide +kernel
theorem dX4_gatherVacant_62 : decode cX4_gatherVacant 62 = .ok (.iconst 1, 1) := by decide +kernel
theorem dX4_gatherVacant_63 : decode cX4_gatherVacant 63 = .ok (.iadd, 1) := by decide +kernel
theorem dX4_gatherVacant_64 : decode cX4_gatherVacant 64 = .ok (.putfield 45, 3) := by decide +kernel
theorem dX4_gatherVacant_67 : decode cX4_gatherVacant 67 = .ok (.iinc 1 1, 3) := by decide +kernel
theorem dX4_gatherVacant_70 : decode cX4_gatherVacant 70 = .ok (.goto (-63), 3) := by decide +kernel
theorem dX4_gatherVacant_73 : decode cX4_gatherVacant 73 = .ok (.return_, 1) := by decide +kernel
theorem dX4_gatherWorth_0 : decode cX4_gatherWorth 0 = .ok (.iconst 0, 1) := by decide +kernel
theorem dX4_gatherWorth_1 : decode cX4_gatherWorth 1 = .ok (.istore_n 2, 1) := by decide +kernel
theorem dX4_gatherWorth_2 : decode cX4_gatherWorth 2 = .ok (.iload_n 2, 1) := by decide +kernel
theorem dX4_gatherWorth_3 : decode cX4_gatherWorth 3 = .ok (.bipush 8, 2) := by decide +kernel
theorem dX4_gatherWorth_5 : decode cX4_gatherWorth 5 = .ok (.if_icmp .ge 49, 3) := by decide +kernel
theorem dX4_gatherWorth_8 : decode cX4_gatherWorth 8 = .ok (.iload_n 1, 1) := by decide +kernel
theorem dX4_gatherWorth_9 : decode cX4_gatherWorth 9 = .ok (.bipush 8, 2) := by decide +kernel
theorem dX4_gatherWorth_11 : decode cX4_gatherWorth 11 = .ok (.imul, 1) := by decide +kernel
theorem dX4_gatherWorth_12 : decode cX4_gatherWorth 12 = .ok (.iload_n 2, 1) := by decide +kernel
theorem dX4_gatherWorth_13 : decode cX4_gatherWorth 13 = .ok (.iadd, 1) := by decide +kernel
theorem dX4_gatherWorth_14 : decode cX4_gatherWorth 14 = .ok (.istore_n 3, 1) := by decide +kernel
theorem dX4_gatherWorth_15 : decode cX4_gatherWorth 15 = .ok (.iload_n 3, 1) := by decide +kernel
theorem dX4_gatherWorth_16 : decode cX4_gatherWorth 16 = .ok (.ifCond .lt 32, 3) := by decide +kernel
theorem dX4_gatherWorth_19 : decode cX4_gatherWorth 19 = .ok (.iload_n 3, 1) := by decide +kernel
theorem dX4_gatherWorth_20 : decode cX4_gatherWorth 20 = .ok (.aload_n 0, 1) := by decide +kernel
theorem dX4_gatherWorth_21 : decode cX4_gatherWorth 21 = .ok (.getfield 23, 3) := by decide +kernel
theorem dX4_gatherWorth_24 : decode cX4_gatherWorth 24 = .ok (.arraylength, 1) := by decide +kernel
theorem dX4_gatherWorth_25 : decode cX4_gatherWorth 25 = .ok (.if_icmp .ge 23, 3) := by decide +kernel
theorem dX4_gatherWorth_28 : decode cX4_gatherWorth 28 = .ok (.aload_n 0, 1) := by decide +kernel
theorem dX4_gatherWorth_29 : decode cX4_gatherWorth 29 = .ok (.getfield 23, 3) := by decide +kernel
theorem dX4_gatherWorth_32 : decode cX4_gatherWorth 32 = .ok (.iload_n 3, 1) := by decide +kernel
theorem dX4_gatherWorth_33 : decode cX4_gatherWorth 33 = .ok (.aload_n 0, 1) := by decide +kernel
theorem dX4_gatherWorth_34 : decode cX4_gatherWorth 34 = .ok (.aload_n 0, 1) := by decide +kernel
theorem dX4_gatherWorth_35 : decode cX4_gatherWorth 35 = .ok (.iload_n 1, 1) := by decide +kernel
theorem dX4_gatherWorth_36 : decode cX4_gatherWorth 36 = .ok (.invokevirtual 41, 3) := by decide +kernel
theorem dX4_gatherWorth_39 : decode cX4_gatherWorth 39 = .ok (.aload_n 0, 1) := by decide +kernel
theorem dX4_gatherWorth_40 : decode cX4_gatherWorth 40 = .ok (.iload_n 2, 1) := by decide +kernel
theorem dX4_gatherWorth_41 : decode cX4_gatherWorth 41 = .ok (.invokevirtual 80, 3) := by decide +kernel
theorem dX4_gatherWorth_44 : decode cX4_gatherWorth 44 = .ok (.invokevirtual 83, 3) := by decide +kernel
theorem dX4_gatherWorth_47 : decode cX4_gatherWorth 47 = .ok (.iastore, 1) := by decide +kernel
theorem dX4_gatherWorth_48 : decode cX4_gatherWorth 48 = .ok (.iinc 2 1, 3) := by decide +kernel
theorem dX4_gatherWorth_51 : decode cX4_gatherWorth 51 = .ok (.goto (-49), 3) := by decide +kernel
theorem dX4_gatherWorth_54 : decode cX4_gatherWorth 54 = .ok (.return_, 1) := by decide +kernel
theorem dX4_worthTo_0 : decode cX4_worthTo 0 = .ok (.aload_n 1, 1) := by decide +kernel
theorem dX4_worthTo_1 : decode cX4_worthTo 1 = .ok (.ifnull 14, 3) := by decide +kernel
theorem dX4_worthTo_4 : decode cX4_worthTo 4 = .ok (.aload_n 2, 1) := by decide +kernel
theorem dX4_worthTo_5 : decode cX4_worthTo 5 = .ok (.ifnull 10, 3) := by decide +kernel
theorem dX4_worthTo_8 : decode cX4_worthTo 8 = .ok (.aload_n 1, 1) := by decide +kernel
theorem dX4_worthTo_9 : decode cX4_worthTo 9 = .ok (.invokevirtual 87, 3) := by decide +kernel
theorem dX4_worthTo_12 : decode cX4_worthTo 12 = .ok (.ifCond .ne 5, 3) := by decide +kernel
theorem dX4_worthTo_15 : decode cX4_worthTo 15 = .ok (.iconst 0, 1) := by decide +kernel
theorem dX4_worthTo_16 : decode cX4_worthTo 16 = .ok (.ireturn, 1) := by decide +kernel
theorem dX4_worthTo_17 : decode cX4_worthTo 17 = .ok (.aload_n 0, 1) := by decide +kernel
theorem dX4_worthTo_18 : decode cX4_worthTo 18 = .ok (.getfield 33, 3) := by decide +kernel
theorem dX4_worthTo_21 : decode cX4_worthTo 21 = .ok (.aload_n 1, 1) := by decide +kernel
theorem dX4_worthTo_22 : decode cX4_worthTo 22 = .ok (.aload_n 2, 1) := by decide +kernel
theorem dX4_worthTo_23 : decode cX4_worthTo 23 = .ok (.invokevirtual 90, 3) := by decide +kernel
theorem dX4_worthTo_26 : decode cX4_worthTo 26 = .ok (.istore_n 3, 1) := by decide +kernel
theorem dX4_worthTo_27 : decode cX4_worthTo 27 = .ok (.iload_n 3, 1) := by decide +kernel
theorem dX4_worthTo_28 : decode cX4_worthTo 28 = .ok (.bipush 30, 2) := by decide +kernel
theorem dX4_worthTo_30 : decode cX4_worthTo 30 = .ok (.if_icmp .ge 5, 3) := by decide +kernel
theorem dX4_worthTo_33 : decode cX4_worthTo 33 = .ok (.iconst 0, 1) := by decide +kernel
theorem dX4_worthTo_34 : decode cX4_worthTo 34 = .ok (.ireturn, 1) := by decide +kernel
theorem dX4_worthTo_35 : decode cX4_worthTo 35 = .ok (.iload_n 3, 1) := by decide +kernel
theorem dX4_worthTo_36 : decode cX4_worthTo 36 = .ok (.sipush 1000, 3) := by decide +kernel
theorem dX4_worthTo_39 : decode cX4_worthTo 39 = .ok (.iadd, 1) := by decide +kernel
theorem dX4_worthTo_40 : decode cX4_worthTo 40 = .ok (.aload_n 0, 1) := by decide +kernel
theorem dX4_worthTo_41 : decode cX4_worthTo 41 = .ok (.getfield 33, 3) := by decide +kernel
theorem dX4_worthTo_44 : decode cX4_worthTo 44 = .ok (.aload_n 1, 1) := by decide +kernel
theorem dX4_worthTo_45 : decode cX4_worthTo 45 = .ok (.invokevirtual 93, 3) := by decide +kernel
theorem dX4_worthTo_48 : decode cX4_worthTo 48 = .ok (.ifCond .eq 8, 3) := by decide +kernel
theorem dX4_worthTo_51 : decode cX4_worthTo 51 = .ok (.ldc 97, 2) := by decide +kernel
theorem dX4_worthTo_53 : decode cX4_worthTo 53 = .ok (.goto 4, 3) := by decide +kernel
theorem dX4_worthTo_56 : decode cX4_worthTo 56 = .ok (.iconst 0, 1) := by decide +kernel
theorem dX4_worthTo_57 : decode cX4_worthTo 57 = .ok (.iadd, 1) := by decide +kernel
theorem dX4_worthTo_58 : decode cX4_worthTo 58 = .ok (.ireturn, 1) := by decide +kernel
theorem dX4_bestFrom_0 : decode cX4_bestFrom 0 = .ok (.iload_n 1, 1) := by decide +kernel
theorem dX4_bestFrom_1 : decode cX4_bestFrom 1 = .ok (.sipush 256, 3) := by decide +kernel
theorem dX4_bestFrom_4 : decode cX4_bestFrom 4 = .ok (.imul, 1) := by decide +kernel
theorem dX4_bestFrom_5 : decode cX4_bestFrom 5 = .ok (.iload_n 2, 1) := by decide +kernel
theorem dX4_bestFrom_6 : decode cX4_bestFrom 6 = .ok (.iadd, 1) := by decide +kernel
theorem dX4_bestFrom_7 : decode cX4_bestFrom 7 = .ok (.istore_n 3, 1) := by decide +kernel
theorem dX4_bestFrom_8 : decode cX4_bestFrom 8 = .ok (.iload_n 3, 1) := by decide +kernel
theorem dX4_bestFrom_9 : decode cX4_bestFrom 9 = .ok (.ifCond .lt 21, 3) := by decide +kernel
theorem dX4_bestFrom_12 : decode cX4_bestFrom 12 = .ok (.iload_n 3, 1) := by decide +kernel
theorem dX4_bestFrom_13 : decode cX4_bestFrom 13 = .ok (.aload_n 0, 1) := by decide +kernel
theorem dX4_bestFrom_14 : decode cX4_bestFrom 14 = .ok (.getfield 27, 3) := by decide +kernel
theorem dX4_bestFrom_17 : decode cX4_bestFrom 17 = .ok (.arraylength, 1) := by decide +kernel
theorem dX4_bestFrom_18 : decode cX4_bestFrom 18 = .ok (.if_icmp .ge 12, 3) := by decide +kernel
theorem dX4_bestFrom_21 : decode cX4_bestFrom 21 = .ok (.aload_n 0, 1) := by decide +kernel
theorem dX4_bestFrom_22 : decode cX4_bestFrom 22 = .ok (.getfield 27, 3) := by decide +kernel
theorem dX4_bestFrom_25 : decode cX4_bestFrom 25 = .ok (.iload_n 3, 1) := by decide +kernel
theorem dX4_bestFrom_26 : decode cX4_bestFrom 26 = .ok (.iaload, 1) := by decide +kernel
theorem dX4_bestFrom_27 : decode cX4_bestFrom 27 = .ok (.goto 4, 3) := by decide +kernel
theorem dX4_bestFrom_30 : decode cX4_bestFrom 30 = .ok (.iconst 0, 1) := by decide +kernel
theorem dX4_bestFrom_31 : decode cX4_bestFrom 31 = .ok (.ireturn, 1) := by decide +kernel
theorem dX4_bestWith_0 : decode cX4_bestWith 0 = .ok (.iload_n 1, 1) := by decide +kernel
theorem dX4_bestWith_1 : decode cX4_bestWith 1 = .ok (.bipush 8, 2) := by decide +kernel
theorem dX4_bestWith_3 : decode cX4_bestWith 3 = .ok (.imul, 1) := by decide +kernel
theorem dX4_bestWith_4 : decode cX4_bestWith 4 = .ok (.iload_n 2, 1) := by decide +kernel
theorem dX4_bestWith_5 : decode cX4_bestWith 5 = .ok (.iadd, 1) := by decide +kernel
theorem dX4_bestWith_6 : decode cX4_bestWith 6 = .ok (.istore 4, 2) := by decide +kernel
theorem dX4_bestWith_8 : decode cX4_bestWith 8 = .ok (.iload 4, 2) := by decide +kernel
theorem dX4_bestWith_10 : decode cX4_bestWith 10 = .ok (.ifCond .lt 32, 3) := by decide +kernel
theorem dX4_bestWith_13 : decode cX4_bestWith 13 = .ok (.iload 4, 2) := by decide +kernel
theorem dX4_bestWith_15 : decode cX4_bestWith 15 = .ok (.aload_n 0, 1) := by decide +kernel
theorem dX4_bestWith_16 : decode cX4_bestWith 16 = .ok (.getfield 23, 3) := by decide +kernel
theorem dX4_bestWith_19 : decode cX4_bestWith 19 = .ok (.arraylength, 1) := by decide +kernel
theorem dX4_bestWith_20 : decode cX4_bestWith 20 = .ok (.if_icmp .ge 22, 3) := by decide +kernel
theorem dX4_bestWith_23 : decode cX4_bestWith 23 = .ok (.aload_n 0, 1) := by decide +kernel
theorem dX4_bestWith_24 : decode cX4_bestWith 24 = .ok (.getfield 23, 3) := by decide +kernel
theorem dX4_bestWith_27 : decode cX4_bestWith 27 = .ok (.iload 4, 2) := by decide +kernel
theorem dX4_bestWith_29 : decode cX4_bestWith 29 = .ok (.iaload, 1) := by decide +kernel
theorem dX4_bestWith_30 : decode cX4_bestWith 30 = .ok (.ifCond .eq 12, 3) := by decide +kernel
theorem dX4_bestWith_33 : decode cX4_bestWith 33 = .ok (.iload_n 3, 1) := by decide +kernel
theorem dX4_bestWith_34 : decode cX4_bestWith 34 = .ok (.iload_n 2, 1) := by decide +kernel
theorem dX4_bestWith_35 : decode cX4_bestWith 35 = .ok (.ishr, 1) := by decide +kernel
theorem dX4_bestWith_36 : decode cX4_bestWith 36 = .ok (.iconst 1, 1) := by decide +kernel
theorem dX4_bestWith_37 : decode cX4_bestWith 37 = .ok (.iand, 1) := by decide +kernel
theorem dX4_bestWith_38 : decode cX4_bestWith 38 = .ok (.iconst 1, 1) := by decide +kernel
theorem dX4_bestWith_39 : decode cX4_bestWith 39 = .ok (.if_icmp .ne 5, 3) := by decide +kernel
theorem dX4_bestWith_42 : decode cX4_bestWith 42 = .ok (.iconst (-1), 1) := by decide +kernel
theorem dX4_bestWith_43 : decode cX4_bestWith 43 = .ok (.ireturn, 1) := by decide +kernel
theorem dX4_bestWith_44 : decode cX4_bestWith 44 = .ok (.aload_n 0, 1) := by decide +kernel
theorem dX4_bestWith_45 : decode cX4_bestWith 45 = .ok (.getfield 23, 3) := by decide +kernel
theorem dX4_bestWith_48 : decode cX4_bestWith 48 = .ok (.iload 4, 2) := by decide +kernel
theorem dX4_bestWith_50 : decode cX4_bestWith 50 = .ok (.iaload, 1) := by decide +kernel
theorem dX4_bestWith_51 : decode cX4_bestWith 51 = .ok (.aload_n 0, 1) := by decide +kernel
theorem dX4_bestWith_52 : decode cX4_bestWith 52 = .ok (.iload_n 1, 1) := by decide +kernel
theorem dX4_bestWith_53 : decode cX4_bestWith 53 = .ok (.iconst 1, 1) := by decide +kernel
theorem dX4_bestWith_54 : decode cX4_bestWith 54 = .ok (.iadd, 1) := by decide +kernel
theorem dX4_bestWith_55 : decode cX4_bestWith 55 = .ok (.iload_n 3, 1) := by decide +kernel
theorem dX4_bestWith_56 : decode cX4_bestWith 56 = .ok (.iconst 1, 1) := by decide +kernel
theorem dX4_bestWith_57 : decode cX4_bestWith 57 = .ok (.iload_n 2, 1) := by decide +kernel
theorem dX4_bestWith_58 : decode cX4_bestWith 58 = .ok (.ishl, 1) := by decide +kernel
theorem dX4_bestWith_59 : decode cX4_bestWith 59 = .ok (.ior, 1) := by decide +kernel
theorem dX4_bestWith_60 : decode cX4_bestWith 60 = .ok (.invokevirtual 98, 3) := by decide +kernel
theorem dX4_bestWith_63 : decode cX4_bestWith 63 = .ok (.iadd, 1) := by decide +kernel
theorem dX4_bestWith_64 : decode cX4_bestWith 64 = .ok (.ireturn, 1) := by decide +kernel
theorem dX4_fillRow_0 : decode cX4_fillRow 0 = .ok (.iconst 0, 1) := by decide +kernel
theorem dX4_fillRow_1 : decode cX4_fillRow 1 = .ok (.istore_n 2, 1) := by decide +kernel
theorem dX4_fillRow_2 : decode cX4_fillRow 2 = .ok (.iload_n 2, 1) := by decide +kernel
theorem dX4_fillRow_3 : decode cX4_fillRow 3 = .ok (.iconst 1, 1) := by decide +kernel
theorem dX4_fillRow_4 : decode cX4_fillRow 4 = .ok (.aload_n 0, 1) := by decide +kernel
theorem dX4_fillRow_5 : decode cX4_fillRow 5 = .ok (.getfield 45, 3) := by decide +kernel
theorem dX4_fillRow_8 : decode cX4_fillRow 8 = .ok (.ishl, 1) := by decide +kernel
theorem dX4_fillRow_9 : decode cX4_fillRow 9 = .ok (.if_icmp .ge 23, 3) := by decide +kernel
theorem dX4_fillRow_12 : decode cX4_fillRow 12 = .ok (.iload_n 2, 1) := by decide +kernel
theorem dX4_fillRow_13 : decode cX4_fillRow 13 = .ok (.invokestatic 102, 3) := by decide +kernel
theorem dX4_fillRow_16 : decode cX4_fillRow 16 = .ok (.iload_n 1, 1) := by decide +kernel
theorem dX4_fillRow_17 : decode cX4_fillRow 17 = .ok (.if_icmp .gt 9, 3) := by decide +kernel
theorem dX4_fillRow_20 : decode cX4_fillRow 20 = .ok (.aload_n 0, 1) := by decide +kernel
theorem dX4_fillRow_21 : decode cX4_fillRow 21 = .ok (.iload_n 1, 1) := by decide +kernel
theorem dX4_fillRow_22 : decode cX4_fillRow 22 = .ok (.iload_n 2, 1) := by decide +kernel
theorem dX4_fillRow_23 : decode cX4_fillRow 23 = .ok (.invokevirtual 108, 3) := by decide +kernel
theorem dX4_fillRow_26 : decode cX4_fillRow 26 = .ok (.iinc 2 1, 3) := by decide +kernel
theorem dX4_fillRow_29 : decode cX4_fillRow 29 = .ok (.goto (-27), 3) := by decide +kernel
theorem dX4_fillRow_32 : decode cX4_fillRow 32 = .ok (.return_, 1) := by decide +kernel
theorem dX4_fillBest_0 : decode cX4_fillBest 0 = .ok (.aload_n 0, 1) := by decide +kernel
theorem dX4_fillBest_1 : decode cX4_fillBest 1 = .ok (.iload_n 1, 1) := by decide +kernel
theorem dX4_fillBest_2 : decode cX4_fillBest 2 = .ok (.iconst 1, 1) := by decide +kernel
theorem dX4_fillBest_3 : decode cX4_fillBest 3 = .ok (.iadd, 1) := by decide +kernel
theorem dX4_fillBest_4 : decode cX4_fillBest 4 = .ok (.iload_n 2, 1) := by decide +kernel
theorem dX4_fillBest_5 : decode cX4_fillBest 5 = .ok (.invokevirtual 98, 3) := by decide +kernel
theorem dX4_fillBest_8 : decode cX4_fillBest 8 = .ok (.istore_n 3, 1) := by decide +kernel
theorem dX4_fillBest_9 : decode cX4_fillBest 9 = .ok (.iconst 0, 1) := by decide +kernel
theorem dX4_fillBest_10 : decode cX4_fillBest 10 = .ok (.istore 4, 2) := by decide +kernel
theorem dX4_fillBest_12 : decode cX4_fillBest 12 = .ok (.iload 4, 2) := by decide +kernel
theorem dX4_fillBest_14 : decode cX4_fillBest 14 = .ok (.aload_n 0, 1) := by decide +kernel
theorem dX4_fillBest_15 : decode cX4_fillBest 15 = .ok (.getfield 45, 3) := by decide +kernel
theorem dX4_fillBest_18 : decode cX4_fillBest 18 = .ok (.if_icmp .ge 22, 3) := by decide +kernel
theorem dX4_fillBest_21 : decode cX4_fillBest 21 = .ok (.iload_n 3, 1) := by decide +kernel
theorem dX4_fillBest_22 : decode cX4_fillBest 22 = .ok (.aload_n 0, 1) := by decide +kernel
theorem dX4_fillBest_23 : decode cX4_fillBest 23 = .ok (.iload_n 1, 1) := by decide +kernel
theorem dX4_fillBest_24 : decode cX4_fillBest 24 = .ok (.iload 4, 2) := by decide +kernel
theorem dX4_fillBest_26 : decode cX4_fillBest 26 = .ok (.iload_n 2, 1) := by decide +kernel
theorem dX4_fillBest_27 : decode cX4_fillBest 27 = .ok (.invokevirtual 112, 3) := by decide +kernel
theorem dX4_fillBest_30 : decode cX4_fillBest 30 = .ok (.invokestatic 116, 3) := by decide +kernel
theorem dX4_fillBest_33 : decode cX4_fillBest 33 = .ok (.istore_n 3, 1) := by decide +kernel
theorem dX4_fillBest_34 : decode cX4_fillBest 34 = .ok (.iinc 4 1, 3) := by decide +kernel
theorem dX4_fillBest_37 : decode cX4_fillBest 37 = .ok (.goto (-25), 3) := by decide +kernel
theorem dX4_fillBest_40 : decode cX4_fillBest 40 = .ok (.iload_n 1, 1) := by decide +kernel
theorem dX4_fillBest_41 : decode cX4_fillBest 41 = .ok (.sipush 256, 3) := by decide +kernel
theorem dX4_fillBest_44 : decode cX4_fillBest 44 = .ok (.imul, 1) := by decide +kernel
theorem dX4_fillBest_45 : decode cX4_fillBest 45 = .ok (.iload_n 2, 1) := by decide +kernel
theorem dX4_fillBest_46 : decode cX4_fillBest 46 = .ok (.iadd, 1) := by decide +kernel
theorem dX4_fillBest_47 : decode cX4_fillBest 47 = .ok (.istore 4, 2) := by decide +kernel
theorem dX4_fillBest_49 : decode cX4_fillBest 49 = .ok (.iload 4, 2) := by decide +kernel
theorem dX4_fillBest_51 : decode cX4_fillBest 51 = .ok (.ifCond .lt 21, 3) := by decide +kernel
theorem dX4_fillBest_54 : decode cX4_fillBest 54 = .ok (.iload 4, 2) := by decide +kernel
theorem dX4_fillBest_56 : decode cX4_fillBest 56 = .ok (.aload_n 0, 1) := by decide +kernel
theorem dX4_fillBest_57 : decode cX4_fillBest 57 = .ok (.getfield 27, 3) := by decide +kernel
theorem dX4_fillBest_60 : decode cX4_fillBest 60 = .ok (.arraylength, 1) := by decide +kernel
theorem dX4_fillBest_61 : decode cX4_fillBest 61 = .ok (.if_icmp .ge 11, 3) := by decide +kernel
theorem dX4_fillBest_64 : decode cX4_fillBest 64 = .ok (.aload_n 0, 1) := by decide +kernel
theorem dX4_fillBest_65 : decode cX4_fillBest 65 = .ok (.getfield 27, 3) := by decide +kernel
theorem dX4_fillBest_68 : decode cX4_fillBest 68 = .ok (.iload 4, 2) := by decide +kernel
theorem dX4_fillBest_70 : decode cX4_fillBest 70 = .ok (.iload_n 3, 1) := by decide +kernel
theorem dX4_fillBest_71 : decode cX4_fillBest 71 = .ok (.iastore, 1) := by decide +kernel
theorem dX4_fillBest_72 : decode cX4_fillBest 72 = .ok (.return_, 1) := by decide +kernel
theorem dX4_pickOffers_0 : decode cX4_pickOffers 0 = .ok (.iconst 0, 1) := by decide +kernel
theorem dX4_pickOffers_1 : decode cX4_pickOffers 1 = .ok (.istore_n 1, 1) := by decide +kernel
theorem dX4_pickOffers_2 : decode cX4_pickOffers 2 = .ok (.iconst 0, 1) := by decide +kernel
theorem dX4_pickOffers_3 : decode cX4_pickOffers 3 = .ok (.istore_n 2, 1) := by decide +kernel
theorem dX4_pickOffers_4 : decode cX4_pickOffers 4 = .ok (.iload_n 2, 1) := by decide +kernel
theorem dX4_pickOffers_5 : decode cX4_pickOffers 5 = .ok (.aload_n 0, 1) := by decide +kernel
theorem dX4_pickOffers_6 : decode cX4_pickOffers 6 = .ok (.getfield 37, 3) := by decide +kernel
theorem dX4_pickOffers_9 : decode cX4_pickOffers 9 = .ok (.if_icmp .ge 43, 3) := by decide +kernel
theorem dX4_pickOffers_12 : decode cX4_pickOffers 12 = .ok (.iload_n 2, 1) := by decide +kernel
theorem dX4_pickOffers_13 : decode cX4_pickOffers 13 = .ok (.bipush 8, 2) := by decide +kernel
theorem dX4_pickOffers_15 : decode cX4_pickOffers 15 = .ok (.if_icmp .ge 37, 3) := by decide +kernel
theorem dX4_pickOffers_18 : decode cX4_pickOffers 18 = .ok (.aload_n 0, 1) := by decide +kernel
theorem dX4_pickOffers_19 : decode cX4_pickOffers 19 = .ok (.iload_n 2, 1) := by decide +kernel
theorem dX4_pickOffers_20 : decode cX4_pickOffers 20 = .ok (.iload_n 1, 1) := by decide +kernel
theorem dX4_pickOffers_21 : decode cX4_pickOffers 21 = .ok (.invokevirtual 121, 3) := by decide +kernel
theorem dX4_pickOffers_24 : decode cX4_pickOffers 24 = .ok (.istore_n 3, 1) := by decide +kernel
theorem dX4_pickOffers_25 : decode cX4_pickOffers 25 = .ok (.aload_n 0, 1) := by decide +kernel
theorem dX4_pickOffers_26 : decode cX4_pickOffers 26 = .ok (.getfield 30, 3) := by decide +kernel
theorem dX4_pickOffers_29 : decode cX4_pickOffers 29 = .ok (.iload_n 2, 1) := by decide +kernel
theorem dX4_pickOffers_30 : decode cX4_pickOffers 30 = .ok (.aload_n 0, 1) := by decide +kernel
theorem dX4_pickOffers_31 : decode cX4_pickOffers 31 = .ok (.iload_n 3, 1) := by decide +kernel
theorem dX4_pickOffers_32 : decode cX4_pickOffers 32 = .ok (.invokevirtual 80, 3) := by decide +kernel
theorem dX4_pickOffers_35 : decode cX4_pickOffers 35 = .ok (.aastore, 1) := by decide +kernel
theorem dX4_pickOffers_36 : decode cX4_pickOffers 36 = .ok (.iload_n 3, 1) := by decide +kernel
theorem dX4_pickOffers_37 : decode cX4_pickOffers 37 = .ok (.ifCond .lt 9, 3) := by decide +kernel
theorem dX4_pickOffers_40 : decode cX4_pickOffers 40 = .ok (.iload_n 1, 1) := by decide +kernel
theorem dX4_pickOffers_41 : decode cX4_pickOffers 41 = .ok (.iconst 1, 1) := by decide +kernel
theorem dX4_pickOffers_42 : decode cX4_pickOffers 42 = .ok (.iload_n 3, 1) := by decide +kernel
theorem dX4_pickOffers_43 : decode cX4_pickOffers 43 = .ok (.ishl, 1) := by decide +kernel
theorem dX4_pickOffers_44 : decode cX4_pickOffers 44 = .ok (.ior, 1) := by decide +kernel
theorem dX4_pickOffers_45 : decode cX4_pickOffers 45 = .ok (.istore_n 1, 1) := by decide +kernel
theorem dX4_pickOffers_46 : decode cX4_pickOffers 46 = .ok (.iinc 2 1, 3) := by decide +kernel
theorem dX4_pickOffers_49 : decode cX4_pickOffers 49 = .ok (.goto (-45), 3) := by decide +kernel
theorem dX4_pickOffers_52 : decode cX4_pickOffers 52 = .ok (.return_, 1) := by decide +kernel
theorem dX4_leastPick_0 : decode cX4_leastPick 0 = .ok (.aload_n 0, 1) := by decide +kernel
theorem dX4_leastPick_1 : decode cX4_leastPick 1 = .ok (.iload_n 1, 1) := by decide +kernel
theorem dX4_leastPick_2 : decode cX4_leastPick 2 = .ok (.iload_n 2, 1) := by decide +kernel
theorem dX4_leastPick_3 : decode cX4_leastPick 3 = .ok (.invokevirtual 98, 3) := by decide +kernel
theorem dX4_leastPick_6 : decode cX4_leastPick 6 = .ok (.istore_n 3, 1) := by decide +kernel
theorem dX4_leastPick_7 : decode cX4_leastPick 7 = .ok (.iconst 0, 1) := by decide +kernel
theorem dX4_leastPick_8 : decode cX4_leastPick 8 = .ok (.istore 4, 2) := by decide +kernel
theorem dX4_leastPick_10 : decode cX4_leastPick 10 = .ok (.iload 4, 2) := by decide +kernel
theorem dX4_leastPick_12 : decode cX4_leastPick 12 = .ok (.aload_n 0, 1) := by decide +kernel
theorem dX4_leastPick_13 : decode cX4_leastPick 13 = .ok (.getfield 45, 3) := by decide +kernel
theorem dX4_leastPick_16 : decode cX4_leastPick 16 = .ok (.if_icmp .ge 24, 3) := by decide +kernel
theorem dX4_leastPick_19 : decode cX4_leastPick 19 = .ok (.aload_n 0, 1) := by decide +kernel
theorem dX4_leastPick_20 : decode cX4_leastPick 20 = .ok (.iload_n 1, 1) := by decide +kernel
theorem dX4_leastPick_21 : decode cX4_leastPick 21 = .ok (.iload 4, 2) := by decide +kernel
theorem dX4_leastPick_23 : decode cX4_leastPick 23 = .ok (.iload_n 2, 1) := by decide +kernel
theorem dX4_leastPick_24 : decode cX4_leastPick 24 = .ok (.invokevirtual 112, 3) := by decide +kernel
theorem dX4_leastPick_27 : decode cX4_leastPick 27 = .ok (.iload_n 3, 1) := by decide +kernel
theorem dX4_leastPick_28 : decode cX4_leastPick 28 = .ok (.if_icmp .ne 6, 3) := by decide +kernel
theorem dX4_leastPick_31 : decode cX4_leastPick 31 = .ok (.iload 4, 2) := by decide +kernel
theorem dX4_leastPick_33 : decode cX4_leastPick 33 = .ok (.ireturn, 1) := by decide +kernel
theorem dX4_leastPick_34 : decode cX4_leastPick 34 = .ok (.iinc 4 1, 3) := by decide +kernel
theorem dX4_leastPick_37 : decode cX4_leastPick 37 = .ok (.goto (-27), 3) := by decide +kernel
theorem dX4_leastPick_40 : decode cX4_leastPick 40 = .ok (.iconst (-1), 1) := by decide +kernel
theorem dX4_leastPick_41 : decode cX4_leastPick 41 = .ok (.ireturn, 1) := by decide +kernel
theorem dX4_postFor_0 : decode cX4_postFor 0 = .ok (.iload_n 1, 1) := by decide +kernel
theorem dX4_postFor_1 : decode cX4_postFor 1 = .ok (.ifCond .lt 26, 3) := by decide +kernel
theorem dX4_postFor_4 : decode cX4_postFor 4 = .ok (.iload_n 1, 1) := by decide +kernel
theorem dX4_postFor_5 : decode cX4_postFor 5 = .ok (.aload_n 0, 1) := by decide +kernel
theorem dX4_postFor_6 : decode cX4_postFor 6 = .ok (.getfield 37, 3) := by decide +kernel
theorem dX4_postFor_9 : decode cX4_postFor 9 = .ok (.if_icmp .ge 18, 3) := by decide +kernel
theorem dX4_postFor_12 : decode cX4_postFor 12 = .ok (.iload_n 1, 1) := by decide +kernel
theorem dX4_postFor_13 : decode cX4_postFor 13 = .ok (.bipush 8, 2) := by decide +kernel
theorem dX4_postFor_15 : decode cX4_postFor 15 = .ok (.if_icmp .ge 12, 3) := by decide +kernel
theorem dX4_postFor_18 : decode cX4_postFor 18 = .ok (.aload_n 0, 1) := by decide +kernel
theorem dX4_postFor_19 : decode cX4_postFor 19 = .ok (.getfield 30, 3) := by decide +kernel
theorem dX4_postFor_22 : decode cX4_postFor 22 = .ok (.iload_n 1, 1) := by decide +kernel
theorem dX4_postFor_23 : decode cX4_postFor 23 = .ok (.aaload, 1) := by decide +kernel
theorem dX4_postFor_24 : decode cX4_postFor 24 = .ok (.goto 4, 3) := by decide +kernel
theorem dX4_postFor_27 : decode cX4_postFor 27 = .ok (.aconst_null, 1) := by decide +kernel
theorem dX4_postFor_28 : decode cX4_postFor 28 = .ok (.astore_n 2, 1) := by decide +kernel
theorem dX4_postFor_29 : decode cX4_postFor 29 = .ok (.aload_n 2, 1) := by decide +kernel
theorem dX4_postFor_30 : decode cX4_postFor 30 = .ok (.ifnonnull 8, 3) := by decide +kernel
theorem dX4_postFor_33 : decode cX4_postFor 33 = .ok (.bipush (-9), 2) := by decide +kernel
theorem dX4_postFor_35 : decode cX4_postFor 35 = .ok (.goto 7, 3) := by decide +kernel
theorem dX4_postFor_38 : decode cX4_postFor 38 = .ok (.aload_n 2, 1) := by decide +kernel
theorem dX4_postFor_39 : decode cX4_postFor 39 = .ok (.getfield 124, 3) := by decide +kernel
theorem dX4_postFor_42 : decode cX4_postFor 42 = .ok (.ireturn, 1) := by decide +kernel
theorem dX4_total_0 : decode cX4_total 0 = .ok (.aload_n 0, 1) := by decide +kernel
theorem dX4_total_1 : decode cX4_total 1 = .ok (.iconst 0, 1) := by decide +kernel
theorem dX4_total_2 : decode cX4_total 2 = .ok (.iconst 0, 1) := by decide +kernel
theorem dX4_total_3 : decode cX4_total 3 = .ok (.invokevirtual 98, 3) := by decide +kernel
theorem dX4_total_6 : decode cX4_total 6 = .ok (.istore_n 2, 1) := by decide +kernel
theorem dX4_total_7 : decode cX4_total 7 = .ok (.iload_n 1, 1) := by decide +kernel
theorem dX4_total_8 : decode cX4_total 8 = .ok (.lookupswitch 42 #[(0, 28), (1, 33)], 28) := by decide +kernel
theorem dX4_total_36 : decode cX4_total 36 = .ok (.iload_n 2, 1) := by decide +kernel
theorem dX4_total_37 : decode cX4_total 37 = .ok (.ldc 97, 2) := by decide +kernel
theorem dX4_total_39 : decode cX4_total 39 = .ok (.idiv, 1) := by decide +kernel
theorem dX4_total_40 : decode cX4_total 40 = .ok (.ireturn, 1) := by decide +kernel
theorem dX4_total_41 : decode cX4_total 41 = .ok (.iload_n 2, 1) := by decide +kernel
theorem dX4_total_42 : decode cX4_total 42 = .ok (.ldc 97, 2) := by decide +kernel
theorem dX4_total_44 : decode cX4_total 44 = .ok (.irem, 1) := by decide +kernel
theorem dX4_total_45 : decode cX4_total 45 = .ok (.sipush 1000, 3) := by decide +kernel
theorem dX4_total_48 : decode cX4_total 48 = .ok (.idiv, 1) := by decide +kernel
theorem dX4_total_49 : decode cX4_total 49 = .ok (.ireturn, 1) := by decide +kernel
theorem dX4_total_50 : decode cX4_total 50 = .ok (.iload_n 2, 1) := by decide +kernel
theorem dX4_total_51 : decode cX4_total 51 = .ok (.sipush 1000, 3) := by decide +kernel
theorem dX4_total_54 : decode cX4_total 54 = .ok (.irem, 1) := by decide +kernel
theorem dX4_total_55 : decode cX4_total 55 = .ok (.ireturn, 1) := by decide +kernel
theorem dX5_init_0 : decode cX5_init 0 = .ok (.aload_n 0, 1) := by decide +kernel
theorem dX5_init_1 : decode cX5_init 1 = .ok (.invokespecial 3, 3) := by decide +kernel
theorem dX5_init_4 : decode cX5_init 4 = .ok (.aload_n 0, 1) := by decide +kernel
theorem dX5_init_5 : decode cX5_init 5 = .ok (.iconst (-1), 1) := by decide +kernel
theorem dX5_init_6 : decode cX5_init 6 = .ok (.putfield 9, 3) := by decide +kernel
theorem dX5_init_9 : decode cX5_init 9 = .ok (.aload_n 0, 1) := by decide +kernel
theorem dX5_init_10 : decode cX5_init 10 = .ok (.iconst (-1), 1) := by decide +kernel
theorem dX5_init_11 : decode cX5_init 11 = .ok (.putfield 15, 3) := by decide +kernel
theorem dX5_init_14 : decode cX5_init 14 = .ok (.aload_n 0, 1) := by decide +kernel
theorem dX5_init_15 : decode cX5_init 15 = .ok (.iconst (-1), 1) := by decide +kernel
theorem dX5_init_16 : decode cX5_init 16 = .ok (.putfield 18, 3) := by decide +kernel
theorem dX5_init_19 : decode cX5_init 19 = .ok (.aload_n 0, 1) := by decide +kernel
theorem dX5_init_20 : decode cX5_init 20 = .ok (.iload_n 1, 1) := by decide +kernel
theorem dX5_init_21 : decode cX5_init 21 = .ok (.putfield 21, 3) := by decide +kernel
theorem dX5_init_24 : decode cX5_init 24 = .ok (.aload_n 0, 1) := by decide +kernel
theorem dX5_init_25 : decode cX5_init 25 = .ok (.iload_n 2, 1) := by decide +kernel
theorem dX5_init_26 : decode cX5_init 26 = .ok (.putfield 24, 3) := by decide +kernel
theorem dX5_init_29 : decode cX5_init 29 = .ok (.aload_n 0, 1) := by decide +kernel
theorem dX5_init_30 : decode cX5_init 30 = .ok (.iload_n 3, 1) := by decide +kernel
theorem dX5_init_31 : decode cX5_init 31 = .ok (.putfield 27, 3) := by decide +kernel
theorem dX5_init_34 : decode cX5_init 34 = .ok (.aload_n 0, 1) := by decide +kernel
theorem dX5_init_35 : decode cX5_init 35 = .ok (.iload 4, 2) := by decide +kernel
theorem dX5_init_37 : decode cX5_init 37 = .ok (.putfield 30, 3) := by decide +kernel
theorem dX5_init_40 : decode cX5_init 40 = .ok (.return_, 1) := by decide +kernel
theorem dX5_isHere_0 : decode cX5_isHere 0 = .ok (.aload_n 0, 1) := by decide +kernel
theorem dX5_isHere_1 : decode cX5_isHere 1 = .ok (.getfield 9, 3) := by decide +kernel
theorem dX5_isHere_4 : decode cX5_isHere 4 = .ok (.ifCond .ge 7, 3) := by decide +kernel
theorem dX5_isHere_7 : decode cX5_isHere 7 = .ok (.iconst 1, 1) := by decide +kernel
theorem dX5_isHere_8 : decode cX5_isHere 8 = .ok (.goto 4, 3) := by decide +kernel
theorem dX5_isHere_11 : decode cX5_isHere 11 = .ok (.iconst 0, 1) := by decide +kernel
theorem dX5_isHere_12 : decode cX5_isHere 12 = .ok (.ireturn, 1) := by decide +kernel
theorem dX5_isVolunteer_0 : decode cX5_isVolunteer 0 = .ok (.aload_n 0, 1) := by decide +kernel
theorem dX5_isVolunteer_1 : decode cX5_isVolunteer 1 = .ok (.getfield 18, 3) := by decide +kernel
theorem dX5_isVolunteer_4 : decode cX5_isVolunteer 4 = .ok (.ifCond .lt 7, 3) := by decide +kernel
theorem dX5_isVolunteer_7 : decode cX5_isVolunteer 7 = .ok (.iconst 1, 1) := by decide +kernel
theorem dX5_isVolunteer_8 : decode cX5_isVolunteer 8 = .ok (.goto 4, 3) := by decide +kernel
theorem dX5_isVolunteer_11 : decode cX5_isVolunteer 11 = .ok (.iconst 0, 1) := by decide +kernel
theorem dX5_isVolunteer_12 : decode cX5_isVolunteer 12 = .ok (.ireturn, 1) := by decide +kernel
theorem dX5_hold_0 : decode cX5_hold 0 = .ok (.aload_n 0, 1) := by decide +kernel
theorem dX5_hold_1 : decode cX5_hold 1 = .ok (.getfield 33, 3) := by decide +kernel
theorem dX5_hold_4 : decode cX5_hold 4 = .ok (.astore_n 2, 1) := by decide +kernel
theorem dX5_hold_5 : decode cX5_hold 5 = .ok (.aload_n 2, 1) := by decide +kernel
theorem dX5_hold_6 : decode cX5_hold 6 = .ok (.ifnull 8, 3) := by decide +kernel
theorem dX5_hold_9 : decode cX5_hold 9 = .ok (.aload_n 2, 1) := by decide +kernel
theorem dX5_hold_10 : decode cX5_hold 10 = .ok (.aconst_null, 1) := by decide +kernel
theorem dX5_hold_11 : decode cX5_hold 11 = .ok (.putfield 37, 3) := by decide +kernel
theorem dX5_hold_14 : decode cX5_hold 14 = .ok (.aload_n 0, 1) := by decide +kernel
theorem dX5_hold_15 : decode cX5_hold 15 = .ok (.aload_n 1, 1) := by decide +kernel
theorem dX5_hold_16 : decode cX5_hold 16 = .ok (.putfield 33, 3) := by decide +kernel
theorem dX5_hold_19 : decode cX5_hold 19 = .ok (.aload_n 1, 1) := by decide +kernel
theorem dX5_hold_20 : decode cX5_hold 20 = .ok (.ifnull 13, 3) := by decide +kernel
theorem dX5_hold_23 : decode cX5_hold 23 = .ok (.aload_n 1, 1) := by decide +kernel
theorem dX5_hold_24 : decode cX5_hold 24 = .ok (.aload_n 0, 1) := by decide +kernel
theorem dX5_hold_25 : decode cX5_hold 25 = .ok (.putfield 37, 3) := by decide +kernel
theorem dX5_hold_28 : decode cX5_hold 28 = .ok (.aload_n 0, 1) := by decide +kernel
theorem dX5_hold_29 : decode cX5_hold 29 = .ok (.aload_n 1, 1) := by decide +kernel
theorem dX5_hold_30 : decode cX5_hold 30 = .ok (.putfield 43, 3) := by decide +kernel
theorem dX5_hold_33 : decode cX5_hold 33 = .ok (.return_, 1) := by decide +kernel
theorem dX5_lastTold_0 : decode cX5_lastTold 0 = .ok (.iload_n 1, 1) := by decide +kernel
theorem dX5_lastTold_1 : decode cX5_lastTold 1 = .ok (.ifCond .ne 10, 3) := by decide +kernel
theorem dX5_lastTold_4 : decode cX5_lastTold 4 = .ok (.aload_n 0, 1) := by decide +kernel
theorem dX5_lastTold_5 : decode cX5_lastTold 5 = .ok (.getfield 46, 3) := by decide +kernel
theorem dX5_lastTold_8 : decode cX5_lastTold 8 = .ok (.goto 7, 3) := by decide +kernel
theorem dX5_lastTold_11 : decode cX5_lastTold 11 = .ok (.aload_n 0, 1) := by decide +kernel
theorem dX5_lastTold_12 : decode cX5_lastTold 12 = .ok (.getfield 50, 3) := by decide +kernel
theorem dX5_lastTold_15 : decode cX5_lastTold 15 = .ok (.areturn, 1) := by decide +kernel
theorem dX5_add_0 : decode cX5_add 0 = .ok (.aload_n 1, 1) := by decide +kernel
theorem dX5_add_1 : decode cX5_add 1 = .ok (.getfield 53, 3) := by decide +kernel
theorem dX5_add_4 : decode cX5_add 4 = .ok (.ifCond .ne 11, 3) := by decide +kernel
theorem dX5_add_7 : decode cX5_add 7 = .ok (.aload_n 0, 1) := by decide +kernel
theorem dX5_add_8 : decode cX5_add 8 = .ok (.aload_n 1, 1) := by decide +kernel
theorem dX5_add_9 : decode cX5_add 9 = .ok (.putfield 46, 3) := by decide +kernel
theorem dX5_add_12 : decode cX5_add 12 = .ok (.goto 8, 3) := by decide +kernel
theorem dX5_add_15 : decode cX5_add 15 = .ok (.aload_n 0, 1) := by decide +kernel
theorem dX5_add_16 : decode cX5_add 16 = .ok (.aload_n 1, 1) := by decide +kernel
theorem dX5_add_17 : decode cX5_add 17 = .ok (.putfield 50, 3) := by decide +kernel
theorem dX5_add_20 : decode cX5_add 20 = .ok (.return_, 1) := by decide +kernel
theorem dX5_toldAsOf_0 : decode cX5_toldAsOf 0 = .ok (.aload_n 0, 1) := by decide +kernel
theorem dX5_toldAsOf_1 : decode cX5_toldAsOf 1 = .ok (.iload_n 1, 1) := by decide +kernel
theorem dX5_toldAsOf_2 : decode cX5_toldAsOf 2 = .ok (.invokevirtual 58, 3) := by decide +kernel
theorem dX5_toldAsOf_5 : decode cX5_toldAsOf 5 = .ok (.astore_n 3, 1) := by decide +kernel
theorem dX5_toldAsOf_6 : decode cX5_toldAsOf 6 = .ok (.aload_n 3, 1) := by decide +kernel
theorem dX5_toldAsOf_7 : decode cX5_toldAsOf 7 = .ok (.ifnull 25, 3) := by decide +kernel
theorem dX5_toldAsOf_10 : decode cX5_toldAsOf 10 = .ok (.aload_n 3, 1) := by decide +kernel
theorem dX5_toldAsOf_11 : decode cX5_toldAsOf 11 = .ok (.getfield 62, 3) := by decide +kernel
theorem dX5_toldAsOf_14 : decode cX5_toldAsOf 14 = .ok (.iload_n 2, 1) := by decide +kernel
theorem dX5_toldAsOf_15 : decode cX5_toldAsOf 15 = .ok (.if_icmp .gt 9, 3) := by decide +kernel
theorem dX5_toldAsOf_18 : decode cX5_toldAsOf 18 = .ok (.aload_n 3, 1) := by decide +kernel
theorem dX5_toldAsOf_19 : decode cX5_toldAsOf 19 = .ok (.iload_n 2, 1) := by decide +kernel
theorem dX5_toldAsOf_20 : decode cX5_toldAsOf 20 = .ok (.invokevirtual 65, 3) := by decide +kernel
theorem dX5_toldAsOf_23 : decode cX5_toldAsOf 23 = .ok (.ireturn, 1) := by decide +kernel
theorem dX5_toldAsOf_24 : decode cX5_toldAsOf 24 = .ok (.aload_n 3, 1) := by decide +kernel
theorem dX5_toldAsOf_25 : decode cX5_toldAsOf 25 = .ok (.getfield 69, 3) := by decide +kernel
theorem dX5_toldAsOf_28 : decode cX5_toldAsOf 28 = .ok (.astore_n 3, 1) := by decide +kernel
theorem dX5_toldAsOf_29 : decode cX5_toldAsOf 29 = .ok (.goto (-23), 3) := by decide +kernel
theorem dX5_toldAsOf_32 : decode cX5_toldAsOf 32 = .ok (.iload_n 1, 1) := by decide +kernel
theorem dX5_toldAsOf_33 : decode cX5_toldAsOf 33 = .ok (.ifCond .ne 8, 3) := by decide +kernel
theorem dX5_toldAsOf_36 : decode cX5_toldAsOf 36 = .ok (.bipush 50, 2) := by decide +kernel
theorem dX5_toldAsOf_38 : decode cX5_toldAsOf 38 = .ok (.goto 4, 3) := by decide +kernel
theorem dX5_toldAsOf_41 : decode cX5_toldAsOf 41 = .ok (.iconst 0, 1) := by decide +kernel
theorem dX5_toldAsOf_42 : decode cX5_toldAsOf 42 = .ok (.ireturn, 1) := by decide +kernel
theorem dX6_init_0 : decode cX6_init 0 = .ok (.aload_n 0, 1) := by decide +kernel
theorem dX6_init_1 : decode cX6_init 1 = .ok (.invokespecial 3, 3) := by decide +kernel
theorem dX6_init_4 : decode cX6_init 4 = .ok (.aload_n 0, 1) := by decide +kernel
theorem dX6_init_5 : decode cX6_init 5 = .ok (.bipush 40, 2) := by decide +kernel
theorem dX6_init_7 : decode cX6_init 7 = .ok (.newarray .int, 2) := by decide +kernel
theorem dX6_init_9 : decode cX6_init 9 = .ok (.putfield 9, 3) := by decide +kernel
theorem dX6_init_12 : decode cX6_init 12 = .ok (.aload_n 0, 1) := by decide +kernel
theorem dX6_init_13 : decode cX6_init 13 = .ok (.bipush 40, 2) := by decide +kernel
theorem dX6_init_15 : decode cX6_init 15 = .ok (.anewarray 15, 3) := by decide +kernel
theorem dX6_init_18 : decode cX6_init 18 = .ok (.putfield 17, 3) := by decide +kernel
theorem dX6_init_21 : decode cX6_init 21 = .ok (.aload_n 0, 1) := by decide +kernel
theorem dX6_init_22 : decode cX6_init 22 = .ok (.bipush 40, 2) := by decide +kernel
theorem dX6_init_24 : decode cX6_init 24 = .ok (.anewarray 21, 3) := by decide +kernel
theorem dX6_init_27 : decode cX6_init 27 = .ok (.putfield 23, 3) := by decide +kernel
theorem dX6_init_30 : decode cX6_init 30 = .ok (.aload_n 0, 1) := by decide +kernel
theorem dX6_init_31 : decode cX6_init 31 = .ok (.aload_n 1, 1) := by decide +kernel
theorem dX6_init_32 : decode cX6_init 32 = .ok (.putfield 27, 3) := by decide +kernel
theorem dX6_init_35 : decode cX6_init 35 = .ok (.return_, 1) := by decide +kernel
theorem dX6_join_0 : decode cX6_join 0 = .ok (.aload_n 0, 1) := by decide +kernel
theorem dX6_join_1 : decode cX6_join 1 = .ok (.getfield 9, 3) := by decide +kernel
theorem dX6_join_4 : decode cX6_join 4 = .ok (.iconst (-1), 1) := by decide +kernel
theorem dX6_join_5 : decode cX6_join 5 = .ok (.invokestatic 31, 3) := by decide +kernel
theorem dX6_join_8 : decode cX6_join 8 = .ok (.aload_n 0, 1) := by decide +kernel
theorem dX6_join_9 : decode cX6_join 9 = .ok (.iconst 0, 1) := by decide +kernel
theorem dX6_join_10 : decode cX6_join 10 = .ok (.putfield 37, 3) := by decide +kernel
theorem dX6_join_13 : decode cX6_join 13 = .ok (.iconst 0, 1) := by decide +kernel
theorem dX6_join_14 : decode cX6_join 14 = .ok (.istore_n 2, 1) := by decide +kernel
theorem dX6_join_15 : decode cX6_join 15 = .ok (.iload_n 2, 1) := by decide +kernel
theorem dX6_join_16 : decode cX6_join 16 = .ok (.aload_n 0, 1) := by decide +kernel
theorem dX6_join_17 : decode cX6_join 17 = .ok (.getfield 27, 3) := by decide +kernel
theorem dX6_join_20 : decode cX6_join 20 = .ok (.getfield 41, 3) := by decide +kernel
theorem dX6_join_23 : decode cX6_join 23 = .ok (.if_icmp .ge 47, 3) := by decide +kernel
theorem dX6_join_26 : decode cX6_join 26 = .ok (.aload_n 0, 1) := by decide +kernel
theorem dX6_join_27 : decode cX6_join 27 = .ok (.getfield 27, 3) := by decide +kernel
theorem dX6_join_30 : decode cX6_join 30 = .ok (.iload_n 2, 1) := by decide +kernel
theorem dX6_join_31 : decode cX6_join 31 = .ok (.invokevirtual 46, 3) := by decide +kernel
theorem dX6_join_34 : decode cX6_join 34 = .ok (.astore_n 3, 1) := by decide +kernel
theorem dX6_join_35 : decode cX6_join 35 = .ok (.aload_n 3, 1) := by decide +kernel
theorem dX6_join_36 : decode cX6_join 36 = .ok (.ifnull 28, 3) := by decide +kernel
theorem dX6_join_39 : decode cX6_join 39 = .ok (.aload_n 0, 1) := by decide +kernel
theorem dX6_join_40 : decode cX6_join 40 = .ok (.aload_n 3, 1) := by decide +kernel
theorem dX6_join_41 : decode cX6_join 41 = .ok (.iload_n 1, 1) := by decide +kernel
theorem dX6_join_42 : decode cX6_join 42 = .ok (.invokevirtual 50, 3) := by decide +kernel
theorem dX6_join_45 : decode cX6_join 45 = .ok (.ifCond .eq 19, 3) := by decide +kernel
theorem dX6_join_48 : decode cX6_join 48 = .ok (.aload_n 0, 1) := by decide +kernel
theorem dX6_join_49 : decode cX6_join 49 = .ok (.aload_n 3, 1) := by decide +kernel
theorem dX6_join_50 : decode cX6_join 50 = .ok (.iload_n 1, 1) := by decide +kernel
theorem dX6_join_51 : decode cX6_join 51 = .ok (.invokevirtual 54, 3) := by decide +kernel
theorem dX6_join_54 : decode cX6_join 54 = .ok (.aload_n 0, 1) := by decide +kernel
theorem dX6_join_55 : decode cX6_join 55 = .ok (.dup, 1) := by decide +kernel
theorem dX6_join_56 : decode cX6_join 56 = .ok (.getfield 37, 3) := by decide +kernel
theorem dX6_join_59 : decode cX6_join 59 = .ok (.iconst 1, 1) := by decide +kernel
theorem dX6_join_60 : decode cX6_join 60 = .ok (.iadd, 1) := by decide +kernel
theorem dX6_join_61 : decode cX6_join 61 = .ok (.putfield 37, 3) := by decide +kernel
theorem dX6_join_64 : decode cX6_join 64 = .ok (.iinc 2 1, 3) := by decide +kernel
theorem dX6_join_67 : decode cX6_join 67 = .ok (.goto (-52), 3) := by decide +kernel
theorem dX6_join_70 : decode cX6_join 70 = .ok (.return_, 1) := by decide +kernel
theorem dX6_isFree_0 : decode cX6_isFree 0 = .ok (.aload_n 0, 1) := by decide +kernel
theorem dX6_isFree_1 : decode cX6_isFree 1 = .ok (.aload_n 1, 1) := by decide +kernel
theorem dX6_isFree_2 : decode cX6_isFree 2 = .ok (.invokevirtual 58, 3) := by decide +kernel
theorem dX6_isFree_5 : decode cX6_isFree 5 = .ok (.ifCond .ge 19, 3) := by decide +kernel
theorem dX6_isFree_8 : decode cX6_isFree 8 = .ok (.aload_n 0, 1) := by decide +kernel
theorem dX6_isFree_9 : decode cX6_isFree 9 = .ok (.getfield 27, 3) := by decide +kernel
theorem dX6_isFree_12 : decode cX6_isFree 12 = .ok (.aload_n 1, 1) := by decide +kernel
theorem dX6_isFree_13 : decode cX6_isFree 13 = .ok (.iload_n 2, 1) := by decide +kernel
theorem dX6_isFree_14 : decode cX6_isFree 14 = .ok (.invokevirtual 62, 3) := by decide +kernel
theorem dX6_isFree_17 : decode cX6_isFree 17 = .ok (.ifCond .eq 7, 3) := by decide +kernel
theorem dX6_isFree_20 : decode cX6_isFree 20 = .ok (.iconst 1, 1) := by decide +kernel
theorem dX6_isFree_21 : decode cX6_isFree 21 = .ok (.goto 4, 3) := by decide +kernel
theorem dX6_isFree_24 : decode cX6_isFree 24 = .ok (.iconst 0, 1) := by decide +kernel
theorem dX6_isFree_25 : decode cX6_isFree 25 = .ok (.ireturn, 1) := by decide +kernel
theorem dX6_joinedAs_0 : decode cX6_joinedAs 0 = .ok (.aload_n 1, 1) := by decide +kernel
theorem dX6_joinedAs_1 : decode cX6_joinedAs 1 = .ok (.getfield 65, 3) := by decide +kernel
theorem dX6_joinedAs_4 : decode cX6_joinedAs 4 = .ok (.istore_n 2, 1) := by decide +kernel
theorem dX6_joinedAs_5 : decode cX6_joinedAs 5 = .ok (.iload_n 2, 1) := by decide +kernel
theorem dX6_joinedAs_6 : decode cX6_joinedAs 6 = .ok (.ifCond .lt 18, 3) := by decide +kernel
theorem dX6_joinedAs_9 : decode cX6_joinedAs 9 = .ok (.iload_n 2, 1) := by decide +kernel
theorem dX6_joinedAs_10 : decode cX6_joinedAs 10 = .ok (.bipush 40, 2) := by decide +kernel
theorem dX6_joinedAs_12 : decode cX6_joinedAs 12 = .ok (.if_icmp .ge 12, 3) := by decide +kernel
theorem dX6_joinedAs_15 : decode cX6_joinedAs 15 = .ok (.aload_n 0, 1) := by decide +kernel
theorem dX6_joinedAs_16 : decode cX6_joinedAs 16 = .ok (.getfield 9, 3) := by decide +kernel
theorem dX6_joinedAs_19 : decode cX6_joinedAs 19 = .ok (.iload_n 2, 1) := by decide +kernel
theorem dX6_joinedAs_20 : decode cX6_joinedAs 20 = .ok (.iaload, 1) := by decide +kernel
theorem dX6_joinedAs_21 : decode cX6_joinedAs 21 = .ok (.goto 4, 3) := by decide +kernel
theorem dX6_joinedAs_24 : decode cX6_joinedAs 24 = .ok (.iconst (-1), 1) := by decide +kernel
theorem dX6_joinedAs_25 : decode cX6_joinedAs 25 = .ok (.ireturn, 1) := by decide +kernel
theorem dX6_spread_0 : decode cX6_spread 0 = .ok (.aload_n 0, 1) := by decide +kernel
theorem dX6_spread_1 : decode cX6_spread 1 = .ok (.aload_n 1, 1) := by decide +kernel
theorem dX6_spread_2 : decode cX6_spread 2 = .ok (.iconst 0, 1) := by decide +kernel
theorem dX6_spread_3 : decode cX6_spread 3 = .ok (.invokevirtual 68, 3) := by decide +kernel
theorem dX6_spread_6 : decode cX6_spread 6 = .ok (.istore_n 3, 1) := by decide +kernel
theorem dX6_spread_7 : decode cX6_spread 7 = .ok (.iconst 0, 1) := by decide +kernel
theorem dX6_spread_8 : decode cX6_spread 8 = .ok (.istore 4, 2) := by decide +kernel
theorem dX6_spread_10 : decode cX6_spread 10 = .ok (.iload 4, 2) := by decide +kernel
theorem dX6_spread_12 : decode cX6_spread 12 = .ok (.iload_n 3, 1) := by decide +kernel
theorem dX6_spread_13 : decode cX6_spread 13 = .ok (.if_icmp .ge 99, 3) := by decide +kernel
theorem dX6_spread_16 : decode cX6_spread 16 = .ok (.iload 4, 2) := by decide +kernel
theorem dX6_spread_18 : decode cX6_spread 18 = .ok (.bipush 40, 2) := by decide +kernel
theorem dX6_spread_20 : decode cX6_spread 20 = .ok (.if_icmp .ge 92, 3) := by decide +kernel
theorem dX6_spread_23 : decode cX6_spread 23 = .ok (.aload_n 0, 1) := by decide +kernel
theorem dX6_spread_24 : decode cX6_spread 24 = .ok (.getfield 17, 3) := by decide +kernel
theorem dX6_spread_27 : decode cX6_spread 27 = .ok (.iload 4, 2) := by decide +kernel
theorem dX6_spread_29 : decode cX6_spread 29 = .ok (.aaload, 1) := by decide +kernel
theorem dX6_spread_30 : decode cX6_spread 30 = .ok (.astore 5, 2) := by decide +kernel
theorem dX6_spread_32 : decode cX6_spread 32 = .ok (.iconst 0, 1) := by decide +kernel
theorem dX6_spread_33 : decode cX6_spread 33 = .ok (.istore 6, 2) := by decide +kernel
theorem dX6_spread_35 : decode cX6_spread 35 = .ok (.iload 6, 2) := by decide +kernel
theorem dX6_spread_37 : decode cX6_spread 37 = .ok (.aload_n 0, 1) := by decide +kernel
theorem dX6_spread_38 : decode cX6_spread 38 = .ok (.getfield 27, 3) := by decide +kernel
theorem dX6_spread_41 : decode cX6_spread 41 = .ok (.getfield 41, 3) := by decide +kernel
theorem dX6_spread_44 : decode cX6_spread 44 = .ok (.if_icmp .ge 62, 3) := by decide +kernel
theorem dX6_spread_47 : decode cX6_spread 47 = .ok (.aload_n 0, 1) := by decide +kernel
theorem dX6_spread_48 : decode cX6_spread 48 = .ok (.getfield 27, 3) := by decide +kernel
theorem dX6_spread_51 : decode cX6_spread 51 = .ok (.iload 6, 2) := by decide +kernel
theorem dX6_spread_53 : decode cX6_spread 53 = .ok (.invokevirtual 46, 3) := by decide +kernel
theorem dX6_spread_56 : decode cX6_spread 56 = .ok (.astore 7, 2) := by decide +kernel
theorem dX6_spread_58 : decode cX6_spread 58 = .ok (.aload 5, 2) := by decide +kernel
theorem dX6_spread_60 : decode cX6_spread 60 = .ok (.ifnull 40, 3) := by decide +kernel
theorem dX6_spread_63 : decode cX6_spread 63 = .ok (.aload 7, 2) := by decide +kernel
theorem dX6_spread_65 : decode cX6_spread 65 = .ok (.ifnull 35, 3) := by decide +kernel
theorem dX6_spread_68 : decode cX6_spread 68 = .ok (.aload_n 0, 1) := by decide +kernel
theorem dX6_spread_69 : decode cX6_spread 69 = .ok (.aload 7, 2) := by decide +kernel
theorem dX6_spread_71 : decode cX6_spread 71 = .ok (.iload_n 2, 1) := by decide +kernel
theorem dX6_spread_72 : decode cX6_spread 72 = .ok (.invokevirtual 50, 3) := by decide +kernel
theorem dX6_spread_75 : decode cX6_spread 75 = .ok (.ifCond .eq 25, 3) := by decide +kernel
theorem dX6_spread_78 : decode cX6_spread 78 = .ok (.aload_n 0, 1) := by decide +kernel
theorem dX6_spread_79 : decode cX6_spread 79 = .ok (.getfield 27, 3) := by decide +kernel
theorem dX6_spread_82 : decode cX6_spread 82 = .ok (.aload 5, 2) := by decide +kernel
theorem dX6_spread_84 : decode cX6_spread 84 = .ok (.aload 7, 2) := by decide +kernel
theorem dX6_spread_86 : decode cX6_spread 86 = .ok (.invokevirtual 72, 3) := by decide +kernel
theorem dX6_spread_89 : decode cX6_spread 89 = .ok (.ifCond .eq 11, 3) := by decide +kernel
theorem dX6_spread_92 : decode cX6_spread 92 = .ok (.aload_n 0, 1) := by decide +kernel
theorem dX6_spread_93 : decode cX6_spread 93 = .ok (.aload 7, 2) := by decide +kernel
theorem dX6_spread_95 : decode cX6_spread 95 = .ok (.iload_n 3, 1) := by decide +kernel
theorem dX6_spread_96 : decode cX6_spread 96 = .ok (.invokevirtual 68, 3) := by decide +kernel
theorem dX6_spread_99 : decode cX6_spread 99 = .ok (.istore_n 3, 1) := by decide +kernel
theorem dX6_spread_100 : decode cX6_spread 100 = .ok (.iinc 6 1, 3) := by decide +kernel
theorem dX6_spread_103 : decode cX6_spread 103 = .ok (.goto (-68), 3) := by decide +kernel
theorem dX6_spread_106 : decode cX6_spread 106 = .ok (.iinc 4 1, 3) := by decide +kernel
theorem dX6_spread_109 : decode cX6_spread 109 = .ok (.goto (-99), 3) := by decide +kernel
theorem dX6_spread_112 : decode cX6_spread 112 = .ok (.return_, 1) := by decide +kernel
theorem dX6_reach_0 : decode cX6_reach 0 = .ok (.aload_n 1, 1) := by decide +kernel
theorem dX6_reach_1 : decode cX6_reach 1 = .ok (.getfield 65, 3) := by decide +kernel
theorem dX6_reach_4 : decode cX6_reach 4 = .ok (.istore_n 3, 1) := by decide +kernel
theorem dX6_reach_5 : decode cX6_reach 5 = .ok (.iload_n 3, 1) := by decide +kernel
theorem dX6_reach_6 : decode cX6_reach 6 = .ok (.ifCond .lt 19, 3) := by decide +kernel
theorem dX6_reach_9 : decode cX6_reach 9 = .ok (.iload_n 3, 1) := by decide +kernel
theorem dX6_reach_10 : decode cX6_reach 10 = .ok (.bipush 40, 2) := by decide +kernel
theorem dX6_reach_12 : decode cX6_reach 12 = .ok (.if_icmp .ge 13, 3) := by decide +kernel
theorem dX6_reach_15 : decode cX6_reach 15 = .ok (.iload_n 2, 1) := by decide +kernel
theorem dX6_reach_16 : decode cX6_reach 16 = .ok (.ifCond .lt 9, 3) := by decide +kernel
theorem dX6_reach_19 : decode cX6_reach 19 = .ok (.iload_n 2, 1) := by decide +kernel
theorem dX6_reach_20 : decode cX6_reach 20 = .ok (.bipush 40, 2) := by decide +kernel
theorem dX6_reach_22 : decode cX6_reach 22 = .ok (.if_icmp .lt 5, 3) := by decide +kernel
theorem dX6_reach_25 : decode cX6_reach 25 = .ok (.iload_n 2, 1) := by decide +kernel
theorem dX6_reach_26 : decode cX6_reach 26 = .ok (.ireturn, 1) := by decide +kernel
theorem dX6_reach_27 : decode cX6_reach 27 = .ok (.aload_n 0, 1) := by decide +kernel
theorem dX6_reach_28 : decode cX6_reach 28 = .ok (.getfield 9, 3) := by decide +kernel
theorem dX6_reach_31 : decode cX6_reach 31 = .ok (.iload_n 3, 1) := by decide +kernel
theorem dX6_reach_32 : decode cX6_reach 32 = .ok (.aload_n 0, 1) := by decide +kernel
theorem dX6_reach_33 : decode cX6_reach 33 = .ok (.getfield 37, 3) := by decide +kernel
theorem dX6_reach_36 : decode cX6_reach 36 = .ok (.iastore, 1) := by decide +kernel
theorem dX6_reach_37 : decode cX6_reach 37 = .ok (.aload_n 0, 1) := by decide +kernel
theorem dX6_reach_38 : decode cX6_reach 38 = .ok (.getfield 17, 3) := by decide +kernel
theorem dX6_reach_41 : decode cX6_reach 41 = .ok (.iload_n 2, 1) := by decide +kernel
theorem dX6_reach_42 : decode cX6_reach 42 = .ok (.aload_n 1, 1) := by decide +kernel
theorem dX6_reach_43 : decode cX6_reach 43 = .ok (.aastore, 1) := by decide +kernel
theorem dX6_reach_44 : decode cX6_reach 44 = .ok (.iload_n 2, 1) := by decide +kernel
theorem dX6_reach_45 : decode cX6_reach 45 = .ok (.iconst 1, 1) := by decide +kernel
theorem dX6_reach_46 : decode cX6_reach 46 = .ok (.iadd, 1) := by decide +kernel
theorem dX6_reach_47 : decode cX6_reach 47 = .ok (.ireturn, 1) := by decide +kernel
theorem dX6_take_0 : decode cX6_take 0 = .ok (.aload_n 0, 1) := by decide +kernel
theorem dX6_take_1 : decode cX6_take 1 = .ok (.getfield 27, 3) := by decide +kernel
theorem dX6_take_4 : decode cX6_take 4 = .ok (.iload_n 1, 1) := by decide +kernel
theorem dX6_take_5 : decode cX6_take 5 = .ok (.invokevirtual 76, 3) := by decide +kernel
theorem dX6_take_8 : decode cX6_take 8 = .ok (.ifCond .ne 5, 3) := by decide +kernel
theorem dX6_take_11 : decode cX6_take 11 = .ok (.iconst 0, 1) := by decide +kernel
theorem dX6_take_12 : decode cX6_take 12 = .ok (.ireturn, 1) := by decide +kernel
theorem dX6_take_13 : decode cX6_take 13 = .ok (.aload_n 0, 1) := by decide +kernel
theorem dX6_take_14 : decode cX6_take 14 = .ok (.iload_n 1, 1) := by decide +kernel
theorem dX6_take_15 : decode cX6_take 15 = .ok (.invokevirtual 80, 3) := by decide +kernel
theorem dX6_take_18 : decode cX6_take 18 = .ok (.iload_n 2, 1) := by decide +kernel
theorem dX6_take_19 : decode cX6_take 19 = .ok (.ifCond .lt 11, 3) := by decide +kernel
theorem dX6_take_22 : decode cX6_take 22 = .ok (.iload_n 2, 1) := by decide +kernel
theorem dX6_take_23 : decode cX6_take 23 = .ok (.aload_n 0, 1) := by decide +kernel
theorem dX6_take_24 : decode cX6_take 24 = .ok (.getfield 37, 3) := by decide +kernel
theorem dX6_take_27 : decode cX6_take 27 = .ok (.if_icmp .lt 5, 3) := by decide +kernel
theorem dX6_take_30 : decode cX6_take 30 = .ok (.iconst 0, 1) := by decide +kernel
theorem dX6_take_31 : decode cX6_take 31 = .ok (.ireturn, 1) := by decide +kernel
theorem dX6_take_32 : decode cX6_take 32 = .ok (.aload_n 0, 1) := by decide +kernel
theorem dX6_take_33 : decode cX6_take 33 = .ok (.iload_n 2, 1) := by decide +kernel
theorem dX6_take_34 : decode cX6_take 34 = .ok (.putfield 84, 3) := by decide +kernel
theorem dX6_take_37 : decode cX6_take 37 = .ok (.aload_n 0, 1) := by decide +kernel
theorem dX6_take_38 : decode cX6_take 38 = .ok (.invokevirtual 87, 3) := by decide +kernel
theorem dX6_take_41 : decode cX6_take 41 = .ok (.iconst 1, 1) := by decide +kernel
theorem dX6_take_42 : decode cX6_take 42 = .ok (.ireturn, 1) := by decide +kernel
theorem dX6_gatherMembers_0 : decode cX6_gatherMembers 0 = .ok (.aload_n 0, 1) := by decide +kernel
theorem dX6_gatherMembers_1 : decode cX6_gatherMembers 1 = .ok (.iconst 0, 1) := by decide +kernel
theorem dX6_gatherMembers_2 : decode cX6_gatherMembers 2 = .ok (.putfield 90, 3) := by decide +kernel
theorem dX6_gatherMembers_5 : decode cX6_gatherMembers 5 = .ok (.iconst 0, 1) := by decide +kernel
theorem dX6_gatherMembers_6 : decode cX6_gatherMembers 6 = .ok (.istore_n 1, 1) := by decide +kernel
theorem dX6_gatherMembers_7 : decode cX6_gatherMembers 7 = .ok (.iload_n 1, 1) := by decide +kernel
theorem dX6_gatherMembers_8 : decode cX6_gatherMembers 8 = .ok (.aload_n 0, 1) := by decide +kernel
theorem dX6_gatherMembers_9 : decode cX6_gatherMembers 9 = .ok (.getfield 27, 3) := by decide +kernel
theorem dX6_gatherMembers_12 : decode cX6_gatherMembers 12 = .ok (.getfield 93, 3) := by decide +kernel
theorem dX6_gatherMembers_15 : decode cX6_gatherMembers 15 = .ok (.if_icmp .ge 59, 3) := by decide +kernel
theorem dX6_gatherMembers_18 : decode cX6_gatherMembers 18 = .ok (.aload_n 0, 1) := by decide +kernel
theorem dX6_gatherMembers_19 : decode cX6_gatherMembers 19 = .ok (.getfield 27, 3) := by decide +kernel
theorem dX6_gatherMembers_22 : decode cX6_gatherMembers 22 = .ok (.iload_n 1, 1) := by decide +kernel
theorem dX6_gatherMembers_23 : decode cX6_gatherMembers 23 = .ok (.invokevirtual 96, 3) := by decide +kernel
theorem dX6_gatherMembers_26 : decode cX6_gatherMembers 26 = .ok (.astore_n 2, 1) := by decide +kernel
theorem dX6_gatherMembers_27 : decode cX6_gatherMembers 27 = .ok (.aload_n 2, 1) := by decide +kernel
theorem dX6_gatherMembers_28 : decode cX6_gatherMembers 28 = .ok (.ifnull 40, 3) := by decide +kernel
theorem dX6_gatherMembers_31 : decode cX6_gatherMembers 31 = .ok (.aload_n 0, 1) := by decide +kernel
theorem dX6_gatherMembers_32 : decode cX6_gatherMembers 32 = .ok (.getfield 90, 3) := by decide +kernel
theorem dX6_gatherMembers_35 : decode cX6_gatherMembers 35 = .ok (.bipush 40, 2) := by decide +kernel
theorem dX6_gatherMembers_37 : decode cX6_gatherMembers 37 = .ok (.if_icmp .ge 31, 3) := by decide +kernel
theorem dX6_gatherMembers_40 : decode cX6_gatherMembers 40 = .ok (.aload_n 0, 1) := by decide +kernel
theorem dX6_gatherMembers_41 : decode cX6_gatherMembers 41 = .ok (.aload_n 2, 1) := by decide +kernel
theorem dX6_gatherMembers_42 : decode cX6_gatherMembers 42 = .ok (.invokevirtual 100, 3) := by decide +kernel
theorem dX6_gatherMembers_45 : decode cX6_gatherMembers 45 = .ok (.ifCond .eq 23, 3) := by decide +kernel
theorem dX6_gatherMembers_48 : decode cX6_gatherMembers 48 = .ok (.aload_n 0, 1) := by decide +kernel
theorem dX6_gatherMembers_49 : decode cX6_gatherMembers 49 = .ok (.getfield 23, 3) := by decide +kernel
theorem dX6_gatherMembers_52 : decode cX6_gatherMembers 52 = .ok (.aload_n 0, 1) := by decide +kernel
theorem dX6_gatherMembers_53 : decode cX6_gatherMembers 53 = .ok (.getfield 90, 3) := by decide +kernel
theorem dX6_gatherMembers_56 : decode cX6_gatherMembers 56 = .ok (.aload_n 2, 1) := by decide +kernel
theorem dX6_gatherMembers_57 : decode cX6_gatherMembers 57 = .ok (.aastore, 1) := by decide +kernel
theorem dX6_gatherMembers_58 : decode cX6_gatherMembers 58 = .ok (.aload_n 0, 1) := by decide +kernel
theorem dX6_gatherMembers_59 : decode cX6_gatherMembers 59 = .ok (.dup, 1) := by decide +kernel
theorem dX6_gatherMembers_60 : decode cX6_gatherMembers 60 = .ok (.getfield 90, 3) := by decide +kernel
theorem dX6_gatherMembers_63 : decode cX6_gatherMembers 63 = .ok (.iconst 1, 1) := by decide +kernel
theorem dX6_gatherMembers_64 : decode cX6_gatherMembers 64 = .ok (.iadd, 1) := by decide +kernel
theorem dX6_gatherMembers_65 : decode cX6_gatherMembers 65 = .ok (.putfield 90, 3) := by decide +kernel
theorem dX6_gatherMembers_68 : decode cX6_gatherMembers 68 = .ok (.iinc 1 1, 3) := by decide +kernel
theorem dX6_gatherMembers_71 : decode cX6_gatherMembers 71 = .ok (.goto (-64), 3) := by decide +kernel
theorem dX6_gatherMembers_74 : decode cX6_gatherMembers 74 = .ok (.return_, 1) := by decide +kernel
theorem dX6_holdsHere_0 : decode cX6_holdsHere 0 = .ok (.aload_n 1, 1) := by decide +kernel
theorem dX6_holdsHere_1 : decode cX6_holdsHere 1 = .ok (.getfield 104, 3) := by decide +kernel
theorem dX6_holdsHere_4 : decode cX6_holdsHere 4 = .ok (.astore_n 2, 1) := by decide +kernel
theorem dX6_holdsHere_5 : decode cX6_holdsHere 5 = .ok (.aload_n 2, 1) := by decide +kernel
theorem dX6_holdsHere_6 : decode cX6_holdsHere 6 = .ok (.ifnull 19, 3) := by decide +kernel
theorem dX6_holdsHere_9 : decode cX6_holdsHere 9 = .ok (.aload_n 0, 1) := by decide +kernel
theorem dX6_holdsHere_10 : decode cX6_holdsHere 10 = .ok (.aload_n 2, 1) := by decide +kernel
theorem dX6_holdsHere_11 : decode cX6_holdsHere 11 = .ok (.invokevirtual 58, 3) := by decide +kernel
theorem dX6_holdsHere_14 : decode cX6_holdsHere 14 = .ok (.aload_n 0, 1) := by decide +kernel
theorem dX6_holdsHere_15 : decode cX6_holdsHere 15 = .ok (.getfield 84, 3) := by decide +kernel
theorem dX6_holdsHere_18 : decode cX6_holdsHere 18 = .ok (.if_icmp .ne 7, 3) := by decide +kernel
theorem dX6_holdsHere_21 : decode cX6_holdsHere 21 = .ok (.iconst 1, 1) := by decide +kernel
theorem dX6_holdsHere_22 : decode cX6_holdsHere 22 = .ok (.goto 4, 3) := by decide +kernel
theorem dX6_holdsHere_25 : decode cX6_holdsHere 25 = .ok (.iconst 0, 1) := by decide +kernel
theorem dX6_holdsHere_26 : decode cX6_holdsHere 26 = .ok (.ireturn, 1) := by decide +kernel
theorem dX6_memberAt_0 : decode cX6_memberAt 0 = .ok (.iload_n 1, 1) := by decide +kernel
theorem dX6_memberAt_1 : decode cX6_memberAt 1 = .ok (.ifCond .lt 20, 3) := by decide +kernel
theorem dX6_memberAt_4 : decode cX6_memberAt 4 = .ok (.iload_n 1, 1) := by decide +kernel
theorem dX6_memberAt_5 : decode cX6_memberAt 5 = .ok (.aload_n 0, 1) := by decide +kernel
theorem dX6_memberAt_6 : decode cX6_memberAt 6 = .ok (.getfield 90, 3) := by decide +kernel
theorem dX6_memberAt_9 : decode cX6_memberAt 9 = .ok (.if_icmp .ge 12, 3) := by decide +kernel
theorem dX6_memberAt_12 : decode cX6_memberAt 12 = .ok (.aload_n 0, 1) := by decide +kernel
theorem dX6_memberAt_13 : decode cX6_memberAt 13 = .ok (.getfield 23, 3) := by decide +kernel
theorem dX6_memberAt_16 : decode cX6_memberAt 16 = .ok (.iload_n 1, 1) := by decide +kernel
theorem dX6_memberAt_17 : decode cX6_memberAt 17 = .ok (.aaload, 1) := by decide +kernel
theorem dX6_memberAt_18 : decode cX6_memberAt 18 = .ok (.goto 4, 3) := by decide +kernel
theorem dX6_memberAt_21 : decode cX6_memberAt 21 = .ok (.aconst_null, 1) := by decide +kernel
theorem dX6_memberAt_22 : decode cX6_memberAt 22 = .ok (.areturn, 1) := by decide +kernel
theorem dX6_placeOf_0 : decode cX6_placeOf 0 = .ok (.iconst 0, 1) := by decide +kernel
theorem dX6_placeOf_1 : decode cX6_placeOf 1 = .ok (.istore_n 2, 1) := by decide +kernel
theorem dX6_placeOf_2 : decode cX6_placeOf 2 = .ok (.iload_n 2, 1) := by decide +kernel
theorem dX6_placeOf_3 : decode cX6_placeOf 3 = .ok (.aload_n 0, 1) := by decide +kernel
theorem dX6_placeOf_4 : decode cX6_placeOf 4 = .ok (.getfield 90, 3) := by decide +kernel
theorem dX6_placeOf_7 : decode cX6_placeOf 7 = .ok (.if_icmp .ge 20, 3) := by decide +kernel
theorem dX6_placeOf_10 : decode cX6_placeOf 10 = .ok (.aload_n 0, 1) := by decide +kernel
theorem dX6_placeOf_11 : decode cX6_placeOf 11 = .ok (.iload_n 2, 1) := by decide +kernel
theorem dX6_placeOf_12 : decode cX6_placeOf 12 = .ok (.invokevirtual 108, 3) := by decide +kernel
theorem dX6_placeOf_15 : decode cX6_placeOf 15 = .ok (.aload_n 1, 1) := by decide +kernel
theorem dX6_placeOf_16 : decode cX6_placeOf 16 = .ok (.if_acmp .ne 5, 3) := by decide +kernel
theorem dX6_placeOf_19 : decode cX6_placeOf 19 = .ok (.iload_n 2, 1) := by decide +kernel
theorem dX6_placeOf_20 : decode cX6_placeOf 20 = .ok (.ireturn, 1) := by decide +kernel
theorem dX6_placeOf_21 : decode cX6_placeOf 21 = .ok (.iinc 2 1, 3) := by decide +kernel
theorem dX6_placeOf_24 : decode cX6_placeOf 24 = .ok (.goto (-22), 3) := by decide +kernel
theorem dX6_placeOf_27 : decode cX6_placeOf 27 = .ok (.iconst (-1), 1) := by decide +kernel
theorem dX6_placeOf_28 : decode cX6_placeOf 28 = .ok (.ireturn, 1) := by decide +kernel
theorem dX6_wanted_0 : decode cX6_wanted 0 = .ok (.iconst 0, 1) := by decide +kernel
theorem dX6_wanted_1 : decode cX6_wanted 1 = .ok (.istore_n 1, 1) := by decide +kernel
theorem dX6_wanted_2 : decode cX6_wanted 2 = .ok (.iconst 0, 1) := by decide +kernel
theorem dX6_wanted_3 : decode cX6_wanted 3 = .ok (.istore_n 2, 1) := by decide +kernel
theorem dX6_wanted_4 : decode cX6_wanted 4 = .ok (.iload_n 2, 1) := by decide +kernel
theorem dX6_wanted_5 : decode cX6_wanted 5 = .ok (.aload_n 0, 1) := by decide +kernel
theorem dX6_wanted_6 : decode cX6_wanted 6 = .ok (.getfield 27, 3) := by decide +kernel
theorem dX6_wanted_9 : decode cX6_wanted 9 = .ok (.getfield 41, 3) := by decide +kernel
theorem dX6_wanted_12 : decode cX6_wanted 12 = .ok (.if_icmp .ge 41, 3) := by decide +kernel
theorem dX6_wanted_15 : decode cX6_wanted 15 = .ok (.aload_n 0, 1) := by decide +kernel
theorem dX6_wanted_16 : decode cX6_wanted 16 = .ok (.getfield 27, 3) := by decide +kernel
theorem dX6_wanted_19 : decode cX6_wanted 19 = .ok (.iload_n 2, 1) := by decide +kernel
theorem dX6_wanted_20 : decode cX6_wanted 20 = .ok (.invokevirtual 46, 3) := by decide +kernel
theorem dX6_wanted_23 : decode cX6_wanted 23 = .ok (.astore_n 3, 1) := by decide +kernel
theorem dX6_wanted_24 : decode cX6_wanted 24 = .ok (.aload_n 3, 1) := by decide +kernel
theorem dX6_wanted_25 : decode cX6_wanted 25 = .ok (.ifnull 22, 3) := by decide +kernel
theorem dX6_wanted_28 : decode cX6_wanted 28 = .ok (.aload_n 0, 1) := by decide +kernel
theorem dX6_wanted_29 : decode cX6_wanted 29 = .ok (.aload_n 3, 1) := by decide +kernel
theorem dX6_wanted_30 : decode cX6_wanted 30 = .ok (.invokevirtual 58, 3) := by decide +kernel
theorem dX6_wanted_33 : decode cX6_wanted 33 = .ok (.aload_n 0, 1) := by decide +kernel
theorem dX6_wanted_34 : decode cX6_wanted 34 = .ok (.getfield 84, 3) := by decide +kernel
theorem dX6_wanted_37 : decode cX6_wanted 37 = .ok (.if_icmp .ne 10, 3) := by decide +kernel
theorem dX6_wanted_40 : decode cX6_wanted 40 = .ok (.iload_n 1, 1) := by decide +kernel
theorem dX6_wanted_41 : decode cX6_wanted 41 = .ok (.aload_n 3, 1) := by decide +kernel
theorem dX6_wanted_42 : decode cX6_wanted 42 = .ok (.getfield 111, 3) := by decide +kernel
theorem dX6_wanted_45 : decode cX6_wanted 45 = .ok (.ior, 1) := by decide +kernel
theorem dX6_wanted_46 : decode cX6_wanted 46 = .ok (.istore_n 1, 1) := by decide +kernel
theorem dX6_wanted_47 : decode cX6_wanted 47 = .ok (.iinc 2 1, 3) := by decide +kernel
theorem dX6_wanted_50 : decode cX6_wanted 50 = .ok (.goto (-46), 3) := by decide +kernel
theorem dX6_wanted_53 : decode cX6_wanted 53 = .ok (.iload_n 1, 1) := by decide +kernel
theorem dX6_wanted_54 : decode cX6_wanted 54 = .ok (.ireturn, 1) := by decide +kernel
theorem dX7_init_0 : decode cX7_init 0 = .ok (.aload_n 0, 1) := by decide +kernel
theorem dX7_init_1 : decode cX7_init 1 = .ok (.invokespecial 1, 3) := by decide +kernel
theorem dX7_init_4 : decode cX7_init 4 = .ok (.aload_n 0, 1) := by decide +kernel
theorem dX7_init_5 : decode cX7_init 5 = .ok (.iconst (-1), 1) := by decide +kernel
theorem dX7_init_6 : decode cX7_init 6 = .ok (.putfield 7, 3) := by decide +kernel
theorem dX7_init_9 : decode cX7_init 9 = .ok (.aload_n 0, 1) := by decide +kernel
theorem dX7_init_10 : decode cX7_init 10 = .ok (.iload_n 1, 1) := by decide +kernel
theorem dX7_init_11 : decode cX7_init 11 = .ok (.putfield 13, 3) := by decide +kernel
theorem dX7_init_14 : decode cX7_init 14 = .ok (.aload_n 0, 1) := by decide +kernel
theorem dX7_init_15 : decode cX7_init 15 = .ok (.iload_n 2, 1) := by decide +kernel
theorem dX7_init_16 : decode cX7_init 16 = .ok (.putfield 16, 3) := by decide +kernel
theorem dX7_init_19 : decode cX7_init 19 = .ok (.aload_n 0, 1) := by decide +kernel
theorem dX7_init_20 : decode cX7_init 20 = .ok (.iload_n 3, 1) := by decide +kernel
theorem dX7_init_21 : decode cX7_init 21 = .ok (.putfield 19, 3) := by decide +kernel
theorem dX7_init_24 : decode cX7_init 24 = .ok (.aload_n 0, 1) := by decide +kernel
theorem dX7_init_25 : decode cX7_init 25 = .ok (.iload 4, 2) := by decide +kernel
theorem dX7_init_27 : decode cX7_init 27 = .ok (.putfield 22, 3) := by decide +kernel
theorem dX7_init_30 : decode cX7_init 30 = .ok (.aload_n 0, 1) := by decide +kernel
theorem dX7_init_31 : decode cX7_init 31 = .ok (.iload 5, 2) := by decide +kernel
theorem dX7_init_33 : decode cX7_init 33 = .ok (.putfield 25, 3) := by decide +kernel
theorem dX7_init_36 : decode cX7_init 36 = .ok (.aload_n 0, 1) := by decide +kernel
theorem dX7_init_37 : decode cX7_init 37 = .ok (.iload 6, 2) := by decide +kernel
theorem dX7_init_39 : decode cX7_init 39 = .ok (.putfield 28, 3) := by decide +kernel
theorem dX7_init_42 : decode cX7_init 42 = .ok (.return_, 1) := by decide +kernel
theorem dX7_isOpen_0 : decode cX7_isOpen 0 = .ok (.aload_n 0, 1) := by decide +kernel
theorem dX7_isOpen_1 : decode cX7_isOpen 1 = .ok (.getfield 7, 3) := by decide +kernel
theorem dX7_isOpen_4 : decode cX7_isOpen 4 = .ok (.ifCond .ge 7, 3) := by decide +kernel
theorem dX7_isOpen_7 : decode cX7_isOpen 7 = .ok (.iconst 1, 1) := by decide +kernel
theorem dX7_isOpen_8 : decode cX7_isOpen 8 = .ok (.goto 4, 3) := by decide +kernel
theorem dX7_isOpen_11 : decode cX7_isOpen 11 = .ok (.iconst 0, 1) := by decide +kernel
theorem dX7_isOpen_12 : decode cX7_isOpen 12 = .ok (.ireturn, 1) := by decide +kernel
theorem dX7_isVacant_0 : decode cX7_isVacant 0 = .ok (.aload_n 0, 1) := by decide +kernel
theorem dX7_isVacant_1 : decode cX7_isVacant 1 = .ok (.invokevirtual 31, 3) := by decide +kernel
theorem dX7_isVacant_4 : decode cX7_isVacant 4 = .ok (.ifCond .eq 14, 3) := by decide +kernel
theorem dX7_isVacant_7 : decode cX7_isVacant 7 = .ok (.aload_n 0, 1) := by decide +kernel
theorem dX7_isVacant_8 : decode cX7_isVacant 8 = .ok (.getfield 35, 3) := by decide +kernel
theorem dX7_isVacant_11 : decode cX7_isVacant 11 = .ok (.ifnonnull 7, 3) := by decide +kernel
theorem dX7_isVacant_14 : decode cX7_isVacant 14 = .ok (.iconst 1, 1) := by decide +kernel
theorem dX7_isVacant_15 : decode cX7_isVacant 15 = .ok (.goto 4, 3) := by decide +kernel
theorem dX7_isVacant_18 : decode cX7_isVacant 18 = .ok (.iconst 0, 1) := by decide +kernel
theorem dX7_isVacant_19 : decode cX7_isVacant 19 = .ok (.ireturn, 1) := by decide +kernel
theorem dX7_mayBeHeldBy_0 : decode cX7_mayBeHeldBy 0 = .ok (.aload_n 0, 1) := by decide +kernel
theorem dX7_mayBeHeldBy_1 : decode cX7_mayBeHeldBy 1 = .ok (.invokevirtual 31, 3) := by decide +kernel
theorem dX7_mayBeHeldBy_4 : decode cX7_mayBeHeldBy 4 = .ok (.ifCond .eq 22, 3) := by decide +kernel
theorem dX7_mayBeHeldBy_7 : decode cX7_mayBeHeldBy 7 = .ok (.aload_n 0, 1) := by decide +kernel
theorem dX7_mayBeHeldBy_8 : decode cX7_mayBeHeldBy 8 = .ok (.getfield 35, 3) := by decide +kernel
theorem dX7_mayBeHeldBy_11 : decode cX7_mayBeHeldBy 11 = .ok (.ifnull 11, 3) := by decide +kernel
theorem dX7_mayBeHeldBy_14 : decode cX7_mayBeHeldBy 14 = .ok (.aload_n 0, 1) := by decide +kernel
theorem dX7_mayBeHeldBy_15 : decode cX7_mayBeHeldBy 15 = .ok (.getfield 35, 3) := by decide +kernel
theorem dX7_mayBeHeldBy_18 : decode cX7_mayBeHeldBy 18 = .ok (.aload_n 1, 1) := by decide +kernel
theorem dX7_mayBeHeldBy_19 : decode cX7_mayBeHeldBy 19 = .ok (.if_acmp .ne 7, 3) := by decide +kernel
theorem dX7_mayBeHeldBy_22 : decode cX7_mayBeHeldBy 22 = .ok (.iconst 1, 1) := by decide +kernel
theorem dX7_mayBeHeldBy_23 : decode cX7_mayBeHeldBy 23 = .ok (.goto 4, 3) := by decide +kernel
theorem dX7_mayBeHeldBy_26 : decode cX7_mayBeHeldBy 26 = .ok (.iconst 0, 1) := by decide +kernel
theorem dX7_mayBeHeldBy_27 : decode cX7_mayBeHeldBy 27 = .ok (.ireturn, 1) := by decide +kernel
theorem dX7_finish_0 : decode cX7_finish 0 = .ok (.aload_n 0, 1) := by decide +kernel
theorem dX7_finish_1 : decode cX7_finish 1 = .ok (.getfield 35, 3) := by decide +kernel
theorem dX7_finish_4 : decode cX7_finish 4 = .ok (.astore_n 2, 1) := by decide +kernel
theorem dX7_finish_5 : decode cX7_finish 5 = .ok (.aload_n 2, 1) := by decide +kernel
theorem dX7_finish_6 : decode cX7_finish 6 = .ok (.ifnull 8, 3) := by decide +kernel
theorem dX7_finish_9 : decode cX7_finish 9 = .ok (.aload_n 2, 1) := by decide +kernel
theorem dX7_finish_10 : decode cX7_finish 10 = .ok (.aconst_null, 1) := by decide +kernel
theorem dX7_finish_11 : decode cX7_finish 11 = .ok (.invokevirtual 39, 3) := by decide +kernel
theorem dX7_finish_14 : decode cX7_finish 14 = .ok (.aload_n 0, 1) := by decide +kernel
theorem dX7_finish_15 : decode cX7_finish 15 = .ok (.iload_n 1, 1) := by decide +kernel
theorem dX7_finish_16 : decode cX7_finish 16 = .ok (.putfield 7, 3) := by decide +kernel
theorem dX7_finish_19 : decode cX7_finish 19 = .ok (.return_, 1) := by decide +kernel
theorem dX8_init_0 : decode cX8_init 0 = .ok (.aload_n 0, 1) := by decide +kernel
theorem dX8_init_1 : decode cX8_init 1 = .ok (.invokespecial 3, 3) := by decide +kernel
theorem dX8_init_4 : decode cX8_init 4 = .ok (.aload_n 0, 1) := by decide +kernel
theorem dX8_init_5 : decode cX8_init 5 = .ok (.bipush 40, 2) := by decide +kernel
theorem dX8_init_7 : decode cX8_init 7 = .ok (.anewarray 9, 3) := by decide +kernel
theorem dX8_init_10 : decode cX8_init 10 = .ok (.putfield 11, 3) := by decide +kernel
theorem dX8_init_13 : decode cX8_init 13 = .ok (.aload_n 0, 1) := by decide +kernel
theorem dX8_init_14 : decode cX8_init 14 = .ok (.bipush 40, 2) := by decide +kernel
theorem dX8_init_16 : decode cX8_init 16 = .ok (.newarray .int, 2) := by decide +kernel
theorem dX8_init_18 : decode cX8_init 18 = .ok (.putfield 17, 3) := by decide +kernel
theorem dX8_init_21 : decode cX8_init 21 = .ok (.aload_n 0, 1) := by decide +kernel
theorem dX8_init_22 : decode cX8_init 22 = .ok (.bipush 40, 2) := by decide +kernel
theorem dX8_init_24 : decode cX8_init 24 = .ok (.newarray .int, 2) := by decide +kernel
theorem dX8_init_26 : decode cX8_init 26 = .ok (.putfield 21, 3) := by decide +kernel
theorem dX8_init_29 : decode cX8_init 29 = .ok (.aload_n 0, 1) := by decide +kernel
theorem dX8_init_30 : decode cX8_init 30 = .ok (.bipush 40, 2) := by decide +kernel
theorem dX8_init_32 : decode cX8_init 32 = .ok (.newarray .int, 2) := by decide +kernel
theorem dX8_init_34 : decode cX8_init 34 = .ok (.putfield 24, 3) := by decide +kernel
theorem dX8_init_37 : decode cX8_init 37 = .ok (.aload_n 0, 1) := by decide +kernel
theorem dX8_init_38 : decode cX8_init 38 = .ok (.aload_n 1, 1) := by decide +kernel
theorem dX8_init_39 : decode cX8_init 39 = .ok (.putfield 27, 3) := by decide +kernel
theorem dX8_init_42 : decode cX8_init 42 = .ok (.return_, 1) := by decide +kernel
theorem dX8_gather_0 : decode cX8_gather 0 = .ok (.aload_n 0, 1) := by decide +kernel
theorem dX8_gather_1 : decode cX8_gather 1 = .ok (.iconst 0, 1) := by decide +kernel
theorem dX8_gather_2 : decode cX8_gather 2 = .ok (.putfield 31, 3) := by decide +kernel
theorem dX8_gather_5 : decode cX8_gather 5 = .ok (.iconst 0, 1) := by decide +kernel
theorem dX8_gather_6 : decode cX8_gather 6 = .ok (.istore_n 2, 1) := by decide +kernel
theorem dX8_gather_7 : decode cX8_gather 7 = .ok (.iload_n 2, 1) := by decide +kernel
theorem dX8_gather_8 : decode cX8_gather 8 = .ok (.aload_n 1, 1) := by decide +kernel
theorem dX8_gather_9 : decode cX8_gather 9 = .ok (.getfield 35, 3) := by decide +kernel
theorem dX8_gather_12 : decode cX8_gather 12 = .ok (.if_icmp .ge 83, 3) := by decide +kernel
theorem dX8_gather_15 : decode cX8_gather 15 = .ok (.aload_n 1, 1) := by decide +kernel
theorem dX8_gather_16 : decode cX8_gather 16 = .ok (.iload_n 2, 1) := by decide +kernel
theorem dX8_gather_17 : decode cX8_gather 17 = .ok (.invokevirtual 40, 3) := by decide +kernel
theorem dX8_gather_20 : decode cX8_gather 20 = .ok (.astore_n 3, 1) := by decide +kernel
theorem dX8_gather_21 : decode cX8_gather 21 = .ok (.aload_n 3, 1) := by decide +kernel
theorem dX8_gather_22 : decode cX8_gather 22 = .ok (.ifnull 67, 3) := by decide +kernel
theorem dX8_gather_25 : decode cX8_gather 25 = .ok (.aload_n 0, 1) := by decide +kernel
theorem dX8_gather_26 : decode cX8_gather 26 = .ok (.getfield 31, 3) := by decide +kernel
theorem dX8_gather_29 : decode cX8_gather 29 = .ok (.bipush 40, 2) := by decide +kernel
theorem dX8_gather_31 : decode cX8_gather 31 = .ok (.if_icmp .ge 58, 3) := by decide +kernel
theorem dX8_gather_34 : decode cX8_gather 34 = .ok (.aload_n 0, 1) := by decide +kernel
theorem dX8_gather_35 : decode cX8_gather 35 = .ok (.getfield 27, 3) := by decide +kernel
theorem dX8_gather_38 : decode cX8_gather 38 = .ok (.aload_n 3, 1) := by decide +kernel
theorem dX8_gather_39 : decode cX8_gather 39 = .ok (.invokevirtual 44, 3) := by decide +kernel
theorem dX8_gather_42 : decode cX8_gather 42 = .ok (.ifCond .ne 47, 3) := by decide +kernel
theorem dX8_gather_45 : decode cX8_gather 45 = .ok (.aload_n 0, 1) := by decide +kernel
theorem dX8_gather_46 : decode cX8_gather 46 = .ok (.getfield 11, 3) := by decide +kernel
theorem dX8_gather_49 : decode cX8_gather 49 = .ok (.aload_n 0, 1) := by decide +kernel
theorem dX8_gather_50 : decode cX8_gather 50 = .ok (.getfield 31, 3) := by decide +kernel
theorem dX8_gather_53 : decode cX8_gather 53 = .ok (.aload_n 3, 1) := by decide +kernel
theorem dX8_gather_54 : decode cX8_gather 54 = .ok (.aastore, 1) := by decide +kernel
theorem dX8_gather_55 : decode cX8_gather 55 = .ok (.aload_n 0, 1) := by decide +kernel
theorem dX8_gather_56 : decode cX8_gather 56 = .ok (.getfield 17, 3) := by decide +kernel
theorem dX8_gather_59 : decode cX8_gather 59 = .ok (.aload_n 0, 1) := by decide +kernel
theorem dX8_gather_60 : decode cX8_gather 60 = .ok (.getfield 31, 3) := by decide +kernel
theorem dX8_gather_63 : decode cX8_gather 63 = .ok (.aload_n 0, 1) := by decide +kernel
theorem dX8_gather_64 : decode cX8_gather 64 = .ok (.getfield 27, 3) := by decide +kernel
theorem dX8_gather_67 : decode cX8_gather 67 = .ok (.aload_n 3, 1) := by decide +kernel
theorem dX8_gather_68 : decode cX8_gather 68 = .ok (.aload_n 0, 1) := by decide +kernel
theorem dX8_gather_69 : decode cX8_gather 69 = .ok (.getfield 27, 3) := by decide +kernel
theorem dX8_gather_72 : decode cX8_gather 72 = .ok (.getfield 50, 3) := by decide +kernel
theorem dX8_gather_75 : decode cX8_gather 75 = .ok (.invokevirtual 53, 3) := by decide +kernel
theorem dX8_gather_78 : decode cX8_gather 78 = .ok (.iastore, 1) := by decide +kernel
theorem dX8_gather_79 : decode cX8_gather 79 = .ok (.aload_n 0, 1) := by decide +kernel
theorem dX8_gather_80 : decode cX8_gather 80 = .ok (.dup, 1) := by decide +kernel
theorem dX8_gather_81 : decode cX8_gather 81 = .ok (.getfield 31, 3) := by decide +kernel
theorem dX8_gather_84 : decode cX8_gather 84 = .ok (.iconst 1, 1) := by decide +kernel
theorem dX8_gather_85 : decode cX8_gather 85 = .ok (.iadd, 1) := by decide +kernel
theorem dX8_gather_86 : decode cX8_gather 86 = .ok (.putfield 31, 3) := by decide +kernel
theorem dX8_gather_89 : decode cX8_gather 89 = .ok (.iinc 2 1, 3) := by decide +kernel
theorem dX8_gather_92 : decode cX8_gather 92 = .ok (.goto (-85), 3) := by decide +kernel
theorem dX8_gather_95 : decode cX8_gather 95 = .ok (.return_, 1) := by decide +kernel
theorem dX8_placeOf_0 : decode cX8_placeOf 0 = .ok (.iconst 0, 1) := by decide +kernel
theorem dX8_placeOf_1 : decode cX8_placeOf 1 = .ok (.istore_n 2, 1) := by decide +kernel
theorem dX8_placeOf_2 : decode cX8_placeOf 2 = .ok (.iload_n 2, 1) := by decide +kernel
theorem dX8_placeOf_3 : decode cX8_placeOf 3 = .ok (.aload_n 0, 1) := by decide +kernel
theorem dX8_placeOf_4 : decode cX8_placeOf 4 = .ok (.getfield 31, 3) := by decide +kernel
theorem dX8_placeOf_7 : decode cX8_placeOf 7 = .ok (.if_icmp .ge 21, 3) := by decide +kernel
theorem dX8_placeOf_10 : decode cX8_placeOf 10 = .ok (.aload_n 0, 1) := by decide +kernel
theorem dX8_placeOf_11 : decode cX8_placeOf 11 = .ok (.getfield 11, 3) := by decide +kernel
theorem dX8_placeOf_14 : decode cX8_placeOf 14 = .ok (.iload_n 2, 1) := by decide +kernel
theorem dX8_placeOf_15 : decode cX8_placeOf 15 = .ok (.aaload, 1) := by decide +kernel
theorem dX8_placeOf_16 : decode cX8_placeOf 16 = .ok (.aload_n 1, 1) := by decide +kernel
theorem dX8_placeOf_17 : decode cX8_placeOf 17 = .ok (.if_acmp .ne 5, 3) := by decide +kernel
theorem dX8_placeOf_20 : decode cX8_placeOf 20 = .ok (.iload_n 2, 1) := by decide +kernel
theorem dX8_placeOf_21 : decode cX8_placeOf 21 = .ok (.ireturn, 1) := by decide +kernel
theorem dX8_placeOf_22 : decode cX8_placeOf 22 = .ok (.iinc 2 1, 3) := by decide +kernel
theorem dX8_placeOf_25 : decode cX8_placeOf 25 = .ok (.goto (-23), 3) := by decide +kernel
theorem dX8_placeOf_28 : decode cX8_placeOf 28 = .ok (.iconst (-1), 1) := by decide +kernel
theorem dX8_placeOf_29 : decode cX8_placeOf 29 = .ok (.ireturn, 1) := by decide +kernel
theorem dX8_ahead_0 : decode cX8_ahead 0 = .ok (.aload_n 0, 1) := by decide +kernel
theorem dX8_ahead_1 : decode cX8_ahead 1 = .ok (.getfield 11, 3) := by decide +kernel
theorem dX8_ahead_4 : decode cX8_ahead 4 = .ok (.iload_n 2, 1) := by decide +kernel
theorem dX8_ahead_5 : decode cX8_ahead 5 = .ok (.aaload, 1) := by decide +kernel
theorem dX8_ahead_6 : decode cX8_ahead 6 = .ok (.astore_n 3, 1) := by decide +kernel
theorem dX8_ahead_7 : decode cX8_ahead 7 = .ok (.iconst 0, 1) := by decide +kernel
theorem dX8_ahead_8 : decode cX8_ahead 8 = .ok (.istore 4, 2) := by decide +kernel
theorem dX8_ahead_10 : decode cX8_ahead 10 = .ok (.iconst 0, 1) := by decide +kernel
theorem dX8_ahead_11 : decode cX8_ahead 11 = .ok (.istore 5, 2) := by decide +kernel
theorem dX8_ahead_13 : decode cX8_ahead 13 = .ok (.iload 5, 2) := by decide +kernel
theorem dX8_ahead_15 : decode cX8_ahead 15 = .ok (.aload_n 0, 1) := by decide +kernel
theorem dX8_ahead_16 : decode cX8_ahead 16 = .ok (.getfield 31, 3) := by decide +kernel
theorem dX8_ahead_19 : decode cX8_ahead 19 = .ok (.if_icmp .ge 59, 3) := by decide +kernel
theorem dX8_ahead_22 : decode cX8_ahead 22 = .ok (.aload_n 0, 1) := by decide +kernel
theorem dX8_ahead_23 : decode cX8_ahead 23 = .ok (.getfield 11, 3) := by decide +kernel
theorem dX8_ahead_26 : decode cX8_ahead 26 = .ok (.iload 5, 2) := by decide +kernel
theorem dX8_ahead_28 : decode cX8_ahead 28 = .ok (.aaload, 1) := by decide +kernel
theorem dX8_ahead_29 : decode cX8_ahead 29 = .ok (.astore 6, 2) := by decide +kernel
theorem dX8_ahead_31 : decode cX8_ahead 31 = .ok (.aload_n 3, 1) := by decide +kernel
theorem dX8_ahead_32 : decode cX8_ahead 32 = .ok (.ifnull 40, 3) := by decide +kernel
theorem dX8_ahead_35 : decode cX8_ahead 35 = .ok (.aload 6, 2) := by decide +kernel
theorem dX8_ahead_37 : decode cX8_ahead 37 = .ok (.ifnull 35, 3) := by decide +kernel
theorem dX8_ahead_40 : decode cX8_ahead 40 = .ok (.aload_n 1, 1) := by decide +kernel
theorem dX8_ahead_41 : decode cX8_ahead 41 = .ok (.iload 5, 2) := by decide +kernel
theorem dX8_ahead_43 : decode cX8_ahead 43 = .ok (.iaload, 1) := by decide +kernel
theorem dX8_ahead_44 : decode cX8_ahead 44 = .ok (.aload_n 1, 1) := by decide +kernel
theorem dX8_ahead_45 : decode cX8_ahead 45 = .ok (.iload_n 2, 1) := by decide +kernel
theorem dX8_ahead_46 : decode cX8_ahead 46 = .ok (.iaload, 1) := by decide +kernel
theorem dX8_ahead_47 : decode cX8_ahead 47 = .ok (.if_icmp .lt 22, 3) := by decide +kernel
theorem dX8_ahead_50 : decode cX8_ahead 50 = .ok (.aload_n 1, 1) := by decide +kernel
theorem dX8_ahead_51 : decode cX8_ahead 51 = .ok (.iload 5, 2) := by decide +kernel
theorem dX8_ahead_53 : decode cX8_ahead 53 = .ok (.iaload, 1) := by decide +kernel
theorem dX8_ahead_54 : decode cX8_ahead 54 = .ok (.aload_n 1, 1) := by decide +kernel
theorem dX8_ahead_55 : decode cX8_ahead 55 = .ok (.iload_n 2, 1) := by decide +kernel
theorem dX8_ahead_56 : decode cX8_ahead 56 = .ok (.iaload, 1) := by decide +kernel
theorem dX8_ahead_57 : decode cX8_ahead 57 = .ok (.if_icmp .ne 15, 3) := by decide +kernel
theorem dX8_ahead_60 : decode cX8_ahead 60 = .ok (.aload 6, 2) := by decide +kernel
theorem dX8_ahead_62 : decode cX8_ahead 62 = .ok (.aload_n 3, 1) := by decide +kernel
theorem dX8_ahead_63 : decode cX8_ahead 63 = .ok (.invokestatic 57, 3) := by decide +kernel
theorem dX8_ahead_66 : decode cX8_ahead 66 = .ok (.ifCond .eq 6, 3) := by decide +kernel
theorem dX8_ahead_69 : decode cX8_ahead 69 = .ok (.iinc 4 1, 3) := by decide +kernel
theorem dX8_ahead_72 : decode cX8_ahead 72 = .ok (.iinc 5 1, 3) := by decide +kernel
theorem dX8_ahead_75 : decode cX8_ahead 75 = .ok (.goto (-62), 3) := by decide +kernel
theorem dX8_ahead_78 : decode cX8_ahead 78 = .ok (.iload 4, 2) := by decide +kernel
theorem dX8_ahead_80 : decode cX8_ahead 80 = .ok (.ireturn, 1) := by decide +kernel
theorem dX8_goesFirst_0 : decode cX8_goesFirst 0 = .ok (.aload_n 0, 1) := by decide +kernel
theorem dX8_goesFirst_1 : decode cX8_goesFirst 1 = .ok (.getfield 61, 3) := by decide +kernel
theorem dX8_goesFirst_4 : decode cX8_goesFirst 4 = .ok (.aload_n 1, 1) := by decide +kernel
theorem dX8_goesFirst_5 : decode cX8_goesFirst 5 = .ok (.getfield 61, 3) := by decide +kernel
theorem dX8_goesFirst_8 : decode cX8_goesFirst 8 = .ok (.if_icmp .eq 20, 3) := by decide +kernel
theorem dX8_goesFirst_11 : decode cX8_goesFirst 11 = .ok (.aload_n 0, 1) := by decide +kernel
theorem dX8_goesFirst_12 : decode cX8_goesFirst 12 = .ok (.getfield 61, 3) := by decide +kernel
theorem dX8_goesFirst_15 : decode cX8_goesFirst 15 = .ok (.aload_n 1, 1) := by decide +kernel
theorem dX8_goesFirst_16 : decode cX8_goesFirst 16 = .ok (.getfield 61, 3) := by decide +kernel
theorem dX8_goesFirst_19 : decode cX8_goesFirst 19 = .ok (.if_icmp .le 7, 3) := by decide +kernel
theorem dX8_goesFirst_22 : decode cX8_goesFirst 22 = .ok (.iconst 1, 1) := by decide +kernel
theorem dX8_goesFirst_23 : decode cX8_goesFirst 23 = .ok (.goto 4, 3) := by decide +kernel
theorem dX8_goesFirst_26 : decode cX8_goesFirst 26 = .ok (.iconst 0, 1) := by decide +kernel
theorem dX8_goesFirst_27 : decode cX8_goesFirst 27 = .ok (.ireturn, 1) := by decide +kernel
theorem dX8_goesFirst_28 : decode cX8_goesFirst 28 = .ok (.aload_n 0, 1) := by decide +kernel
theorem dX8_goesFirst_29 : decode cX8_goesFirst 29 = .ok (.getfield 64, 3) := by decide +kernel
theorem dX8_goesFirst_32 : decode cX8_goesFirst 32 = .ok (.aload_n 1, 1) := by decide +kernel
theorem dX8_goesFirst_33 : decode cX8_goesFirst 33 = .ok (.getfield 64, 3) := by decide +kernel
theorem dX8_goesFirst_36 : decode cX8_goesFirst 36 = .ok (.if_icmp .le 7, 3) := by decide +kernel
theorem dX8_goesFirst_39 : decode cX8_goesFirst 39 = .ok (.iconst 1, 1) := by decide +kernel
theorem dX8_goesFirst_40 : decode cX8_goesFirst 40 = .ok (.goto 4, 3) := by decide +kernel
theorem dX8_goesFirst_43 : decode cX8_goesFirst 43 = .ok (.iconst 0, 1) := by decide +kernel
theorem dX8_goesFirst_44 : decode cX8_goesFirst 44 = .ok (.ireturn, 1) := by decide +kernel
theorem dX8_goesAt_0 : decode cX8_goesAt 0 = .ok (.iload_n 2, 1) := by decide +kernel
theorem dX8_goesAt_1 : decode cX8_goesAt 1 = .ok (.ifCond .lt 8, 3) := by decide +kernel
theorem dX8_goesAt_4 : decode cX8_goesAt 4 = .ok (.iload_n 2, 1) := by decide +kernel
theorem dX8_goesAt_5 : decode cX8_goesAt 5 = .ok (.iload_n 1, 1) := by decide +kernel
theorem dX8_goesAt_6 : decode cX8_goesAt 6 = .ok (.if_icmp .lt 6, 3) := by decide +kernel
theorem dX8_goesAt_9 : decode cX8_goesAt 9 = .ok (.bipush (-9), 2) := by decide +kernel
theorem dX8_goesAt_11 : decode cX8_goesAt 11 = .ok (.ireturn, 1) := by decide +kernel
theorem dX8_goesAt_12 : decode cX8_goesAt 12 = .ok (.iconst 0, 1) := by decide +kernel
theorem dX8_goesAt_13 : decode cX8_goesAt 13 = .ok (.istore_n 3, 1) := by decide +kernel
theorem dX8_goesAt_14 : decode cX8_goesAt 14 = .ok (.iload_n 3, 1) := by decide +kernel
theorem dX8_goesAt_15 : decode cX8_goesAt 15 = .ok (.aload_n 0, 1) := by decide +kernel
theorem dX8_goesAt_16 : decode cX8_goesAt 16 = .ok (.getfield 31, 3) := by decide +kernel
theorem dX8_goesAt_19 : decode cX8_goesAt 19 = .ok (.if_icmp .ge 41, 3) := by decide +kernel
theorem dX8_goesAt_22 : decode cX8_goesAt 22 = .ok (.aload_n 0, 1) := by decide +kernel
theorem dX8_goesAt_23 : decode cX8_goesAt 23 = .ok (.getfield 11, 3) := by decide +kernel
theorem dX8_goesAt_26 : decode cX8_goesAt 26 = .ok (.iload_n 3, 1) := by decide +kernel
theorem dX8_goesAt_27 : decode cX8_goesAt 27 = .ok (.aaload, 1) := by decide +kernel
theorem dX8_goesAt_28 : decode cX8_goesAt 28 = .ok (.astore 4, 2) := by decide +kernel
theorem dX8_goesAt_30 : decode cX8_goesAt 30 = .ok (.aload 4, 2) := by decide +kernel
theorem dX8_goesAt_32 : decode cX8_goesAt 32 = .ok (.ifnull 22, 3) := by decide +kernel
theorem dX8_goesAt_35 : decode cX8_goesAt 35 = .ok (.aload_n 0, 1) := by decide +kernel
theorem dX8_goesAt_36 : decode cX8_goesAt 36 = .ok (.aload_n 0, 1) := by decide +kernel
theorem dX8_goesAt_37 : decode cX8_goesAt 37 = .ok (.getfield 17, 3) := by decide +kernel
theorem dX8_goesAt_40 : decode cX8_goesAt 40 = .ok (.iload_n 3, 1) := by decide +kernel
theorem dX8_goesAt_41 : decode cX8_goesAt 41 = .ok (.invokevirtual 67, 3) := by decide +kernel
theorem dX8_goesAt_44 : decode cX8_goesAt 44 = .ok (.iload_n 2, 1) := by decide +kernel
theorem dX8_goesAt_45 : decode cX8_goesAt 45 = .ok (.if_icmp .ne 9, 3) := by decide +kernel
theorem dX8_goesAt_48 : decode cX8_goesAt 48 = .ok (.aload 4, 2) := by decide +kernel
theorem dX8_goesAt_50 : decode cX8_goesAt 50 = .ok (.getfield 64, 3) := by decide +kernel
theorem dX8_goesAt_53 : decode cX8_goesAt 53 = .ok (.ireturn, 1) := by decide +kernel
theorem dX8_goesAt_54 : decode cX8_goesAt 54 = .ok (.iinc 3 1, 3) := by decide +kernel
theorem dX8_goesAt_57 : decode cX8_goesAt 57 = .ok (.goto (-43), 3) := by decide +kernel
theorem dX8_goesAt_60 : decode cX8_goesAt 60 = .ok (.bipush (-9), 2) := by decide +kernel
theorem dX8_goesAt_62 : decode cX8_goesAt 62 = .ok (.ireturn, 1) := by decide +kernel
theorem dX8_turnedBy_0 : decode cX8_turnedBy 0 = .ok (.iload_n 1, 1) := by decide +kernel
theorem dX8_turnedBy_1 : decode cX8_turnedBy 1 = .ok (.ifCond .lt 20, 3) := by decide +kernel
theorem dX8_turnedBy_4 : decode cX8_turnedBy 4 = .ok (.iload_n 1, 1) := by decide +kernel
theorem dX8_turnedBy_5 : decode cX8_turnedBy 5 = .ok (.aload_n 0, 1) := by decide +kernel
theorem dX8_turnedBy_6 : decode cX8_turnedBy 6 = .ok (.getfield 31, 3) := by decide +kernel
theorem dX8_turnedBy_9 : decode cX8_turnedBy 9 = .ok (.if_icmp .ge 12, 3) := by decide +kernel
theorem dX8_turnedBy_12 : decode cX8_turnedBy 12 = .ok (.iload_n 3, 1) := by decide +kernel
theorem dX8_turnedBy_13 : decode cX8_turnedBy 13 = .ok (.ifCond .lt 8, 3) := by decide +kernel
theorem dX8_turnedBy_16 : decode cX8_turnedBy 16 = .ok (.iload_n 3, 1) := by decide +kernel
theorem dX8_turnedBy_17 : decode cX8_turnedBy 17 = .ok (.iconst 4, 1) := by decide +kernel
theorem dX8_turnedBy_18 : decode cX8_turnedBy 18 = .ok (.if_icmp .lt 6, 3) := by decide +kernel
theorem dX8_turnedBy_21 : decode cX8_turnedBy 21 = .ok (.bipush (-9), 2) := by decide +kernel
theorem dX8_turnedBy_23 : decode cX8_turnedBy 23 = .ok (.ireturn, 1) := by decide +kernel
theorem dX8_turnedBy_24 : decode cX8_turnedBy 24 = .ok (.aload_n 0, 1) := by decide +kernel
theorem dX8_turnedBy_25 : decode cX8_turnedBy 25 = .ok (.iload_n 3, 1) := by decide +kernel
theorem dX8_turnedBy_26 : decode cX8_turnedBy 26 = .ok (.invokevirtual 71, 3) := by decide +kernel
theorem dX8_turnedBy_29 : decode cX8_turnedBy 29 = .ok (.aload_n 0, 1) := by decide +kernel
theorem dX8_turnedBy_30 : decode cX8_turnedBy 30 = .ok (.getfield 27, 3) := by decide +kernel
theorem dX8_turnedBy_33 : decode cX8_turnedBy 33 = .ok (.getfield 75, 3) := by decide +kernel
theorem dX8_turnedBy_36 : decode cX8_turnedBy 36 = .ok (.iload_n 3, 1) := by decide +kernel
theorem dX8_turnedBy_37 : decode cX8_turnedBy 37 = .ok (.iaload, 1) := by decide +kernel
theorem dX8_turnedBy_38 : decode cX8_turnedBy 38 = .ok (.istore 4, 2) := by decide +kernel
theorem dX8_turnedBy_40 : decode cX8_turnedBy 40 = .ok (.aload_n 0, 1) := by decide +kernel
theorem dX8_turnedBy_41 : decode cX8_turnedBy 41 = .ok (.aload_n 0, 1) := by decide +kernel
theorem dX8_turnedBy_42 : decode cX8_turnedBy 42 = .ok (.getfield 17, 3) := by decide +kernel
theorem dX8_turnedBy_45 : decode cX8_turnedBy 45 = .ok (.iload_n 1, 1) := by decide +kernel
theorem dX8_turnedBy_46 : decode cX8_turnedBy 46 = .ok (.invokevirtual 67, 3) := by decide +kernel
theorem dX8_turnedBy_49 : decode cX8_turnedBy 49 = .ok (.iload_n 2, 1) := by decide +kernel
theorem dX8_turnedBy_50 : decode cX8_turnedBy 50 = .ok (.if_icmp .ge 7, 3) := by decide +kernel
theorem dX8_turnedBy_53 : decode cX8_turnedBy 53 = .ok (.iconst 1, 1) := by decide +kernel
theorem dX8_turnedBy_54 : decode cX8_turnedBy 54 = .ok (.goto 4, 3) := by decide +kernel
theorem dX8_turnedBy_57 : decode cX8_turnedBy 57 = .ok (.iconst 0, 1) := by decide +kernel
theorem dX8_turnedBy_58 : decode cX8_turnedBy 58 = .ok (.istore 5, 2) := by decide +kernel
theorem dX8_turnedBy_60 : decode cX8_turnedBy 60 = .ok (.iconst 1, 1) := by decide +kernel
theorem dX8_turnedBy_61 : decode cX8_turnedBy 61 = .ok (.istore 6, 2) := by decide +kernel
theorem dX8_turnedBy_63 : decode cX8_turnedBy 63 = .ok (.iload 6, 2) := by decide +kernel
theorem dX8_turnedBy_65 : decode cX8_turnedBy 65 = .ok (.bipush 60, 2) := by decide +kernel
theorem dX8_turnedBy_67 : decode cX8_turnedBy 67 = .ok (.if_icmp .gt 64, 3) := by decide +kernel
theorem dX8_turnedBy_70 : decode cX8_turnedBy 70 = .ok (.iload 4, 2) := by decide +kernel
theorem dX8_turnedBy_72 : decode cX8_turnedBy 72 = .ok (.iload 6, 2) := by decide +kernel
theorem dX8_turnedBy_74 : decode cX8_turnedBy 74 = .ok (.iadd, 1) := by decide +kernel
theorem dX8_turnedBy_75 : decode cX8_turnedBy 75 = .ok (.bipush 60, 2) := by decide +kernel
theorem dX8_turnedBy_77 : decode cX8_turnedBy 77 = .ok (.if_icmp .gt 19, 3) := by decide +kernel
theorem dX8_turnedBy_80 : decode cX8_turnedBy 80 = .ok (.aload_n 0, 1) := by decide +kernel
theorem dX8_turnedBy_81 : decode cX8_turnedBy 81 = .ok (.iload 6, 2) := by decide +kernel
theorem dX8_turnedBy_83 : decode cX8_turnedBy 83 = .ok (.iload_n 1, 1) := by decide +kernel
theorem dX8_turnedBy_84 : decode cX8_turnedBy 84 = .ok (.iload_n 2, 1) := by decide +kernel
theorem dX8_turnedBy_85 : decode cX8_turnedBy 85 = .ok (.invokevirtual 78, 3) := by decide +kernel
theorem dX8_turnedBy_88 : decode cX8_turnedBy 88 = .ok (.iload 5, 2) := by decide +kernel
theorem dX8_turnedBy_90 : decode cX8_turnedBy 90 = .ok (.if_icmp .eq 6, 3) := by decide +kernel
theorem dX8_turnedBy_93 : decode cX8_turnedBy 93 = .ok (.iload 6, 2) := by decide +kernel
theorem dX8_turnedBy_95 : decode cX8_turnedBy 95 = .ok (.ireturn, 1) := by decide +kernel
theorem dX8_turnedBy_96 : decode cX8_turnedBy 96 = .ok (.iload 4, 2) := by decide +kernel
theorem dX8_turnedBy_98 : decode cX8_turnedBy 98 = .ok (.iload 6, 2) := by decide +kernel
theorem dX8_turnedBy_100 : decode cX8_turnedBy 100 = .ok (.isub, 1) := by decide +kernel
theorem dX8_turnedBy_101 : decode cX8_turnedBy 101 = .ok (.ifCond .lt 24, 3) := by decide +kernel
theorem dX8_turnedBy_104 : decode cX8_turnedBy 104 = .ok (.aload_n 0, 1) := by decide +kernel
theorem dX8_turnedBy_105 : decode cX8_turnedBy 105 = .ok (.iload 6, 2) := by decide +kernel
theorem dX8_turnedBy_107 : decode cX8_turnedBy 107 = .ok (.ineg, 1) := by decide +kernel
theorem dX8_turnedBy_108 : decode cX8_turnedBy 108 = .ok (.iload_n 1, 1) := by decide +kernel
theorem dX8_turnedBy_109 : decode cX8_turnedBy 109 = .ok (.iload_n 2, 1) := by decide +kernel
theorem dX8_turnedBy_110 : decode cX8_turnedBy 110 = .ok (.invokevirtual 78, 3) := by decide +kernel
theorem dX8_turnedBy_113 : decode cX8_turnedBy 113 = .ok (.iload 5, 2) := by decide +kernel
theorem dX8_turnedBy_115 : decode cX8_turnedBy 115 = .ok (.if_icmp .eq 10, 3) := by decide +kernel
theorem dX8_turnedBy_118 : decode cX8_turnedBy 118 = .ok (.sipush 1000, 3) := by decide +kernel
theorem dX8_turnedBy_121 : decode cX8_turnedBy 121 = .ok (.iload 6, 2) := by decide +kernel
theorem dX8_turnedBy_123 : decode cX8_turnedBy 123 = .ok (.iadd, 1) := by decide +kernel
theorem dX8_turnedBy_124 : decode cX8_turnedBy 124 = .ok (.ireturn, 1) := by decide +kernel
theorem dX8_turnedBy_125 : decode cX8_turnedBy 125 = .ok (.iinc 6 1, 3) := by decide +kernel
theorem dX8_turnedBy_128 : decode cX8_turnedBy 128 = .ok (.goto (-65), 3) := by decide +kernel
theorem dX8_turnedBy_131 : decode cX8_turnedBy 131 = .ok (.bipush (-9), 2) := by decide +kernel
theorem dX8_turnedBy_133 : decode cX8_turnedBy 133 = .ok (.ireturn, 1) := by decide +kernel
theorem dX8_gatherGrowth_0 : decode cX8_gatherGrowth 0 = .ok (.iconst 0, 1) := by decide +kernel
theorem dX8_gatherGrowth_1 : decode cX8_gatherGrowth 1 = .ok (.istore_n 2, 1) := by decide +kernel
theorem dX8_gatherGrowth_2 : decode cX8_gatherGrowth 2 = .ok (.iload_n 2, 1) := by decide +kernel
theorem dX8_gatherGrowth_3 : decode cX8_gatherGrowth 3 = .ok (.aload_n 0, 1) := by decide +kernel
theorem dX8_gatherGrowth_4 : decode cX8_gatherGrowth 4 = .ok (.getfield 31, 3) := by decide +kernel
theorem dX8_gatherGrowth_7 : decode cX8_gatherGrowth 7 = .ok (.if_icmp .ge 46, 3) := by decide +kernel
theorem dX8_gatherGrowth_10 : decode cX8_gatherGrowth 10 = .ok (.aload_n 0, 1) := by decide +kernel
theorem dX8_gatherGrowth_11 : decode cX8_gatherGrowth 11 = .ok (.getfield 11, 3) := by decide +kernel
theorem dX8_gatherGrowth_14 : decode cX8_gatherGrowth 14 = .ok (.iload_n 2, 1) := by decide +kernel
theorem dX8_gatherGrowth_15 : decode cX8_gatherGrowth 15 = .ok (.aaload, 1) := by decide +kernel
theorem dX8_gatherGrowth_16 : decode cX8_gatherGrowth 16 = .ok (.astore_n 3, 1) := by decide +kernel
theorem dX8_gatherGrowth_17 : decode cX8_gatherGrowth 17 = .ok (.aload_n 0, 1) := by decide +kernel
theorem dX8_gatherGrowth_18 : decode cX8_gatherGrowth 18 = .ok (.getfield 24, 3) := by decide +kernel
theorem dX8_gatherGrowth_21 : decode cX8_gatherGrowth 21 = .ok (.iload_n 2, 1) := by decide +kernel
theorem dX8_gatherGrowth_22 : decode cX8_gatherGrowth 22 = .ok (.aload_n 3, 1) := by decide +kernel
theorem dX8_gatherGrowth_23 : decode cX8_gatherGrowth 23 = .ok (.ifnonnull 7, 3) := by decide +kernel
theorem dX8_gatherGrowth_26 : decode cX8_gatherGrowth 26 = .ok (.iconst 0, 1) := by decide +kernel
theorem dX8_gatherGrowth_27 : decode cX8_gatherGrowth 27 = .ok (.goto 19, 3) := by decide +kernel
theorem dX8_gatherGrowth_30 : decode cX8_gatherGrowth 30 = .ok (.aload_n 0, 1) := by decide +kernel
theorem dX8_gatherGrowth_31 : decode cX8_gatherGrowth 31 = .ok (.getfield 27, 3) := by decide +kernel
theorem dX8_gatherGrowth_34 : decode cX8_gatherGrowth 34 = .ok (.aload_n 3, 1) := by decide +kernel
theorem dX8_gatherGrowth_35 : decode cX8_gatherGrowth 35 = .ok (.iload_n 1, 1) := by decide +kernel
theorem dX8_gatherGrowth_36 : decode cX8_gatherGrowth 36 = .ok (.aload_n 0, 1) := by decide +kernel
theorem dX8_gatherGrowth_37 : decode cX8_gatherGrowth 37 = .ok (.getfield 27, 3) := by decide +kernel
theorem dX8_gatherGrowth_40 : decode cX8_gatherGrowth 40 = .ok (.getfield 50, 3) := by decide +kernel
theorem dX8_gatherGrowth_43 : decode cX8_gatherGrowth 43 = .ok (.invokevirtual 82, 3) := by decide +kernel
theorem dX8_gatherGrowth_46 : decode cX8_gatherGrowth 46 = .ok (.iastore, 1) := by decide +kernel
theorem dX8_gatherGrowth_47 : decode cX8_gatherGrowth 47 = .ok (.iinc 2 1, 3) := by decide +kernel
theorem dX8_gatherGrowth_50 : decode cX8_gatherGrowth 50 = .ok (.goto (-48), 3) := by decide +kernel
theorem dX8_gatherGrowth_53 : decode cX8_gatherGrowth 53 = .ok (.return_, 1) := by decide +kernel
theorem dX8_goesWith_0 : decode cX8_goesWith 0 = .ok (.iconst 0, 1) := by decide +kernel
theorem dX8_goesWith_1 : decode cX8_goesWith 1 = .ok (.istore 4, 2) := by decide +kernel
theorem dX8_goesWith_3 : decode cX8_goesWith 3 = .ok (.iload 4, 2) := by decide +kernel
theorem dX8_goesWith_5 : decode cX8_goesWith 5 = .ok (.aload_n 0, 1) := by decide +kernel
theorem dX8_goesWith_6 : decode cX8_goesWith 6 = .ok (.getfield 31, 3) := by decide +kernel
theorem dX8_goesWith_9 : decode cX8_goesWith 9 = .ok (.if_icmp .ge 33, 3) := by decide +kernel
theorem dX8_goesWith_12 : decode cX8_goesWith 12 = .ok (.aload_n 0, 1) := by decide +kernel
theorem dX8_goesWith_13 : decode cX8_goesWith 13 = .ok (.getfield 21, 3) := by decide +kernel
theorem dX8_goesWith_16 : decode cX8_goesWith 16 = .ok (.iload 4, 2) := by decide +kernel
theorem dX8_goesWith_18 : decode cX8_goesWith 18 = .ok (.aload_n 0, 1) := by decide +kernel
theorem dX8_goesWith_19 : decode cX8_goesWith 19 = .ok (.getfield 17, 3) := by decide +kernel
theorem dX8_goesWith_22 : decode cX8_goesWith 22 = .ok (.iload 4, 2) := by decide +kernel
theorem dX8_goesWith_24 : decode cX8_goesWith 24 = .ok (.iaload, 1) := by decide +kernel
theorem dX8_goesWith_25 : decode cX8_goesWith 25 = .ok (.iload_n 1, 1) := by decide +kernel
theorem dX8_goesWith_26 : decode cX8_goesWith 26 = .ok (.aload_n 0, 1) := by decide +kernel
theorem dX8_goesWith_27 : decode cX8_goesWith 27 = .ok (.getfield 24, 3) := by decide +kernel
theorem dX8_goesWith_30 : decode cX8_goesWith 30 = .ok (.iload 4, 2) := by decide +kernel
theorem dX8_goesWith_32 : decode cX8_goesWith 32 = .ok (.iaload, 1) := by decide +kernel
theorem dX8_goesWith_33 : decode cX8_goesWith 33 = .ok (.imul, 1) := by decide +kernel
theorem dX8_goesWith_34 : decode cX8_goesWith 34 = .ok (.iadd, 1) := by decide +kernel
theorem dX8_goesWith_35 : decode cX8_goesWith 35 = .ok (.iastore, 1) := by decide +kernel
theorem dX8_goesWith_36 : decode cX8_goesWith 36 = .ok (.iinc 4 1, 3) := by decide +kernel
theorem dX8_goesWith_39 : decode cX8_goesWith 39 = .ok (.goto (-36), 3) := by decide +kernel
theorem dX8_goesWith_42 : decode cX8_goesWith 42 = .ok (.aload_n 0, 1) := by decide +kernel
theorem dX8_goesWith_43 : decode cX8_goesWith 43 = .ok (.aload_n 0, 1) := by decide +kernel
theorem dX8_goesWith_44 : decode cX8_goesWith 44 = .ok (.getfield 21, 3) := by decide +kernel
theorem dX8_goesWith_47 : decode cX8_goesWith 47 = .ok (.iload_n 2, 1) := by decide +kernel
theorem dX8_goesWith_48 : decode cX8_goesWith 48 = .ok (.invokevirtual 67, 3) := by decide +kernel
theorem dX8_goesWith_51 : decode cX8_goesWith 51 = .ok (.iload_n 3, 1) := by decide +kernel
theorem dX8_goesWith_52 : decode cX8_goesWith 52 = .ok (.if_icmp .ge 7, 3) := by decide +kernel
theorem dX8_goesWith_55 : decode cX8_goesWith 55 = .ok (.iconst 1, 1) := by decide +kernel
theorem dX8_goesWith_56 : decode cX8_goesWith 56 = .ok (.goto 4, 3) := by decide +kernel
theorem dX8_goesWith_59 : decode cX8_goesWith 59 = .ok (.iconst 0, 1) := by decide +kernel
theorem dX8_goesWith_60 : decode cX8_goesWith 60 = .ok (.ireturn, 1) := by decide +kernel
theorem dX8_movedBy_0 : decode cX8_movedBy 0 = .ok (.iconst 0, 1) := by decide +kernel
theorem dX8_movedBy_1 : decode cX8_movedBy 1 = .ok (.istore 4, 2) := by decide +kernel
theorem dX8_movedBy_3 : decode cX8_movedBy 3 = .ok (.iload 4, 2) := by decide +kernel
theorem dX8_movedBy_5 : decode cX8_movedBy 5 = .ok (.aload_n 0, 1) := by decide +kernel
theorem dX8_movedBy_6 : decode cX8_movedBy 6 = .ok (.getfield 31, 3) := by decide +kernel
theorem dX8_movedBy_9 : decode cX8_movedBy 9 = .ok (.if_icmp .ge 23, 3) := by decide +kernel
theorem dX8_movedBy_12 : decode cX8_movedBy 12 = .ok (.aload_n 0, 1) := by decide +kernel
theorem dX8_movedBy_13 : decode cX8_movedBy 13 = .ok (.getfield 21, 3) := by decide +kernel
theorem dX8_movedBy_16 : decode cX8_movedBy 16 = .ok (.iload 4, 2) := by decide +kernel
theorem dX8_movedBy_18 : decode cX8_movedBy 18 = .ok (.aload_n 0, 1) := by decide +kernel
theorem dX8_movedBy_19 : decode cX8_movedBy 19 = .ok (.getfield 17, 3) := by decide +kernel
theorem dX8_movedBy_22 : decode cX8_movedBy 22 = .ok (.iload 4, 2) := by decide +kernel
theorem dX8_movedBy_24 : decode cX8_movedBy 24 = .ok (.iaload, 1) := by decide +kernel
theorem dX8_movedBy_25 : decode cX8_movedBy 25 = .ok (.iastore, 1) := by decide +kernel
theorem dX8_movedBy_26 : decode cX8_movedBy 26 = .ok (.iinc 4 1, 3) := by decide +kernel
theorem dX8_movedBy_29 : decode cX8_movedBy 29 = .ok (.goto (-26), 3) := by decide +kernel
theorem dX8_movedBy_32 : decode cX8_movedBy 32 = .ok (.aload_n 0, 1) := by decide +kernel
theorem dX8_movedBy_33 : decode cX8_movedBy 33 = .ok (.aload_n 2, 1) := by decide +kernel
theorem dX8_movedBy_34 : decode cX8_movedBy 34 = .ok (.getfield 86, 3) := by decide +kernel
theorem dX8_movedBy_37 : decode cX8_movedBy 37 = .ok (.invokevirtual 92, 3) := by decide +kernel
theorem dX8_movedBy_40 : decode cX8_movedBy 40 = .ok (.istore 4, 2) := by decide +kernel
theorem dX8_movedBy_42 : decode cX8_movedBy 42 = .ok (.iload 4, 2) := by decide +kernel
theorem dX8_movedBy_44 : decode cX8_movedBy 44 = .ok (.ifCond .lt 19, 3) := by decide +kernel
theorem dX8_movedBy_47 : decode cX8_movedBy 47 = .ok (.aload_n 0, 1) := by decide +kernel
theorem dX8_movedBy_48 : decode cX8_movedBy 48 = .ok (.getfield 21, 3) := by decide +kernel
theorem dX8_movedBy_51 : decode cX8_movedBy 51 = .ok (.iload 4, 2) := by decide +kernel
theorem dX8_movedBy_53 : decode cX8_movedBy 53 = .ok (.dup2, 1) := by decide +kernel
theorem dX8_movedBy_54 : decode cX8_movedBy 54 = .ok (.iaload, 1) := by decide +kernel
theorem dX8_movedBy_55 : decode cX8_movedBy 55 = .ok (.aload_n 0, 1) := by decide +kernel
theorem dX8_movedBy_56 : decode cX8_movedBy 56 = .ok (.aload_n 2, 1) := by decide +kernel
theorem dX8_movedBy_57 : decode cX8_movedBy 57 = .ok (.iload_n 3, 1) := by decide +kernel
theorem dX8_movedBy_58 : decode cX8_movedBy 58 = .ok (.invokevirtual 96, 3) := by decide +kernel
theorem dX8_movedBy_61 : decode cX8_movedBy 61 = .ok (.iadd, 1) := by decide +kernel
theorem dX8_movedBy_62 : decode cX8_movedBy 62 = .ok (.iastore, 1) := by decide +kernel
theorem dX8_movedBy_63 : decode cX8_movedBy 63 = .ok (.aload_n 0, 1) := by decide +kernel
theorem dX8_movedBy_64 : decode cX8_movedBy 64 = .ok (.aload_n 0, 1) := by decide +kernel
theorem dX8_movedBy_65 : decode cX8_movedBy 65 = .ok (.getfield 17, 3) := by decide +kernel
theorem dX8_movedBy_68 : decode cX8_movedBy 68 = .ok (.iload_n 1, 1) := by decide +kernel
theorem dX8_movedBy_69 : decode cX8_movedBy 69 = .ok (.invokevirtual 100, 3) := by decide +kernel
theorem dX8_movedBy_72 : decode cX8_movedBy 72 = .ok (.aload_n 0, 1) := by decide +kernel
theorem dX8_movedBy_73 : decode cX8_movedBy 73 = .ok (.aload_n 0, 1) := by decide +kernel
theorem dX8_movedBy_74 : decode cX8_movedBy 74 = .ok (.getfield 21, 3) := by decide +kernel
theorem dX8_movedBy_77 : decode cX8_movedBy 77 = .ok (.iload_n 1, 1) := by decide +kernel
theorem dX8_movedBy_78 : decode cX8_movedBy 78 = .ok (.invokevirtual 100, 3) := by decide +kernel
theorem dX8_movedBy_81 : decode cX8_movedBy 81 = .ok (.lxor, 1) := by decide +kernel
theorem dX8_movedBy_82 : decode cX8_movedBy 82 = .ok (.invokestatic 104, 3) := by decide +kernel
theorem dX8_movedBy_85 : decode cX8_movedBy 85 = .ok (.ireturn, 1) := by decide +kernel
theorem dX8_gainOf_0 : decode cX8_gainOf 0 = .ok (.aload_n 1, 1) := by decide +kernel
theorem dX8_gainOf_1 : decode cX8_gainOf 1 = .ok (.getfield 86, 3) := by decide +kernel
theorem dX8_gainOf_4 : decode cX8_gainOf 4 = .ok (.aload_n 1, 1) := by decide +kernel
theorem dX8_gainOf_5 : decode cX8_gainOf 5 = .ok (.getfield 110, 3) := by decide +kernel
theorem dX8_gainOf_8 : decode cX8_gainOf 8 = .ok (.invokevirtual 113, 3) := by decide +kernel
theorem dX8_gainOf_11 : decode cX8_gainOf 11 = .ok (.aload_n 1, 1) := by decide +kernel
theorem dX8_gainOf_12 : decode cX8_gainOf 12 = .ok (.if_acmp .eq 5, 3) := by decide +kernel
theorem dX8_gainOf_15 : decode cX8_gainOf 15 = .ok (.iconst 0, 1) := by decide +kernel
theorem dX8_gainOf_16 : decode cX8_gainOf 16 = .ok (.ireturn, 1) := by decide +kernel
theorem dX8_gainOf_17 : decode cX8_gainOf 17 = .ok (.aload_n 1, 1) := by decide +kernel
theorem dX8_gainOf_18 : decode cX8_gainOf 18 = .ok (.aload_n 0, 1) := by decide +kernel
theorem dX8_gainOf_19 : decode cX8_gainOf 19 = .ok (.getfield 27, 3) := by decide +kernel
theorem dX8_gainOf_22 : decode cX8_gainOf 22 = .ok (.getfield 50, 3) := by decide +kernel
theorem dX8_gainOf_25 : decode cX8_gainOf 25 = .ok (.invokevirtual 117, 3) := by decide +kernel
theorem dX8_gainOf_28 : decode cX8_gainOf 28 = .ok (.istore_n 3, 1) := by decide +kernel
theorem dX8_gainOf_29 : decode cX8_gainOf 29 = .ok (.aload_n 1, 1) := by decide +kernel
theorem dX8_gainOf_30 : decode cX8_gainOf 30 = .ok (.getfield 110, 3) := by decide +kernel
theorem dX8_gainOf_33 : decode cX8_gainOf 33 = .ok (.ifCond .ne 17, 3) := by decide +kernel
theorem dX8_gainOf_36 : decode cX8_gainOf 36 = .ok (.aload_n 0, 1) := by decide +kernel
theorem dX8_gainOf_37 : decode cX8_gainOf 37 = .ok (.getfield 27, 3) := by decide +kernel
theorem dX8_gainOf_40 : decode cX8_gainOf 40 = .ok (.getfield 75, 3) := by decide +kernel
theorem dX8_gainOf_43 : decode cX8_gainOf 43 = .ok (.iconst 0, 1) := by decide +kernel
theorem dX8_gainOf_44 : decode cX8_gainOf 44 = .ok (.iaload, 1) := by decide +kernel
theorem dX8_gainOf_45 : decode cX8_gainOf 45 = .ok (.iload_n 2, 1) := by decide +kernel
theorem dX8_gainOf_46 : decode cX8_gainOf 46 = .ok (.iload_n 3, 1) := by decide +kernel
theorem dX8_gainOf_47 : decode cX8_gainOf 47 = .ok (.isub, 1) := by decide +kernel
theorem dX8_gainOf_48 : decode cX8_gainOf 48 = .ok (.imul, 1) := by decide +kernel
theorem dX8_gainOf_49 : decode cX8_gainOf 49 = .ok (.ireturn, 1) := by decide +kernel
theorem dX8_gainOf_50 : decode cX8_gainOf 50 = .ok (.aload_n 0, 1) := by decide +kernel
theorem dX8_gainOf_51 : decode cX8_gainOf 51 = .ok (.getfield 27, 3) := by decide +kernel
theorem dX8_gainOf_54 : decode cX8_gainOf 54 = .ok (.getfield 75, 3) := by decide +kernel
theorem dX8_gainOf_57 : decode cX8_gainOf 57 = .ok (.iconst 2, 1) := by decide +kernel
theorem dX8_gainOf_58 : decode cX8_gainOf 58 = .ok (.iaload, 1) := by decide +kernel
theorem dX8_gainOf_59 : decode cX8_gainOf 59 = .ok (.aload_n 0, 1) := by decide +kernel
theorem dX8_gainOf_60 : decode cX8_gainOf 60 = .ok (.getfield 27, 3) := by decide +kernel
theorem dX8_gainOf_63 : decode cX8_gainOf 63 = .ok (.iload_n 2, 1) := by decide +kernel
theorem dX8_gainOf_64 : decode cX8_gainOf 64 = .ok (.invokevirtual 121, 3) := by decide +kernel
theorem dX8_gainOf_67 : decode cX8_gainOf 67 = .ok (.aload_n 0, 1) := by decide +kernel
theorem dX8_gainOf_68 : decode cX8_gainOf 68 = .ok (.getfield 27, 3) := by decide +kernel
theorem dX8_gainOf_71 : decode cX8_gainOf 71 = .ok (.iload_n 3, 1) := by decide +kernel
theorem dX8_gainOf_72 : decode cX8_gainOf 72 = .ok (.invokevirtual 121, 3) := by decide +kernel
theorem dX8_gainOf_75 : decode cX8_gainOf 75 = .ok (.isub, 1) := by decide +kernel
theorem dX8_gainOf_76 : decode cX8_gainOf 76 = .ok (.imul, 1) := by decide +kernel
theorem dX8_gainOf_77 : decode cX8_gainOf 77 = .ok (.ireturn, 1) := by decide +kernel
theorem dX8_goers_0 : decode cX8_goers 0 = .ok (.lconst 0, 1) := by decide +kernel
theorem dX8_goers_1 : decode cX8_goers 1 = .ok (.lstore_n 3, 1) := by decide +kernel
theorem dX8_goers_2 : decode cX8_goers 2 = .ok (.iconst 0, 1) := by decide +kernel
theorem dX8_goers_3 : decode cX8_goers 3 = .ok (.istore 5, 2) := by decide +kernel
theorem dX8_goers_5 : decode cX8_goers 5 = .ok (.iload 5, 2) := by decide +kernel
theorem dX8_goers_7 : decode cX8_goers 7 = .ok (.aload_n 0, 1) := by decide +kernel
theorem dX8_goers_8 : decode cX8_goers 8 = .ok (.getfield 31, 3) := by decide +kernel
theorem dX8_goers_11 : decode cX8_goers 11 = .ok (.if_icmp .ge 27, 3) := by decide +kernel
theorem dX8_goers_14 : decode cX8_goers 14 = .ok (.aload_n 0, 1) := by decide +kernel
theorem dX8_goers_15 : decode cX8_goers 15 = .ok (.aload_n 1, 1) := by decide +kernel
theorem dX8_goers_16 : decode cX8_goers 16 = .ok (.iload 5, 2) := by decide +kernel
theorem dX8_goers_18 : decode cX8_goers 18 = .ok (.invokevirtual 67, 3) := by decide +kernel
theorem dX8_goers_21 : decode cX8_goers 21 = .ok (.iload_n 2, 1) := by decide +kernel
theorem dX8_goers_22 : decode cX8_goers 22 = .ok (.if_icmp .ge 10, 3) := by decide +kernel
theorem dX8_goers_25 : decode cX8_goers 25 = .ok (.lload_n 3, 1) := by decide +kernel
theorem dX8_goers_26 : decode cX8_goers 26 = .ok (.lconst 1, 1) := by decide +kernel
theorem dX8_goers_27 : decode cX8_goers 27 = .ok (.iload 5, 2) := by decide +kernel
theorem dX8_goers_29 : decode cX8_goers 29 = .ok (.lshl, 1) := by decide +kernel
theorem dX8_goers_30 : decode cX8_goers 30 = .ok (.lor, 1) := by decide +kernel
theorem dX8_goers_31 : decode cX8_goers 31 = .ok (.lstore_n 3, 1) := by decide +kernel
theorem dX8_goers_32 : decode cX8_goers 32 = .ok (.iinc 5 1, 3) := by decide +kernel
theorem dX8_goers_35 : decode cX8_goers 35 = .ok (.goto (-30), 3) := by decide +kernel
theorem dX8_goers_38 : decode cX8_goers 38 = .ok (.lload_n 3, 1) := by decide +kernel
theorem dX8_goers_39 : decode cX8_goers 39 = .ok (.lreturn, 1) := by decide +kernel
theorem dX9_init_0 : decode cX9_init 0 = .ok (.aload_n 0, 1) := by decide +kernel
theorem dX9_init_1 : decode cX9_init 1 = .ok (.invokespecial 1, 3) := by decide +kernel
theorem dX9_init_4 : decode cX9_init 4 = .ok (.aload_n 0, 1) := by decide +kernel
theorem dX9_init_5 : decode cX9_init 5 = .ok (.iload_n 1, 1) := by decide +kernel
theorem dX9_init_6 : decode cX9_init 6 = .ok (.putfield 7, 3) := by decide +kernel
theorem dX9_init_9 : decode cX9_init 9 = .ok (.aload_n 0, 1) := by decide +kernel
theorem dX9_init_10 : decode cX9_init 10 = .ok (.iload_n 2, 1) := by decide +kernel
theorem dX9_init_11 : decode cX9_init 11 = .ok (.putfield 13, 3) := by decide +kernel
theorem dX9_init_14 : decode cX9_init 14 = .ok (.aload_n 0, 1) := by decide +kernel
theorem dX9_init_15 : decode cX9_init 15 = .ok (.aload_n 3, 1) := by decide +kernel
theorem dX9_init_16 : decode cX9_init 16 = .ok (.putfield 16, 3) := by decide +kernel
theorem dX9_init_19 : decode cX9_init 19 = .ok (.return_, 1) := by decide +kernel
theorem dX10_init_0 : decode cX10_init 0 = .ok (.aload_n 0, 1) := by decide +kernel
theorem dX10_init_1 : decode cX10_init 1 = .ok (.invokespecial 1, 3) := by decide +kernel
theorem dX10_init_4 : decode cX10_init 4 = .ok (.aload_n 0, 1) := by decide +kernel
theorem dX10_init_5 : decode cX10_init 5 = .ok (.aload_n 1, 1) := by decide +kernel
theorem dX10_init_6 : decode cX10_init 6 = .ok (.putfield 7, 3) := by decide +kernel
theorem dX10_init_9 : decode cX10_init 9 = .ok (.aload_n 0, 1) := by decide +kernel
theorem dX10_init_10 : decode cX10_init 10 = .ok (.iload_n 2, 1) := by decide +kernel
theorem dX10_init_11 : decode cX10_init 11 = .ok (.putfield 13, 3) := by decide +kernel
theorem dX10_init_14 : decode cX10_init 14 = .ok (.aload_n 0, 1) := by decide +kernel
theorem dX10_init_15 : decode cX10_init 15 = .ok (.iload_n 3, 1) := by decide +kernel
theorem dX10_init_16 : decode cX10_init 16 = .ok (.putfield 17, 3) := by decide +kernel
theorem dX10_init_19 : decode cX10_init 19 = .ok (.aload_n 0, 1) := by decide +kernel
theorem dX10_init_20 : decode cX10_init 20 = .ok (.iload 4, 2) := by decide +kernel
theorem dX10_init_22 : decode cX10_init 22 = .ok (.putfield 20, 3) := by decide +kernel
theorem dX10_init_25 : decode cX10_init 25 = .ok (.aload_n 0, 1) := by decide +kernel
theorem dX10_init_26 : decode cX10_init 26 = .ok (.aload 5, 2) := by decide +kernel
theorem dX10_init_28 : decode cX10_init 28 = .ok (.putfield 23, 3) := by decide +kernel
theorem dX10_init_31 : decode cX10_init 31 = .ok (.return_, 1) := by decide +kernel
theorem dX10_putRight_0 : decode cX10_putRight 0 = .ok (.aload_n 0, 1) := by decide +kernel
theorem dX10_putRight_1 : decode cX10_putRight 1 = .ok (.new 27, 3) := by decide +kernel
theorem dX10_putRight_4 : decode cX10_putRight 4 = .ok (.dup, 1) := by decide +kernel
theorem dX10_putRight_5 : decode cX10_putRight 5 = .ok (.iload_n 1, 1) := by decide +kernel
theorem dX10_putRight_6 : decode cX10_putRight 6 = .ok (.iload_n 2, 1) := by decide +kernel
theorem dX10_putRight_7 : decode cX10_putRight 7 = .ok (.aload_n 0, 1) := by decide +kernel
theorem dX10_putRight_8 : decode cX10_putRight 8 = .ok (.getfield 29, 3) := by decide +kernel
theorem dX10_putRight_11 : decode cX10_putRight 11 = .ok (.invokespecial 33, 3) := by decide +kernel
theorem dX10_putRight_14 : decode cX10_putRight 14 = .ok (.putfield 29, 3) := by decide +kernel
theorem dX10_putRight_17 : decode cX10_putRight 17 = .ok (.aload_n 0, 1) := by decide +kernel
theorem dX10_putRight_18 : decode cX10_putRight 18 = .ok (.dup, 1) := by decide +kernel
theorem dX10_putRight_19 : decode cX10_putRight 19 = .ok (.getfield 36, 3) := by decide +kernel
theorem dX10_putRight_22 : decode cX10_putRight 22 = .ok (.iconst 1, 1) := by decide +kernel
theorem dX10_putRight_23 : decode cX10_putRight 23 = .ok (.iadd, 1) := by decide +kernel
theorem dX10_putRight_24 : decode cX10_putRight 24 = .ok (.putfield 36, 3) := by decide +kernel
theorem dX10_putRight_27 : decode cX10_putRight 27 = .ok (.aload_n 0, 1) := by decide +kernel
theorem dX10_putRight_28 : decode cX10_putRight 28 = .ok (.getfield 36, 3) := by decide +kernel
theorem dX10_putRight_31 : decode cX10_putRight 31 = .ok (.ireturn, 1) := by decide +kernel
theorem dX10_asOf_0 : decode cX10_asOf 0 = .ok (.aload_n 0, 1) := by decide +kernel
theorem dX10_asOf_1 : decode cX10_asOf 1 = .ok (.getfield 29, 3) := by decide +kernel
theorem dX10_asOf_4 : decode cX10_asOf 4 = .ok (.astore_n 2, 1) := by decide +kernel
theorem dX10_asOf_5 : decode cX10_asOf 5 = .ok (.aload_n 2, 1) := by decide +kernel
theorem dX10_asOf_6 : decode cX10_asOf 6 = .ok (.ifnull 24, 3) := by decide +kernel
theorem dX10_asOf_9 : decode cX10_asOf 9 = .ok (.aload_n 2, 1) := by decide +kernel
theorem dX10_asOf_10 : decode cX10_asOf 10 = .ok (.getfield 39, 3) := by decide +kernel
theorem dX10_asOf_13 : decode cX10_asOf 13 = .ok (.iload_n 1, 1) := by decide +kernel
theorem dX10_asOf_14 : decode cX10_asOf 14 = .ok (.if_icmp .gt 8, 3) := by decide +kernel
theorem dX10_asOf_17 : decode cX10_asOf 17 = .ok (.aload_n 2, 1) := by decide +kernel
theorem dX10_asOf_18 : decode cX10_asOf 18 = .ok (.getfield 40, 3) := by decide +kernel
theorem dX10_asOf_21 : decode cX10_asOf 21 = .ok (.ireturn, 1) := by decide +kernel
theorem dX10_asOf_22 : decode cX10_asOf 22 = .ok (.aload_n 2, 1) := by decide +kernel
theorem dX10_asOf_23 : decode cX10_asOf 23 = .ok (.getfield 41, 3) := by decide +kernel
theorem dX10_asOf_26 : decode cX10_asOf 26 = .ok (.astore_n 2, 1) := by decide +kernel
theorem dX10_asOf_27 : decode cX10_asOf 27 = .ok (.goto (-22), 3) := by decide +kernel
theorem dX10_asOf_30 : decode cX10_asOf 30 = .ok (.aload_n 0, 1) := by decide +kernel
theorem dX10_asOf_31 : decode cX10_asOf 31 = .ok (.getfield 20, 3) := by decide +kernel
theorem dX10_asOf_34 : decode cX10_asOf 34 = .ok (.ireturn, 1) := by decide +kernel
end
section
theorem dX11_init_0 : decode cX11_init 0 = .ok (.aload_n 0, 1) := by decide +kernel
theorem dX11_init_1 : decode cX11_init 1 = .ok (.invokespecial 1, 3) := by decide +kernel
theorem dX11_init_4 : decode cX11_init 4 = .ok (.aload_n 0, 1) := by decide +kernel
theorem dX11_init_5 : decode cX11_init 5 = .ok (.new 7, 3) := by decide +kernel
theorem dX11_init_8 : decode cX11_init 8 = .ok (.dup, 1) := by decide +kernel
theorem dX11_init_9 : decode cX11_init 9 = .ok (.invokespecial 9, 3) := by decide +kernel
theorem dX11_init_12 : decode cX11_init 12 = .ok (.putfield 10, 3) := by decide +kernel
theorem dX11_init_15 : decode cX11_init 15 = .ok (.aload_n 0, 1) := by decide +kernel
theorem dX11_init_16 : decode cX11_init 16 = .ok (.new 16, 3) := by decide +kernel
theorem dX11_init_19 : decode cX11_init 19 = .ok (.dup, 1) := by decide +kernel
theorem dX11_init_20 : decode cX11_init 20 = .ok (.aload_n 0, 1) := by decide +kernel
theorem dX11_init_21 : decode cX11_init 21 = .ok (.getfield 10, 3) := by decide +kernel
theorem dX11_init_24 : decode cX11_init 24 = .ok (.invokespecial 18, 3) := by decide +kernel
theorem dX11_init_27 : decode cX11_init 27 = .ok (.putfield 21, 3) := by decide +kernel
theorem dX11_init_30 : decode cX11_init 30 = .ok (.aload_n 0, 1) := by decide +kernel
theorem dX11_init_31 : decode cX11_init 31 = .ok (.new 25, 3) := by decide +kernel
theorem dX11_init_34 : decode cX11_init 34 = .ok (.dup, 1) := by decide +kernel
theorem dX11_init_35 : decode cX11_init 35 = .ok (.aload_n 0, 1) := by decide +kernel
theorem dX11_init_36 : decode cX11_init 36 = .ok (.getfield 10, 3) := by decide +kernel
theorem dX11_init_39 : decode cX11_init 39 = .ok (.invokespecial 27, 3) := by decide +kernel
theorem dX11_init_42 : decode cX11_init 42 = .ok (.putfield 28, 3) := by decide +kernel
theorem dX11_init_45 : decode cX11_init 45 = .ok (.aload_n 0, 1) := by decide +kernel
theorem dX11_init_46 : decode cX11_init 46 = .ok (.new 32, 3) := by decide +kernel
theorem dX11_init_49 : decode cX11_init 49 = .ok (.dup, 1) := by decide +kernel
theorem dX11_init_50 : decode cX11_init 50 = .ok (.aload_n 0, 1) := by decide +kernel
theorem dX11_init_51 : decode cX11_init 51 = .ok (.getfield 10, 3) := by decide +kernel
theorem dX11_init_54 : decode cX11_init 54 = .ok (.invokespecial 34, 3) := by decide +kernel
theorem dX11_init_57 : decode cX11_init 57 = .ok (.putfield 35, 3) := by decide +kernel
theorem dX11_init_60 : decode cX11_init 60 = .ok (.aload_n 0, 1) := by decide +kernel
theorem dX11_init_61 : decode cX11_init 61 = .ok (.new 39, 3) := by decide +kernel
theorem dX11_init_64 : decode cX11_init 64 = .ok (.dup, 1) := by decide +kernel
theorem dX11_init_65 : decode cX11_init 65 = .ok (.aload_n 0, 1) := by decide +kernel
theorem dX11_init_66 : decode cX11_init 66 = .ok (.getfield 10, 3) := by decide +kernel
theorem dX11_init_69 : decode cX11_init 69 = .ok (.invokespecial 41, 3) := by decide +kernel
theorem dX11_init_72 : decode cX11_init 72 = .ok (.putfield 42, 3) := by decide +kernel
theorem dX11_init_75 : decode cX11_init 75 = .ok (.aload_n 0, 1) := by decide +kernel
theorem dX11_init_76 : decode cX11_init 76 = .ok (.new 46, 3) := by decide +kernel
theorem dX11_init_79 : decode cX11_init 79 = .ok (.dup, 1) := by decide +kernel
theorem dX11_init_80 : decode cX11_init 80 = .ok (.aload_n 0, 1) := by decide +kernel
theorem dX11_init_81 : decode cX11_init 81 = .ok (.getfield 10, 3) := by decide +kernel
theorem dX11_init_84 : decode cX11_init 84 = .ok (.invokespecial 48, 3) := by decide +kernel
theorem dX11_init_87 : decode cX11_init 87 = .ok (.putfield 49, 3) := by decide +kernel
theorem dX11_init_90 : decode cX11_init 90 = .ok (.aload_n 0, 1) := by decide +kernel
theorem dX11_init_91 : decode cX11_init 91 = .ok (.new 53, 3) := by decide +kernel
theorem dX11_init_94 : decode cX11_init 94 = .ok (.dup, 1) := by decide +kernel
theorem dX11_init_95 : decode cX11_init 95 = .ok (.invokespecial 55, 3) := by decide +kernel
theorem dX11_init_98 : decode cX11_init 98 = .ok (.putfield 56, 3) := by decide +kernel
theorem dX11_init_101 : decode cX11_init 101 = .ok (.aload_n 0, 1) := by decide +kernel
theorem dX11_init_102 : decode cX11_init 102 = .ok (.bipush 7, 2) := by decide +kernel
theorem dX11_init_104 : decode cX11_init 104 = .ok (.newarray .int, 2) := by decide +kernel
theorem dX11_init_106 : decode cX11_init 106 = .ok (.putfield 60, 3) := by decide +kernel
theorem dX11_init_109 : decode cX11_init 109 = .ok (.return_, 1) := by decide +kernel
theorem dX11_days_0 : decode cX11_days 0 = .ok (.iload_n 1, 1) := by decide +kernel
theorem dX11_days_1 : decode cX11_days 1 = .ok (.iconst 1, 1) := by decide +kernel
theorem dX11_days_2 : decode cX11_days 2 = .ok (.if_icmp .ge 10, 3) := by decide +kernel
theorem dX11_days_5 : decode cX11_days 5 = .ok (.aload_n 0, 1) := by decide +kernel
theorem dX11_days_6 : decode cX11_days 6 = .ok (.bipush (-4), 2) := by decide +kernel
theorem dX11_days_8 : decode cX11_days 8 = .ok (.invokevirtual 64, 3) := by decide +kernel
theorem dX11_days_11 : decode cX11_days 11 = .ok (.ireturn, 1) := by decide +kernel
theorem dX11_days_12 : decode cX11_days 12 = .ok (.iload_n 1, 1) := by decide +kernel
theorem dX11_days_13 : decode cX11_days 13 = .ok (.sipush 3000, 3) := by decide +kernel
theorem dX11_days_16 : decode cX11_days 16 = .ok (.aload_n 0, 1) := by decide +kernel
theorem dX11_days_17 : decode cX11_days 17 = .ok (.getfield 10, 3) := by decide +kernel
theorem dX11_days_20 : decode cX11_days 20 = .ok (.getfield 68, 3) := by decide +kernel
theorem dX11_days_23 : decode cX11_days 23 = .ok (.isub, 1) := by decide +kernel
theorem dX11_days_24 : decode cX11_days 24 = .ok (.if_icmp .le 10, 3) := by decide +kernel
theorem dX11_days_27 : decode cX11_days 27 = .ok (.aload_n 0, 1) := by decide +kernel
theorem dX11_days_28 : decode cX11_days 28 = .ok (.bipush (-6), 2) := by decide +kernel
theorem dX11_days_30 : decode cX11_days 30 = .ok (.invokevirtual 64, 3) := by decide +kernel
theorem dX11_days_33 : decode cX11_days 33 = .ok (.ireturn, 1) := by decide +kernel
theorem dX11_days_34 : decode cX11_days 34 = .ok (.aload_n 0, 1) := by decide +kernel
theorem dX11_days_35 : decode cX11_days 35 = .ok (.getfield 10, 3) := by decide +kernel
theorem dX11_days_38 : decode cX11_days 38 = .ok (.dup, 1) := by decide +kernel
theorem dX11_days_39 : decode cX11_days 39 = .ok (.getfield 68, 3) := by decide +kernel
theorem dX11_days_42 : decode cX11_days 42 = .ok (.iload_n 1, 1) := by decide +kernel
theorem dX11_days_43 : decode cX11_days 43 = .ok (.iadd, 1) := by decide +kernel
theorem dX11_days_44 : decode cX11_days 44 = .ok (.putfield 68, 3) := by decide +kernel
theorem dX11_days_47 : decode cX11_days 47 = .ok (.aload_n 0, 1) := by decide +kernel
theorem dX11_days_48 : decode cX11_days 48 = .ok (.getfield 10, 3) := by decide +kernel
theorem dX11_days_51 : decode cX11_days 51 = .ok (.getfield 68, 3) := by decide +kernel
theorem dX11_days_54 : decode cX11_days 54 = .ok (.ireturn, 1) := by decide +kernel
theorem dX11_unit_0 : decode cX11_unit 0 = .ok (.iload_n 2, 1) := by decide +kernel
theorem dX11_unit_1 : decode cX11_unit 1 = .ok (.iconst (-1), 1) := by decide +kernel
theorem dX11_unit_2 : decode cX11_unit 2 = .ok (.if_icmp .eq 20, 3) := by decide +kernel
theorem dX11_unit_5 : decode cX11_unit 5 = .ok (.aload_n 0, 1) := by decide +kernel
theorem dX11_unit_6 : decode cX11_unit 6 = .ok (.getfield 10, 3) := by decide +kernel
theorem dX11_unit_9 : decode cX11_unit 9 = .ok (.iload_n 2, 1) := by decide +kernel
theorem dX11_unit_10 : decode cX11_unit 10 = .ok (.invokevirtual 72, 3) := by decide +kernel
theorem dX11_unit_13 : decode cX11_unit 13 = .ok (.ifCond .ne 9, 3) := by decide +kernel
theorem dX11_unit_16 : decode cX11_unit 16 = .ok (.aload_n 0, 1) := by decide +kernel
theorem dX11_unit_17 : decode cX11_unit 17 = .ok (.iconst (-1), 1) := by decide +kernel
theorem dX11_unit_18 : decode cX11_unit 18 = .ok (.invokevirtual 64, 3) := by decide +kernel
theorem dX11_unit_21 : decode cX11_unit 21 = .ok (.ireturn, 1) := by decide +kernel
theorem dX11_unit_22 : decode cX11_unit 22 = .ok (.iload_n 1, 1) := by decide +kernel
theorem dX11_unit_23 : decode cX11_unit 23 = .ok (.ifCond .ge 10, 3) := by decide +kernel
theorem dX11_unit_26 : decode cX11_unit 26 = .ok (.aload_n 0, 1) := by decide +kernel
theorem dX11_unit_27 : decode cX11_unit 27 = .ok (.bipush (-4), 2) := by decide +kernel
theorem dX11_unit_29 : decode cX11_unit 29 = .ok (.invokevirtual 64, 3) := by decide +kernel
theorem dX11_unit_32 : decode cX11_unit 32 = .ok (.ireturn, 1) := by decide +kernel
theorem dX11_unit_33 : decode cX11_unit 33 = .ok (.iload_n 1, 1) := by decide +kernel
theorem dX11_unit_34 : decode cX11_unit 34 = .ok (.iconst 4, 1) := by decide +kernel
theorem dX11_unit_35 : decode cX11_unit 35 = .ok (.if_icmp .ge 15, 3) := by decide +kernel
theorem dX11_unit_38 : decode cX11_unit 38 = .ok (.aload_n 0, 1) := by decide +kernel
theorem dX11_unit_39 : decode cX11_unit 39 = .ok (.getfield 10, 3) := by decide +kernel
theorem dX11_unit_42 : decode cX11_unit 42 = .ok (.getfield 76, 3) := by decide +kernel
theorem dX11_unit_45 : decode cX11_unit 45 = .ok (.bipush 12, 2) := by decide +kernel
theorem dX11_unit_47 : decode cX11_unit 47 = .ok (.if_icmp .lt 10, 3) := by decide +kernel
theorem dX11_unit_50 : decode cX11_unit 50 = .ok (.aload_n 0, 1) := by decide +kernel
theorem dX11_unit_51 : decode cX11_unit 51 = .ok (.bipush (-6), 2) := by decide +kernel
theorem dX11_unit_53 : decode cX11_unit 53 = .ok (.invokevirtual 64, 3) := by decide +kernel
theorem dX11_unit_56 : decode cX11_unit 56 = .ok (.ireturn, 1) := by decide +kernel
theorem dX11_unit_57 : decode cX11_unit 57 = .ok (.aload_n 0, 1) := by decide +kernel
theorem dX11_unit_58 : decode cX11_unit 58 = .ok (.getfield 10, 3) := by decide +kernel
theorem dX11_unit_61 : decode cX11_unit 61 = .ok (.iload_n 2, 1) := by decide +kernel
theorem dX11_unit_62 : decode cX11_unit 62 = .ok (.invokevirtual 79, 3) := by decide +kernel
theorem dX11_unit_65 : decode cX11_unit 65 = .ok (.ireturn, 1) := by decide +kernel
theorem dX11_post_0 : decode cX11_post 0 = .ok (.aload_n 0, 1) := by decide +kernel
theorem dX11_post_1 : decode cX11_post 1 = .ok (.getfield 10, 3) := by decide +kernel
theorem dX11_post_4 : decode cX11_post 4 = .ok (.iload_n 1, 1) := by decide +kernel
theorem dX11_post_5 : decode cX11_post 5 = .ok (.invokevirtual 72, 3) := by decide +kernel
theorem dX11_post_8 : decode cX11_post 8 = .ok (.ifCond .ne 9, 3) := by decide +kernel
theorem dX11_post_11 : decode cX11_post 11 = .ok (.aload_n 0, 1) := by decide +kernel
theorem dX11_post_12 : decode cX11_post 12 = .ok (.iconst (-1), 1) := by decide +kernel
theorem dX11_post_13 : decode cX11_post 13 = .ok (.invokevirtual 64, 3) := by decide +kernel
theorem dX11_post_16 : decode cX11_post 16 = .ok (.ireturn, 1) := by decide +kernel
theorem dX11_post_17 : decode cX11_post 17 = .ok (.iload_n 2, 1) := by decide +kernel
theorem dX11_post_18 : decode cX11_post 18 = .ok (.ifCond .lt 19, 3) := by decide +kernel
theorem dX11_post_21 : decode cX11_post 21 = .ok (.iload_n 3, 1) := by decide +kernel
theorem dX11_post_22 : decode cX11_post 22 = .ok (.iconst 1, 1) := by decide +kernel
theorem dX11_post_23 : decode cX11_post 23 = .ok (.if_icmp .lt 14, 3) := by decide +kernel
theorem dX11_post_26 : decode cX11_post 26 = .ok (.iload 4, 2) := by decide +kernel
theorem dX11_post_28 : decode cX11_post 28 = .ok (.iconst 1, 1) := by decide +kernel
theorem dX11_post_29 : decode cX11_post 29 = .ok (.if_icmp .lt 8, 3) := by decide +kernel
theorem dX11_post_32 : decode cX11_post 32 = .ok (.iload 5, 2) := by decide +kernel
theorem dX11_post_34 : decode cX11_post 34 = .ok (.ifCond .ge 10, 3) := by decide +kernel
theorem dX11_post_37 : decode cX11_post 37 = .ok (.aload_n 0, 1) := by decide +kernel
theorem dX11_post_38 : decode cX11_post 38 = .ok (.bipush (-4), 2) := by decide +kernel
theorem dX11_post_40 : decode cX11_post 40 = .ok (.invokevirtual 64, 3) := by decide +kernel
theorem dX11_post_43 : decode cX11_post 43 = .ok (.ireturn, 1) := by decide +kernel
theorem dX11_post_44 : decode cX11_post 44 = .ok (.iload_n 2, 1) := by decide +kernel
theorem dX11_post_45 : decode cX11_post 45 = .ok (.bipush 7, 2) := by decide +kernel
theorem dX11_post_47 : decode cX11_post 47 = .ok (.if_icmp .gt 36, 3) := by decide +kernel
theorem dX11_post_50 : decode cX11_post 50 = .ok (.iload_n 3, 1) := by decide +kernel
theorem dX11_post_51 : decode cX11_post 51 = .ok (.bipush 9, 2) := by decide +kernel
theorem dX11_post_53 : decode cX11_post 53 = .ok (.if_icmp .gt 30, 3) := by decide +kernel
theorem dX11_post_56 : decode cX11_post 56 = .ok (.iload 4, 2) := by decide +kernel
theorem dX11_post_58 : decode cX11_post 58 = .ok (.bipush 40, 2) := by decide +kernel
theorem dX11_post_60 : decode cX11_post 60 = .ok (.if_icmp .gt 23, 3) := by decide +kernel
theorem dX11_post_63 : decode cX11_post 63 = .ok (.iload 5, 2) := by decide +kernel
theorem dX11_post_65 : decode cX11_post 65 = .ok (.sipush 1023, 3) := by decide +kernel
theorem dX11_post_68 : decode cX11_post 68 = .ok (.if_icmp .gt 15, 3) := by decide +kernel
theorem dX11_post_71 : decode cX11_post 71 = .ok (.aload_n 0, 1) := by decide +kernel
theorem dX11_post_72 : decode cX11_post 72 = .ok (.getfield 10, 3) := by decide +kernel
theorem dX11_post_75 : decode cX11_post 75 = .ok (.getfield 82, 3) := by decide +kernel
theorem dX11_post_78 : decode cX11_post 78 = .ok (.bipush 40, 2) := by decide +kernel
theorem dX11_post_80 : decode cX11_post 80 = .ok (.if_icmp .lt 10, 3) := by decide +kernel
theorem dX11_post_83 : decode cX11_post 83 = .ok (.aload_n 0, 1) := by decide +kernel
theorem dX11_post_84 : decode cX11_post 84 = .ok (.bipush (-6), 2) := by decide +kernel
theorem dX11_post_86 : decode cX11_post 86 = .ok (.invokevirtual 64, 3) := by decide +kernel
theorem dX11_post_89 : decode cX11_post 89 = .ok (.ireturn, 1) := by decide +kernel
theorem dX11_post_90 : decode cX11_post 90 = .ok (.aload_n 0, 1) := by decide +kernel
theorem dX11_post_91 : decode cX11_post 91 = .ok (.getfield 10, 3) := by decide +kernel
theorem dX11_post_94 : decode cX11_post 94 = .ok (.new 85, 3) := by decide +kernel
theorem dX11_post_97 : decode cX11_post 97 = .ok (.dup, 1) := by decide +kernel
theorem dX11_post_98 : decode cX11_post 98 = .ok (.aload_n 0, 1) := by decide +kernel
theorem dX11_post_99 : decode cX11_post 99 = .ok (.getfield 10, 3) := by decide +kernel
theorem dX11_post_102 : decode cX11_post 102 = .ok (.getfield 82, 3) := by decide +kernel
theorem dX11_post_105 : decode cX11_post 105 = .ok (.iload_n 1, 1) := by decide +kernel
theorem dX11_post_106 : decode cX11_post 106 = .ok (.iload_n 2, 1) := by decide +kernel
theorem dX11_post_107 : decode cX11_post 107 = .ok (.iload_n 3, 1) := by decide +kernel
theorem dX11_post_108 : decode cX11_post 108 = .ok (.iload 4, 2) := by decide +kernel
theorem dX11_post_110 : decode cX11_post 110 = .ok (.iload 5, 2) := by decide +kernel
theorem dX11_post_112 : decode cX11_post 112 = .ok (.invokespecial 87, 3) := by decide +kernel
theorem dX11_post_115 : decode cX11_post 115 = .ok (.invokevirtual 90, 3) := by decide +kernel
theorem dX11_post_118 : decode cX11_post 118 = .ok (.ireturn, 1) := by decide +kernel
theorem dX11_end_0 : decode cX11_end 0 = .ok (.aload_n 0, 1) := by decide +kernel
theorem dX11_end_1 : decode cX11_end 1 = .ok (.getfield 10, 3) := by decide +kernel
theorem dX11_end_4 : decode cX11_end 4 = .ok (.iload_n 1, 1) := by decide +kernel
theorem dX11_end_5 : decode cX11_end 5 = .ok (.invokevirtual 94, 3) := by decide +kernel
theorem dX11_end_8 : decode cX11_end 8 = .ok (.astore_n 2, 1) := by decide +kernel
theorem dX11_end_9 : decode cX11_end 9 = .ok (.aload_n 2, 1) := by decide +kernel
theorem dX11_end_10 : decode cX11_end 10 = .ok (.ifnonnull 9, 3) := by decide +kernel
theorem dX11_end_13 : decode cX11_end 13 = .ok (.aload_n 0, 1) := by decide +kernel
theorem dX11_end_14 : decode cX11_end 14 = .ok (.iconst (-1), 1) := by decide +kernel
theorem dX11_end_15 : decode cX11_end 15 = .ok (.invokevirtual 64, 3) := by decide +kernel
theorem dX11_end_18 : decode cX11_end 18 = .ok (.ireturn, 1) := by decide +kernel
theorem dX11_end_19 : decode cX11_end 19 = .ok (.aload_n 2, 1) := by decide +kernel
theorem dX11_end_20 : decode cX11_end 20 = .ok (.invokevirtual 98, 3) := by decide +kernel
theorem dX11_end_23 : decode cX11_end 23 = .ok (.ifCond .ne 10, 3) := by decide +kernel
theorem dX11_end_26 : decode cX11_end 26 = .ok (.aload_n 0, 1) := by decide +kernel
theorem dX11_end_27 : decode cX11_end 27 = .ok (.bipush (-3), 2) := by decide +kernel
theorem dX11_end_29 : decode cX11_end 29 = .ok (.invokevirtual 64, 3) := by decide +kernel
theorem dX11_end_32 : decode cX11_end 32 = .ok (.ireturn, 1) := by decide +kernel
theorem dX11_end_33 : decode cX11_end 33 = .ok (.aload_n 2, 1) := by decide +kernel
theorem dX11_end_34 : decode cX11_end 34 = .ok (.aload_n 0, 1) := by decide +kernel
theorem dX11_end_35 : decode cX11_end 35 = .ok (.getfield 10, 3) := by decide +kernel
theorem dX11_end_38 : decode cX11_end 38 = .ok (.getfield 68, 3) := by decide +kernel
theorem dX11_end_41 : decode cX11_end 41 = .ok (.invokevirtual 102, 3) := by decide +kernel
theorem dX11_end_44 : decode cX11_end 44 = .ok (.iconst 1, 1) := by decide +kernel
theorem dX11_end_45 : decode cX11_end 45 = .ok (.ireturn, 1) := by decide +kernel
theorem dX11_set_0 : decode cX11_set 0 = .ok (.iload_n 1, 1) := by decide +kernel
theorem dX11_set_1 : decode cX11_set 1 = .ok (.ifCond .lt 8, 3) := by decide +kernel
theorem dX11_set_4 : decode cX11_set 4 = .ok (.iload_n 1, 1) := by decide +kernel
theorem dX11_set_5 : decode cX11_set 5 = .ok (.iconst 2, 1) := by decide +kernel
theorem dX11_set_6 : decode cX11_set 6 = .ok (.if_icmp .le 10, 3) := by decide +kernel
theorem dX11_set_9 : decode cX11_set 9 = .ok (.aload_n 0, 1) := by decide +kernel
theorem dX11_set_10 : decode cX11_set 10 = .ok (.bipush (-2), 2) := by decide +kernel
theorem dX11_set_12 : decode cX11_set 12 = .ok (.invokevirtual 64, 3) := by decide +kernel
theorem dX11_set_15 : decode cX11_set 15 = .ok (.ireturn, 1) := by decide +kernel
theorem dX11_set_16 : decode cX11_set 16 = .ok (.iload_n 2, 1) := by decide +kernel
theorem dX11_set_17 : decode cX11_set 17 = .ok (.getstatic 106, 3) := by decide +kernel
theorem dX11_set_20 : decode cX11_set 20 = .ok (.iload_n 1, 1) := by decide +kernel
theorem dX11_set_21 : decode cX11_set 21 = .ok (.iaload, 1) := by decide +kernel
theorem dX11_set_22 : decode cX11_set 22 = .ok (.if_icmp .ge 10, 3) := by decide +kernel
theorem dX11_set_25 : decode cX11_set 25 = .ok (.aload_n 0, 1) := by decide +kernel
theorem dX11_set_26 : decode cX11_set 26 = .ok (.bipush (-4), 2) := by decide +kernel
theorem dX11_set_28 : decode cX11_set 28 = .ok (.invokevirtual 64, 3) := by decide +kernel
theorem dX11_set_31 : decode cX11_set 31 = .ok (.ireturn, 1) := by decide +kernel
theorem dX11_set_32 : decode cX11_set 32 = .ok (.iload_n 2, 1) := by decide +kernel
theorem dX11_set_33 : decode cX11_set 33 = .ok (.getstatic 109, 3) := by decide +kernel
theorem dX11_set_36 : decode cX11_set 36 = .ok (.iload_n 1, 1) := by decide +kernel
theorem dX11_set_37 : decode cX11_set 37 = .ok (.iaload, 1) := by decide +kernel
theorem dX11_set_38 : decode cX11_set 38 = .ok (.if_icmp .le 10, 3) := by decide +kernel
theorem dX11_set_41 : decode cX11_set 41 = .ok (.aload_n 0, 1) := by decide +kernel
theorem dX11_set_42 : decode cX11_set 42 = .ok (.bipush (-6), 2) := by decide +kernel
theorem dX11_set_44 : decode cX11_set 44 = .ok (.invokevirtual 64, 3) := by decide +kernel
theorem dX11_set_47 : decode cX11_set 47 = .ok (.ireturn, 1) := by decide +kernel
theorem dX11_set_48 : decode cX11_set 48 = .ok (.aload_n 0, 1) := by decide +kernel
theorem dX11_set_49 : decode cX11_set 49 = .ok (.getfield 10, 3) := by decide +kernel
theorem dX11_set_52 : decode cX11_set 52 = .ok (.getfield 112, 3) := by decide +kernel
theorem dX11_set_55 : decode cX11_set 55 = .ok (.iload_n 1, 1) := by decide +kernel
theorem dX11_set_56 : decode cX11_set 56 = .ok (.iaload, 1) := by decide +kernel
theorem dX11_set_57 : decode cX11_set 57 = .ok (.istore_n 3, 1) := by decide +kernel
theorem dX11_set_58 : decode cX11_set 58 = .ok (.aload_n 0, 1) := by decide +kernel
theorem dX11_set_59 : decode cX11_set 59 = .ok (.getfield 10, 3) := by decide +kernel
theorem dX11_set_62 : decode cX11_set 62 = .ok (.getfield 112, 3) := by decide +kernel
theorem dX11_set_65 : decode cX11_set 65 = .ok (.iload_n 1, 1) := by decide +kernel
theorem dX11_set_66 : decode cX11_set 66 = .ok (.iload_n 2, 1) := by decide +kernel
theorem dX11_set_67 : decode cX11_set 67 = .ok (.iastore, 1) := by decide +kernel
theorem dX11_set_68 : decode cX11_set 68 = .ok (.iload_n 3, 1) := by decide +kernel
theorem dX11_set_69 : decode cX11_set 69 = .ok (.ireturn, 1) := by decide +kernel
theorem dX11_person_0 : decode cX11_person 0 = .ok (.aload_n 0, 1) := by decide +kernel
theorem dX11_person_1 : decode cX11_person 1 = .ok (.getfield 10, 3) := by decide +kernel
theorem dX11_person_4 : decode cX11_person 4 = .ok (.iload_n 1, 1) := by decide +kernel
theorem dX11_person_5 : decode cX11_person 5 = .ok (.invokevirtual 94, 3) := by decide +kernel
theorem dX11_person_8 : decode cX11_person 8 = .ok (.astore 5, 2) := by decide +kernel
theorem dX11_person_10 : decode cX11_person 10 = .ok (.iload_n 1, 1) := by decide +kernel
theorem dX11_person_11 : decode cX11_person 11 = .ok (.iconst (-1), 1) := by decide +kernel
theorem dX11_person_12 : decode cX11_person 12 = .ok (.if_icmp .eq 14, 3) := by decide +kernel
theorem dX11_person_15 : decode cX11_person 15 = .ok (.aload 5, 2) := by decide +kernel
theorem dX11_person_17 : decode cX11_person 17 = .ok (.ifnonnull 9, 3) := by decide +kernel
theorem dX11_person_20 : decode cX11_person 20 = .ok (.aload_n 0, 1) := by decide +kernel
theorem dX11_person_21 : decode cX11_person 21 = .ok (.iconst (-1), 1) := by decide +kernel
theorem dX11_person_22 : decode cX11_person 22 = .ok (.invokevirtual 64, 3) := by decide +kernel
theorem dX11_person_25 : decode cX11_person 25 = .ok (.ireturn, 1) := by decide +kernel
theorem dX11_person_26 : decode cX11_person 26 = .ok (.aload 5, 2) := by decide +kernel
theorem dX11_person_28 : decode cX11_person 28 = .ok (.ifnull 18, 3) := by decide +kernel
theorem dX11_person_31 : decode cX11_person 31 = .ok (.aload 5, 2) := by decide +kernel
theorem dX11_person_33 : decode cX11_person 33 = .ok (.invokevirtual 115, 3) := by decide +kernel
theorem dX11_person_36 : decode cX11_person 36 = .ok (.ifCond .ne 10, 3) := by decide +kernel
theorem dX11_person_39 : decode cX11_person 39 = .ok (.aload_n 0, 1) := by decide +kernel
theorem dX11_person_40 : decode cX11_person 40 = .ok (.bipush (-3), 2) := by decide +kernel
theorem dX11_person_42 : decode cX11_person 42 = .ok (.invokevirtual 64, 3) := by decide +kernel
theorem dX11_person_45 : decode cX11_person 45 = .ok (.ireturn, 1) := by decide +kernel
theorem dX11_person_46 : decode cX11_person 46 = .ok (.iload_n 2, 1) := by decide +kernel
theorem dX11_person_47 : decode cX11_person 47 = .ok (.ifCond .lt 17, 3) := by decide +kernel
theorem dX11_person_50 : decode cX11_person 50 = .ok (.iload_n 3, 1) := by decide +kernel
theorem dX11_person_51 : decode cX11_person 51 = .ok (.sipush (-20000), 3) := by decide +kernel
theorem dX11_person_54 : decode cX11_person 54 = .ok (.if_icmp .lt 10, 3) := by decide +kernel
theorem dX11_person_57 : decode cX11_person 57 = .ok (.iload 4, 2) := by decide +kernel
theorem dX11_person_59 : decode cX11_person 59 = .ok (.bipush 100, 2) := by decide +kernel
theorem dX11_person_61 : decode cX11_person 61 = .ok (.if_icmp .ge 10, 3) := by decide +kernel
theorem dX11_person_64 : decode cX11_person 64 = .ok (.aload_n 0, 1) := by decide +kernel
theorem dX11_person_65 : decode cX11_person 65 = .ok (.bipush (-4), 2) := by decide +kernel
theorem dX11_person_67 : decode cX11_person 67 = .ok (.invokevirtual 64, 3) := by decide +kernel
theorem dX11_person_70 : decode cX11_person 70 = .ok (.ireturn, 1) := by decide +kernel
theorem dX11_person_71 : decode cX11_person 71 = .ok (.iload_n 2, 1) := by decide +kernel
theorem dX11_person_72 : decode cX11_person 72 = .ok (.sipush 1023, 3) := by decide +kernel
theorem dX11_person_75 : decode cX11_person 75 = .ok (.if_icmp .gt 34, 3) := by decide +kernel
theorem dX11_person_78 : decode cX11_person 78 = .ok (.iload_n 3, 1) := by decide +kernel
theorem dX11_person_79 : decode cX11_person 79 = .ok (.aload_n 0, 1) := by decide +kernel
theorem dX11_person_80 : decode cX11_person 80 = .ok (.getfield 10, 3) := by decide +kernel
theorem dX11_person_83 : decode cX11_person 83 = .ok (.getfield 68, 3) := by decide +kernel
theorem dX11_person_86 : decode cX11_person 86 = .ok (.if_icmp .gt 23, 3) := by decide +kernel
theorem dX11_person_89 : decode cX11_person 89 = .ok (.iload 4, 2) := by decide +kernel
theorem dX11_person_91 : decode cX11_person 91 = .ok (.sipush 9999, 3) := by decide +kernel
theorem dX11_person_94 : decode cX11_person 94 = .ok (.if_icmp .gt 15, 3) := by decide +kernel
theorem dX11_person_97 : decode cX11_person 97 = .ok (.aload_n 0, 1) := by decide +kernel
theorem dX11_person_98 : decode cX11_person 98 = .ok (.getfield 10, 3) := by decide +kernel
theorem dX11_person_101 : decode cX11_person 101 = .ok (.getfield 118, 3) := by decide +kernel
theorem dX11_person_104 : decode cX11_person 104 = .ok (.bipush 40, 2) := by decide +kernel
theorem dX11_person_106 : decode cX11_person 106 = .ok (.if_icmp .lt 10, 3) := by decide +kernel
theorem dX11_person_109 : decode cX11_person 109 = .ok (.aload_n 0, 1) := by decide +kernel
theorem dX11_person_110 : decode cX11_person 110 = .ok (.bipush (-6), 2) := by decide +kernel
theorem dX11_person_112 : decode cX11_person 112 = .ok (.invokevirtual 64, 3) := by decide +kernel
theorem dX11_person_115 : decode cX11_person 115 = .ok (.ireturn, 1) := by decide +kernel
theorem dX11_person_116 : decode cX11_person 116 = .ok (.new 121, 3) := by decide +kernel
theorem dX11_person_119 : decode cX11_person 119 = .ok (.dup, 1) := by decide +kernel
theorem dX11_person_120 : decode cX11_person 120 = .ok (.aload_n 0, 1) := by decide +kernel
theorem dX11_person_121 : decode cX11_person 121 = .ok (.getfield 10, 3) := by decide +kernel
theorem dX11_person_124 : decode cX11_person 124 = .ok (.getfield 118, 3) := by decide +kernel
theorem dX11_person_127 : decode cX11_person 127 = .ok (.iload_n 2, 1) := by decide +kernel
theorem dX11_person_128 : decode cX11_person 128 = .ok (.iload_n 3, 1) := by decide +kernel
theorem dX11_person_129 : decode cX11_person 129 = .ok (.iload 4, 2) := by decide +kernel
theorem dX11_person_131 : decode cX11_person 131 = .ok (.invokespecial 123, 3) := by decide +kernel
theorem dX11_person_134 : decode cX11_person 134 = .ok (.astore 6, 2) := by decide +kernel
theorem dX11_person_136 : decode cX11_person 136 = .ok (.aload 6, 2) := by decide +kernel
theorem dX11_person_138 : decode cX11_person 138 = .ok (.aload 5, 2) := by decide +kernel
theorem dX11_person_140 : decode cX11_person 140 = .ok (.invokevirtual 126, 3) := by decide +kernel
theorem dX11_person_143 : decode cX11_person 143 = .ok (.aload_n 0, 1) := by decide +kernel
theorem dX11_person_144 : decode cX11_person 144 = .ok (.getfield 10, 3) := by decide +kernel
theorem dX11_person_147 : decode cX11_person 147 = .ok (.aload 6, 2) := by decide +kernel
theorem dX11_person_149 : decode cX11_person 149 = .ok (.invokevirtual 130, 3) := by decide +kernel
theorem dX11_person_152 : decode cX11_person 152 = .ok (.ireturn, 1) := by decide +kernel
theorem dX11_protect_0 : decode cX11_protect 0 = .ok (.aload_n 0, 1) := by decide +kernel
theorem dX11_protect_1 : decode cX11_protect 1 = .ok (.getfield 10, 3) := by decide +kernel
theorem dX11_protect_4 : decode cX11_protect 4 = .ok (.iload_n 1, 1) := by decide +kernel
theorem dX11_protect_5 : decode cX11_protect 5 = .ok (.invokevirtual 134, 3) := by decide +kernel
theorem dX11_protect_8 : decode cX11_protect 8 = .ok (.astore_n 3, 1) := by decide +kernel
theorem dX11_protect_9 : decode cX11_protect 9 = .ok (.aload_n 3, 1) := by decide +kernel
theorem dX11_protect_10 : decode cX11_protect 10 = .ok (.ifnonnull 9, 3) := by decide +kernel
theorem dX11_protect_13 : decode cX11_protect 13 = .ok (.aload_n 0, 1) := by decide +kernel
theorem dX11_protect_14 : decode cX11_protect 14 = .ok (.iconst (-1), 1) := by decide +kernel
theorem dX11_protect_15 : decode cX11_protect 15 = .ok (.invokevirtual 138, 3) := by decide +kernel
theorem dX11_protect_18 : decode cX11_protect 18 = .ok (.ireturn, 1) := by decide +kernel
theorem dX11_protect_19 : decode cX11_protect 19 = .ok (.iload_n 2, 1) := by decide +kernel
theorem dX11_protect_20 : decode cX11_protect 20 = .ok (.iconst (-1), 1) := by decide +kernel
theorem dX11_protect_21 : decode cX11_protect 21 = .ok (.if_icmp .ge 10, 3) := by decide +kernel
theorem dX11_protect_24 : decode cX11_protect 24 = .ok (.aload_n 0, 1) := by decide +kernel
theorem dX11_protect_25 : decode cX11_protect 25 = .ok (.bipush (-4), 2) := by decide +kernel
theorem dX11_protect_27 : decode cX11_protect 27 = .ok (.invokevirtual 138, 3) := by decide +kernel
theorem dX11_protect_30 : decode cX11_protect 30 = .ok (.ireturn, 1) := by decide +kernel
theorem dX11_protect_31 : decode cX11_protect 31 = .ok (.iload_n 2, 1) := by decide +kernel
theorem dX11_protect_32 : decode cX11_protect 32 = .ok (.sipush 9000, 3) := by decide +kernel
theorem dX11_protect_35 : decode cX11_protect 35 = .ok (.if_icmp .le 10, 3) := by decide +kernel
theorem dX11_protect_38 : decode cX11_protect 38 = .ok (.aload_n 0, 1) := by decide +kernel
theorem dX11_protect_39 : decode cX11_protect 39 = .ok (.bipush (-6), 2) := by decide +kernel
theorem dX11_protect_41 : decode cX11_protect 41 = .ok (.invokevirtual 138, 3) := by decide +kernel
theorem dX11_protect_44 : decode cX11_protect 44 = .ok (.ireturn, 1) := by decide +kernel
theorem dX11_protect_45 : decode cX11_protect 45 = .ok (.aload_n 3, 1) := by decide +kernel
theorem dX11_protect_46 : decode cX11_protect 46 = .ok (.getfield 141, 3) := by decide +kernel
theorem dX11_protect_49 : decode cX11_protect 49 = .ok (.istore 4, 2) := by decide +kernel
theorem dX11_protect_51 : decode cX11_protect 51 = .ok (.aload_n 3, 1) := by decide +kernel
theorem dX11_protect_52 : decode cX11_protect 52 = .ok (.iload_n 2, 1) := by decide +kernel
theorem dX11_protect_53 : decode cX11_protect 53 = .ok (.putfield 141, 3) := by decide +kernel
theorem dX11_protect_56 : decode cX11_protect 56 = .ok (.iload 4, 2) := by decide +kernel
theorem dX11_protect_58 : decode cX11_protect 58 = .ok (.ireturn, 1) := by decide +kernel
theorem dX11_move_0 : decode cX11_move 0 = .ok (.aload_n 0, 1) := by decide +kernel
theorem dX11_move_1 : decode cX11_move 1 = .ok (.getfield 10, 3) := by decide +kernel
theorem dX11_move_4 : decode cX11_move 4 = .ok (.iload_n 1, 1) := by decide +kernel
theorem dX11_move_5 : decode cX11_move 5 = .ok (.invokevirtual 134, 3) := by decide +kernel
theorem dX11_move_8 : decode cX11_move 8 = .ok (.astore_n 3, 1) := by decide +kernel
theorem dX11_move_9 : decode cX11_move 9 = .ok (.aload_n 0, 1) := by decide +kernel
theorem dX11_move_10 : decode cX11_move 10 = .ok (.getfield 10, 3) := by decide +kernel
theorem dX11_move_13 : decode cX11_move 13 = .ok (.iload_n 2, 1) := by decide +kernel
theorem dX11_move_14 : decode cX11_move 14 = .ok (.invokevirtual 94, 3) := by decide +kernel
theorem dX11_move_17 : decode cX11_move 17 = .ok (.astore 4, 2) := by decide +kernel
theorem dX11_move_19 : decode cX11_move 19 = .ok (.aload_n 3, 1) := by decide +kernel
theorem dX11_move_20 : decode cX11_move 20 = .ok (.ifnull 13, 3) := by decide +kernel
theorem dX11_move_23 : decode cX11_move 23 = .ok (.iload_n 2, 1) := by decide +kernel
theorem dX11_move_24 : decode cX11_move 24 = .ok (.iconst (-1), 1) := by decide +kernel
theorem dX11_move_25 : decode cX11_move 25 = .ok (.if_icmp .eq 14, 3) := by decide +kernel
theorem dX11_move_28 : decode cX11_move 28 = .ok (.aload 4, 2) := by decide +kernel
theorem dX11_move_30 : decode cX11_move 30 = .ok (.ifnonnull 9, 3) := by decide +kernel
theorem dX11_move_33 : decode cX11_move 33 = .ok (.aload_n 0, 1) := by decide +kernel
theorem dX11_move_34 : decode cX11_move 34 = .ok (.iconst (-1), 1) := by decide +kernel
theorem dX11_move_35 : decode cX11_move 35 = .ok (.invokevirtual 138, 3) := by decide +kernel
theorem dX11_move_38 : decode cX11_move 38 = .ok (.ireturn, 1) := by decide +kernel
theorem dX11_move_39 : decode cX11_move 39 = .ok (.aload_n 3, 1) := by decide +kernel
theorem dX11_move_40 : decode cX11_move 40 = .ok (.invokevirtual 144, 3) := by decide +kernel
theorem dX11_move_43 : decode cX11_move 43 = .ok (.ifCond .eq 17, 3) := by decide +kernel
theorem dX11_move_46 : decode cX11_move 46 = .ok (.aload 4, 2) := by decide +kernel
theorem dX11_move_48 : decode cX11_move 48 = .ok (.ifnull 19, 3) := by decide +kernel
theorem dX11_move_51 : decode cX11_move 51 = .ok (.aload 4, 2) := by decide +kernel
theorem dX11_move_53 : decode cX11_move 53 = .ok (.aload_n 3, 1) := by decide +kernel
theorem dX11_move_54 : decode cX11_move 54 = .ok (.invokevirtual 147, 3) := by decide +kernel
theorem dX11_move_57 : decode cX11_move 57 = .ok (.ifCond .ne 10, 3) := by decide +kernel
theorem dX11_move_60 : decode cX11_move 60 = .ok (.aload_n 0, 1) := by decide +kernel
theorem dX11_move_61 : decode cX11_move 61 = .ok (.bipush (-3), 2) := by decide +kernel
theorem dX11_move_63 : decode cX11_move 63 = .ok (.invokevirtual 138, 3) := by decide +kernel
theorem dX11_move_66 : decode cX11_move 66 = .ok (.ireturn, 1) := by decide +kernel
theorem dX11_move_67 : decode cX11_move 67 = .ok (.aload_n 3, 1) := by decide +kernel
theorem dX11_move_68 : decode cX11_move 68 = .ok (.getfield 151, 3) := by decide +kernel
theorem dX11_move_71 : decode cX11_move 71 = .ok (.astore 5, 2) := by decide +kernel
theorem dX11_move_73 : decode cX11_move 73 = .ok (.aload_n 3, 1) := by decide +kernel
theorem dX11_move_74 : decode cX11_move 74 = .ok (.aload 4, 2) := by decide +kernel
theorem dX11_move_76 : decode cX11_move 76 = .ok (.invokevirtual 126, 3) := by decide +kernel
theorem dX11_move_79 : decode cX11_move 79 = .ok (.aload 5, 2) := by decide +kernel
theorem dX11_move_81 : decode cX11_move 81 = .ok (.ifnonnull 7, 3) := by decide +kernel
theorem dX11_move_84 : decode cX11_move 84 = .ok (.iconst (-1), 1) := by decide +kernel
theorem dX11_move_85 : decode cX11_move 85 = .ok (.goto 8, 3) := by decide +kernel
theorem dX11_move_88 : decode cX11_move 88 = .ok (.aload 5, 2) := by decide +kernel
theorem dX11_move_90 : decode cX11_move 90 = .ok (.getfield 155, 3) := by decide +kernel
theorem dX11_move_93 : decode cX11_move 93 = .ok (.ireturn, 1) := by decide +kernel
theorem dX11_leave_0 : decode cX11_leave 0 = .ok (.aload_n 0, 1) := by decide +kernel
theorem dX11_leave_1 : decode cX11_leave 1 = .ok (.getfield 10, 3) := by decide +kernel
theorem dX11_leave_4 : decode cX11_leave 4 = .ok (.iload_n 1, 1) := by decide +kernel
theorem dX11_leave_5 : decode cX11_leave 5 = .ok (.invokevirtual 134, 3) := by decide +kernel
theorem dX11_leave_8 : decode cX11_leave 8 = .ok (.astore_n 2, 1) := by decide +kernel
theorem dX11_leave_9 : decode cX11_leave 9 = .ok (.aload_n 2, 1) := by decide +kernel
theorem dX11_leave_10 : decode cX11_leave 10 = .ok (.ifnonnull 9, 3) := by decide +kernel
theorem dX11_leave_13 : decode cX11_leave 13 = .ok (.aload_n 0, 1) := by decide +kernel
theorem dX11_leave_14 : decode cX11_leave 14 = .ok (.iconst (-1), 1) := by decide +kernel
theorem dX11_leave_15 : decode cX11_leave 15 = .ok (.invokevirtual 64, 3) := by decide +kernel
theorem dX11_leave_18 : decode cX11_leave 18 = .ok (.ireturn, 1) := by decide +kernel
theorem dX11_leave_19 : decode cX11_leave 19 = .ok (.aload_n 2, 1) := by decide +kernel
theorem dX11_leave_20 : decode cX11_leave 20 = .ok (.invokevirtual 144, 3) := by decide +kernel
theorem dX11_leave_23 : decode cX11_leave 23 = .ok (.ifCond .ne 10, 3) := by decide +kernel
theorem dX11_leave_26 : decode cX11_leave 26 = .ok (.aload_n 0, 1) := by decide +kernel
theorem dX11_leave_27 : decode cX11_leave 27 = .ok (.bipush (-3), 2) := by decide +kernel
theorem dX11_leave_29 : decode cX11_leave 29 = .ok (.invokevirtual 64, 3) := by decide +kernel
theorem dX11_leave_32 : decode cX11_leave 32 = .ok (.ireturn, 1) := by decide +kernel
theorem dX11_leave_33 : decode cX11_leave 33 = .ok (.aload_n 2, 1) := by decide +kernel
theorem dX11_leave_34 : decode cX11_leave 34 = .ok (.aconst_null, 1) := by decide +kernel
theorem dX11_leave_35 : decode cX11_leave 35 = .ok (.invokevirtual 126, 3) := by decide +kernel
theorem dX11_leave_38 : decode cX11_leave 38 = .ok (.aload_n 2, 1) := by decide +kernel
theorem dX11_leave_39 : decode cX11_leave 39 = .ok (.aload_n 0, 1) := by decide +kernel
theorem dX11_leave_40 : decode cX11_leave 40 = .ok (.getfield 10, 3) := by decide +kernel
theorem dX11_leave_43 : decode cX11_leave 43 = .ok (.getfield 68, 3) := by decide +kernel
theorem dX11_leave_46 : decode cX11_leave 46 = .ok (.putfield 158, 3) := by decide +kernel
theorem dX11_leave_49 : decode cX11_leave 49 = .ok (.iconst 1, 1) := by decide +kernel
theorem dX11_leave_50 : decode cX11_leave 50 = .ok (.ireturn, 1) := by decide +kernel
theorem dX11_weight_0 : decode cX11_weight 0 = .ok (.iload_n 1, 1) := by decide +kernel
theorem dX11_weight_1 : decode cX11_weight 1 = .ok (.ifCond .lt 8, 3) := by decide +kernel
theorem dX11_weight_4 : decode cX11_weight 4 = .ok (.iload_n 1, 1) := by decide +kernel
theorem dX11_weight_5 : decode cX11_weight 5 = .ok (.iconst 4, 1) := by decide +kernel
theorem dX11_weight_6 : decode cX11_weight 6 = .ok (.if_icmp .lt 10, 3) := by decide +kernel
theorem dX11_weight_9 : decode cX11_weight 9 = .ok (.aload_n 0, 1) := by decide +kernel
theorem dX11_weight_10 : decode cX11_weight 10 = .ok (.bipush (-2), 2) := by decide +kernel
theorem dX11_weight_12 : decode cX11_weight 12 = .ok (.invokevirtual 64, 3) := by decide +kernel
theorem dX11_weight_15 : decode cX11_weight 15 = .ok (.ireturn, 1) := by decide +kernel
theorem dX11_weight_16 : decode cX11_weight 16 = .ok (.iload_n 2, 1) := by decide +kernel
theorem dX11_weight_17 : decode cX11_weight 17 = .ok (.ifCond .ge 10, 3) := by decide +kernel
theorem dX11_weight_20 : decode cX11_weight 20 = .ok (.aload_n 0, 1) := by decide +kernel
theorem dX11_weight_21 : decode cX11_weight 21 = .ok (.bipush (-4), 2) := by decide +kernel
theorem dX11_weight_23 : decode cX11_weight 23 = .ok (.invokevirtual 64, 3) := by decide +kernel
theorem dX11_weight_26 : decode cX11_weight 26 = .ok (.ireturn, 1) := by decide +kernel
theorem dX11_weight_27 : decode cX11_weight 27 = .ok (.iload_n 2, 1) := by decide +kernel
theorem dX11_weight_28 : decode cX11_weight 28 = .ok (.bipush 20, 2) := by decide +kernel
theorem dX11_weight_30 : decode cX11_weight 30 = .ok (.if_icmp .le 10, 3) := by decide +kernel
theorem dX11_weight_33 : decode cX11_weight 33 = .ok (.aload_n 0, 1) := by decide +kernel
theorem dX11_weight_34 : decode cX11_weight 34 = .ok (.bipush (-6), 2) := by decide +kernel
theorem dX11_weight_36 : decode cX11_weight 36 = .ok (.invokevirtual 64, 3) := by decide +kernel
theorem dX11_weight_39 : decode cX11_weight 39 = .ok (.ireturn, 1) := by decide +kernel
theorem dX11_weight_40 : decode cX11_weight 40 = .ok (.aload_n 0, 1) := by decide +kernel
theorem dX11_weight_41 : decode cX11_weight 41 = .ok (.getfield 10, 3) := by decide +kernel
theorem dX11_weight_44 : decode cX11_weight 44 = .ok (.getfield 161, 3) := by decide +kernel
theorem dX11_weight_47 : decode cX11_weight 47 = .ok (.iload_n 1, 1) := by decide +kernel
theorem dX11_weight_48 : decode cX11_weight 48 = .ok (.iaload, 1) := by decide +kernel
theorem dX11_weight_49 : decode cX11_weight 49 = .ok (.istore_n 3, 1) := by decide +kernel
theorem dX11_weight_50 : decode cX11_weight 50 = .ok (.aload_n 0, 1) := by decide +kernel
theorem dX11_weight_51 : decode cX11_weight 51 = .ok (.getfield 10, 3) := by decide +kernel
theorem dX11_weight_54 : decode cX11_weight 54 = .ok (.getfield 161, 3) := by decide +kernel
theorem dX11_weight_57 : decode cX11_weight 57 = .ok (.iload_n 1, 1) := by decide +kernel
theorem dX11_weight_58 : decode cX11_weight 58 = .ok (.iload_n 2, 1) := by decide +kernel
theorem dX11_weight_59 : decode cX11_weight 59 = .ok (.iastore, 1) := by decide +kernel
theorem dX11_weight_60 : decode cX11_weight 60 = .ok (.iload_n 3, 1) := by decide +kernel
theorem dX11_weight_61 : decode cX11_weight 61 = .ok (.ireturn, 1) := by decide +kernel
theorem dX11_tell_0 : decode cX11_tell 0 = .ok (.aload_n 0, 1) := by decide +kernel
theorem dX11_tell_1 : decode cX11_tell 1 = .ok (.getfield 10, 3) := by decide +kernel
theorem dX11_tell_4 : decode cX11_tell 4 = .ok (.iload_n 1, 1) := by decide +kernel
theorem dX11_tell_5 : decode cX11_tell 5 = .ok (.invokevirtual 134, 3) := by decide +kernel
theorem dX11_tell_8 : decode cX11_tell 8 = .ok (.astore 4, 2) := by decide +kernel
theorem dX11_tell_10 : decode cX11_tell 10 = .ok (.aload 4, 2) := by decide +kernel
theorem dX11_tell_12 : decode cX11_tell 12 = .ok (.ifnonnull 9, 3) := by decide +kernel
theorem dX11_tell_15 : decode cX11_tell 15 = .ok (.aload_n 0, 1) := by decide +kernel
theorem dX11_tell_16 : decode cX11_tell 16 = .ok (.iconst (-1), 1) := by decide +kernel
theorem dX11_tell_17 : decode cX11_tell 17 = .ok (.invokevirtual 64, 3) := by decide +kernel
theorem dX11_tell_20 : decode cX11_tell 20 = .ok (.ireturn, 1) := by decide +kernel
theorem dX11_tell_21 : decode cX11_tell 21 = .ok (.iload_n 2, 1) := by decide +kernel
theorem dX11_tell_22 : decode cX11_tell 22 = .ok (.ifCond .eq 15, 3) := by decide +kernel
theorem dX11_tell_25 : decode cX11_tell 25 = .ok (.iload_n 2, 1) := by decide +kernel
theorem dX11_tell_26 : decode cX11_tell 26 = .ok (.iconst 1, 1) := by decide +kernel
theorem dX11_tell_27 : decode cX11_tell 27 = .ok (.if_icmp .eq 10, 3) := by decide +kernel
theorem dX11_tell_30 : decode cX11_tell 30 = .ok (.aload_n 0, 1) := by decide +kernel
theorem dX11_tell_31 : decode cX11_tell 31 = .ok (.bipush (-2), 2) := by decide +kernel
theorem dX11_tell_33 : decode cX11_tell 33 = .ok (.invokevirtual 64, 3) := by decide +kernel
theorem dX11_tell_36 : decode cX11_tell 36 = .ok (.ireturn, 1) := by decide +kernel
theorem dX11_tell_37 : decode cX11_tell 37 = .ok (.iload_n 3, 1) := by decide +kernel
theorem dX11_tell_38 : decode cX11_tell 38 = .ok (.ifCond .ge 10, 3) := by decide +kernel
theorem dX11_tell_41 : decode cX11_tell 41 = .ok (.aload_n 0, 1) := by decide +kernel
theorem dX11_tell_42 : decode cX11_tell 42 = .ok (.bipush (-4), 2) := by decide +kernel
theorem dX11_tell_44 : decode cX11_tell 44 = .ok (.invokevirtual 64, 3) := by decide +kernel
theorem dX11_tell_47 : decode cX11_tell 47 = .ok (.ireturn, 1) := by decide +kernel
theorem dX11_tell_48 : decode cX11_tell 48 = .ok (.iload_n 3, 1) := by decide +kernel
theorem dX11_tell_49 : decode cX11_tell 49 = .ok (.iload_n 2, 1) := by decide +kernel
theorem dX11_tell_50 : decode cX11_tell 50 = .ok (.invokestatic 164, 3) := by decide +kernel
theorem dX11_tell_53 : decode cX11_tell 53 = .ok (.if_icmp .gt 15, 3) := by decide +kernel
theorem dX11_tell_56 : decode cX11_tell 56 = .ok (.aload_n 0, 1) := by decide +kernel
theorem dX11_tell_57 : decode cX11_tell 57 = .ok (.getfield 10, 3) := by decide +kernel
theorem dX11_tell_60 : decode cX11_tell 60 = .ok (.getfield 167, 3) := by decide +kernel
theorem dX11_tell_63 : decode cX11_tell 63 = .ok (.bipush 120, 2) := by decide +kernel
theorem dX11_tell_65 : decode cX11_tell 65 = .ok (.if_icmp .lt 10, 3) := by decide +kernel
theorem dX11_tell_68 : decode cX11_tell 68 = .ok (.aload_n 0, 1) := by decide +kernel
theorem dX11_tell_69 : decode cX11_tell 69 = .ok (.bipush (-6), 2) := by decide +kernel
theorem dX11_tell_71 : decode cX11_tell 71 = .ok (.invokevirtual 64, 3) := by decide +kernel
theorem dX11_tell_74 : decode cX11_tell 74 = .ok (.ireturn, 1) := by decide +kernel
theorem dX11_tell_75 : decode cX11_tell 75 = .ok (.aload_n 0, 1) := by decide +kernel
theorem dX11_tell_76 : decode cX11_tell 76 = .ok (.getfield 10, 3) := by decide +kernel
theorem dX11_tell_79 : decode cX11_tell 79 = .ok (.aload 4, 2) := by decide +kernel
theorem dX11_tell_81 : decode cX11_tell 81 = .ok (.iload_n 2, 1) := by decide +kernel
theorem dX11_tell_82 : decode cX11_tell 82 = .ok (.iload_n 3, 1) := by decide +kernel
theorem dX11_tell_83 : decode cX11_tell 83 = .ok (.invokevirtual 170, 3) := by decide +kernel
theorem dX11_tell_86 : decode cX11_tell 86 = .ok (.ireturn, 1) := by decide +kernel
theorem dX11_right_0 : decode cX11_right 0 = .ok (.aload_n 0, 1) := by decide +kernel
theorem dX11_right_1 : decode cX11_right 1 = .ok (.getfield 10, 3) := by decide +kernel
theorem dX11_right_4 : decode cX11_right 4 = .ok (.iload_n 1, 1) := by decide +kernel
theorem dX11_right_5 : decode cX11_right 5 = .ok (.invokevirtual 174, 3) := by decide +kernel
theorem dX11_right_8 : decode cX11_right 8 = .ok (.astore_n 3, 1) := by decide +kernel
theorem dX11_right_9 : decode cX11_right 9 = .ok (.aload_n 3, 1) := by decide +kernel
theorem dX11_right_10 : decode cX11_right 10 = .ok (.ifnonnull 9, 3) := by decide +kernel
theorem dX11_right_13 : decode cX11_right 13 = .ok (.aload_n 0, 1) := by decide +kernel
theorem dX11_right_14 : decode cX11_right 14 = .ok (.iconst (-1), 1) := by decide +kernel
theorem dX11_right_15 : decode cX11_right 15 = .ok (.invokevirtual 64, 3) := by decide +kernel
theorem dX11_right_18 : decode cX11_right 18 = .ok (.ireturn, 1) := by decide +kernel
theorem dX11_right_19 : decode cX11_right 19 = .ok (.iload_n 2, 1) := by decide +kernel
theorem dX11_right_20 : decode cX11_right 20 = .ok (.ifCond .ge 10, 3) := by decide +kernel
theorem dX11_right_23 : decode cX11_right 23 = .ok (.aload_n 0, 1) := by decide +kernel
theorem dX11_right_24 : decode cX11_right 24 = .ok (.bipush (-4), 2) := by decide +kernel
theorem dX11_right_26 : decode cX11_right 26 = .ok (.invokevirtual 64, 3) := by decide +kernel
theorem dX11_right_29 : decode cX11_right 29 = .ok (.ireturn, 1) := by decide +kernel
theorem dX11_right_30 : decode cX11_right 30 = .ok (.iload_n 2, 1) := by decide +kernel
theorem dX11_right_31 : decode cX11_right 31 = .ok (.aload_n 3, 1) := by decide +kernel
theorem dX11_right_32 : decode cX11_right 32 = .ok (.getfield 178, 3) := by decide +kernel
theorem dX11_right_35 : decode cX11_right 35 = .ok (.invokestatic 164, 3) := by decide +kernel
theorem dX11_right_38 : decode cX11_right 38 = .ok (.if_icmp .gt 15, 3) := by decide +kernel
theorem dX11_right_41 : decode cX11_right 41 = .ok (.aload_n 0, 1) := by decide +kernel
theorem dX11_right_42 : decode cX11_right 42 = .ok (.getfield 10, 3) := by decide +kernel
theorem dX11_right_45 : decode cX11_right 45 = .ok (.getfield 183, 3) := by decide +kernel
theorem dX11_right_48 : decode cX11_right 48 = .ok (.bipush 60, 2) := by decide +kernel
theorem dX11_right_50 : decode cX11_right 50 = .ok (.if_icmp .lt 10, 3) := by decide +kernel
theorem dX11_right_53 : decode cX11_right 53 = .ok (.aload_n 0, 1) := by decide +kernel
theorem dX11_right_54 : decode cX11_right 54 = .ok (.bipush (-6), 2) := by decide +kernel
theorem dX11_right_56 : decode cX11_right 56 = .ok (.invokevirtual 64, 3) := by decide +kernel
theorem dX11_right_59 : decode cX11_right 59 = .ok (.ireturn, 1) := by decide +kernel
theorem dX11_right_60 : decode cX11_right 60 = .ok (.aload_n 0, 1) := by decide +kernel
theorem dX11_right_61 : decode cX11_right 61 = .ok (.getfield 10, 3) := by decide +kernel
theorem dX11_right_64 : decode cX11_right 64 = .ok (.dup, 1) := by decide +kernel
theorem dX11_right_65 : decode cX11_right 65 = .ok (.getfield 183, 3) := by decide +kernel
theorem dX11_right_68 : decode cX11_right 68 = .ok (.iconst 1, 1) := by decide +kernel
theorem dX11_right_69 : decode cX11_right 69 = .ok (.iadd, 1) := by decide +kernel
theorem dX11_right_70 : decode cX11_right 70 = .ok (.putfield 183, 3) := by decide +kernel
theorem dX11_right_73 : decode cX11_right 73 = .ok (.aload_n 3, 1) := by decide +kernel
theorem dX11_right_74 : decode cX11_right 74 = .ok (.aload_n 0, 1) := by decide +kernel
theorem dX11_right_75 : decode cX11_right 75 = .ok (.getfield 10, 3) := by decide +kernel
theorem dX11_right_78 : decode cX11_right 78 = .ok (.getfield 68, 3) := by decide +kernel
theorem dX11_right_81 : decode cX11_right 81 = .ok (.iload_n 2, 1) := by decide +kernel
theorem dX11_right_82 : decode cX11_right 82 = .ok (.invokevirtual 186, 3) := by decide +kernel
theorem dX11_right_85 : decode cX11_right 85 = .ok (.ireturn, 1) := by decide +kernel
theorem dX11_mark_0 : decode cX11_mark 0 = .ok (.aload_n 0, 1) := by decide +kernel
theorem dX11_mark_1 : decode cX11_mark 1 = .ok (.getfield 10, 3) := by decide +kernel
theorem dX11_mark_4 : decode cX11_mark 4 = .ok (.iload_n 1, 1) := by decide +kernel
theorem dX11_mark_5 : decode cX11_mark 5 = .ok (.invokevirtual 134, 3) := by decide +kernel
theorem dX11_mark_8 : decode cX11_mark 8 = .ok (.astore 4, 2) := by decide +kernel
theorem dX11_mark_10 : decode cX11_mark 10 = .ok (.aload 4, 2) := by decide +kernel
theorem dX11_mark_12 : decode cX11_mark 12 = .ok (.ifnonnull 9, 3) := by decide +kernel
theorem dX11_mark_15 : decode cX11_mark 15 = .ok (.aload_n 0, 1) := by decide +kernel
theorem dX11_mark_16 : decode cX11_mark 16 = .ok (.iconst (-1), 1) := by decide +kernel
theorem dX11_mark_17 : decode cX11_mark 17 = .ok (.invokevirtual 64, 3) := by decide +kernel
theorem dX11_mark_20 : decode cX11_mark 20 = .ok (.ireturn, 1) := by decide +kernel
theorem dX11_mark_21 : decode cX11_mark 21 = .ok (.iload_n 3, 1) := by decide +kernel
theorem dX11_mark_22 : decode cX11_mark 22 = .ok (.ifCond .lt 8, 3) := by decide +kernel
theorem dX11_mark_25 : decode cX11_mark 25 = .ok (.iload_n 3, 1) := by decide +kernel
theorem dX11_mark_26 : decode cX11_mark 26 = .ok (.iconst 4, 1) := by decide +kernel
theorem dX11_mark_27 : decode cX11_mark 27 = .ok (.if_icmp .le 10, 3) := by decide +kernel
theorem dX11_mark_30 : decode cX11_mark 30 = .ok (.aload_n 0, 1) := by decide +kernel
theorem dX11_mark_31 : decode cX11_mark 31 = .ok (.bipush (-2), 2) := by decide +kernel
theorem dX11_mark_33 : decode cX11_mark 33 = .ok (.invokevirtual 64, 3) := by decide +kernel
theorem dX11_mark_36 : decode cX11_mark 36 = .ok (.ireturn, 1) := by decide +kernel
theorem dX11_mark_37 : decode cX11_mark 37 = .ok (.iload_n 2, 1) := by decide +kernel
theorem dX11_mark_38 : decode cX11_mark 38 = .ok (.ifCond .ge 10, 3) := by decide +kernel
theorem dX11_mark_41 : decode cX11_mark 41 = .ok (.aload_n 0, 1) := by decide +kernel
theorem dX11_mark_42 : decode cX11_mark 42 = .ok (.bipush (-4), 2) := by decide +kernel
theorem dX11_mark_44 : decode cX11_mark 44 = .ok (.invokevirtual 64, 3) := by decide +kernel
theorem dX11_mark_47 : decode cX11_mark 47 = .ok (.ireturn, 1) := by decide +kernel
theorem dX11_mark_48 : decode cX11_mark 48 = .ok (.iload_n 2, 1) := by decide +kernel
theorem dX11_mark_49 : decode cX11_mark 49 = .ok (.sipush 3000, 3) := by decide +kernel
theorem dX11_mark_52 : decode cX11_mark 52 = .ok (.if_icmp .le 10, 3) := by decide +kernel
theorem dX11_mark_55 : decode cX11_mark 55 = .ok (.aload_n 0, 1) := by decide +kernel
theorem dX11_mark_56 : decode cX11_mark 56 = .ok (.bipush (-6), 2) := by decide +kernel
theorem dX11_mark_58 : decode cX11_mark 58 = .ok (.invokevirtual 64, 3) := by decide +kernel
theorem dX11_mark_61 : decode cX11_mark 61 = .ok (.ireturn, 1) := by decide +kernel
theorem dX11_mark_62 : decode cX11_mark 62 = .ok (.iload_n 3, 1) := by decide +kernel
theorem dX11_mark_63 : decode cX11_mark 63 = .ok (.iconst 4, 1) := by decide +kernel
theorem dX11_mark_64 : decode cX11_mark 64 = .ok (.if_icmp .ne 16, 3) := by decide +kernel
theorem dX11_mark_67 : decode cX11_mark 67 = .ok (.aload_n 0, 1) := by decide +kernel
theorem dX11_mark_68 : decode cX11_mark 68 = .ok (.getfield 10, 3) := by decide +kernel
theorem dX11_mark_71 : decode cX11_mark 71 = .ok (.aload 4, 2) := by decide +kernel
theorem dX11_mark_73 : decode cX11_mark 73 = .ok (.iload_n 2, 1) := by decide +kernel
theorem dX11_mark_74 : decode cX11_mark 74 = .ok (.invokevirtual 190, 3) := by decide +kernel
theorem dX11_mark_77 : decode cX11_mark 77 = .ok (.goto 14, 3) := by decide +kernel
theorem dX11_mark_80 : decode cX11_mark 80 = .ok (.aload_n 0, 1) := by decide +kernel
theorem dX11_mark_81 : decode cX11_mark 81 = .ok (.getfield 10, 3) := by decide +kernel
theorem dX11_mark_84 : decode cX11_mark 84 = .ok (.aload 4, 2) := by decide +kernel
theorem dX11_mark_86 : decode cX11_mark 86 = .ok (.iload_n 3, 1) := by decide +kernel
theorem dX11_mark_87 : decode cX11_mark 87 = .ok (.iload_n 2, 1) := by decide +kernel
theorem dX11_mark_88 : decode cX11_mark 88 = .ok (.invokevirtual 194, 3) := by decide +kernel
theorem dX11_mark_91 : decode cX11_mark 91 = .ok (.ireturn, 1) := by decide +kernel
theorem dX11_pools_0 : decode cX11_pools 0 = .ok (.aload_n 0, 1) := by decide +kernel
theorem dX11_pools_1 : decode cX11_pools 1 = .ok (.getfield 10, 3) := by decide +kernel
theorem dX11_pools_4 : decode cX11_pools 4 = .ok (.iload_n 1, 1) := by decide +kernel
theorem dX11_pools_5 : decode cX11_pools 5 = .ok (.invokevirtual 72, 3) := by decide +kernel
theorem dX11_pools_8 : decode cX11_pools 8 = .ok (.ifCond .ne 9, 3) := by decide +kernel
theorem dX11_pools_11 : decode cX11_pools 11 = .ok (.aload_n 0, 1) := by decide +kernel
theorem dX11_pools_12 : decode cX11_pools 12 = .ok (.iconst (-1), 1) := by decide +kernel
theorem dX11_pools_13 : decode cX11_pools 13 = .ok (.invokevirtual 64, 3) := by decide +kernel
theorem dX11_pools_16 : decode cX11_pools 16 = .ok (.ireturn, 1) := by decide +kernel
theorem dX11_pools_17 : decode cX11_pools 17 = .ok (.aload_n 0, 1) := by decide +kernel
theorem dX11_pools_18 : decode cX11_pools 18 = .ok (.getfield 21, 3) := by decide +kernel
theorem dX11_pools_21 : decode cX11_pools 21 = .ok (.iload_n 1, 1) := by decide +kernel
theorem dX11_pools_22 : decode cX11_pools 22 = .ok (.invokevirtual 197, 3) := by decide +kernel
theorem dX11_pools_25 : decode cX11_pools 25 = .ok (.aload_n 0, 1) := by decide +kernel
theorem dX11_pools_26 : decode cX11_pools 26 = .ok (.getfield 21, 3) := by decide +kernel
theorem dX11_pools_29 : decode cX11_pools 29 = .ok (.getfield 200, 3) := by decide +kernel
theorem dX11_pools_32 : decode cX11_pools 32 = .ok (.ireturn, 1) := by decide +kernel
theorem dX11_poolOf_0 : decode cX11_poolOf 0 = .ok (.aload_n 0, 1) := by decide +kernel
theorem dX11_poolOf_1 : decode cX11_poolOf 1 = .ok (.getfield 10, 3) := by decide +kernel
theorem dX11_poolOf_4 : decode cX11_poolOf 4 = .ok (.iload_n 2, 1) := by decide +kernel
theorem dX11_poolOf_5 : decode cX11_poolOf 5 = .ok (.invokevirtual 94, 3) := by decide +kernel
theorem dX11_poolOf_8 : decode cX11_poolOf 8 = .ok (.astore_n 3, 1) := by decide +kernel
theorem dX11_poolOf_9 : decode cX11_poolOf 9 = .ok (.aload_n 3, 1) := by decide +kernel
theorem dX11_poolOf_10 : decode cX11_poolOf 10 = .ok (.ifnull 14, 3) := by decide +kernel
theorem dX11_poolOf_13 : decode cX11_poolOf 13 = .ok (.aload_n 0, 1) := by decide +kernel
theorem dX11_poolOf_14 : decode cX11_poolOf 14 = .ok (.getfield 10, 3) := by decide +kernel
theorem dX11_poolOf_17 : decode cX11_poolOf 17 = .ok (.iload_n 1, 1) := by decide +kernel
theorem dX11_poolOf_18 : decode cX11_poolOf 18 = .ok (.invokevirtual 72, 3) := by decide +kernel
theorem dX11_poolOf_21 : decode cX11_poolOf 21 = .ok (.ifCond .ne 9, 3) := by decide +kernel
theorem dX11_poolOf_24 : decode cX11_poolOf 24 = .ok (.aload_n 0, 1) := by decide +kernel
theorem dX11_poolOf_25 : decode cX11_poolOf 25 = .ok (.iconst (-1), 1) := by decide +kernel
theorem dX11_poolOf_26 : decode cX11_poolOf 26 = .ok (.invokevirtual 64, 3) := by decide +kernel
theorem dX11_poolOf_29 : decode cX11_poolOf 29 = .ok (.ireturn, 1) := by decide +kernel
theorem dX11_poolOf_30 : decode cX11_poolOf 30 = .ok (.aload_n 0, 1) := by decide +kernel
theorem dX11_poolOf_31 : decode cX11_poolOf 31 = .ok (.getfield 21, 3) := by decide +kernel
theorem dX11_poolOf_34 : decode cX11_poolOf 34 = .ok (.iload_n 1, 1) := by decide +kernel
theorem dX11_poolOf_35 : decode cX11_poolOf 35 = .ok (.invokevirtual 197, 3) := by decide +kernel
theorem dX11_poolOf_38 : decode cX11_poolOf 38 = .ok (.aload_n 0, 1) := by decide +kernel
theorem dX11_poolOf_39 : decode cX11_poolOf 39 = .ok (.getfield 21, 3) := by decide +kernel
theorem dX11_poolOf_42 : decode cX11_poolOf 42 = .ok (.aload_n 3, 1) := by decide +kernel
theorem dX11_poolOf_43 : decode cX11_poolOf 43 = .ok (.invokevirtual 203, 3) := by decide +kernel
theorem dX11_poolOf_46 : decode cX11_poolOf 46 = .ok (.istore 4, 2) := by decide +kernel
theorem dX11_poolOf_48 : decode cX11_poolOf 48 = .ok (.iload 4, 2) := by decide +kernel
theorem dX11_poolOf_50 : decode cX11_poolOf 50 = .ok (.ifCond .ge 8, 3) := by decide +kernel
theorem dX11_poolOf_53 : decode cX11_poolOf 53 = .ok (.bipush (-9), 2) := by decide +kernel
theorem dX11_poolOf_55 : decode cX11_poolOf 55 = .ok (.goto 5, 3) := by decide +kernel
theorem dX11_poolOf_58 : decode cX11_poolOf 58 = .ok (.iload 4, 2) := by decide +kernel
theorem dX11_poolOf_60 : decode cX11_poolOf 60 = .ok (.ireturn, 1) := by decide +kernel
theorem dX11_cut_0 : decode cX11_cut 0 = .ok (.aload_n 0, 1) := by decide +kernel
theorem dX11_cut_1 : decode cX11_cut 1 = .ok (.getfield 21, 3) := by decide +kernel
theorem dX11_cut_4 : decode cX11_cut 4 = .ok (.iload_n 1, 1) := by decide +kernel
theorem dX11_cut_5 : decode cX11_cut 5 = .ok (.iload_n 2, 1) := by decide +kernel
theorem dX11_cut_6 : decode cX11_cut 6 = .ok (.invokevirtual 206, 3) := by decide +kernel
theorem dX11_cut_9 : decode cX11_cut 9 = .ok (.ifCond .ne 9, 3) := by decide +kernel
theorem dX11_cut_12 : decode cX11_cut 12 = .ok (.aload_n 0, 1) := by decide +kernel
theorem dX11_cut_13 : decode cX11_cut 13 = .ok (.iconst (-1), 1) := by decide +kernel
theorem dX11_cut_14 : decode cX11_cut 14 = .ok (.invokevirtual 64, 3) := by decide +kernel
theorem dX11_cut_17 : decode cX11_cut 17 = .ok (.ireturn, 1) := by decide +kernel
theorem dX11_cut_18 : decode cX11_cut 18 = .ok (.iload_n 3, 1) := by decide +kernel
theorem dX11_cut_19 : decode cX11_cut 19 = .ok (.invokestatic 210, 3) := by decide +kernel
theorem dX11_cut_22 : decode cX11_cut 22 = .ok (.istore 5, 2) := by decide +kernel
theorem dX11_cut_24 : decode cX11_cut 24 = .ok (.iload 5, 2) := by decide +kernel
theorem dX11_cut_26 : decode cX11_cut 26 = .ok (.ifCond .eq 10, 3) := by decide +kernel
theorem dX11_cut_29 : decode cX11_cut 29 = .ok (.aload_n 0, 1) := by decide +kernel
theorem dX11_cut_30 : decode cX11_cut 30 = .ok (.iload 5, 2) := by decide +kernel
theorem dX11_cut_32 : decode cX11_cut 32 = .ok (.invokevirtual 64, 3) := by decide +kernel
theorem dX11_cut_35 : decode cX11_cut 35 = .ok (.ireturn, 1) := by decide +kernel
theorem dX11_cut_36 : decode cX11_cut 36 = .ok (.aload_n 0, 1) := by decide +kernel
theorem dX11_cut_37 : decode cX11_cut 37 = .ok (.getfield 28, 3) := by decide +kernel
theorem dX11_cut_40 : decode cX11_cut 40 = .ok (.aload_n 0, 1) := by decide +kernel
theorem dX11_cut_41 : decode cX11_cut 41 = .ok (.getfield 21, 3) := by decide +kernel
theorem dX11_cut_44 : decode cX11_cut 44 = .ok (.invokevirtual 213, 3) := by decide +kernel
theorem dX11_cut_47 : decode cX11_cut 47 = .ok (.aload_n 0, 1) := by decide +kernel
theorem dX11_cut_48 : decode cX11_cut 48 = .ok (.getfield 28, 3) := by decide +kernel
theorem dX11_cut_51 : decode cX11_cut 51 = .ok (.iload_n 3, 1) := by decide +kernel
theorem dX11_cut_52 : decode cX11_cut 52 = .ok (.iload 4, 2) := by decide +kernel
theorem dX11_cut_54 : decode cX11_cut 54 = .ok (.invokevirtual 217, 3) := by decide +kernel
theorem dX11_cut_57 : decode cX11_cut 57 = .ok (.ireturn, 1) := by decide +kernel
theorem dX11_volunteer_0 : decode cX11_volunteer 0 = .ok (.aload_n 0, 1) := by decide +kernel
theorem dX11_volunteer_1 : decode cX11_volunteer 1 = .ok (.getfield 10, 3) := by decide +kernel
theorem dX11_volunteer_4 : decode cX11_volunteer 4 = .ok (.iload_n 1, 1) := by decide +kernel
theorem dX11_volunteer_5 : decode cX11_volunteer 5 = .ok (.invokevirtual 134, 3) := by decide +kernel
theorem dX11_volunteer_8 : decode cX11_volunteer 8 = .ok (.astore_n 3, 1) := by decide +kernel
theorem dX11_volunteer_9 : decode cX11_volunteer 9 = .ok (.aload_n 3, 1) := by decide +kernel
theorem dX11_volunteer_10 : decode cX11_volunteer 10 = .ok (.ifnonnull 9, 3) := by decide +kernel
theorem dX11_volunteer_13 : decode cX11_volunteer 13 = .ok (.aload_n 0, 1) := by decide +kernel
theorem dX11_volunteer_14 : decode cX11_volunteer 14 = .ok (.iconst (-1), 1) := by decide +kernel
theorem dX11_volunteer_15 : decode cX11_volunteer 15 = .ok (.invokevirtual 138, 3) := by decide +kernel
theorem dX11_volunteer_18 : decode cX11_volunteer 18 = .ok (.ireturn, 1) := by decide +kernel
theorem dX11_volunteer_19 : decode cX11_volunteer 19 = .ok (.aload_n 3, 1) := by decide +kernel
theorem dX11_volunteer_20 : decode cX11_volunteer 20 = .ok (.invokevirtual 144, 3) := by decide +kernel
theorem dX11_volunteer_23 : decode cX11_volunteer 23 = .ok (.ifCond .ne 10, 3) := by decide +kernel
theorem dX11_volunteer_26 : decode cX11_volunteer 26 = .ok (.aload_n 0, 1) := by decide +kernel
theorem dX11_volunteer_27 : decode cX11_volunteer 27 = .ok (.bipush (-3), 2) := by decide +kernel
theorem dX11_volunteer_29 : decode cX11_volunteer 29 = .ok (.invokevirtual 138, 3) := by decide +kernel
theorem dX11_volunteer_32 : decode cX11_volunteer 32 = .ok (.ireturn, 1) := by decide +kernel
theorem dX11_volunteer_33 : decode cX11_volunteer 33 = .ok (.iload_n 2, 1) := by decide +kernel
theorem dX11_volunteer_34 : decode cX11_volunteer 34 = .ok (.iconst (-1), 1) := by decide +kernel
theorem dX11_volunteer_35 : decode cX11_volunteer 35 = .ok (.if_icmp .ge 10, 3) := by decide +kernel
theorem dX11_volunteer_38 : decode cX11_volunteer 38 = .ok (.aload_n 0, 1) := by decide +kernel
theorem dX11_volunteer_39 : decode cX11_volunteer 39 = .ok (.bipush (-4), 2) := by decide +kernel
theorem dX11_volunteer_41 : decode cX11_volunteer 41 = .ok (.invokevirtual 138, 3) := by decide +kernel
theorem dX11_volunteer_44 : decode cX11_volunteer 44 = .ok (.ireturn, 1) := by decide +kernel
theorem dX11_volunteer_45 : decode cX11_volunteer 45 = .ok (.iload_n 2, 1) := by decide +kernel
theorem dX11_volunteer_46 : decode cX11_volunteer 46 = .ok (.ldc 220, 2) := by decide +kernel
theorem dX11_volunteer_48 : decode cX11_volunteer 48 = .ok (.if_icmp .le 10, 3) := by decide +kernel
theorem dX11_volunteer_51 : decode cX11_volunteer 51 = .ok (.aload_n 0, 1) := by decide +kernel
theorem dX11_volunteer_52 : decode cX11_volunteer 52 = .ok (.bipush (-6), 2) := by decide +kernel
theorem dX11_volunteer_54 : decode cX11_volunteer 54 = .ok (.invokevirtual 138, 3) := by decide +kernel
theorem dX11_volunteer_57 : decode cX11_volunteer 57 = .ok (.ireturn, 1) := by decide +kernel
theorem dX11_volunteer_58 : decode cX11_volunteer 58 = .ok (.aload_n 3, 1) := by decide +kernel
theorem dX11_volunteer_59 : decode cX11_volunteer 59 = .ok (.getfield 221, 3) := by decide +kernel
theorem dX11_volunteer_62 : decode cX11_volunteer 62 = .ok (.istore 4, 2) := by decide +kernel
theorem dX11_volunteer_64 : decode cX11_volunteer 64 = .ok (.aload_n 3, 1) := by decide +kernel
theorem dX11_volunteer_65 : decode cX11_volunteer 65 = .ok (.iload_n 2, 1) := by decide +kernel
theorem dX11_volunteer_66 : decode cX11_volunteer 66 = .ok (.putfield 221, 3) := by decide +kernel
theorem dX11_volunteer_69 : decode cX11_volunteer 69 = .ok (.iload 4, 2) := by decide +kernel
theorem dX11_volunteer_71 : decode cX11_volunteer 71 = .ok (.ireturn, 1) := by decide +kernel
theorem dX11_severance_0 : decode cX11_severance 0 = .ok (.aload_n 0, 1) := by decide +kernel
theorem dX11_severance_1 : decode cX11_severance 1 = .ok (.getfield 10, 3) := by decide +kernel
theorem dX11_severance_4 : decode cX11_severance 4 = .ok (.iload_n 1, 1) := by decide +kernel
theorem dX11_severance_5 : decode cX11_severance 5 = .ok (.invokevirtual 134, 3) := by decide +kernel
theorem dX11_severance_8 : decode cX11_severance 8 = .ok (.astore_n 2, 1) := by decide +kernel
theorem dX11_severance_9 : decode cX11_severance 9 = .ok (.aload_n 2, 1) := by decide +kernel
theorem dX11_severance_10 : decode cX11_severance 10 = .ok (.ifnonnull 11, 3) := by decide +kernel
theorem dX11_severance_13 : decode cX11_severance 13 = .ok (.aload_n 0, 1) := by decide +kernel
theorem dX11_severance_14 : decode cX11_severance 14 = .ok (.iconst (-1), 1) := by decide +kernel
theorem dX11_severance_15 : decode cX11_severance 15 = .ok (.invokevirtual 64, 3) := by decide +kernel
theorem dX11_severance_18 : decode cX11_severance 18 = .ok (.goto 11, 3) := by decide +kernel
theorem dX11_severance_21 : decode cX11_severance 21 = .ok (.aload_n 0, 1) := by decide +kernel
theorem dX11_severance_22 : decode cX11_severance 22 = .ok (.getfield 10, 3) := by decide +kernel
theorem dX11_severance_25 : decode cX11_severance 25 = .ok (.aload_n 2, 1) := by decide +kernel
theorem dX11_severance_26 : decode cX11_severance 26 = .ok (.invokevirtual 224, 3) := by decide +kernel
theorem dX11_severance_29 : decode cX11_severance 29 = .ok (.ireturn, 1) := by decide +kernel
theorem dX11_choice_0 : decode cX11_choice 0 = .ok (.aload_n 0, 1) := by decide +kernel
theorem dX11_choice_1 : decode cX11_choice 1 = .ok (.getfield 21, 3) := by decide +kernel
theorem dX11_choice_4 : decode cX11_choice 4 = .ok (.iload_n 1, 1) := by decide +kernel
theorem dX11_choice_5 : decode cX11_choice 5 = .ok (.iload_n 2, 1) := by decide +kernel
theorem dX11_choice_6 : decode cX11_choice 6 = .ok (.invokevirtual 206, 3) := by decide +kernel
theorem dX11_choice_9 : decode cX11_choice 9 = .ok (.ifCond .ne 9, 3) := by decide +kernel
theorem dX11_choice_12 : decode cX11_choice 12 = .ok (.aload_n 0, 1) := by decide +kernel
theorem dX11_choice_13 : decode cX11_choice 13 = .ok (.iconst (-1), 1) := by decide +kernel
theorem dX11_choice_14 : decode cX11_choice 14 = .ok (.invokevirtual 64, 3) := by decide +kernel
theorem dX11_choice_17 : decode cX11_choice 17 = .ok (.ireturn, 1) := by decide +kernel
theorem dX11_choice_18 : decode cX11_choice 18 = .ok (.iload 4, 2) := by decide +kernel
theorem dX11_choice_20 : decode cX11_choice 20 = .ok (.ifCond .eq 16, 3) := by decide +kernel
theorem dX11_choice_23 : decode cX11_choice 23 = .ok (.iload 4, 2) := by decide +kernel
theorem dX11_choice_25 : decode cX11_choice 25 = .ok (.iconst 1, 1) := by decide +kernel
theorem dX11_choice_26 : decode cX11_choice 26 = .ok (.if_icmp .eq 10, 3) := by decide +kernel
theorem dX11_choice_29 : decode cX11_choice 29 = .ok (.aload_n 0, 1) := by decide +kernel
theorem dX11_choice_30 : decode cX11_choice 30 = .ok (.bipush (-2), 2) := by decide +kernel
theorem dX11_choice_32 : decode cX11_choice 32 = .ok (.invokevirtual 64, 3) := by decide +kernel
theorem dX11_choice_35 : decode cX11_choice 35 = .ok (.ireturn, 1) := by decide +kernel
theorem dX11_choice_36 : decode cX11_choice 36 = .ok (.aload_n 0, 1) := by decide +kernel
theorem dX11_choice_37 : decode cX11_choice 37 = .ok (.iload_n 3, 1) := by decide +kernel
theorem dX11_choice_38 : decode cX11_choice 38 = .ok (.invokevirtual 227, 3) := by decide +kernel
theorem dX11_choice_41 : decode cX11_choice 41 = .ok (.istore 5, 2) := by decide +kernel
theorem dX11_choice_43 : decode cX11_choice 43 = .ok (.iload 5, 2) := by decide +kernel
theorem dX11_choice_45 : decode cX11_choice 45 = .ok (.ifCond .eq 10, 3) := by decide +kernel
theorem dX11_choice_48 : decode cX11_choice 48 = .ok (.aload_n 0, 1) := by decide +kernel
theorem dX11_choice_49 : decode cX11_choice 49 = .ok (.iload 5, 2) := by decide +kernel
theorem dX11_choice_51 : decode cX11_choice 51 = .ok (.invokevirtual 64, 3) := by decide +kernel
theorem dX11_choice_54 : decode cX11_choice 54 = .ok (.ireturn, 1) := by decide +kernel
theorem dX11_choice_55 : decode cX11_choice 55 = .ok (.aload_n 0, 1) := by decide +kernel
theorem dX11_choice_56 : decode cX11_choice 56 = .ok (.getfield 35, 3) := by decide +kernel
theorem dX11_choice_59 : decode cX11_choice 59 = .ok (.aload_n 0, 1) := by decide +kernel
theorem dX11_choice_60 : decode cX11_choice 60 = .ok (.getfield 21, 3) := by decide +kernel
theorem dX11_choice_63 : decode cX11_choice 63 = .ok (.invokevirtual 230, 3) := by decide +kernel
theorem dX11_choice_66 : decode cX11_choice 66 = .ok (.aload_n 0, 1) := by decide +kernel
theorem dX11_choice_67 : decode cX11_choice 67 = .ok (.getfield 35, 3) := by decide +kernel
theorem dX11_choice_70 : decode cX11_choice 70 = .ok (.iload_n 3, 1) := by decide +kernel
theorem dX11_choice_71 : decode cX11_choice 71 = .ok (.invokevirtual 231, 3) := by decide +kernel
theorem dX11_choice_74 : decode cX11_choice 74 = .ok (.aload_n 0, 1) := by decide +kernel
theorem dX11_choice_75 : decode cX11_choice 75 = .ok (.getfield 35, 3) := by decide +kernel
theorem dX11_choice_78 : decode cX11_choice 78 = .ok (.getfield 234, 3) := by decide +kernel
theorem dX11_choice_81 : decode cX11_choice 81 = .ok (.ifCond .ne 6, 3) := by decide +kernel
theorem dX11_choice_84 : decode cX11_choice 84 = .ok (.bipush (-9), 2) := by decide +kernel
theorem dX11_choice_86 : decode cX11_choice 86 = .ok (.ireturn, 1) := by decide +kernel
theorem dX11_choice_87 : decode cX11_choice 87 = .ok (.iload 4, 2) := by decide +kernel
theorem dX11_choice_89 : decode cX11_choice 89 = .ok (.ifCond .ne 13, 3) := by decide +kernel
theorem dX11_choice_92 : decode cX11_choice 92 = .ok (.aload_n 0, 1) := by decide +kernel
theorem dX11_choice_93 : decode cX11_choice 93 = .ok (.getfield 35, 3) := by decide +kernel
theorem dX11_choice_96 : decode cX11_choice 96 = .ok (.getfield 237, 3) := by decide +kernel
theorem dX11_choice_99 : decode cX11_choice 99 = .ok (.goto 10, 3) := by decide +kernel
theorem dX11_choice_102 : decode cX11_choice 102 = .ok (.aload_n 0, 1) := by decide +kernel
theorem dX11_choice_103 : decode cX11_choice 103 = .ok (.getfield 35, 3) := by decide +kernel
theorem dX11_choice_106 : decode cX11_choice 106 = .ok (.getfield 240, 3) := by decide +kernel
theorem dX11_choice_109 : decode cX11_choice 109 = .ok (.ireturn, 1) := by decide +kernel
theorem dX11_chosen_0 : decode cX11_chosen 0 = .ok (.aload_n 0, 1) := by decide +kernel
theorem dX11_chosen_1 : decode cX11_chosen 1 = .ok (.getfield 10, 3) := by decide +kernel
theorem dX11_chosen_4 : decode cX11_chosen 4 = .ok (.iload 4, 2) := by decide +kernel
theorem dX11_chosen_6 : decode cX11_chosen 6 = .ok (.invokevirtual 134, 3) := by decide +kernel
theorem dX11_chosen_9 : decode cX11_chosen 9 = .ok (.astore 5, 2) := by decide +kernel
theorem dX11_chosen_11 : decode cX11_chosen 11 = .ok (.aload 5, 2) := by decide +kernel
theorem dX11_chosen_13 : decode cX11_chosen 13 = .ok (.ifnull 15, 3) := by decide +kernel
theorem dX11_chosen_16 : decode cX11_chosen 16 = .ok (.aload_n 0, 1) := by decide +kernel
theorem dX11_chosen_17 : decode cX11_chosen 17 = .ok (.getfield 21, 3) := by decide +kernel
theorem dX11_chosen_20 : decode cX11_chosen 20 = .ok (.iload_n 1, 1) := by decide +kernel
theorem dX11_chosen_21 : decode cX11_chosen 21 = .ok (.iload_n 2, 1) := by decide +kernel
theorem dX11_chosen_22 : decode cX11_chosen 22 = .ok (.invokevirtual 206, 3) := by decide +kernel
theorem dX11_chosen_25 : decode cX11_chosen 25 = .ok (.ifCond .ne 9, 3) := by decide +kernel
theorem dX11_chosen_28 : decode cX11_chosen 28 = .ok (.aload_n 0, 1) := by decide +kernel
theorem dX11_chosen_29 : decode cX11_chosen 29 = .ok (.iconst (-1), 1) := by decide +kernel
theorem dX11_chosen_30 : decode cX11_chosen 30 = .ok (.invokevirtual 64, 3) := by decide +kernel
theorem dX11_chosen_33 : decode cX11_chosen 33 = .ok (.ireturn, 1) := by decide +kernel
theorem dX11_chosen_34 : decode cX11_chosen 34 = .ok (.aload_n 0, 1) := by decide +kernel
theorem dX11_chosen_35 : decode cX11_chosen 35 = .ok (.iload_n 3, 1) := by decide +kernel
theorem dX11_chosen_36 : decode cX11_chosen 36 = .ok (.invokevirtual 227, 3) := by decide +kernel
theorem dX11_chosen_39 : decode cX11_chosen 39 = .ok (.istore 6, 2) := by decide +kernel
theorem dX11_chosen_41 : decode cX11_chosen 41 = .ok (.iload 6, 2) := by decide +kernel
theorem dX11_chosen_43 : decode cX11_chosen 43 = .ok (.ifCond .eq 10, 3) := by decide +kernel
theorem dX11_chosen_46 : decode cX11_chosen 46 = .ok (.aload_n 0, 1) := by decide +kernel
theorem dX11_chosen_47 : decode cX11_chosen 47 = .ok (.iload 6, 2) := by decide +kernel
theorem dX11_chosen_49 : decode cX11_chosen 49 = .ok (.invokevirtual 64, 3) := by decide +kernel
theorem dX11_chosen_52 : decode cX11_chosen 52 = .ok (.ireturn, 1) := by decide +kernel
theorem dX11_chosen_53 : decode cX11_chosen 53 = .ok (.aload_n 0, 1) := by decide +kernel
theorem dX11_chosen_54 : decode cX11_chosen 54 = .ok (.getfield 35, 3) := by decide +kernel
theorem dX11_chosen_57 : decode cX11_chosen 57 = .ok (.aload_n 0, 1) := by decide +kernel
theorem dX11_chosen_58 : decode cX11_chosen 58 = .ok (.getfield 21, 3) := by decide +kernel
theorem dX11_chosen_61 : decode cX11_chosen 61 = .ok (.invokevirtual 230, 3) := by decide +kernel
theorem dX11_chosen_64 : decode cX11_chosen 64 = .ok (.aload_n 0, 1) := by decide +kernel
theorem dX11_chosen_65 : decode cX11_chosen 65 = .ok (.getfield 35, 3) := by decide +kernel
theorem dX11_chosen_68 : decode cX11_chosen 68 = .ok (.iload_n 3, 1) := by decide +kernel
theorem dX11_chosen_69 : decode cX11_chosen 69 = .ok (.invokevirtual 231, 3) := by decide +kernel
theorem dX11_chosen_72 : decode cX11_chosen 72 = .ok (.aload_n 0, 1) := by decide +kernel
theorem dX11_chosen_73 : decode cX11_chosen 73 = .ok (.getfield 35, 3) := by decide +kernel
theorem dX11_chosen_76 : decode cX11_chosen 76 = .ok (.aload_n 0, 1) := by decide +kernel
theorem dX11_chosen_77 : decode cX11_chosen 77 = .ok (.getfield 21, 3) := by decide +kernel
theorem dX11_chosen_80 : decode cX11_chosen 80 = .ok (.aload 5, 2) := by decide +kernel
theorem dX11_chosen_82 : decode cX11_chosen 82 = .ok (.invokevirtual 243, 3) := by decide +kernel
theorem dX11_chosen_85 : decode cX11_chosen 85 = .ok (.invokevirtual 246, 3) := by decide +kernel
theorem dX11_chosen_88 : decode cX11_chosen 88 = .ok (.ifCond .eq 7, 3) := by decide +kernel
theorem dX11_chosen_91 : decode cX11_chosen 91 = .ok (.iconst 1, 1) := by decide +kernel
theorem dX11_chosen_92 : decode cX11_chosen 92 = .ok (.goto 4, 3) := by decide +kernel
theorem dX11_chosen_95 : decode cX11_chosen 95 = .ok (.iconst 0, 1) := by decide +kernel
theorem dX11_chosen_96 : decode cX11_chosen 96 = .ok (.ireturn, 1) := by decide +kernel
theorem dX11_chain_0 : decode cX11_chain 0 = .ok (.aload_n 0, 1) := by decide +kernel
theorem dX11_chain_1 : decode cX11_chain 1 = .ok (.getfield 10, 3) := by decide +kernel
theorem dX11_chain_4 : decode cX11_chain 4 = .ok (.iload_n 1, 1) := by decide +kernel
theorem dX11_chain_5 : decode cX11_chain 5 = .ok (.invokevirtual 134, 3) := by decide +kernel
theorem dX11_chain_8 : decode cX11_chain 8 = .ok (.astore_n 2, 1) := by decide +kernel
theorem dX11_chain_9 : decode cX11_chain 9 = .ok (.aload_n 2, 1) := by decide +kernel
theorem dX11_chain_10 : decode cX11_chain 10 = .ok (.ifnonnull 9, 3) := by decide +kernel
theorem dX11_chain_13 : decode cX11_chain 13 = .ok (.aload_n 0, 1) := by decide +kernel
theorem dX11_chain_14 : decode cX11_chain 14 = .ok (.iconst (-1), 1) := by decide +kernel
theorem dX11_chain_15 : decode cX11_chain 15 = .ok (.invokevirtual 64, 3) := by decide +kernel
theorem dX11_chain_18 : decode cX11_chain 18 = .ok (.ireturn, 1) := by decide +kernel
theorem dX11_chain_19 : decode cX11_chain 19 = .ok (.aload_n 2, 1) := by decide +kernel
theorem dX11_chain_20 : decode cX11_chain 20 = .ok (.getfield 151, 3) := by decide +kernel
theorem dX11_chain_23 : decode cX11_chain 23 = .ok (.ifnonnull 10, 3) := by decide +kernel
theorem dX11_chain_26 : decode cX11_chain 26 = .ok (.aload_n 0, 1) := by decide +kernel
theorem dX11_chain_27 : decode cX11_chain 27 = .ok (.bipush (-3), 2) := by decide +kernel
theorem dX11_chain_29 : decode cX11_chain 29 = .ok (.invokevirtual 64, 3) := by decide +kernel
theorem dX11_chain_32 : decode cX11_chain 32 = .ok (.ireturn, 1) := by decide +kernel
theorem dX11_chain_33 : decode cX11_chain 33 = .ok (.aload_n 0, 1) := by decide +kernel
theorem dX11_chain_34 : decode cX11_chain 34 = .ok (.getfield 42, 3) := by decide +kernel
theorem dX11_chain_37 : decode cX11_chain 37 = .ok (.aload_n 2, 1) := by decide +kernel
theorem dX11_chain_38 : decode cX11_chain 38 = .ok (.invokevirtual 249, 3) := by decide +kernel
theorem dX11_chain_41 : decode cX11_chain 41 = .ok (.aload_n 0, 1) := by decide +kernel
theorem dX11_chain_42 : decode cX11_chain 42 = .ok (.getfield 42, 3) := by decide +kernel
theorem dX11_chain_45 : decode cX11_chain 45 = .ok (.getfield 253, 3) := by decide +kernel
theorem dX11_chain_48 : decode cX11_chain 48 = .ok (.ireturn, 1) := by decide +kernel
theorem dX11_chainOf_0 : decode cX11_chainOf 0 = .ok (.aload_n 0, 1) := by decide +kernel
theorem dX11_chainOf_1 : decode cX11_chainOf 1 = .ok (.getfield 10, 3) := by decide +kernel
theorem dX11_chainOf_4 : decode cX11_chainOf 4 = .ok (.iload_n 1, 1) := by decide +kernel
theorem dX11_chainOf_5 : decode cX11_chainOf 5 = .ok (.invokevirtual 134, 3) := by decide +kernel
theorem dX11_chainOf_8 : decode cX11_chainOf 8 = .ok (.astore 4, 2) := by decide +kernel
theorem dX11_chainOf_10 : decode cX11_chainOf 10 = .ok (.aload 4, 2) := by decide +kernel
theorem dX11_chainOf_12 : decode cX11_chainOf 12 = .ok (.ifnonnull 9, 3) := by decide +kernel
theorem dX11_chainOf_15 : decode cX11_chainOf 15 = .ok (.aload_n 0, 1) := by decide +kernel
theorem dX11_chainOf_16 : decode cX11_chainOf 16 = .ok (.iconst (-1), 1) := by decide +kernel
theorem dX11_chainOf_17 : decode cX11_chainOf 17 = .ok (.invokevirtual 64, 3) := by decide +kernel
theorem dX11_chainOf_20 : decode cX11_chainOf 20 = .ok (.ireturn, 1) := by decide +kernel
theorem dX11_chainOf_21 : decode cX11_chainOf 21 = .ok (.iload_n 3, 1) := by decide +kernel
theorem dX11_chainOf_22 : decode cX11_chainOf 22 = .ok (.ifCond .lt 8, 3) := by decide +kernel
theorem dX11_chainOf_25 : decode cX11_chainOf 25 = .ok (.iload_n 3, 1) := by decide +kernel
theorem dX11_chainOf_26 : decode cX11_chainOf 26 = .ok (.iconst 3, 1) := by decide +kernel
theorem dX11_chainOf_27 : decode cX11_chainOf 27 = .ok (.if_icmp .le 10, 3) := by decide +kernel
theorem dX11_chainOf_30 : decode cX11_chainOf 30 = .ok (.aload_n 0, 1) := by decide +kernel
theorem dX11_chainOf_31 : decode cX11_chainOf 31 = .ok (.bipush (-2), 2) := by decide +kernel
theorem dX11_chainOf_33 : decode cX11_chainOf 33 = .ok (.invokevirtual 64, 3) := by decide +kernel
theorem dX11_chainOf_36 : decode cX11_chainOf 36 = .ok (.ireturn, 1) := by decide +kernel
theorem dX11_chainOf_37 : decode cX11_chainOf 37 = .ok (.aload 4, 2) := by decide +kernel
theorem dX11_chainOf_39 : decode cX11_chainOf 39 = .ok (.getfield 151, 3) := by decide +kernel
theorem dX11_chainOf_42 : decode cX11_chainOf 42 = .ok (.ifnonnull 10, 3) := by decide +kernel
theorem dX11_chainOf_45 : decode cX11_chainOf 45 = .ok (.aload_n 0, 1) := by decide +kernel
theorem dX11_chainOf_46 : decode cX11_chainOf 46 = .ok (.bipush (-3), 2) := by decide +kernel
theorem dX11_chainOf_48 : decode cX11_chainOf 48 = .ok (.invokevirtual 64, 3) := by decide +kernel
theorem dX11_chainOf_51 : decode cX11_chainOf 51 = .ok (.ireturn, 1) := by decide +kernel
theorem dX11_chainOf_52 : decode cX11_chainOf 52 = .ok (.aload_n 0, 1) := by decide +kernel
theorem dX11_chainOf_53 : decode cX11_chainOf 53 = .ok (.getfield 42, 3) := by decide +kernel
theorem dX11_chainOf_56 : decode cX11_chainOf 56 = .ok (.aload 4, 2) := by decide +kernel
theorem dX11_chainOf_58 : decode cX11_chainOf 58 = .ok (.invokevirtual 249, 3) := by decide +kernel
theorem dX11_chainOf_61 : decode cX11_chainOf 61 = .ok (.iload_n 3, 1) := by decide +kernel
theorem dX11_chainOf_62 : decode cX11_chainOf 62 = .ok (.iconst 3, 1) := by decide +kernel
theorem dX11_chainOf_63 : decode cX11_chainOf 63 = .ok (.if_icmp .ne 18, 3) := by decide +kernel
theorem dX11_chainOf_66 : decode cX11_chainOf 66 = .ok (.aload_n 0, 1) := by decide +kernel
theorem dX11_chainOf_67 : decode cX11_chainOf 67 = .ok (.getfield 42, 3) := by decide +kernel
theorem dX11_chainOf_70 : decode cX11_chainOf 70 = .ok (.aload_n 0, 1) := by decide +kernel
theorem dX11_chainOf_71 : decode cX11_chainOf 71 = .ok (.getfield 42, 3) := by decide +kernel
theorem dX11_chainOf_74 : decode cX11_chainOf 74 = .ok (.getfield 253, 3) := by decide +kernel
theorem dX11_chainOf_77 : decode cX11_chainOf 77 = .ok (.invokevirtual 256, 3) := by decide +kernel
theorem dX11_chainOf_80 : decode cX11_chainOf 80 = .ok (.ireturn, 1) := by decide +kernel
theorem dX11_chainOf_81 : decode cX11_chainOf 81 = .ok (.iload_n 2, 1) := by decide +kernel
theorem dX11_chainOf_82 : decode cX11_chainOf 82 = .ok (.ifCond .lt 14, 3) := by decide +kernel
theorem dX11_chainOf_85 : decode cX11_chainOf 85 = .ok (.iload_n 2, 1) := by decide +kernel
theorem dX11_chainOf_86 : decode cX11_chainOf 86 = .ok (.aload_n 0, 1) := by decide +kernel
theorem dX11_chainOf_87 : decode cX11_chainOf 87 = .ok (.getfield 42, 3) := by decide +kernel
theorem dX11_chainOf_90 : decode cX11_chainOf 90 = .ok (.getfield 253, 3) := by decide +kernel
theorem dX11_chainOf_93 : decode cX11_chainOf 93 = .ok (.if_icmp .lt 9, 3) := by decide +kernel
theorem dX11_chainOf_96 : decode cX11_chainOf 96 = .ok (.aload_n 0, 1) := by decide +kernel
theorem dX11_chainOf_97 : decode cX11_chainOf 97 = .ok (.iconst (-1), 1) := by decide +kernel
theorem dX11_chainOf_98 : decode cX11_chainOf 98 = .ok (.invokevirtual 64, 3) := by decide +kernel
theorem dX11_chainOf_101 : decode cX11_chainOf 101 = .ok (.ireturn, 1) := by decide +kernel
theorem dX11_chainOf_102 : decode cX11_chainOf 102 = .ok (.iload_n 3, 1) := by decide +kernel
theorem dX11_chainOf_103 : decode cX11_chainOf 103 = .ok (.iconst 1, 1) := by decide +kernel
theorem dX11_chainOf_104 : decode cX11_chainOf 104 = .ok (.if_icmp .ne 12, 3) := by decide +kernel
theorem dX11_chainOf_107 : decode cX11_chainOf 107 = .ok (.aload_n 0, 1) := by decide +kernel
theorem dX11_chainOf_108 : decode cX11_chainOf 108 = .ok (.getfield 42, 3) := by decide +kernel
theorem dX11_chainOf_111 : decode cX11_chainOf 111 = .ok (.iload_n 2, 1) := by decide +kernel
theorem dX11_chainOf_112 : decode cX11_chainOf 112 = .ok (.invokevirtual 259, 3) := by decide +kernel
theorem dX11_chainOf_115 : decode cX11_chainOf 115 = .ok (.ireturn, 1) := by decide +kernel
theorem dX11_chainOf_116 : decode cX11_chainOf 116 = .ok (.aload_n 0, 1) := by decide +kernel
theorem dX11_chainOf_117 : decode cX11_chainOf 117 = .ok (.getfield 42, 3) := by decide +kernel
theorem dX11_chainOf_120 : decode cX11_chainOf 120 = .ok (.iload_n 3, 1) := by decide +kernel
theorem dX11_chainOf_121 : decode cX11_chainOf 121 = .ok (.ifCond .ne 7, 3) := by decide +kernel
theorem dX11_chainOf_124 : decode cX11_chainOf 124 = .ok (.iload_n 2, 1) := by decide +kernel
theorem dX11_chainOf_125 : decode cX11_chainOf 125 = .ok (.goto 6, 3) := by decide +kernel
theorem dX11_chainOf_128 : decode cX11_chainOf 128 = .ok (.iload_n 2, 1) := by decide +kernel
theorem dX11_chainOf_129 : decode cX11_chainOf 129 = .ok (.iconst 1, 1) := by decide +kernel
theorem dX11_chainOf_130 : decode cX11_chainOf 130 = .ok (.iadd, 1) := by decide +kernel
theorem dX11_chainOf_131 : decode cX11_chainOf 131 = .ok (.invokevirtual 256, 3) := by decide +kernel
theorem dX11_chainOf_134 : decode cX11_chainOf 134 = .ok (.ireturn, 1) := by decide +kernel
theorem dX11_leaver_0 : decode cX11_leaver 0 = .ok (.aload_n 0, 1) := by decide +kernel
theorem dX11_leaver_1 : decode cX11_leaver 1 = .ok (.getfield 10, 3) := by decide +kernel
theorem dX11_leaver_4 : decode cX11_leaver 4 = .ok (.iload_n 1, 1) := by decide +kernel
theorem dX11_leaver_5 : decode cX11_leaver 5 = .ok (.invokevirtual 134, 3) := by decide +kernel
theorem dX11_leaver_8 : decode cX11_leaver 8 = .ok (.astore_n 2, 1) := by decide +kernel
theorem dX11_leaver_9 : decode cX11_leaver 9 = .ok (.aload_n 2, 1) := by decide +kernel
theorem dX11_leaver_10 : decode cX11_leaver 10 = .ok (.ifnonnull 9, 3) := by decide +kernel
theorem dX11_leaver_13 : decode cX11_leaver 13 = .ok (.aload_n 0, 1) := by decide +kernel
theorem dX11_leaver_14 : decode cX11_leaver 14 = .ok (.iconst (-1), 1) := by decide +kernel
theorem dX11_leaver_15 : decode cX11_leaver 15 = .ok (.invokevirtual 64, 3) := by decide +kernel
theorem dX11_leaver_18 : decode cX11_leaver 18 = .ok (.ireturn, 1) := by decide +kernel
theorem dX11_leaver_19 : decode cX11_leaver 19 = .ok (.aload_n 2, 1) := by decide +kernel
theorem dX11_leaver_20 : decode cX11_leaver 20 = .ok (.invokevirtual 144, 3) := by decide +kernel
theorem dX11_leaver_23 : decode cX11_leaver 23 = .ok (.ifCond .eq 14, 3) := by decide +kernel
theorem dX11_leaver_26 : decode cX11_leaver 26 = .ok (.aload_n 0, 1) := by decide +kernel
theorem dX11_leaver_27 : decode cX11_leaver 27 = .ok (.getfield 49, 3) := by decide +kernel
theorem dX11_leaver_30 : decode cX11_leaver 30 = .ok (.aload_n 2, 1) := by decide +kernel
theorem dX11_leaver_31 : decode cX11_leaver 31 = .ok (.invokevirtual 262, 3) := by decide +kernel
theorem dX11_leaver_34 : decode cX11_leaver 34 = .ok (.ifCond .eq 10, 3) := by decide +kernel
theorem dX11_leaver_37 : decode cX11_leaver 37 = .ok (.aload_n 0, 1) := by decide +kernel
theorem dX11_leaver_38 : decode cX11_leaver 38 = .ok (.bipush (-3), 2) := by decide +kernel
theorem dX11_leaver_40 : decode cX11_leaver 40 = .ok (.invokevirtual 64, 3) := by decide +kernel
theorem dX11_leaver_43 : decode cX11_leaver 43 = .ok (.ireturn, 1) := by decide +kernel
theorem dX11_leaver_44 : decode cX11_leaver 44 = .ok (.aload_n 0, 1) := by decide +kernel
theorem dX11_leaver_45 : decode cX11_leaver 45 = .ok (.getfield 49, 3) := by decide +kernel
theorem dX11_leaver_48 : decode cX11_leaver 48 = .ok (.getfield 265, 3) := by decide +kernel
theorem dX11_leaver_51 : decode cX11_leaver 51 = .ok (.bipush 8, 2) := by decide +kernel
theorem dX11_leaver_53 : decode cX11_leaver 53 = .ok (.if_icmp .lt 10, 3) := by decide +kernel
theorem dX11_leaver_56 : decode cX11_leaver 56 = .ok (.aload_n 0, 1) := by decide +kernel
theorem dX11_leaver_57 : decode cX11_leaver 57 = .ok (.bipush (-6), 2) := by decide +kernel
theorem dX11_leaver_59 : decode cX11_leaver 59 = .ok (.invokevirtual 64, 3) := by decide +kernel
theorem dX11_leaver_62 : decode cX11_leaver 62 = .ok (.ireturn, 1) := by decide +kernel
theorem dX11_leaver_63 : decode cX11_leaver 63 = .ok (.aload_n 0, 1) := by decide +kernel
theorem dX11_leaver_64 : decode cX11_leaver 64 = .ok (.getfield 49, 3) := by decide +kernel
theorem dX11_leaver_67 : decode cX11_leaver 67 = .ok (.aload_n 2, 1) := by decide +kernel
theorem dX11_leaver_68 : decode cX11_leaver 68 = .ok (.invokevirtual 268, 3) := by decide +kernel
theorem dX11_leaver_71 : decode cX11_leaver 71 = .ok (.ireturn, 1) := by decide +kernel
theorem dX11_clear_0 : decode cX11_clear 0 = .ok (.aload_n 0, 1) := by decide +kernel
theorem dX11_clear_1 : decode cX11_clear 1 = .ok (.getfield 49, 3) := by decide +kernel
theorem dX11_clear_4 : decode cX11_clear 4 = .ok (.getfield 265, 3) := by decide +kernel
theorem dX11_clear_7 : decode cX11_clear 7 = .ok (.istore_n 1, 1) := by decide +kernel
theorem dX11_clear_8 : decode cX11_clear 8 = .ok (.aload_n 0, 1) := by decide +kernel
theorem dX11_clear_9 : decode cX11_clear 9 = .ok (.getfield 49, 3) := by decide +kernel
theorem dX11_clear_12 : decode cX11_clear 12 = .ok (.iconst 0, 1) := by decide +kernel
theorem dX11_clear_13 : decode cX11_clear 13 = .ok (.putfield 265, 3) := by decide +kernel
theorem dX11_clear_16 : decode cX11_clear 16 = .ok (.iload_n 1, 1) := by decide +kernel
theorem dX11_clear_17 : decode cX11_clear 17 = .ok (.ireturn, 1) := by decide +kernel
theorem dX11_fit_0 : decode cX11_fit 0 = .ok (.aload_n 0, 1) := by decide +kernel
theorem dX11_fit_1 : decode cX11_fit 1 = .ok (.getfield 10, 3) := by decide +kernel
theorem dX11_fit_4 : decode cX11_fit 4 = .ok (.iload_n 1, 1) := by decide +kernel
theorem dX11_fit_5 : decode cX11_fit 5 = .ok (.invokevirtual 134, 3) := by decide +kernel
theorem dX11_fit_8 : decode cX11_fit 8 = .ok (.astore_n 3, 1) := by decide +kernel
theorem dX11_fit_9 : decode cX11_fit 9 = .ok (.aload_n 0, 1) := by decide +kernel
theorem dX11_fit_10 : decode cX11_fit 10 = .ok (.getfield 10, 3) := by decide +kernel
theorem dX11_fit_13 : decode cX11_fit 13 = .ok (.iload_n 2, 1) := by decide +kernel
theorem dX11_fit_14 : decode cX11_fit 14 = .ok (.invokevirtual 94, 3) := by decide +kernel
theorem dX11_fit_17 : decode cX11_fit 17 = .ok (.astore 4, 2) := by decide +kernel
theorem dX11_fit_19 : decode cX11_fit 19 = .ok (.aload_n 3, 1) := by decide +kernel
theorem dX11_fit_20 : decode cX11_fit 20 = .ok (.ifnull 8, 3) := by decide +kernel
theorem dX11_fit_23 : decode cX11_fit 23 = .ok (.aload 4, 2) := by decide +kernel
theorem dX11_fit_25 : decode cX11_fit 25 = .ok (.ifnonnull 9, 3) := by decide +kernel
theorem dX11_fit_28 : decode cX11_fit 28 = .ok (.aload_n 0, 1) := by decide +kernel
theorem dX11_fit_29 : decode cX11_fit 29 = .ok (.iconst (-1), 1) := by decide +kernel
theorem dX11_fit_30 : decode cX11_fit 30 = .ok (.invokevirtual 138, 3) := by decide +kernel
theorem dX11_fit_33 : decode cX11_fit 33 = .ok (.ireturn, 1) := by decide +kernel
theorem dX11_fit_34 : decode cX11_fit 34 = .ok (.aload_n 0, 1) := by decide +kernel
theorem dX11_fit_35 : decode cX11_fit 35 = .ok (.getfield 10, 3) := by decide +kernel
theorem dX11_fit_38 : decode cX11_fit 38 = .ok (.aload_n 3, 1) := by decide +kernel
theorem dX11_fit_39 : decode cX11_fit 39 = .ok (.aload 4, 2) := by decide +kernel
theorem dX11_fit_41 : decode cX11_fit 41 = .ok (.invokevirtual 271, 3) := by decide +kernel
theorem dX11_fit_44 : decode cX11_fit 44 = .ok (.ireturn, 1) := by decide +kernel
theorem dX11_offers_0 : decode cX11_offers 0 = .ok (.iload_n 1, 1) := by decide +kernel
theorem dX11_offers_1 : decode cX11_offers 1 = .ok (.ifCond .lt 8, 3) := by decide +kernel
theorem dX11_offers_4 : decode cX11_offers 4 = .ok (.iload_n 1, 1) := by decide +kernel
theorem dX11_offers_5 : decode cX11_offers 5 = .ok (.iconst 2, 1) := by decide +kernel
theorem dX11_offers_6 : decode cX11_offers 6 = .ok (.if_icmp .le 10, 3) := by decide +kernel
theorem dX11_offers_9 : decode cX11_offers 9 = .ok (.aload_n 0, 1) := by decide +kernel
theorem dX11_offers_10 : decode cX11_offers 10 = .ok (.bipush (-2), 2) := by decide +kernel
theorem dX11_offers_12 : decode cX11_offers 12 = .ok (.invokevirtual 64, 3) := by decide +kernel
theorem dX11_offers_15 : decode cX11_offers 15 = .ok (.ireturn, 1) := by decide +kernel
theorem dX11_offers_16 : decode cX11_offers 16 = .ok (.aload_n 0, 1) := by decide +kernel
theorem dX11_offers_17 : decode cX11_offers 17 = .ok (.getfield 49, 3) := by decide +kernel
theorem dX11_offers_20 : decode cX11_offers 20 = .ok (.invokevirtual 275, 3) := by decide +kernel
theorem dX11_offers_23 : decode cX11_offers 23 = .ok (.aload_n 0, 1) := by decide +kernel
theorem dX11_offers_24 : decode cX11_offers 24 = .ok (.getfield 49, 3) := by decide +kernel
theorem dX11_offers_27 : decode cX11_offers 27 = .ok (.iload_n 1, 1) := by decide +kernel
theorem dX11_offers_28 : decode cX11_offers 28 = .ok (.invokevirtual 278, 3) := by decide +kernel
theorem dX11_offers_31 : decode cX11_offers 31 = .ok (.ireturn, 1) := by decide +kernel
theorem dX11_offered_0 : decode cX11_offered 0 = .ok (.iload_n 1, 1) := by decide +kernel
theorem dX11_offered_1 : decode cX11_offered 1 = .ok (.ifCond .lt 14, 3) := by decide +kernel
theorem dX11_offered_4 : decode cX11_offered 4 = .ok (.iload_n 1, 1) := by decide +kernel
theorem dX11_offered_5 : decode cX11_offered 5 = .ok (.aload_n 0, 1) := by decide +kernel
theorem dX11_offered_6 : decode cX11_offered 6 = .ok (.getfield 49, 3) := by decide +kernel
theorem dX11_offered_9 : decode cX11_offered 9 = .ok (.getfield 265, 3) := by decide +kernel
theorem dX11_offered_12 : decode cX11_offered 12 = .ok (.if_icmp .lt 9, 3) := by decide +kernel
theorem dX11_offered_15 : decode cX11_offered 15 = .ok (.aload_n 0, 1) := by decide +kernel
theorem dX11_offered_16 : decode cX11_offered 16 = .ok (.iconst (-1), 1) := by decide +kernel
theorem dX11_offered_17 : decode cX11_offered 17 = .ok (.invokevirtual 64, 3) := by decide +kernel
theorem dX11_offered_20 : decode cX11_offered 20 = .ok (.ireturn, 1) := by decide +kernel
theorem dX11_offered_21 : decode cX11_offered 21 = .ok (.aload_n 0, 1) := by decide +kernel
theorem dX11_offered_22 : decode cX11_offered 22 = .ok (.getfield 49, 3) := by decide +kernel
theorem dX11_offered_25 : decode cX11_offered 25 = .ok (.invokevirtual 275, 3) := by decide +kernel
theorem dX11_offered_28 : decode cX11_offered 28 = .ok (.aload_n 0, 1) := by decide +kernel
theorem dX11_offered_29 : decode cX11_offered 29 = .ok (.getfield 49, 3) := by decide +kernel
theorem dX11_offered_32 : decode cX11_offered 32 = .ok (.iload_n 1, 1) := by decide +kernel
theorem dX11_offered_33 : decode cX11_offered 33 = .ok (.invokevirtual 281, 3) := by decide +kernel
theorem dX11_offered_36 : decode cX11_offered 36 = .ok (.ireturn, 1) := by decide +kernel
theorem dX11_ends_0 : decode cX11_ends 0 = .ok (.iload_n 1, 1) := by decide +kernel
theorem dX11_ends_1 : decode cX11_ends 1 = .ok (.invokestatic 284, 3) := by decide +kernel
theorem dX11_ends_4 : decode cX11_ends 4 = .ok (.ifCond .ne 9, 3) := by decide +kernel
theorem dX11_ends_7 : decode cX11_ends 7 = .ok (.aload_n 0, 1) := by decide +kernel
theorem dX11_ends_8 : decode cX11_ends 8 = .ok (.iconst (-1), 1) := by decide +kernel
theorem dX11_ends_9 : decode cX11_ends 9 = .ok (.invokevirtual 64, 3) := by decide +kernel
theorem dX11_ends_12 : decode cX11_ends 12 = .ok (.ireturn, 1) := by decide +kernel
theorem dX11_ends_13 : decode cX11_ends 13 = .ok (.iload_n 2, 1) := by decide +kernel
theorem dX11_ends_14 : decode cX11_ends 14 = .ok (.ifCond .lt 8, 3) := by decide +kernel
theorem dX11_ends_17 : decode cX11_ends 17 = .ok (.iload_n 3, 1) := by decide +kernel
theorem dX11_ends_18 : decode cX11_ends 18 = .ok (.iconst 1, 1) := by decide +kernel
theorem dX11_ends_19 : decode cX11_ends 19 = .ok (.if_icmp .ge 10, 3) := by decide +kernel
theorem dX11_ends_22 : decode cX11_ends 22 = .ok (.aload_n 0, 1) := by decide +kernel
theorem dX11_ends_23 : decode cX11_ends 23 = .ok (.bipush (-4), 2) := by decide +kernel
theorem dX11_ends_25 : decode cX11_ends 25 = .ok (.invokevirtual 64, 3) := by decide +kernel
theorem dX11_ends_28 : decode cX11_ends 28 = .ok (.ireturn, 1) := by decide +kernel
theorem dX11_ends_29 : decode cX11_ends 29 = .ok (.iload_n 2, 1) := by decide +kernel
theorem dX11_ends_30 : decode cX11_ends 30 = .ok (.sipush 3000, 3) := by decide +kernel
theorem dX11_ends_33 : decode cX11_ends 33 = .ok (.if_icmp .gt 22, 3) := by decide +kernel
theorem dX11_ends_36 : decode cX11_ends 36 = .ok (.iload_n 3, 1) := by decide +kernel
theorem dX11_ends_37 : decode cX11_ends 37 = .ok (.sipush 500, 3) := by decide +kernel
theorem dX11_ends_40 : decode cX11_ends 40 = .ok (.if_icmp .gt 15, 3) := by decide +kernel
theorem dX11_ends_43 : decode cX11_ends 43 = .ok (.aload_n 0, 1) := by decide +kernel
theorem dX11_ends_44 : decode cX11_ends 44 = .ok (.getfield 56, 3) := by decide +kernel
theorem dX11_ends_47 : decode cX11_ends 47 = .ok (.getfield 287, 3) := by decide +kernel
theorem dX11_ends_50 : decode cX11_ends 50 = .ok (.bipush 60, 2) := by decide +kernel
theorem dX11_ends_52 : decode cX11_ends 52 = .ok (.if_icmp .lt 10, 3) := by decide +kernel
theorem dX11_ends_55 : decode cX11_ends 55 = .ok (.aload_n 0, 1) := by decide +kernel
theorem dX11_ends_56 : decode cX11_ends 56 = .ok (.bipush (-6), 2) := by decide +kernel
theorem dX11_ends_58 : decode cX11_ends 58 = .ok (.invokevirtual 64, 3) := by decide +kernel
theorem dX11_ends_61 : decode cX11_ends 61 = .ok (.ireturn, 1) := by decide +kernel
theorem dX11_ends_62 : decode cX11_ends 62 = .ok (.aload_n 0, 1) := by decide +kernel
theorem dX11_ends_63 : decode cX11_ends 63 = .ok (.getfield 56, 3) := by decide +kernel
theorem dX11_ends_66 : decode cX11_ends 66 = .ok (.iload_n 1, 1) := by decide +kernel
theorem dX11_ends_67 : decode cX11_ends 67 = .ok (.iload_n 2, 1) := by decide +kernel
theorem dX11_ends_68 : decode cX11_ends 68 = .ok (.iload_n 3, 1) := by decide +kernel
theorem dX11_ends_69 : decode cX11_ends 69 = .ok (.invokevirtual 290, 3) := by decide +kernel
theorem dX11_ends_72 : decode cX11_ends 72 = .ok (.ireturn, 1) := by decide +kernel
theorem dX11_notice_0 : decode cX11_notice 0 = .ok (.iload_n 1, 1) := by decide +kernel
theorem dX11_notice_1 : decode cX11_notice 1 = .ok (.invokestatic 284, 3) := by decide +kernel
theorem dX11_notice_4 : decode cX11_notice 4 = .ok (.ifCond .ne 9, 3) := by decide +kernel
theorem dX11_notice_7 : decode cX11_notice 7 = .ok (.aload_n 0, 1) := by decide +kernel
theorem dX11_notice_8 : decode cX11_notice 8 = .ok (.iconst (-1), 1) := by decide +kernel
theorem dX11_notice_9 : decode cX11_notice 9 = .ok (.invokevirtual 64, 3) := by decide +kernel
theorem dX11_notice_12 : decode cX11_notice 12 = .ok (.ireturn, 1) := by decide +kernel
theorem dX11_notice_13 : decode cX11_notice 13 = .ok (.iload_n 2, 1) := by decide +kernel
theorem dX11_notice_14 : decode cX11_notice 14 = .ok (.ifCond .ge 10, 3) := by decide +kernel
theorem dX11_notice_17 : decode cX11_notice 17 = .ok (.aload_n 0, 1) := by decide +kernel
theorem dX11_notice_18 : decode cX11_notice 18 = .ok (.bipush (-4), 2) := by decide +kernel
theorem dX11_notice_20 : decode cX11_notice 20 = .ok (.invokevirtual 64, 3) := by decide +kernel
theorem dX11_notice_23 : decode cX11_notice 23 = .ok (.ireturn, 1) := by decide +kernel
theorem dX11_notice_24 : decode cX11_notice 24 = .ok (.iload_n 2, 1) := by decide +kernel
theorem dX11_notice_25 : decode cX11_notice 25 = .ok (.sipush 3000, 3) := by decide +kernel
theorem dX11_notice_28 : decode cX11_notice 28 = .ok (.if_icmp .le 10, 3) := by decide +kernel
theorem dX11_notice_31 : decode cX11_notice 31 = .ok (.aload_n 0, 1) := by decide +kernel
theorem dX11_notice_32 : decode cX11_notice 32 = .ok (.bipush (-6), 2) := by decide +kernel
theorem dX11_notice_34 : decode cX11_notice 34 = .ok (.invokevirtual 64, 3) := by decide +kernel
theorem dX11_notice_37 : decode cX11_notice 37 = .ok (.ireturn, 1) := by decide +kernel
theorem dX11_notice_38 : decode cX11_notice 38 = .ok (.aload_n 0, 1) := by decide +kernel
theorem dX11_notice_39 : decode cX11_notice 39 = .ok (.getfield 56, 3) := by decide +kernel
theorem dX11_notice_42 : decode cX11_notice 42 = .ok (.iload_n 1, 1) := by decide +kernel
theorem dX11_notice_43 : decode cX11_notice 43 = .ok (.iload_n 2, 1) := by decide +kernel
theorem dX11_notice_44 : decode cX11_notice 44 = .ok (.invokevirtual 294, 3) := by decide +kernel
theorem dX11_notice_47 : decode cX11_notice 47 = .ok (.invokestatic 297, 3) := by decide +kernel
theorem dX11_notice_50 : decode cX11_notice 50 = .ok (.invokestatic 300, 3) := by decide +kernel
theorem dX11_notice_53 : decode cX11_notice 53 = .ok (.ireturn, 1) := by decide +kernel
theorem dX11_weeks_0 : decode cX11_weeks 0 = .ok (.iload_n 1, 1) := by decide +kernel
theorem dX11_weeks_1 : decode cX11_weeks 1 = .ok (.invokestatic 284, 3) := by decide +kernel
theorem dX11_weeks_4 : decode cX11_weeks 4 = .ok (.ifCond .ne 9, 3) := by decide +kernel
theorem dX11_weeks_7 : decode cX11_weeks 7 = .ok (.aload_n 0, 1) := by decide +kernel
theorem dX11_weeks_8 : decode cX11_weeks 8 = .ok (.iconst (-1), 1) := by decide +kernel
theorem dX11_weeks_9 : decode cX11_weeks 9 = .ok (.invokevirtual 64, 3) := by decide +kernel
theorem dX11_weeks_12 : decode cX11_weeks 12 = .ok (.ireturn, 1) := by decide +kernel
theorem dX11_weeks_13 : decode cX11_weeks 13 = .ok (.iload_n 2, 1) := by decide +kernel
theorem dX11_weeks_14 : decode cX11_weeks 14 = .ok (.iload_n 3, 1) := by decide +kernel
theorem dX11_weeks_15 : decode cX11_weeks 15 = .ok (.iload 4, 2) := by decide +kernel
theorem dX11_weeks_17 : decode cX11_weeks 17 = .ok (.iload 5, 2) := by decide +kernel
theorem dX11_weeks_19 : decode cX11_weeks 19 = .ok (.invokestatic 303, 3) := by decide +kernel
theorem dX11_weeks_22 : decode cX11_weeks 22 = .ok (.istore 6, 2) := by decide +kernel
theorem dX11_weeks_24 : decode cX11_weeks 24 = .ok (.iload 6, 2) := by decide +kernel
theorem dX11_weeks_26 : decode cX11_weeks 26 = .ok (.ifCond .eq 10, 3) := by decide +kernel
theorem dX11_weeks_29 : decode cX11_weeks 29 = .ok (.aload_n 0, 1) := by decide +kernel
theorem dX11_weeks_30 : decode cX11_weeks 30 = .ok (.iload 6, 2) := by decide +kernel
theorem dX11_weeks_32 : decode cX11_weeks 32 = .ok (.invokevirtual 64, 3) := by decide +kernel
theorem dX11_weeks_35 : decode cX11_weeks 35 = .ok (.ireturn, 1) := by decide +kernel
theorem dX11_weeks_36 : decode cX11_weeks 36 = .ok (.aload_n 0, 1) := by decide +kernel
theorem dX11_weeks_37 : decode cX11_weeks 37 = .ok (.getfield 56, 3) := by decide +kernel
theorem dX11_weeks_40 : decode cX11_weeks 40 = .ok (.iload_n 1, 1) := by decide +kernel
theorem dX11_weeks_41 : decode cX11_weeks 41 = .ok (.aload_n 0, 1) := by decide +kernel
theorem dX11_weeks_42 : decode cX11_weeks 42 = .ok (.getfield 10, 3) := by decide +kernel
theorem dX11_weeks_45 : decode cX11_weeks 45 = .ok (.getfield 68, 3) := by decide +kernel
theorem dX11_weeks_48 : decode cX11_weeks 48 = .ok (.iload_n 2, 1) := by decide +kernel
theorem dX11_weeks_49 : decode cX11_weeks 49 = .ok (.iload_n 3, 1) := by decide +kernel
theorem dX11_weeks_50 : decode cX11_weeks 50 = .ok (.iload 4, 2) := by decide +kernel
theorem dX11_weeks_52 : decode cX11_weeks 52 = .ok (.invokevirtual 307, 3) := by decide +kernel
theorem dX11_weeks_55 : decode cX11_weeks 55 = .ok (.aload_n 0, 1) := by decide +kernel
theorem dX11_weeks_56 : decode cX11_weeks 56 = .ok (.getfield 56, 3) := by decide +kernel
theorem dX11_weeks_59 : decode cX11_weeks 59 = .ok (.invokevirtual 311, 3) := by decide +kernel
theorem dX11_weeks_62 : decode cX11_weeks 62 = .ok (.iload 5, 2) := by decide +kernel
theorem dX11_weeks_64 : decode cX11_weeks 64 = .ok (.imul, 1) := by decide +kernel
theorem dX11_weeks_65 : decode cX11_weeks 65 = .ok (.ireturn, 1) := by decide +kernel
theorem dX11_weekOf_0 : decode cX11_weekOf 0 = .ok (.iload_n 1, 1) := by decide +kernel
theorem dX11_weekOf_1 : decode cX11_weekOf 1 = .ok (.invokestatic 284, 3) := by decide +kernel
theorem dX11_weekOf_4 : decode cX11_weekOf 4 = .ok (.ifCond .eq 14, 3) := by decide +kernel
theorem dX11_weekOf_7 : decode cX11_weekOf 7 = .ok (.iload 6, 2) := by decide +kernel
theorem dX11_weekOf_9 : decode cX11_weekOf 9 = .ok (.ifCond .lt 9, 3) := by decide +kernel
theorem dX11_weekOf_12 : decode cX11_weekOf 12 = .ok (.iload 6, 2) := by decide +kernel
theorem dX11_weekOf_14 : decode cX11_weekOf 14 = .ok (.iload_n 3, 1) := by decide +kernel
theorem dX11_weekOf_15 : decode cX11_weekOf 15 = .ok (.if_icmp .lt 9, 3) := by decide +kernel
theorem dX11_weekOf_18 : decode cX11_weekOf 18 = .ok (.aload_n 0, 1) := by decide +kernel
theorem dX11_weekOf_19 : decode cX11_weekOf 19 = .ok (.iconst (-1), 1) := by decide +kernel
theorem dX11_weekOf_20 : decode cX11_weekOf 20 = .ok (.invokevirtual 64, 3) := by decide +kernel
theorem dX11_weekOf_23 : decode cX11_weekOf 23 = .ok (.ireturn, 1) := by decide +kernel
theorem dX11_weekOf_24 : decode cX11_weekOf 24 = .ok (.iload_n 2, 1) := by decide +kernel
theorem dX11_weekOf_25 : decode cX11_weekOf 25 = .ok (.iload_n 3, 1) := by decide +kernel
theorem dX11_weekOf_26 : decode cX11_weekOf 26 = .ok (.iload 4, 2) := by decide +kernel
theorem dX11_weekOf_28 : decode cX11_weekOf 28 = .ok (.iload 5, 2) := by decide +kernel
theorem dX11_weekOf_30 : decode cX11_weekOf 30 = .ok (.invokestatic 303, 3) := by decide +kernel
theorem dX11_weekOf_33 : decode cX11_weekOf 33 = .ok (.istore 7, 2) := by decide +kernel
theorem dX11_weekOf_35 : decode cX11_weekOf 35 = .ok (.iload 7, 2) := by decide +kernel
theorem dX11_weekOf_37 : decode cX11_weekOf 37 = .ok (.ifCond .eq 10, 3) := by decide +kernel
theorem dX11_weekOf_40 : decode cX11_weekOf 40 = .ok (.aload_n 0, 1) := by decide +kernel
theorem dX11_weekOf_41 : decode cX11_weekOf 41 = .ok (.iload 7, 2) := by decide +kernel
theorem dX11_weekOf_43 : decode cX11_weekOf 43 = .ok (.invokevirtual 64, 3) := by decide +kernel
theorem dX11_weekOf_46 : decode cX11_weekOf 46 = .ok (.ireturn, 1) := by decide +kernel
theorem dX11_weekOf_47 : decode cX11_weekOf 47 = .ok (.aload_n 0, 1) := by decide +kernel
theorem dX11_weekOf_48 : decode cX11_weekOf 48 = .ok (.getfield 56, 3) := by decide +kernel
theorem dX11_weekOf_51 : decode cX11_weekOf 51 = .ok (.iload_n 1, 1) := by decide +kernel
theorem dX11_weekOf_52 : decode cX11_weekOf 52 = .ok (.aload_n 0, 1) := by decide +kernel
theorem dX11_weekOf_53 : decode cX11_weekOf 53 = .ok (.getfield 10, 3) := by decide +kernel
theorem dX11_weekOf_56 : decode cX11_weekOf 56 = .ok (.getfield 68, 3) := by decide +kernel
theorem dX11_weekOf_59 : decode cX11_weekOf 59 = .ok (.iload_n 2, 1) := by decide +kernel
theorem dX11_weekOf_60 : decode cX11_weekOf 60 = .ok (.iload_n 3, 1) := by decide +kernel
theorem dX11_weekOf_61 : decode cX11_weekOf 61 = .ok (.iload 4, 2) := by decide +kernel
theorem dX11_weekOf_63 : decode cX11_weekOf 63 = .ok (.invokevirtual 307, 3) := by decide +kernel
theorem dX11_weekOf_66 : decode cX11_weekOf 66 = .ok (.aload_n 0, 1) := by decide +kernel
theorem dX11_weekOf_67 : decode cX11_weekOf 67 = .ok (.getfield 56, 3) := by decide +kernel
theorem dX11_weekOf_70 : decode cX11_weekOf 70 = .ok (.iload 6, 2) := by decide +kernel
theorem dX11_weekOf_72 : decode cX11_weekOf 72 = .ok (.invokevirtual 315, 3) := by decide +kernel
theorem dX11_weekOf_75 : decode cX11_weekOf 75 = .ok (.ireturn, 1) := by decide +kernel
theorem dX11_turning_0 : decode cX11_turning 0 = .ok (.aload_n 0, 1) := by decide +kernel
theorem dX11_turning_1 : decode cX11_turning 1 = .ok (.getfield 10, 3) := by decide +kernel
theorem dX11_turning_4 : decode cX11_turning 4 = .ok (.iload 4, 2) := by decide +kernel
theorem dX11_turning_6 : decode cX11_turning 6 = .ok (.invokevirtual 134, 3) := by decide +kernel
theorem dX11_turning_9 : decode cX11_turning 9 = .ok (.astore 6, 2) := by decide +kernel
theorem dX11_turning_11 : decode cX11_turning 11 = .ok (.aload 6, 2) := by decide +kernel
theorem dX11_turning_13 : decode cX11_turning 13 = .ok (.ifnull 15, 3) := by decide +kernel
theorem dX11_turning_16 : decode cX11_turning 16 = .ok (.aload_n 0, 1) := by decide +kernel
theorem dX11_turning_17 : decode cX11_turning 17 = .ok (.getfield 21, 3) := by decide +kernel
theorem dX11_turning_20 : decode cX11_turning 20 = .ok (.iload_n 1, 1) := by decide +kernel
theorem dX11_turning_21 : decode cX11_turning 21 = .ok (.iload_n 2, 1) := by decide +kernel
theorem dX11_turning_22 : decode cX11_turning 22 = .ok (.invokevirtual 206, 3) := by decide +kernel
theorem dX11_turning_25 : decode cX11_turning 25 = .ok (.ifCond .ne 9, 3) := by decide +kernel
theorem dX11_turning_28 : decode cX11_turning 28 = .ok (.aload_n 0, 1) := by decide +kernel
theorem dX11_turning_29 : decode cX11_turning 29 = .ok (.iconst (-1), 1) := by decide +kernel
theorem dX11_turning_30 : decode cX11_turning 30 = .ok (.invokevirtual 64, 3) := by decide +kernel
theorem dX11_turning_33 : decode cX11_turning 33 = .ok (.ireturn, 1) := by decide +kernel
theorem dX11_turning_34 : decode cX11_turning 34 = .ok (.aload_n 0, 1) := by decide +kernel
theorem dX11_turning_35 : decode cX11_turning 35 = .ok (.getfield 28, 3) := by decide +kernel
theorem dX11_turning_38 : decode cX11_turning 38 = .ok (.aload_n 0, 1) := by decide +kernel
theorem dX11_turning_39 : decode cX11_turning 39 = .ok (.getfield 21, 3) := by decide +kernel
theorem dX11_turning_42 : decode cX11_turning 42 = .ok (.invokevirtual 213, 3) := by decide +kernel
theorem dX11_turning_45 : decode cX11_turning 45 = .ok (.aload_n 0, 1) := by decide +kernel
theorem dX11_turning_46 : decode cX11_turning 46 = .ok (.getfield 28, 3) := by decide +kernel
theorem dX11_turning_49 : decode cX11_turning 49 = .ok (.aload 6, 2) := by decide +kernel
theorem dX11_turning_51 : decode cX11_turning 51 = .ok (.invokevirtual 318, 3) := by decide +kernel
theorem dX11_turning_54 : decode cX11_turning 54 = .ok (.istore 7, 2) := by decide +kernel
theorem dX11_turning_56 : decode cX11_turning 56 = .ok (.iload 7, 2) := by decide +kernel
theorem dX11_turning_58 : decode cX11_turning 58 = .ok (.ifCond .ge 9, 3) := by decide +kernel
theorem dX11_turning_61 : decode cX11_turning 61 = .ok (.aload_n 0, 1) := by decide +kernel
theorem dX11_turning_62 : decode cX11_turning 62 = .ok (.iconst (-1), 1) := by decide +kernel
theorem dX11_turning_63 : decode cX11_turning 63 = .ok (.invokevirtual 64, 3) := by decide +kernel
theorem dX11_turning_66 : decode cX11_turning 66 = .ok (.ireturn, 1) := by decide +kernel
theorem dX11_turning_67 : decode cX11_turning 67 = .ok (.iload 5, 2) := by decide +kernel
theorem dX11_turning_69 : decode cX11_turning 69 = .ok (.ifCond .lt 9, 3) := by decide +kernel
theorem dX11_turning_72 : decode cX11_turning 72 = .ok (.iload 5, 2) := by decide +kernel
theorem dX11_turning_74 : decode cX11_turning 74 = .ok (.iconst 4, 1) := by decide +kernel
theorem dX11_turning_75 : decode cX11_turning 75 = .ok (.if_icmp .lt 10, 3) := by decide +kernel
theorem dX11_turning_78 : decode cX11_turning 78 = .ok (.aload_n 0, 1) := by decide +kernel
theorem dX11_turning_79 : decode cX11_turning 79 = .ok (.bipush (-2), 2) := by decide +kernel
theorem dX11_turning_81 : decode cX11_turning 81 = .ok (.invokevirtual 64, 3) := by decide +kernel
theorem dX11_turning_84 : decode cX11_turning 84 = .ok (.ireturn, 1) := by decide +kernel
theorem dX11_turning_85 : decode cX11_turning 85 = .ok (.iload_n 3, 1) := by decide +kernel
theorem dX11_turning_86 : decode cX11_turning 86 = .ok (.invokestatic 210, 3) := by decide +kernel
theorem dX11_turning_89 : decode cX11_turning 89 = .ok (.istore 8, 2) := by decide +kernel
theorem dX11_turning_91 : decode cX11_turning 91 = .ok (.iload 8, 2) := by decide +kernel
theorem dX11_turning_93 : decode cX11_turning 93 = .ok (.ifCond .eq 10, 3) := by decide +kernel
theorem dX11_turning_96 : decode cX11_turning 96 = .ok (.aload_n 0, 1) := by decide +kernel
theorem dX11_turning_97 : decode cX11_turning 97 = .ok (.iload 8, 2) := by decide +kernel
theorem dX11_turning_99 : decode cX11_turning 99 = .ok (.invokevirtual 64, 3) := by decide +kernel
theorem dX11_turning_102 : decode cX11_turning 102 = .ok (.ireturn, 1) := by decide +kernel
theorem dX11_turning_103 : decode cX11_turning 103 = .ok (.aload_n 0, 1) := by decide +kernel
theorem dX11_turning_104 : decode cX11_turning 104 = .ok (.getfield 28, 3) := by decide +kernel
theorem dX11_turning_107 : decode cX11_turning 107 = .ok (.iload 7, 2) := by decide +kernel
theorem dX11_turning_109 : decode cX11_turning 109 = .ok (.iload_n 3, 1) := by decide +kernel
theorem dX11_turning_110 : decode cX11_turning 110 = .ok (.iload 5, 2) := by decide +kernel
theorem dX11_turning_112 : decode cX11_turning 112 = .ok (.invokevirtual 319, 3) := by decide +kernel
theorem dX11_turning_115 : decode cX11_turning 115 = .ok (.ireturn, 1) := by decide +kernel
theorem dX11_moved_0 : decode cX11_moved 0 = .ok (.aload_n 0, 1) := by decide +kernel
theorem dX11_moved_1 : decode cX11_moved 1 = .ok (.getfield 10, 3) := by decide +kernel
theorem dX11_moved_4 : decode cX11_moved 4 = .ok (.iload 4, 2) := by decide +kernel
theorem dX11_moved_6 : decode cX11_moved 6 = .ok (.invokevirtual 174, 3) := by decide +kernel
theorem dX11_moved_9 : decode cX11_moved 9 = .ok (.astore 6, 2) := by decide +kernel
theorem dX11_moved_11 : decode cX11_moved 11 = .ok (.aload 6, 2) := by decide +kernel
theorem dX11_moved_13 : decode cX11_moved 13 = .ok (.ifnull 15, 3) := by decide +kernel
theorem dX11_moved_16 : decode cX11_moved 16 = .ok (.aload_n 0, 1) := by decide +kernel
theorem dX11_moved_17 : decode cX11_moved 17 = .ok (.getfield 21, 3) := by decide +kernel
theorem dX11_moved_20 : decode cX11_moved 20 = .ok (.iload_n 1, 1) := by decide +kernel
theorem dX11_moved_21 : decode cX11_moved 21 = .ok (.iload_n 2, 1) := by decide +kernel
theorem dX11_moved_22 : decode cX11_moved 22 = .ok (.invokevirtual 206, 3) := by decide +kernel
theorem dX11_moved_25 : decode cX11_moved 25 = .ok (.ifCond .ne 9, 3) := by decide +kernel
theorem dX11_moved_28 : decode cX11_moved 28 = .ok (.aload_n 0, 1) := by decide +kernel
theorem dX11_moved_29 : decode cX11_moved 29 = .ok (.iconst (-1), 1) := by decide +kernel
theorem dX11_moved_30 : decode cX11_moved 30 = .ok (.invokevirtual 64, 3) := by decide +kernel
theorem dX11_moved_33 : decode cX11_moved 33 = .ok (.ireturn, 1) := by decide +kernel
theorem dX11_moved_34 : decode cX11_moved 34 = .ok (.iload_n 3, 1) := by decide +kernel
theorem dX11_moved_35 : decode cX11_moved 35 = .ok (.ifCond .lt 8, 3) := by decide +kernel
theorem dX11_moved_38 : decode cX11_moved 38 = .ok (.iload 5, 2) := by decide +kernel
theorem dX11_moved_40 : decode cX11_moved 40 = .ok (.ifCond .ge 10, 3) := by decide +kernel
theorem dX11_moved_43 : decode cX11_moved 43 = .ok (.aload_n 0, 1) := by decide +kernel
theorem dX11_moved_44 : decode cX11_moved 44 = .ok (.bipush (-4), 2) := by decide +kernel
theorem dX11_moved_46 : decode cX11_moved 46 = .ok (.invokevirtual 64, 3) := by decide +kernel
theorem dX11_moved_49 : decode cX11_moved 49 = .ok (.ireturn, 1) := by decide +kernel
theorem dX11_moved_50 : decode cX11_moved 50 = .ok (.iload_n 3, 1) := by decide +kernel
theorem dX11_moved_51 : decode cX11_moved 51 = .ok (.bipush 40, 2) := by decide +kernel
theorem dX11_moved_53 : decode cX11_moved 53 = .ok (.if_icmp .gt 16, 3) := by decide +kernel
theorem dX11_moved_56 : decode cX11_moved 56 = .ok (.iload 5, 2) := by decide +kernel
theorem dX11_moved_58 : decode cX11_moved 58 = .ok (.aload 6, 2) := by decide +kernel
theorem dX11_moved_60 : decode cX11_moved 60 = .ok (.getfield 178, 3) := by decide +kernel
theorem dX11_moved_63 : decode cX11_moved 63 = .ok (.invokestatic 164, 3) := by decide +kernel
theorem dX11_moved_66 : decode cX11_moved 66 = .ok (.if_icmp .le 10, 3) := by decide +kernel
theorem dX11_moved_69 : decode cX11_moved 69 = .ok (.aload_n 0, 1) := by decide +kernel
theorem dX11_moved_70 : decode cX11_moved 70 = .ok (.bipush (-6), 2) := by decide +kernel
theorem dX11_moved_72 : decode cX11_moved 72 = .ok (.invokevirtual 64, 3) := by decide +kernel
theorem dX11_moved_75 : decode cX11_moved 75 = .ok (.ireturn, 1) := by decide +kernel
theorem dX11_moved_76 : decode cX11_moved 76 = .ok (.aload_n 0, 1) := by decide +kernel
theorem dX11_moved_77 : decode cX11_moved 77 = .ok (.getfield 28, 3) := by decide +kernel
theorem dX11_moved_80 : decode cX11_moved 80 = .ok (.aload_n 0, 1) := by decide +kernel
theorem dX11_moved_81 : decode cX11_moved 81 = .ok (.getfield 21, 3) := by decide +kernel
theorem dX11_moved_84 : decode cX11_moved 84 = .ok (.invokevirtual 213, 3) := by decide +kernel
theorem dX11_moved_87 : decode cX11_moved 87 = .ok (.aload_n 0, 1) := by decide +kernel
theorem dX11_moved_88 : decode cX11_moved 88 = .ok (.getfield 28, 3) := by decide +kernel
theorem dX11_moved_91 : decode cX11_moved 91 = .ok (.iload_n 3, 1) := by decide +kernel
theorem dX11_moved_92 : decode cX11_moved 92 = .ok (.aload 6, 2) := by decide +kernel
theorem dX11_moved_94 : decode cX11_moved 94 = .ok (.iload 5, 2) := by decide +kernel
theorem dX11_moved_96 : decode cX11_moved 96 = .ok (.invokevirtual 322, 3) := by decide +kernel
theorem dX11_moved_99 : decode cX11_moved 99 = .ok (.ireturn, 1) := by decide +kernel
theorem dX11_back_0 : decode cX11_back 0 = .ok (.aload_n 0, 1) := by decide +kernel
theorem dX11_back_1 : decode cX11_back 1 = .ok (.getfield 10, 3) := by decide +kernel
theorem dX11_back_4 : decode cX11_back 4 = .ok (.iload_n 1, 1) := by decide +kernel
theorem dX11_back_5 : decode cX11_back 5 = .ok (.invokevirtual 94, 3) := by decide +kernel
theorem dX11_back_8 : decode cX11_back 8 = .ok (.astore_n 2, 1) := by decide +kernel
theorem dX11_back_9 : decode cX11_back 9 = .ok (.aload_n 2, 1) := by decide +kernel
theorem dX11_back_10 : decode cX11_back 10 = .ok (.ifnonnull 9, 3) := by decide +kernel
theorem dX11_back_13 : decode cX11_back 13 = .ok (.aload_n 0, 1) := by decide +kernel
theorem dX11_back_14 : decode cX11_back 14 = .ok (.iconst (-1), 1) := by decide +kernel
theorem dX11_back_15 : decode cX11_back 15 = .ok (.invokevirtual 64, 3) := by decide +kernel
theorem dX11_back_18 : decode cX11_back 18 = .ok (.ireturn, 1) := by decide +kernel
theorem dX11_back_19 : decode cX11_back 19 = .ok (.aload_n 2, 1) := by decide +kernel
theorem dX11_back_20 : decode cX11_back 20 = .ok (.invokevirtual 115, 3) := by decide +kernel
theorem dX11_back_23 : decode cX11_back 23 = .ok (.ifCond .ne 10, 3) := by decide +kernel
theorem dX11_back_26 : decode cX11_back 26 = .ok (.aload_n 0, 1) := by decide +kernel
theorem dX11_back_27 : decode cX11_back 27 = .ok (.bipush (-3), 2) := by decide +kernel
theorem dX11_back_29 : decode cX11_back 29 = .ok (.invokevirtual 64, 3) := by decide +kernel
theorem dX11_back_32 : decode cX11_back 32 = .ok (.ireturn, 1) := by decide +kernel
theorem dX11_back_33 : decode cX11_back 33 = .ok (.aload_n 0, 1) := by decide +kernel
theorem dX11_back_34 : decode cX11_back 34 = .ok (.getfield 10, 3) := by decide +kernel
theorem dX11_back_37 : decode cX11_back 37 = .ok (.aload_n 2, 1) := by decide +kernel
theorem dX11_back_38 : decode cX11_back 38 = .ok (.invokevirtual 326, 3) := by decide +kernel
theorem dX11_back_41 : decode cX11_back 41 = .ok (.astore_n 3, 1) := by decide +kernel
theorem dX11_back_42 : decode cX11_back 42 = .ok (.aload_n 3, 1) := by decide +kernel
theorem dX11_back_43 : decode cX11_back 43 = .ok (.ifnonnull 8, 3) := by decide +kernel
theorem dX11_back_46 : decode cX11_back 46 = .ok (.bipush (-9), 2) := by decide +kernel
theorem dX11_back_48 : decode cX11_back 48 = .ok (.goto 7, 3) := by decide +kernel
theorem dX11_back_51 : decode cX11_back 51 = .ok (.aload_n 3, 1) := by decide +kernel
theorem dX11_back_52 : decode cX11_back 52 = .ok (.getfield 330, 3) := by decide +kernel
theorem dX11_back_55 : decode cX11_back 55 = .ok (.ireturn, 1) := by decide +kernel
theorem dX11_count_0 : decode cX11_count 0 = .ok (.iload_n 1, 1) := by decide +kernel
theorem dX11_count_1 : decode cX11_count 1 = .ok (.tableswitch 147 0 10 #[59, 67, 75, 83, 91, 99, 107, 115, 123, 131, 139], 59) := by decide +kernel
theorem dX11_count_60 : decode cX11_count 60 = .ok (.aload_n 0, 1) := by decide +kernel
theorem dX11_count_61 : decode cX11_count 61 = .ok (.getfield 10, 3) := by decide +kernel
theorem dX11_count_64 : decode cX11_count 64 = .ok (.getfield 68, 3) := by decide +kernel
theorem dX11_count_67 : decode cX11_count 67 = .ok (.ireturn, 1) := by decide +kernel
theorem dX11_count_68 : decode cX11_count 68 = .ok (.aload_n 0, 1) := by decide +kernel
theorem dX11_count_69 : decode cX11_count 69 = .ok (.getfield 10, 3) := by decide +kernel
theorem dX11_count_72 : decode cX11_count 72 = .ok (.getfield 76, 3) := by decide +kernel
theorem dX11_count_75 : decode cX11_count 75 = .ok (.ireturn, 1) := by decide +kernel
theorem dX11_count_76 : decode cX11_count 76 = .ok (.aload_n 0, 1) := by decide +kernel
theorem dX11_count_77 : decode cX11_count 77 = .ok (.getfield 10, 3) := by decide +kernel
theorem dX11_count_80 : decode cX11_count 80 = .ok (.getfield 82, 3) := by decide +kernel
theorem dX11_count_83 : decode cX11_count 83 = .ok (.ireturn, 1) := by decide +kernel
theorem dX11_count_84 : decode cX11_count 84 = .ok (.aload_n 0, 1) := by decide +kernel
theorem dX11_count_85 : decode cX11_count 85 = .ok (.getfield 10, 3) := by decide +kernel
theorem dX11_count_88 : decode cX11_count 88 = .ok (.invokevirtual 331, 3) := by decide +kernel
theorem dX11_count_91 : decode cX11_count 91 = .ok (.ireturn, 1) := by decide +kernel
theorem dX11_count_92 : decode cX11_count 92 = .ok (.aload_n 0, 1) := by decide +kernel
theorem dX11_count_93 : decode cX11_count 93 = .ok (.getfield 10, 3) := by decide +kernel
theorem dX11_count_96 : decode cX11_count 96 = .ok (.invokevirtual 334, 3) := by decide +kernel
theorem dX11_count_99 : decode cX11_count 99 = .ok (.ireturn, 1) := by decide +kernel
theorem dX11_count_100 : decode cX11_count 100 = .ok (.aload_n 0, 1) := by decide +kernel
theorem dX11_count_101 : decode cX11_count 101 = .ok (.getfield 10, 3) := by decide +kernel
theorem dX11_count_104 : decode cX11_count 104 = .ok (.getfield 118, 3) := by decide +kernel
theorem dX11_count_107 : decode cX11_count 107 = .ok (.ireturn, 1) := by decide +kernel
theorem dX11_count_108 : decode cX11_count 108 = .ok (.aload_n 0, 1) := by decide +kernel
theorem dX11_count_109 : decode cX11_count 109 = .ok (.getfield 10, 3) := by decide +kernel
theorem dX11_count_112 : decode cX11_count 112 = .ok (.invokevirtual 337, 3) := by decide +kernel
theorem dX11_count_115 : decode cX11_count 115 = .ok (.ireturn, 1) := by decide +kernel
theorem dX11_count_116 : decode cX11_count 116 = .ok (.aload_n 0, 1) := by decide +kernel
theorem dX11_count_117 : decode cX11_count 117 = .ok (.getfield 10, 3) := by decide +kernel
theorem dX11_count_120 : decode cX11_count 120 = .ok (.getfield 167, 3) := by decide +kernel
theorem dX11_count_123 : decode cX11_count 123 = .ok (.ireturn, 1) := by decide +kernel
theorem dX11_count_124 : decode cX11_count 124 = .ok (.aload_n 0, 1) := by decide +kernel
theorem dX11_count_125 : decode cX11_count 125 = .ok (.getfield 10, 3) := by decide +kernel
theorem dX11_count_128 : decode cX11_count 128 = .ok (.getfield 183, 3) := by decide +kernel
theorem dX11_count_131 : decode cX11_count 131 = .ok (.ireturn, 1) := by decide +kernel
theorem dX11_count_132 : decode cX11_count 132 = .ok (.aload_n 0, 1) := by decide +kernel
theorem dX11_count_133 : decode cX11_count 133 = .ok (.getfield 10, 3) := by decide +kernel
theorem dX11_count_136 : decode cX11_count 136 = .ok (.invokevirtual 340, 3) := by decide +kernel
theorem dX11_count_139 : decode cX11_count 139 = .ok (.ireturn, 1) := by decide +kernel
theorem dX11_count_140 : decode cX11_count 140 = .ok (.aload_n 0, 1) := by decide +kernel
theorem dX11_count_141 : decode cX11_count 141 = .ok (.getfield 49, 3) := by decide +kernel
theorem dX11_count_144 : decode cX11_count 144 = .ok (.getfield 265, 3) := by decide +kernel
theorem dX11_count_147 : decode cX11_count 147 = .ok (.ireturn, 1) := by decide +kernel
theorem dX11_count_148 : decode cX11_count 148 = .ok (.aload_n 0, 1) := by decide +kernel
theorem dX11_count_149 : decode cX11_count 149 = .ok (.iload_n 1, 1) := by decide +kernel
theorem dX11_count_150 : decode cX11_count 150 = .ok (.bipush 10, 2) := by decide +kernel
theorem dX11_count_152 : decode cX11_count 152 = .ok (.isub, 1) := by decide +kernel
theorem dX11_count_153 : decode cX11_count 153 = .ok (.invokevirtual 343, 3) := by decide +kernel
theorem dX11_count_156 : decode cX11_count 156 = .ok (.ireturn, 1) := by decide +kernel
theorem dX11_refuse_0 : decode cX11_refuse 0 = .ok (.iload_n 1, 1) := by decide +kernel
theorem dX11_refuse_1 : decode cX11_refuse 1 = .ok (.ineg, 1) := by decide +kernel
theorem dX11_refuse_2 : decode cX11_refuse 2 = .ok (.istore_n 2, 1) := by decide +kernel
theorem dX11_refuse_3 : decode cX11_refuse 3 = .ok (.iload_n 2, 1) := by decide +kernel
theorem dX11_refuse_4 : decode cX11_refuse 4 = .ok (.iconst 1, 1) := by decide +kernel
theorem dX11_refuse_5 : decode cX11_refuse 5 = .ok (.if_icmp .lt 19, 3) := by decide +kernel
theorem dX11_refuse_8 : decode cX11_refuse 8 = .ok (.iload_n 2, 1) := by decide +kernel
theorem dX11_refuse_9 : decode cX11_refuse 9 = .ok (.bipush 6, 2) := by decide +kernel
theorem dX11_refuse_11 : decode cX11_refuse 11 = .ok (.if_icmp .gt 13, 3) := by decide +kernel
theorem dX11_refuse_14 : decode cX11_refuse 14 = .ok (.aload_n 0, 1) := by decide +kernel
theorem dX11_refuse_15 : decode cX11_refuse 15 = .ok (.getfield 60, 3) := by decide +kernel
theorem dX11_refuse_18 : decode cX11_refuse 18 = .ok (.iload_n 2, 1) := by decide +kernel
theorem dX11_refuse_19 : decode cX11_refuse 19 = .ok (.dup2, 1) := by decide +kernel
theorem dX11_refuse_20 : decode cX11_refuse 20 = .ok (.iaload, 1) := by decide +kernel
theorem dX11_refuse_21 : decode cX11_refuse 21 = .ok (.iconst 1, 1) := by decide +kernel
theorem dX11_refuse_22 : decode cX11_refuse 22 = .ok (.iadd, 1) := by decide +kernel
theorem dX11_refuse_23 : decode cX11_refuse 23 = .ok (.iastore, 1) := by decide +kernel
theorem dX11_refuse_24 : decode cX11_refuse 24 = .ok (.iload_n 1, 1) := by decide +kernel
theorem dX11_refuse_25 : decode cX11_refuse 25 = .ok (.ireturn, 1) := by decide +kernel
theorem dX11_refuseFar_0 : decode cX11_refuseFar 0 = .ok (.ldc_w 346, 3) := by decide +kernel
theorem dX11_refuseFar_3 : decode cX11_refuseFar 3 = .ok (.aload_n 0, 1) := by decide +kernel
theorem dX11_refuseFar_4 : decode cX11_refuseFar 4 = .ok (.iload_n 1, 1) := by decide +kernel
theorem dX11_refuseFar_5 : decode cX11_refuseFar 5 = .ok (.invokevirtual 64, 3) := by decide +kernel
theorem dX11_refuseFar_8 : decode cX11_refuseFar 8 = .ok (.isub, 1) := by decide +kernel
theorem dX11_refuseFar_9 : decode cX11_refuseFar 9 = .ok (.ireturn, 1) := by decide +kernel
theorem dX11_refusalsOf_0 : decode cX11_refusalsOf 0 = .ok (.iload_n 1, 1) := by decide +kernel
theorem dX11_refusalsOf_1 : decode cX11_refusalsOf 1 = .ok (.iconst 1, 1) := by decide +kernel
theorem dX11_refusalsOf_2 : decode cX11_refusalsOf 2 = .ok (.if_icmp .lt 18, 3) := by decide +kernel
theorem dX11_refusalsOf_5 : decode cX11_refusalsOf 5 = .ok (.iload_n 1, 1) := by decide +kernel
theorem dX11_refusalsOf_6 : decode cX11_refusalsOf 6 = .ok (.bipush 6, 2) := by decide +kernel
theorem dX11_refusalsOf_8 : decode cX11_refusalsOf 8 = .ok (.if_icmp .gt 12, 3) := by decide +kernel
theorem dX11_refusalsOf_11 : decode cX11_refusalsOf 11 = .ok (.aload_n 0, 1) := by decide +kernel
theorem dX11_refusalsOf_12 : decode cX11_refusalsOf 12 = .ok (.getfield 60, 3) := by decide +kernel
theorem dX11_refusalsOf_15 : decode cX11_refusalsOf 15 = .ok (.iload_n 1, 1) := by decide +kernel
theorem dX11_refusalsOf_16 : decode cX11_refusalsOf 16 = .ok (.iaload, 1) := by decide +kernel
theorem dX11_refusalsOf_17 : decode cX11_refusalsOf 17 = .ok (.goto 5, 3) := by decide +kernel
theorem dX11_refusalsOf_20 : decode cX11_refusalsOf 20 = .ok (.bipush (-9), 2) := by decide +kernel
theorem dX11_refusalsOf_22 : decode cX11_refusalsOf 22 = .ok (.ireturn, 1) := by decide +kernel
theorem dX11_refusalOfNumber_0 : decode cX11_refusalOfNumber 0 = .ok (.iload_n 0, 1) := by decide +kernel
theorem dX11_refusalOfNumber_1 : decode cX11_refusalOfNumber 1 = .ok (.ifCond .ge 6, 3) := by decide +kernel
theorem dX11_refusalOfNumber_4 : decode cX11_refusalOfNumber 4 = .ok (.bipush (-4), 2) := by decide +kernel
theorem dX11_refusalOfNumber_6 : decode cX11_refusalOfNumber 6 = .ok (.ireturn, 1) := by decide +kernel
theorem dX11_refusalOfNumber_7 : decode cX11_refusalOfNumber 7 = .ok (.iload_n 0, 1) := by decide +kernel
theorem dX11_refusalOfNumber_8 : decode cX11_refusalOfNumber 8 = .ok (.bipush 40, 2) := by decide +kernel
theorem dX11_refusalOfNumber_10 : decode cX11_refusalOfNumber 10 = .ok (.if_icmp .le 8, 3) := by decide +kernel
theorem dX11_refusalOfNumber_13 : decode cX11_refusalOfNumber 13 = .ok (.bipush (-6), 2) := by decide +kernel
theorem dX11_refusalOfNumber_15 : decode cX11_refusalOfNumber 15 = .ok (.goto 4, 3) := by decide +kernel
theorem dX11_refusalOfNumber_18 : decode cX11_refusalOfNumber 18 = .ok (.iconst 0, 1) := by decide +kernel
theorem dX11_refusalOfNumber_19 : decode cX11_refusalOfNumber 19 = .ok (.ireturn, 1) := by decide +kernel
theorem dX11_refusalOfChoice_0 : decode cX11_refusalOfChoice 0 = .ok (.iload_n 1, 1) := by decide +kernel
theorem dX11_refusalOfChoice_1 : decode cX11_refusalOfChoice 1 = .ok (.ifCond .ge 6, 3) := by decide +kernel
theorem dX11_refusalOfChoice_4 : decode cX11_refusalOfChoice 4 = .ok (.bipush (-4), 2) := by decide +kernel
theorem dX11_refusalOfChoice_6 : decode cX11_refusalOfChoice 6 = .ok (.ireturn, 1) := by decide +kernel
theorem dX11_refusalOfChoice_7 : decode cX11_refusalOfChoice 7 = .ok (.aload_n 0, 1) := by decide +kernel
theorem dX11_refusalOfChoice_8 : decode cX11_refusalOfChoice 8 = .ok (.getfield 21, 3) := by decide +kernel
theorem dX11_refusalOfChoice_11 : decode cX11_refusalOfChoice 11 = .ok (.getfield 347, 3) := by decide +kernel
theorem dX11_refusalOfChoice_14 : decode cX11_refusalOfChoice 14 = .ok (.bipush 12, 2) := by decide +kernel
theorem dX11_refusalOfChoice_16 : decode cX11_refusalOfChoice 16 = .ok (.if_icmp .gt 14, 3) := by decide +kernel
theorem dX11_refusalOfChoice_19 : decode cX11_refusalOfChoice 19 = .ok (.iload_n 1, 1) := by decide +kernel
theorem dX11_refusalOfChoice_20 : decode cX11_refusalOfChoice 20 = .ok (.aload_n 0, 1) := by decide +kernel
theorem dX11_refusalOfChoice_21 : decode cX11_refusalOfChoice 21 = .ok (.getfield 21, 3) := by decide +kernel
theorem dX11_refusalOfChoice_24 : decode cX11_refusalOfChoice 24 = .ok (.getfield 347, 3) := by decide +kernel
theorem dX11_refusalOfChoice_27 : decode cX11_refusalOfChoice 27 = .ok (.if_icmp .le 8, 3) := by decide +kernel
theorem dX11_refusalOfChoice_30 : decode cX11_refusalOfChoice 30 = .ok (.bipush (-6), 2) := by decide +kernel
theorem dX11_refusalOfChoice_32 : decode cX11_refusalOfChoice 32 = .ok (.goto 4, 3) := by decide +kernel
theorem dX11_refusalOfChoice_35 : decode cX11_refusalOfChoice 35 = .ok (.iconst 0, 1) := by decide +kernel
theorem dX11_refusalOfChoice_36 : decode cX11_refusalOfChoice 36 = .ok (.ireturn, 1) := by decide +kernel
theorem dX11_refusalOfParting_0 : decode cX11_refusalOfParting 0 = .ok (.iload_n 0, 1) := by decide +kernel
theorem dX11_refusalOfParting_1 : decode cX11_refusalOfParting 1 = .ok (.iconst 1, 1) := by decide +kernel
theorem dX11_refusalOfParting_2 : decode cX11_refusalOfParting 2 = .ok (.if_icmp .lt 18, 3) := by decide +kernel
theorem dX11_refusalOfParting_5 : decode cX11_refusalOfParting 5 = .ok (.iload_n 1, 1) := by decide +kernel
theorem dX11_refusalOfParting_6 : decode cX11_refusalOfParting 6 = .ok (.iconst 1, 1) := by decide +kernel
theorem dX11_refusalOfParting_7 : decode cX11_refusalOfParting 7 = .ok (.if_icmp .lt 13, 3) := by decide +kernel
theorem dX11_refusalOfParting_10 : decode cX11_refusalOfParting 10 = .ok (.iload_n 2, 1) := by decide +kernel
theorem dX11_refusalOfParting_11 : decode cX11_refusalOfParting 11 = .ok (.iconst 1, 1) := by decide +kernel
theorem dX11_refusalOfParting_12 : decode cX11_refusalOfParting 12 = .ok (.if_icmp .lt 8, 3) := by decide +kernel
theorem dX11_refusalOfParting_15 : decode cX11_refusalOfParting 15 = .ok (.iload_n 3, 1) := by decide +kernel
theorem dX11_refusalOfParting_16 : decode cX11_refusalOfParting 16 = .ok (.iconst 1, 1) := by decide +kernel
theorem dX11_refusalOfParting_17 : decode cX11_refusalOfParting 17 = .ok (.if_icmp .ge 6, 3) := by decide +kernel
theorem dX11_refusalOfParting_20 : decode cX11_refusalOfParting 20 = .ok (.bipush (-4), 2) := by decide +kernel
theorem dX11_refusalOfParting_22 : decode cX11_refusalOfParting 22 = .ok (.ireturn, 1) := by decide +kernel
theorem dX11_refusalOfParting_23 : decode cX11_refusalOfParting 23 = .ok (.iload_n 0, 1) := by decide +kernel
theorem dX11_refusalOfParting_24 : decode cX11_refusalOfParting 24 = .ok (.sipush 200, 3) := by decide +kernel
theorem dX11_refusalOfParting_27 : decode cX11_refusalOfParting 27 = .ok (.if_icmp .gt 22, 3) := by decide +kernel
theorem dX11_refusalOfParting_30 : decode cX11_refusalOfParting 30 = .ok (.iload_n 1, 1) := by decide +kernel
theorem dX11_refusalOfParting_31 : decode cX11_refusalOfParting 31 = .ok (.bipush 6, 2) := by decide +kernel
theorem dX11_refusalOfParting_33 : decode cX11_refusalOfParting 33 = .ok (.if_icmp .gt 16, 3) := by decide +kernel
theorem dX11_refusalOfParting_36 : decode cX11_refusalOfParting 36 = .ok (.iload_n 2, 1) := by decide +kernel
theorem dX11_refusalOfParting_37 : decode cX11_refusalOfParting 37 = .ok (.bipush 50, 2) := by decide +kernel
theorem dX11_refusalOfParting_39 : decode cX11_refusalOfParting 39 = .ok (.if_icmp .gt 10, 3) := by decide +kernel
theorem dX11_refusalOfParting_42 : decode cX11_refusalOfParting 42 = .ok (.iload_n 3, 1) := by decide +kernel
theorem dX11_refusalOfParting_43 : decode cX11_refusalOfParting 43 = .ok (.sipush 9999, 3) := by decide +kernel
theorem dX11_refusalOfParting_46 : decode cX11_refusalOfParting 46 = .ok (.if_icmp .le 8, 3) := by decide +kernel
theorem dX11_refusalOfParting_49 : decode cX11_refusalOfParting 49 = .ok (.bipush (-6), 2) := by decide +kernel
theorem dX11_refusalOfParting_51 : decode cX11_refusalOfParting 51 = .ok (.goto 4, 3) := by decide +kernel
theorem dX11_refusalOfParting_54 : decode cX11_refusalOfParting 54 = .ok (.iconst 0, 1) := by decide +kernel
theorem dX11_refusalOfParting_55 : decode cX11_refusalOfParting 55 = .ok (.ireturn, 1) := by decide +kernel
theorem dX11_isPlace_0 : decode cX11_isPlace 0 = .ok (.iload_n 0, 1) := by decide +kernel
theorem dX11_isPlace_1 : decode cX11_isPlace 1 = .ok (.ifCond .lt 12, 3) := by decide +kernel
theorem dX11_isPlace_4 : decode cX11_isPlace 4 = .ok (.iload_n 0, 1) := by decide +kernel
theorem dX11_isPlace_5 : decode cX11_isPlace 5 = .ok (.iconst 4, 1) := by decide +kernel
theorem dX11_isPlace_6 : decode cX11_isPlace 6 = .ok (.if_icmp .ge 7, 3) := by decide +kernel
theorem dX11_isPlace_9 : decode cX11_isPlace 9 = .ok (.iconst 1, 1) := by decide +kernel
theorem dX11_isPlace_10 : decode cX11_isPlace 10 = .ok (.goto 4, 3) := by decide +kernel
theorem dX11_isPlace_13 : decode cX11_isPlace 13 = .ok (.iconst 0, 1) := by decide +kernel
theorem dX11_isPlace_14 : decode cX11_isPlace 14 = .ok (.ireturn, 1) := by decide +kernel
theorem dX11_mostTold_0 : decode cX11_mostTold 0 = .ok (.iload_n 0, 1) := by decide +kernel
theorem dX11_mostTold_1 : decode cX11_mostTold 1 = .ok (.ifCond .ne 8, 3) := by decide +kernel
theorem dX11_mostTold_4 : decode cX11_mostTold 4 = .ok (.bipush 100, 2) := by decide +kernel
theorem dX11_mostTold_6 : decode cX11_mostTold 6 = .ok (.goto 5, 3) := by decide +kernel
theorem dX11_mostTold_9 : decode cX11_mostTold 9 = .ok (.bipush 9, 2) := by decide +kernel
theorem dX11_mostTold_11 : decode cX11_mostTold 11 = .ok (.ireturn, 1) := by decide +kernel
theorem dX11_bandOf_0 : decode cX11_bandOf 0 = .ok (.iconst 0, 1) := by decide +kernel
theorem dX11_bandOf_1 : decode cX11_bandOf 1 = .ok (.istore_n 1, 1) := by decide +kernel
theorem dX11_bandOf_2 : decode cX11_bandOf 2 = .ok (.iconst 1, 1) := by decide +kernel
theorem dX11_bandOf_3 : decode cX11_bandOf 3 = .ok (.istore_n 2, 1) := by decide +kernel
theorem dX11_bandOf_4 : decode cX11_bandOf 4 = .ok (.iload_n 2, 1) := by decide +kernel
theorem dX11_bandOf_5 : decode cX11_bandOf 5 = .ok (.iconst 3, 1) := by decide +kernel
theorem dX11_bandOf_6 : decode cX11_bandOf 6 = .ok (.if_icmp .ge 20, 3) := by decide +kernel
theorem dX11_bandOf_9 : decode cX11_bandOf 9 = .ok (.iload_n 0, 1) := by decide +kernel
theorem dX11_bandOf_10 : decode cX11_bandOf 10 = .ok (.getstatic 350, 3) := by decide +kernel
theorem dX11_bandOf_13 : decode cX11_bandOf 13 = .ok (.iload_n 2, 1) := by decide +kernel
theorem dX11_bandOf_14 : decode cX11_bandOf 14 = .ok (.iaload, 1) := by decide +kernel
theorem dX11_bandOf_15 : decode cX11_bandOf 15 = .ok (.if_icmp .lt 5, 3) := by decide +kernel
theorem dX11_bandOf_18 : decode cX11_bandOf 18 = .ok (.iload_n 2, 1) := by decide +kernel
theorem dX11_bandOf_19 : decode cX11_bandOf 19 = .ok (.istore_n 1, 1) := by decide +kernel
theorem dX11_bandOf_20 : decode cX11_bandOf 20 = .ok (.iinc 2 1, 3) := by decide +kernel
theorem dX11_bandOf_23 : decode cX11_bandOf 23 = .ok (.goto (-19), 3) := by decide +kernel
theorem dX11_bandOf_26 : decode cX11_bandOf 26 = .ok (.iload_n 1, 1) := by decide +kernel
theorem dX11_bandOf_27 : decode cX11_bandOf 27 = .ok (.ireturn, 1) := by decide +kernel
theorem dX11_noticeOf_0 : decode cX11_noticeOf 0 = .ok (.iload_n 0, 1) := by decide +kernel
theorem dX11_noticeOf_1 : decode cX11_noticeOf 1 = .ok (.ifCond .lt 16, 3) := by decide +kernel
theorem dX11_noticeOf_4 : decode cX11_noticeOf 4 = .ok (.iload_n 0, 1) := by decide +kernel
theorem dX11_noticeOf_5 : decode cX11_noticeOf 5 = .ok (.iconst 3, 1) := by decide +kernel
theorem dX11_noticeOf_6 : decode cX11_noticeOf 6 = .ok (.if_icmp .ge 11, 3) := by decide +kernel
theorem dX11_noticeOf_9 : decode cX11_noticeOf 9 = .ok (.getstatic 353, 3) := by decide +kernel
theorem dX11_noticeOf_12 : decode cX11_noticeOf 12 = .ok (.iload_n 0, 1) := by decide +kernel
theorem dX11_noticeOf_13 : decode cX11_noticeOf 13 = .ok (.iaload, 1) := by decide +kernel
theorem dX11_noticeOf_14 : decode cX11_noticeOf 14 = .ok (.goto 4, 3) := by decide +kernel
theorem dX11_noticeOf_17 : decode cX11_noticeOf 17 = .ok (.iconst 0, 1) := by decide +kernel
theorem dX11_noticeOf_18 : decode cX11_noticeOf 18 = .ok (.ireturn, 1) := by decide +kernel
theorem dX11_skillFor_0 : decode cX11_skillFor 0 = .ok (.aload_n 1, 1) := by decide +kernel
theorem dX11_skillFor_1 : decode cX11_skillFor 1 = .ok (.getfield 356, 3) := by decide +kernel
theorem dX11_skillFor_4 : decode cX11_skillFor 4 = .ok (.invokestatic 359, 3) := by decide +kernel
theorem dX11_skillFor_7 : decode cX11_skillFor 7 = .ok (.istore_n 2, 1) := by decide +kernel
theorem dX11_skillFor_8 : decode cX11_skillFor 8 = .ok (.iload_n 2, 1) := by decide +kernel
theorem dX11_skillFor_9 : decode cX11_skillFor 9 = .ok (.ifCond .ne 6, 3) := by decide +kernel
theorem dX11_skillFor_12 : decode cX11_skillFor 12 = .ok (.bipush 100, 2) := by decide +kernel
theorem dX11_skillFor_14 : decode cX11_skillFor 14 = .ok (.ireturn, 1) := by decide +kernel
theorem dX11_skillFor_15 : decode cX11_skillFor 15 = .ok (.bipush 100, 2) := by decide +kernel
theorem dX11_skillFor_17 : decode cX11_skillFor 17 = .ok (.aload_n 0, 1) := by decide +kernel
theorem dX11_skillFor_18 : decode cX11_skillFor 18 = .ok (.getfield 364, 3) := by decide +kernel
theorem dX11_skillFor_21 : decode cX11_skillFor 21 = .ok (.aload_n 1, 1) := by decide +kernel
theorem dX11_skillFor_22 : decode cX11_skillFor 22 = .ok (.getfield 356, 3) := by decide +kernel
theorem dX11_skillFor_25 : decode cX11_skillFor 25 = .ok (.iand, 1) := by decide +kernel
theorem dX11_skillFor_26 : decode cX11_skillFor 26 = .ok (.invokestatic 359, 3) := by decide +kernel
theorem dX11_skillFor_29 : decode cX11_skillFor 29 = .ok (.imul, 1) := by decide +kernel
theorem dX11_skillFor_30 : decode cX11_skillFor 30 = .ok (.iload_n 2, 1) := by decide +kernel
theorem dX11_skillFor_31 : decode cX11_skillFor 31 = .ok (.idiv, 1) := by decide +kernel
theorem dX11_skillFor_32 : decode cX11_skillFor 32 = .ok (.ireturn, 1) := by decide +kernel
theorem dJ6_bitCount_0f7a4_0 : decode cJ6_bitCount_0f7a4 0 = .ok (.iload_n 0, 1) := by decide +kernel
theorem dJ6_bitCount_0f7a4_1 : decode cJ6_bitCount_0f7a4 1 = .ok (.iload_n 0, 1) := by decide +kernel
theorem dJ6_bitCount_0f7a4_2 : decode cJ6_bitCount_0f7a4 2 = .ok (.iconst 1, 1) := by decide +kernel
theorem dJ6_bitCount_0f7a4_3 : decode cJ6_bitCount_0f7a4 3 = .ok (.iushr, 1) := by decide +kernel
theorem dJ6_bitCount_0f7a4_4 : decode cJ6_bitCount_0f7a4 4 = .ok (.ldc_w 265, 3) := by decide +kernel
theorem dJ6_bitCount_0f7a4_7 : decode cJ6_bitCount_0f7a4 7 = .ok (.iand, 1) := by decide +kernel
theorem dJ6_bitCount_0f7a4_8 : decode cJ6_bitCount_0f7a4 8 = .ok (.isub, 1) := by decide +kernel
theorem dJ6_bitCount_0f7a4_9 : decode cJ6_bitCount_0f7a4 9 = .ok (.istore_n 0, 1) := by decide +kernel
theorem dJ6_bitCount_0f7a4_10 : decode cJ6_bitCount_0f7a4 10 = .ok (.iload_n 0, 1) := by decide +kernel
theorem dJ6_bitCount_0f7a4_11 : decode cJ6_bitCount_0f7a4 11 = .ok (.ldc_w 266, 3) := by decide +kernel
theorem dJ6_bitCount_0f7a4_14 : decode cJ6_bitCount_0f7a4 14 = .ok (.iand, 1) := by decide +kernel
theorem dJ6_bitCount_0f7a4_15 : decode cJ6_bitCount_0f7a4 15 = .ok (.iload_n 0, 1) := by decide +kernel
theorem dJ6_bitCount_0f7a4_16 : decode cJ6_bitCount_0f7a4 16 = .ok (.iconst 2, 1) := by decide +kernel
theorem dJ6_bitCount_0f7a4_17 : decode cJ6_bitCount_0f7a4 17 = .ok (.iushr, 1) := by decide +kernel
theorem dJ6_bitCount_0f7a4_18 : decode cJ6_bitCount_0f7a4 18 = .ok (.ldc_w 266, 3) := by decide +kernel
theorem dJ6_bitCount_0f7a4_21 : decode cJ6_bitCount_0f7a4 21 = .ok (.iand, 1) := by decide +kernel
theorem dJ6_bitCount_0f7a4_22 : decode cJ6_bitCount_0f7a4 22 = .ok (.iadd, 1) := by decide +kernel
theorem dJ6_bitCount_0f7a4_23 : decode cJ6_bitCount_0f7a4 23 = .ok (.istore_n 0, 1) := by decide +kernel
theorem dJ6_bitCount_0f7a4_24 : decode cJ6_bitCount_0f7a4 24 = .ok (.iload_n 0, 1) := by decide +kernel
theorem dJ6_bitCount_0f7a4_25 : decode cJ6_bitCount_0f7a4 25 = .ok (.iload_n 0, 1) := by decide +kernel
theorem dJ6_bitCount_0f7a4_26 : decode cJ6_bitCount_0f7a4 26 = .ok (.iconst 4, 1) := by decide +kernel
theorem dJ6_bitCount_0f7a4_27 : decode cJ6_bitCount_0f7a4 27 = .ok (.iushr, 1) := by decide +kernel
theorem dJ6_bitCount_0f7a4_28 : decode cJ6_bitCount_0f7a4 28 = .ok (.iadd, 1) := by decide +kernel
theorem dJ6_bitCount_0f7a4_29 : decode cJ6_bitCount_0f7a4 29 = .ok (.ldc_w 267, 3) := by decide +kernel
theorem dJ6_bitCount_0f7a4_32 : decode cJ6_bitCount_0f7a4 32 = .ok (.iand, 1) := by decide +kernel
theorem dJ6_bitCount_0f7a4_33 : decode cJ6_bitCount_0f7a4 33 = .ok (.istore_n 0, 1) := by decide +kernel
theorem dJ6_bitCount_0f7a4_34 : decode cJ6_bitCount_0f7a4 34 = .ok (.iload_n 0, 1) := by decide +kernel
theorem dJ6_bitCount_0f7a4_35 : decode cJ6_bitCount_0f7a4 35 = .ok (.iload_n 0, 1) := by decide +kernel
theorem dJ6_bitCount_0f7a4_36 : decode cJ6_bitCount_0f7a4 36 = .ok (.bipush 8, 2) := by decide +kernel
theorem dJ6_bitCount_0f7a4_38 : decode cJ6_bitCount_0f7a4 38 = .ok (.iushr, 1) := by decide +kernel
theorem dJ6_bitCount_0f7a4_39 : decode cJ6_bitCount_0f7a4 39 = .ok (.iadd, 1) := by decide +kernel
theorem dJ6_bitCount_0f7a4_40 : decode cJ6_bitCount_0f7a4 40 = .ok (.istore_n 0, 1) := by decide +kernel
theorem dJ6_bitCount_0f7a4_41 : decode cJ6_bitCount_0f7a4 41 = .ok (.iload_n 0, 1) := by decide +kernel
theorem dJ6_bitCount_0f7a4_42 : decode cJ6_bitCount_0f7a4 42 = .ok (.iload_n 0, 1) := by decide +kernel
theorem dJ6_bitCount_0f7a4_43 : decode cJ6_bitCount_0f7a4 43 = .ok (.bipush 16, 2) := by decide +kernel
theorem dJ6_bitCount_0f7a4_45 : decode cJ6_bitCount_0f7a4 45 = .ok (.iushr, 1) := by decide +kernel
theorem dJ6_bitCount_0f7a4_46 : decode cJ6_bitCount_0f7a4 46 = .ok (.iadd, 1) := by decide +kernel
theorem dJ6_bitCount_0f7a4_47 : decode cJ6_bitCount_0f7a4 47 = .ok (.istore_n 0, 1) := by decide +kernel
theorem dJ6_bitCount_0f7a4_48 : decode cJ6_bitCount_0f7a4 48 = .ok (.iload_n 0, 1) := by decide +kernel
theorem dJ6_bitCount_0f7a4_49 : decode cJ6_bitCount_0f7a4 49 = .ok (.bipush 63, 2) := by decide +kernel
theorem dJ6_bitCount_0f7a4_51 : decode cJ6_bitCount_0f7a4 51 = .ok (.iand, 1) := by decide +kernel
theorem dJ6_bitCount_0f7a4_52 : decode cJ6_bitCount_0f7a4 52 = .ok (.ireturn, 1) := by decide +kernel
theorem dJ13_bitCount_95d88_0 : decode cJ13_bitCount_95d88 0 = .ok (.lload_n 0, 1) := by decide +kernel
theorem dJ13_bitCount_95d88_1 : decode cJ13_bitCount_95d88 1 = .ok (.lload_n 0, 1) := by decide +kernel
theorem dJ13_bitCount_95d88_2 : decode cJ13_bitCount_95d88 2 = .ok (.iconst 1, 1) := by decide +kernel
theorem dJ13_bitCount_95d88_3 : decode cJ13_bitCount_95d88 3 = .ok (.lushr, 1) := by decide +kernel
theorem dJ13_bitCount_95d88_4 : decode cJ13_bitCount_95d88 4 = .ok (.ldc2_w 314, 3) := by decide +kernel
theorem dJ13_bitCount_95d88_7 : decode cJ13_bitCount_95d88 7 = .ok (.land, 1) := by decide +kernel
theorem dJ13_bitCount_95d88_8 : decode cJ13_bitCount_95d88 8 = .ok (.lsub, 1) := by decide +kernel
theorem dJ13_bitCount_95d88_9 : decode cJ13_bitCount_95d88 9 = .ok (.lstore_n 0, 1) := by decide +kernel
theorem dJ13_bitCount_95d88_10 : decode cJ13_bitCount_95d88 10 = .ok (.lload_n 0, 1) := by decide +kernel
theorem dJ13_bitCount_95d88_11 : decode cJ13_bitCount_95d88 11 = .ok (.ldc2_w 316, 3) := by decide +kernel
theorem dJ13_bitCount_95d88_14 : decode cJ13_bitCount_95d88 14 = .ok (.land, 1) := by decide +kernel
theorem dJ13_bitCount_95d88_15 : decode cJ13_bitCount_95d88 15 = .ok (.lload_n 0, 1) := by decide +kernel
theorem dJ13_bitCount_95d88_16 : decode cJ13_bitCount_95d88 16 = .ok (.iconst 2, 1) := by decide +kernel
theorem dJ13_bitCount_95d88_17 : decode cJ13_bitCount_95d88 17 = .ok (.lushr, 1) := by decide +kernel
theorem dJ13_bitCount_95d88_18 : decode cJ13_bitCount_95d88 18 = .ok (.ldc2_w 316, 3) := by decide +kernel
theorem dJ13_bitCount_95d88_21 : decode cJ13_bitCount_95d88 21 = .ok (.land, 1) := by decide +kernel
theorem dJ13_bitCount_95d88_22 : decode cJ13_bitCount_95d88 22 = .ok (.ladd, 1) := by decide +kernel
theorem dJ13_bitCount_95d88_23 : decode cJ13_bitCount_95d88 23 = .ok (.lstore_n 0, 1) := by decide +kernel
theorem dJ13_bitCount_95d88_24 : decode cJ13_bitCount_95d88 24 = .ok (.lload_n 0, 1) := by decide +kernel
theorem dJ13_bitCount_95d88_25 : decode cJ13_bitCount_95d88 25 = .ok (.lload_n 0, 1) := by decide +kernel
theorem dJ13_bitCount_95d88_26 : decode cJ13_bitCount_95d88 26 = .ok (.iconst 4, 1) := by decide +kernel
theorem dJ13_bitCount_95d88_27 : decode cJ13_bitCount_95d88 27 = .ok (.lushr, 1) := by decide +kernel
theorem dJ13_bitCount_95d88_28 : decode cJ13_bitCount_95d88 28 = .ok (.ladd, 1) := by decide +kernel
theorem dJ13_bitCount_95d88_29 : decode cJ13_bitCount_95d88 29 = .ok (.ldc2_w 318, 3) := by decide +kernel
theorem dJ13_bitCount_95d88_32 : decode cJ13_bitCount_95d88 32 = .ok (.land, 1) := by decide +kernel
theorem dJ13_bitCount_95d88_33 : decode cJ13_bitCount_95d88 33 = .ok (.lstore_n 0, 1) := by decide +kernel
theorem dJ13_bitCount_95d88_34 : decode cJ13_bitCount_95d88 34 = .ok (.lload_n 0, 1) := by decide +kernel
theorem dJ13_bitCount_95d88_35 : decode cJ13_bitCount_95d88 35 = .ok (.lload_n 0, 1) := by decide +kernel
theorem dJ13_bitCount_95d88_36 : decode cJ13_bitCount_95d88 36 = .ok (.bipush 8, 2) := by decide +kernel
theorem dJ13_bitCount_95d88_38 : decode cJ13_bitCount_95d88 38 = .ok (.lushr, 1) := by decide +kernel
theorem dJ13_bitCount_95d88_39 : decode cJ13_bitCount_95d88 39 = .ok (.ladd, 1) := by decide +kernel
theorem dJ13_bitCount_95d88_40 : decode cJ13_bitCount_95d88 40 = .ok (.lstore_n 0, 1) := by decide +kernel
theorem dJ13_bitCount_95d88_41 : decode cJ13_bitCount_95d88 41 = .ok (.lload_n 0, 1) := by decide +kernel
theorem dJ13_bitCount_95d88_42 : decode cJ13_bitCount_95d88 42 = .ok (.lload_n 0, 1) := by decide +kernel
theorem dJ13_bitCount_95d88_43 : decode cJ13_bitCount_95d88 43 = .ok (.bipush 16, 2) := by decide +kernel
theorem dJ13_bitCount_95d88_45 : decode cJ13_bitCount_95d88 45 = .ok (.lushr, 1) := by decide +kernel
theorem dJ13_bitCount_95d88_46 : decode cJ13_bitCount_95d88 46 = .ok (.ladd, 1) := by decide +kernel
theorem dJ13_bitCount_95d88_47 : decode cJ13_bitCount_95d88 47 = .ok (.lstore_n 0, 1) := by decide +kernel
theorem dJ13_bitCount_95d88_48 : decode cJ13_bitCount_95d88 48 = .ok (.lload_n 0, 1) := by decide +kernel
theorem dJ13_bitCount_95d88_49 : decode cJ13_bitCount_95d88 49 = .ok (.lload_n 0, 1) := by decide +kernel
theorem dJ13_bitCount_95d88_50 : decode cJ13_bitCount_95d88 50 = .ok (.bipush 32, 2) := by decide +kernel
theorem dJ13_bitCount_95d88_52 : decode cJ13_bitCount_95d88 52 = .ok (.lushr, 1) := by decide +kernel
theorem dJ13_bitCount_95d88_53 : decode cJ13_bitCount_95d88 53 = .ok (.ladd, 1) := by decide +kernel
theorem dJ13_bitCount_95d88_54 : decode cJ13_bitCount_95d88 54 = .ok (.lstore_n 0, 1) := by decide +kernel
theorem dJ13_bitCount_95d88_55 : decode cJ13_bitCount_95d88 55 = .ok (.lload_n 0, 1) := by decide +kernel
theorem dJ13_bitCount_95d88_56 : decode cJ13_bitCount_95d88 56 = .ok (.l2i, 1) := by decide +kernel
theorem dJ13_bitCount_95d88_57 : decode cJ13_bitCount_95d88 57 = .ok (.bipush 127, 2) := by decide +kernel
theorem dJ13_bitCount_95d88_59 : decode cJ13_bitCount_95d88 59 = .ok (.iand, 1) := by decide +kernel
theorem dJ13_bitCount_95d88_60 : decode cJ13_bitCount_95d88 60 = .ok (.ireturn, 1) := by decide +kernel
theorem dJ9_abs_0f7a4_0 : decode cJ9_abs_0f7a4 0 = .ok (.iload_n 0, 1) := by decide +kernel
theorem dJ9_abs_0f7a4_1 : decode cJ9_abs_0f7a4 1 = .ok (.ifCond .ge 8, 3) := by decide +kernel
theorem dJ9_abs_0f7a4_4 : decode cJ9_abs_0f7a4 4 = .ok (.iload_n 0, 1) := by decide +kernel
theorem dJ9_abs_0f7a4_5 : decode cJ9_abs_0f7a4 5 = .ok (.ineg, 1) := by decide +kernel
theorem dJ9_abs_0f7a4_6 : decode cJ9_abs_0f7a4 6 = .ok (.goto 4, 3) := by decide +kernel
theorem dJ9_abs_0f7a4_9 : decode cJ9_abs_0f7a4 9 = .ok (.iload_n 0, 1) := by decide +kernel
theorem dJ9_abs_0f7a4_10 : decode cJ9_abs_0f7a4 10 = .ok (.ireturn, 1) := by decide +kernel
theorem dJ9_max_7cf53_0 : decode cJ9_max_7cf53 0 = .ok (.iload_n 0, 1) := by decide +kernel
theorem dJ9_max_7cf53_1 : decode cJ9_max_7cf53 1 = .ok (.iload_n 1, 1) := by decide +kernel
theorem dJ9_max_7cf53_2 : decode cJ9_max_7cf53 2 = .ok (.if_icmp .lt 7, 3) := by decide +kernel
theorem dJ9_max_7cf53_5 : decode cJ9_max_7cf53 5 = .ok (.iload_n 0, 1) := by decide +kernel
theorem dJ9_max_7cf53_6 : decode cJ9_max_7cf53 6 = .ok (.goto 4, 3) := by decide +kernel
theorem dJ9_max_7cf53_9 : decode cJ9_max_7cf53 9 = .ok (.iload_n 1, 1) := by decide +kernel
theorem dJ9_max_7cf53_10 : decode cJ9_max_7cf53 10 = .ok (.ireturn, 1) := by decide +kernel
theorem dJ9_min_7cf53_0 : decode cJ9_min_7cf53 0 = .ok (.iload_n 0, 1) := by decide +kernel
theorem dJ9_min_7cf53_1 : decode cJ9_min_7cf53 1 = .ok (.iload_n 1, 1) := by decide +kernel
theorem dJ9_min_7cf53_2 : decode cJ9_min_7cf53 2 = .ok (.if_icmp .gt 7, 3) := by decide +kernel
theorem dJ9_min_7cf53_5 : decode cJ9_min_7cf53 5 = .ok (.iload_n 0, 1) := by decide +kernel
theorem dJ9_min_7cf53_6 : decode cJ9_min_7cf53 6 = .ok (.goto 4, 3) := by decide +kernel
theorem dJ9_min_7cf53_9 : decode cJ9_min_7cf53 9 = .ok (.iload_n 1, 1) := by decide +kernel
theorem dJ9_min_7cf53_10 : decode cJ9_min_7cf53 10 = .ok (.ireturn, 1) := by decide +kernel
theorem dJ7_fill_53178_0 : decode cJ7_fill_53178 0 = .ok (.iconst 0, 1) := by decide +kernel
theorem dJ7_fill_53178_1 : decode cJ7_fill_53178 1 = .ok (.istore_n 2, 1) := by decide +kernel
theorem dJ7_fill_53178_2 : decode cJ7_fill_53178 2 = .ok (.aload_n 0, 1) := by decide +kernel
theorem dJ7_fill_53178_3 : decode cJ7_fill_53178 3 = .ok (.arraylength, 1) := by decide +kernel
theorem dJ7_fill_53178_4 : decode cJ7_fill_53178 4 = .ok (.istore_n 3, 1) := by decide +kernel
theorem dJ7_fill_53178_5 : decode cJ7_fill_53178 5 = .ok (.iload_n 2, 1) := by decide +kernel
theorem dJ7_fill_53178_6 : decode cJ7_fill_53178 6 = .ok (.iload_n 3, 1) := by decide +kernel
theorem dJ7_fill_53178_7 : decode cJ7_fill_53178 7 = .ok (.if_icmp .ge 13, 3) := by decide +kernel
theorem dJ7_fill_53178_10 : decode cJ7_fill_53178 10 = .ok (.aload_n 0, 1) := by decide +kernel
theorem dJ7_fill_53178_11 : decode cJ7_fill_53178 11 = .ok (.iload_n 2, 1) := by decide +kernel
theorem dJ7_fill_53178_12 : decode cJ7_fill_53178 12 = .ok (.iload_n 1, 1) := by decide +kernel
theorem dJ7_fill_53178_13 : decode cJ7_fill_53178 13 = .ok (.iastore, 1) := by decide +kernel
theorem dJ7_fill_53178_14 : decode cJ7_fill_53178 14 = .ok (.iinc 2 1, 3) := by decide +kernel
theorem dJ7_fill_53178_17 : decode cJ7_fill_53178 17 = .ok (.goto (-12), 3) := by decide +kernel
theorem dJ7_fill_53178_20 : decode cJ7_fill_53178 20 = .ok (.return_, 1) := by decide +kernel
end
section
/-! ===== the abstract memory: cells by (kind, number); kind 0 the fixed cells, kinds 1 .. 4 the objects that are made later ===== -/
abbrev St : Type := (Nat → Nat → Nat → Int32) × (Nat → Nat → Nat → Option Nat)
/-- a cell's shape: an object (number of its class, kinds of its fields), or an array (type, length) -/
abbrev Shp : Type := (Nat × List (Nat × Nat)) ⊕ (Nat × Nat)
/-- a layout: how many fixed cells, the shape of each cell -/
abbrev Ly : Type := Nat × (Nat → Nat → Shp)
/-- a world: the classes' numbers and slots, the fixed cells' addresses, what may change, array classes, addresses of static arrays -/
abbrev Wd : Type := va_G × (Nat → Nat) × (Nat → Prop) × (Nat → ClassId) × (Nat → Nat)
def fvl (fa : Nat → Nat) (ad : Nat → Nat → Nat) (σ : St) (d j k : Nat) (q : Nat × Nat) : Value := match q.1 with
  | 0 => .int (σ.1 d j k)
  | 1 => .ref (fa q.2)
  | t + 2 => va_rf ((σ.2 d j k).map (ad (t + 1)))
def fvs (fa : Nat → Nat) (ad : Nat → Nat → Nat) (σ : St) (d j : Nat) : Nat → List (Nat × Nat) → List Value
  | _, [] => []
  | k, q :: qs => fvl fa ad σ d j k q :: fvs fa ad σ d j (k + 1) qs
theorem fvs_get (fa : Nat → Nat) (ad : Nat → Nat → Nat) (σ : St) (d j : Nat) : ∀ (qs : List (Nat × Nat)) (k0 k : Nat), (fvs fa ad σ d j k0 qs)[k]? = (qs[k]?).map (fvl fa ad σ d j (k0 + k))
  | [], k0, k => by simp [fvs]
  | q :: qs, k0, 0 => by simp [fvs]
  | q :: qs, k0, k + 1 => by
    have h := fvs_get fa ad σ d j qs (k0 + 1) k
    simp only [fvs, List.getElem?_cons_succ]
    rw [h, show k0 + 1 + k = k0 + (k + 1) by omega]
theorem fvs_len (fa : Nat → Nat) (ad : Nat → Nat → Nat) (σ : St) (d j : Nat) : ∀ (qs : List (Nat × Nat)) (k0 : Nat), (fvs fa ad σ d j k0 qs).length = qs.length
  | [], _ => rfl
  | q :: qs, k0 => by simp [fvs, fvs_len fa ad σ d j qs (k0 + 1)]
def arc (ad : Nat → Nat → Nat) (σ : St) (d j : Nat) (t : Nat) : (Nat → Int32) ⊕ (Nat → Int64) ⊕ (Nat → UInt32) ⊕ (Nat → UInt64) ⊕ (Nat → Option Nat) := match t with
  | 0 => .inl (σ.1 d j)
  | 1 => .inl (σ.1 d j)
  | t + 2 => .inr (.inr (.inr (.inr (fun i => (σ.2 d j i).map (ad (t + 1))))))
def cel (ω : Wd) (ad : Nat → Nat → Nat) (σ : St) (d j : Nat) : Shp → va_E
  | .inl (ci, fs) => .inr (ci, fvs ω.2.1 ad σ d j 0 fs)
  | .inr (t, n) => .inl (ω.2.2.2.1 t, n, arc ad σ d j t)
def adr (ω : Wd) (ad : Nat → Nat → Nat) (d j : Nat) : Nat := match d with
  | 0 => ω.2.1 j
  | d + 1 => ad (d + 1) j
def dm (Λ : Ly) (N : Nat → Nat) (d j : Nat) : Prop := (d = 0 ∧ j < Λ.1) ∨ (1 ≤ d ∧ d ≤ 4 ∧ j < N d)
def vld (N : Nat → Nat) (σ : St) (d j : Nat) : Shp → Prop
  | .inl (_, fs) => ∀ k t z, fs[k]? = some (t + 2, z) → ∀ q, σ.2 d j k = some q → q < N (t + 1)
  | .inr (0, _) => True
  | .inr (1, _) => True
  | .inr (t + 2, n) => ∀ i, i < n → ∀ q, σ.2 d j i = some q → q < N (t + 1)
def Rep (Λ : Ly) (ω : Wd) (ad : Nat → Nat → Nat) (N : Nat → Nat) (σ : St) (H : Heap) : Prop :=
  (∀ d j, dm Λ N d j → va_at ω.1 vwCl (adr ω ad d j, cel ω ad σ d j (Λ.2 d j)) H) ∧
  (∀ d j d' j', dm Λ N d j → dm Λ N d' j' → adr ω ad d j = adr ω ad d' j' → d = d' ∧ j = j') ∧
  (∀ d j, dm Λ N d j → ω.2.2.1 (adr ω ad d j)) ∧
  (∀ d j, dm Λ N d j → vld N σ d j (Λ.2 d j))
/-! the cells in a row -/
def tot (Λ : Ly) (N : Nat → Nat) : Nat := Λ.1 + N 1 + N 2 + N 3 + N 4
def cid (Λ : Ly) (N : Nat → Nat) (i : Nat) : Nat × Nat :=
  if i < Λ.1 then (0, i) else if i < Λ.1 + N 1 then (1, i - Λ.1) else if i < Λ.1 + N 1 + N 2 then (2, i - Λ.1 - N 1) else if i < Λ.1 + N 1 + N 2 + N 3 then (3, i - Λ.1 - N 1 - N 2) else (4, i - Λ.1 - N 1 - N 2 - N 3)
theorem cid_dm {Λ : Ly} {N : Nat → Nat} {i : Nat} (h : i < tot Λ N) : dm Λ N (cid Λ N i).1 (cid Λ N i).2 := by
  unfold tot at h
  unfold cid dm
  split
  · left; exact ⟨rfl, by assumption⟩
  · right
    split
    · exact ⟨(show 1 ≤ 1 by decide), (show 1 ≤ 4 by decide), by show i - Λ.1 < N 1; omega⟩
    · split
      · exact ⟨(show 1 ≤ 2 by decide), (show 2 ≤ 4 by decide), by show i - Λ.1 - N 1 < N 2; omega⟩
      · split
        · exact ⟨(show 1 ≤ 3 by decide), (show 3 ≤ 4 by decide), by show i - Λ.1 - N 1 - N 2 < N 3; omega⟩
        · exact ⟨(show 1 ≤ 4 by decide), (show 4 ≤ 4 by decide), by show i - Λ.1 - N 1 - N 2 - N 3 < N 4; omega⟩
theorem cid_inj {Λ : Ly} {N : Nat → Nat} {i j : Nat} (h : cid Λ N i = cid Λ N j) : i = j := by
  unfold cid at h
  split at h <;> split at h <;> (try split at h) <;> (try split at h) <;> (try split at h) <;> (try split at h) <;> (try split at h) <;> (try split at h) <;> simp at h <;> omega
theorem cid_onto {Λ : Ly} {N : Nat → Nat} {d j : Nat} (h : dm Λ N d j) : ∃ i, i < tot Λ N ∧ cid Λ N i = (d, j) := by
  rcases h with ⟨rfl, h⟩ | ⟨h1, h2, h3⟩
  · exact ⟨j, by unfold tot; omega, by unfold cid; rw [if_pos h]⟩
  · rcases (show d = 1 ∨ d = 2 ∨ d = 3 ∨ d = 4 by omega) with rfl | rfl | rfl | rfl
    · exact ⟨Λ.1 + j, by unfold tot; omega, by unfold cid; rw [if_neg (by omega), if_pos (by omega), show Λ.1 + j - Λ.1 = j by omega]⟩
    · exact ⟨Λ.1 + N 1 + j, by unfold tot; omega, by unfold cid; rw [if_neg (by omega), if_neg (by omega), if_pos (by omega), show Λ.1 + N 1 + j - Λ.1 - N 1 = j by omega]⟩
    · exact ⟨Λ.1 + N 1 + N 2 + j, by unfold tot; omega, by unfold cid; rw [if_neg (by omega), if_neg (by omega), if_neg (by omega), if_pos (by omega), show Λ.1 + N 1 + N 2 + j - Λ.1 - N 1 - N 2 = j by omega]⟩
    · exact ⟨Λ.1 + N 1 + N 2 + N 3 + j, by unfold tot; omega, by unfold cid; rw [if_neg (by omega), if_neg (by omega), if_neg (by omega), if_neg (by omega), show Λ.1 + N 1 + N 2 + N 3 + j - Λ.1 - N 1 - N 2 - N 3 = j by omega]⟩
def wcl (Λ : Ly) (ω : Wd) (ad : Nat → Nat → Nat) (σ : St) (c : Nat × Nat) : Nat × va_E := (adr ω ad c.1 c.2, cel ω ad σ c.1 c.2 (Λ.2 c.1 c.2))
def wl (Λ : Ly) (ω : Wd) (ad : Nat → Nat → Nat) (N : Nat → Nat) (σ : St) : va_W := (List.range (tot Λ N)).map fun i => wcl Λ ω ad σ (cid Λ N i)
theorem wl_get {Λ : Ly} {ω : Wd} {ad : Nat → Nat → Nat} {N : Nat → Nat} {σ : St} {i : Nat} (h : i < tot Λ N) : (wl Λ ω ad N σ)[i]? = some (wcl Λ ω ad σ (cid Λ N i)) := by
  unfold wl
  rw [List.getElem?_map, List.getElem?_range h]
  rfl
theorem wl_of {Λ : Ly} {ω : Wd} {ad : Nat → Nat → Nat} {N : Nat → Nat} {σ : St} {i : Nat} {q : Nat × va_E} (h : (wl Λ ω ad N σ)[i]? = some q) : i < tot Λ N ∧ q = wcl Λ ω ad σ (cid Λ N i) := by
  have hi : i < tot Λ N := by
    have := (List.getElem?_eq_some_iff.mp h).1
    unfold wl at this
    simpa using this
  rw [wl_get hi] at h
  exact ⟨hi, (Option.some.inj h).symm⟩
theorem wl_at {Λ : Ly} {ω : Wd} {ad : Nat → Nat → Nat} {N : Nat → Nat} {d j : Nat} (h : dm Λ N d j) (σ : St) : ∃ i, i < tot Λ N ∧ cid Λ N i = (d, j) ∧ (wl Λ ω ad N σ)[i]? = some (adr ω ad d j, cel ω ad σ d j (Λ.2 d j)) := by
  obtain ⟨i, h1, h2⟩ := cid_onto h
  refine ⟨i, h1, h2, ?_⟩
  rw [wl_get h1, h2]
  rfl
theorem Rep.P {Λ : Ly} {ω : Wd} {ad : Nat → Nat → Nat} {N : Nat → Nat} {σ : St} {H : Heap} (h : Rep Λ ω ad N σ H) : va_P ω.1 vwCl (wl Λ ω ad N σ) H := by
  intro k q hq
  obtain ⟨h1, h2⟩ := wl_of hq
  rw [h2]
  exact h.1 _ _ (cid_dm h1)
theorem Rep.D {Λ : Ly} {ω : Wd} {ad : Nat → Nat → Nat} {N : Nat → Nat} {σ : St} {H : Heap} (h : Rep Λ ω ad N σ H) : va_D ω.2.2.1 (wl Λ ω ad N σ) := by
  refine ⟨fun i j p q hp hq e => ?_, fun k q hq => ?_⟩
  · obtain ⟨h1, h2⟩ := wl_of hp
    obtain ⟨h3, h4⟩ := wl_of hq
    rw [h2, h4] at e
    obtain ⟨e1, e2⟩ := h.2.1 _ _ _ _ (cid_dm h1) (cid_dm h3) e
    exact cid_inj (Prod.ext e1 e2)
  · obtain ⟨h1, h2⟩ := wl_of hq
    rw [h2]
    exact h.2.2.1 _ _ (cid_dm h1)
/-- one cell has changed -/
theorem Rep.back {Λ : Ly} {ω : Wd} {ad : Nat → Nat → Nat} {N : Nat → Nat} {σ σ' : St} {H H1 : Heap} {i d j : Nat} {e : va_E} (h : Rep Λ ω ad N σ H) (hi : i < tot Λ N) (hc : cid Λ N i = (d, j)) (hP : va_P ω.1 vwCl ((wl Λ ω ad N σ).set i (adr ω ad d j, e)) H1)
    (he : cel ω ad σ' d j (Λ.2 d j) = e) (ho : ∀ d' j', ¬ (d' = d ∧ j' = j) → σ'.1 d' j' = σ.1 d' j' ∧ σ'.2 d' j' = σ.2 d' j') (hv : vld N σ' d j (Λ.2 d j)) : Rep Λ ω ad N σ' H1 := by
  refine ⟨fun d' j' hd => ?_, h.2.1, h.2.2.1, fun d' j' hd => ?_⟩
  · by_cases hx : d' = d ∧ j' = j
    · obtain ⟨rfl, rfl⟩ := hx
      rw [he]
      refine hP i _ ?_
      rw [List.getElem?_set_self]
      unfold wl; simpa using hi
    · obtain ⟨i', h1, h2, h3⟩ := wl_at (ω := ω) (ad := ad) hd σ
      have hne : i ≠ i' := fun h => hx (by subst h; rw [hc] at h2; cases h2; exact ⟨rfl, rfl⟩)
      have h4 := hP i' (adr ω ad d' j', cel ω ad σ d' j' (Λ.2 d' j')) (by rw [List.getElem?_set_ne hne]; exact h3)
      have e2 : cel ω ad σ' d' j' (Λ.2 d' j') = cel ω ad σ d' j' (Λ.2 d' j') := by
        obtain ⟨o1, o2⟩ := ho d' j' hx
        have fe : ∀ (qs : List (Nat × Nat)) (k0 : Nat), fvs ω.2.1 ad σ' d' j' k0 qs = fvs ω.2.1 ad σ d' j' k0 qs := by
          intro qs
          induction qs with
          | nil => intro _; rfl
          | cons q qs ih =>
            intro k0
            simp only [fvs, ih (k0 + 1)]
            congr 1
            unfold fvl
            rw [o1, o2]
        cases hs : Λ.2 d' j' with
        | inl x => simp only [cel, fe]
        | inr x =>
          simp only [cel]
          unfold arc
          rw [o1, o2]
      rw [e2]
      exact h4
  · by_cases hx : d' = d ∧ j' = j
    · obtain ⟨rfl, rfl⟩ := hx
      exact hv
    · have h5 := h.2.2.2 d' j' hd
      obtain ⟨o1, o2⟩ := ho d' j' hx
      generalize Λ.2 d' j' = sh at h5 ⊢
      unfold vld at h5 ⊢
      rw [o2]
      exact h5
/-! writes -/
def sx (σ : St) (d j k : Nat) (v : Int32) : St := (fun d' j' k' => if d' = d ∧ j' = j ∧ k' = k then v else σ.1 d' j' k', σ.2)
def sy (σ : St) (d j k : Nat) (v : Option Nat) : St := (σ.1, fun d' j' k' => if d' = d ∧ j' = j ∧ k' = k then v else σ.2 d' j' k')
theorem sx_1 (σ : St) (d j k : Nat) (v : Int32) (d' j' k' : Nat) : (sx σ d j k v).1 d' j' k' = if d' = d ∧ j' = j ∧ k' = k then v else σ.1 d' j' k' := rfl
theorem sx_2 (σ : St) (d j k : Nat) (v : Int32) : (sx σ d j k v).2 = σ.2 := rfl
theorem sy_1 (σ : St) (d j k : Nat) (v : Option Nat) : (sy σ d j k v).1 = σ.1 := rfl
theorem sy_2 (σ : St) (d j k : Nat) (v : Option Nat) (d' j' k' : Nat) : (sy σ d j k v).2 d' j' k' = if d' = d ∧ j' = j ∧ k' = k then v else σ.2 d' j' k' := rfl
theorem sx_o {σ : St} {d j k : Nat} {v : Int32} {d' j' : Nat} (h : ¬ (d' = d ∧ j' = j)) : (sx σ d j k v).1 d' j' = σ.1 d' j' ∧ (sx σ d j k v).2 d' j' = σ.2 d' j' := by
  refine ⟨?_, rfl⟩
  funext k'
  rw [sx_1, if_neg (fun q => h ⟨q.1, q.2.1⟩)]
theorem sy_o {σ : St} {d j k : Nat} {v : Option Nat} {d' j' : Nat} (h : ¬ (d' = d ∧ j' = j)) : (sy σ d j k v).1 d' j' = σ.1 d' j' ∧ (sy σ d j k v).2 d' j' = σ.2 d' j' := by
  refine ⟨rfl, ?_⟩
  funext k'
  rw [sy_2, if_neg (fun q => h ⟨q.1, q.2.1⟩)]
theorem sx_vld {N : Nat → Nat} {σ : St} {d j k : Nat} {v : Int32} {sh : Shp} (h : vld N σ d j sh) : vld N (sx σ d j k v) d j sh := h
/-! the words: all of lw_tbl, at every method -/
def wt : List Cond := lw_tbl.filter goodWord
theorem wt_good : GoodIn wt wt := fun w hw => ⟨hw, good_of_word (List.mem_filter.mp hw).2⟩
theorem in_wt {w : Cond} (i : Nat) (h : lw_tbl[i]? = some w) (g : goodWord w = true) : w ∈ wt := List.mem_filter.mpr ⟨List.mem_of_getElem? h, g⟩
theorem sub_wt {ws : List Cond} (ps : List Nat) (hp : ws = ps.filterMap (fun i => lw_tbl[i]?)) (g : ws.all goodWord = true) : ∀ w ∈ ws, w ∈ wt := by
  intro w hw
  refine List.mem_filter.mpr ⟨?_, List.all_eq_true.mp g w hw⟩
  rw [hp] at hw
  obtain ⟨i, -, hi⟩ := List.mem_filterMap.mp hw
  exact List.mem_of_getElem? hi
/-! the calls into a nest mate's private method -/
def nws : List (String × Nat × MethodName × String) := [("PostsEnd$Firm", 121, ⟨"PostsEnd", "skillFor", "(LPostsEnd$Person;LPostsEnd$Post;)I"⟩, "PostsEnd"), ("PostsEnd$Bumping", 82, ⟨"PostsEnd", "skillFor", "(LPostsEnd$Person;LPostsEnd$Post;)I"⟩, "PostsEnd"), ("PostsEnd$Endings", 71, ⟨"PostsEnd", "bandOf", "(I)I"⟩, "PostsEnd"), ("PostsEnd$Endings", 78, ⟨"PostsEnd", "noticeOf", "(I)I"⟩, "PostsEnd"), ("PostsEnd", 9, ⟨"PostsEnd$Firm", "<init>", "()V"⟩, "PostsEnd"), ("PostsEnd", 55, ⟨"PostsEnd$Endings", "<init>", "()V"⟩, "PostsEnd")]
def NW (U : State) : Prop := ∀ q ∈ nws, va_Nw (.methodLinkNest q.1 q.2.1 q.2.2.1 q.2.2.2) U
theorem NW.warm {s U : State} (hW : s.WarmedH U.vm) (h : NW s) : NW U := fun q hq => (h q hq).warmM hW
theorem NW.same {s U : State} (hv : s.vm = U.vm) (h : NW s) : NW U := fun q hq => va_Nw.same rfl hv (h q hq)
/-! what is taken for granted in a method, and its judgement -/
abbrev CT : Type := Program × Launch × Env × Room × State × MethodId × Array Value × List Frame × Method × Code
/-- the method's frame of reference: machine, world, number of locals, addresses and counts of the objects made -/
abbrev TT : Type := CT × Wd × Nat × (Nat → Nat → Nat) × (Nat → Nat) × (Nat × Nat)
abbrev cS (Θ : TT) : State := Θ.1.2.2.2.2.1
abbrev cM (Θ : TT) : MethodId := Θ.1.2.2.2.2.2.1
abbrev cR (Θ : TT) : Room := Θ.1.2.2.2.1
abbrev cW (Θ : TT) : Wd := Θ.2.1
abbrev cF (Θ : TT) : Nat → Nat := Θ.2.1.2.1
abbrev cNL (Θ : TT) : Nat := Θ.2.2.1
abbrev cAd (Θ : TT) : Nat → Nat → Nat := Θ.2.2.2.1
abbrev cN (Θ : TT) : Nat → Nat := Θ.2.2.2.2.1
/-- how many cells, and slots, the method has made -/
abbrev cC (Θ : TT) : Nat × Nat := Θ.2.2.2.2.2
def WW (Γ : CT) (H : Heap) (locs : List Loc) (k n : Nat) (Q : State → Prop) (g : JFrame) : Prop :=
  W Γ.1 Γ.2.1 Γ.2.2.1 Γ.2.2.2.1 Γ.2.2.2.2.1 Γ.2.2.2.2.2.1 Γ.2.2.2.2.2.2.1 Γ.2.2.2.2.2.2.2.1 Γ.2.2.2.2.2.2.2.2.1 Γ.2.2.2.2.2.2.2.2.2 H locs k n Q g
def tys (ω : Wd) : List (ClassId × FieldType) := [(ω.2.2.2.1 0, .int), (ω.2.2.2.1 1, .boolean), (ω.2.2.2.1 2, .object RX7), (ω.2.2.2.1 3, .object RX5), (ω.2.2.2.1 4, .object RX10)]
def snm (i : Nat) : String := match i with
  | 0 => "LEAST_SETTING"
  | 1 => "MOST_SETTING"
  | 2 => "LEAST_OF_BAND"
  | _ => "NOTICE_OF_BAND"
def scon (i j : Nat) : Int32 := match i, j with
  | 0, 0 => 0
  | 0, 1 => 0
  | 0, _ => 100
  | 1, 0 => 10
  | 1, 1 => 5
  | 1, _ => 9999
  | 2, 0 => 0
  | 2, 1 => 20
  | 2, _ => 100
  | _, 0 => 7
  | _, 1 => 30
  | _, _ => 45
def SF (ω : Wd) (U : State) (H : Heap) : Prop := ∀ i, i < 4 → va_Z "PostsEnd" (snm i) "[I" (.ref (ω.2.2.2.2 i)) ω.2.2.1 U H ∧ va_T .int (ω.2.2.2.2 i) 3 (fun j => .int (scon i j)) ω.2.2.1 U H
theorem SF.moved {ω : Wd} {u U : State} {H : Heap} (hvm : u.vm.Alike U.vm) (h : SF ω u H) : SF ω U H := fun i hi => ⟨(h i hi).1.moved hvm, (h i hi).2.moved hvm⟩
theorem SF.kept {ω : Wd} {U : State} {H H1 : Heap} (h : SF ω U H) (hq : ∀ a : Nat, a < H.size → ¬ ω.2.2.1 a → H1[a]? = H[a]?) : SF ω U H1 := fun i hi => ⟨(h i hi).1.kept hq, (h i hi).2.kept hq⟩
/-- a method's start -/
def Pre (Λ : Ly) (ω : Wd) (ad : Nat → Nat → Nat) (N : Nat → Nat) (σ : St) (U : State) : Prop :=
  Rep Λ ω ad N σ U.heap ∧ va_K ω.1 vwCl (tys ω) U ∧ (∀ q, U.heap.size ≤ q → ω.2.2.1 q) ∧ SF ω U U.heap ∧ NW U
def CX (Θ : TT) (cc : ByteArray) (own : String) (ret : Option FieldType) (rm : Room) (nL : Nat) : Prop :=
  Θ.1.1.tables.exec = Jvm.exec ∧ Θ.1.2.2.2.2.2.2.2.2.2.code = cc ∧ Θ.1.2.2.2.2.2.2.2.2.2.maxLocals = cNL Θ ∧ (cS Θ).vm.findClass own = some (cM Θ).cls ∧ (∀ w ∈ wt, w.before Θ.1.2.2.2.2.2.2.1 (cS Θ) = true) ∧
  Θ.1.2.2.2.2.2.2.2.2.1.sig.returnType = ret ∧ Θ.1.2.2.2.2.2.2.2.2.1.locks = false ∧ va_K (cW Θ).1 vwCl (tys (cW Θ)) (cS Θ) ∧ (∀ q, (cS Θ).heap.size ≤ q → (cW Θ).2.2.1 q) ∧ SF (cW Θ) (cS Θ) (cS Θ).heap ∧ cR Θ = rm ∧ cNL Θ = nL ∧ NW (cS Θ) ∧ (cC Θ).1 ≤ rm.cells ∧ (cC Θ).2 ≤ rm.slots
/-! locals -/
def pr : Nat → List (Option Value) → List (Nat × Value)
  | _, [] => []
  | i, none :: r => pr (i + 1) r
  | i, some v :: r => (i, v) :: pr (i + 1) r
def lvg : List (Option Value) → Nat → Option Value
  | [], _ => none
  | o :: _, 0 => o
  | _ :: t, k + 1 => lvg t k
def lvs : List (Option Value) → Nat → Value → List (Option Value)
  | [], _, _ => []
  | _ :: t, 0, v => some v :: t
  | o :: t, k + 1, v => o :: lvs t k v
theorem pr_mem : ∀ {l : List (Option Value)} {i0 : Nat} {q : Nat × Value}, q ∈ pr i0 l ↔ ∃ k, q.1 = i0 + k ∧ lvg l k = some q.2
  | [], i0, q => by simp [pr, lvg]
  | none :: r, i0, q => by
    simp only [pr]
    rw [pr_mem (l := r)]
    constructor
    · rintro ⟨k, h1, h2⟩
      exact ⟨k + 1, by omega, h2⟩
    · rintro ⟨k, h1, h2⟩
      cases k with
      | zero => simp [lvg] at h2
      | succ k => exact ⟨k, by omega, h2⟩
  | some v :: r, i0, q => by
    simp only [pr, List.mem_cons]
    rw [pr_mem (l := r)]
    constructor
    · rintro (h | ⟨k, h1, h2⟩)
      · exact ⟨0, by rw [h]; rfl, by rw [h]; rfl⟩
      · exact ⟨k + 1, by omega, h2⟩
    · rintro ⟨k, h1, h2⟩
      cases k with
      | zero =>
        left
        simp [lvg] at h2
        exact Prod.ext h1 h2.symm
      | succ k => exact Or.inr ⟨k, by omega, h2⟩
def LV (ls : Array Slot) (nL : Nat) (lv : List (Option Value)) : Prop := lv_has ls nL (pr 0 lv)
theorem LV.get {ls : Array Slot} {nL : Nat} {lv : List (Option Value)} (h : LV ls nL lv) {i : Nat} {v : Value} (hv : lvg lv i = some v) : ls[i]? = some (.val v) :=
  h.2.2 (i, v) (pr_mem.mpr ⟨i, by simp, hv⟩)
theorem lvg_lvs : ∀ {l : List (Option Value)} {i k : Nat} {v w : Value}, lvg (lvs l i v) k = some w → (k = i ∧ w = v) ∨ (k ≠ i ∧ lvg l k = some w)
  | [], i, k, v, w, h => by simp [lvs, lvg] at h
  | o :: t, 0, 0, v, w, h => by simp [lvs, lvg] at h; exact Or.inl ⟨rfl, h.symm⟩
  | o :: t, 0, k + 1, v, w, h => Or.inr ⟨by omega, h⟩
  | o :: t, i + 1, 0, v, w, h => Or.inr ⟨by omega, h⟩
  | o :: t, i + 1, k + 1, v, w, h => by
    rcases lvg_lvs (l := t) h with ⟨h1, h2⟩ | ⟨h1, h2⟩
    · exact Or.inl ⟨by omega, h2⟩
    · exact Or.inr ⟨by omega, h2⟩
def lvok (l : List (Option Value)) (i : Nat) : Bool := match i with
  | 0 => true
  | i + 1 => match lvg l i with
    | some v => v.category != 2
    | none => true
theorem LV.set {ls' : Array Slot} {nL : Nat} {lv : List (Option Value)} {i : Nat} {v : Value} (hok : lvok lv i = true) (h : lv_has ls' nL ((i, v) :: (pr 0 lv).filter (fun q => !(q.1 == i) && !(q.1 + 1 == i && q.2.category == 2)))) : LV ls' nL (lvs lv i v) := by
  refine ⟨h.1, h.2.1, fun q hq => h.2.2 q ?_⟩
  obtain ⟨k, h1, h2⟩ := pr_mem.mp hq
  rw [Nat.zero_add] at h1
  rcases lvg_lvs h2 with ⟨h3, h4⟩ | ⟨h3, h4⟩
  · have : q = (i, v) := Prod.ext (h1.trans h3) h4
    rw [this]
    exact List.mem_cons_self
  · refine List.mem_cons_of_mem _ (List.mem_filter.mpr ⟨pr_mem.mpr ⟨k, by omega, h4⟩, ?_⟩)
    have h5 : (q.1 == i) = false := by simpa [h1] using h3
    rw [h5]
    by_cases h6 : q.1 + 1 = i
    · subst h6
      rw [h1] at hok
      simp only [lvok, h4] at hok
      simp
      intro hc
      rw [hc] at hok
      exact absurd hok (by decide)
    · simp [h6]
/-- from here the method comes to its end with what K says, if it says something -/
def WA {ρ : Type} (Λ : Ly) (Θ : TT) (Qf : ρ → State → Prop) (pc : Nat) (lv : List (Option Value)) (st : List Value) (σ : St) (K : Option ρ) : Prop :=
  ∀ r, K = some r → ∀ (H : Heap) (ls : Array Slot) (locs : List Loc), LV ls (cNL Θ) lv → Rep Λ (cW Θ) (cAd Θ) (cN Θ) σ H → va_S (cW Θ).2.2.1 (cS Θ).heap H locs → WW Θ.1 H locs (cC Θ).1 (cC Θ).2 (Qf r) (F0 (cM Θ) pc ls st)
end
section
/-! ===== the rows: an instruction each ===== -/
def lvn : List (Option Value) → Nat → List (Option Value)
  | [], _ => []
  | _ :: t, 0 => none :: t
  | o :: t, k + 1 => o :: lvn t k
theorem lvg_lvn : ∀ {l : List (Option Value)} {i k : Nat} {w : Value}, lvg (lvn l i) k = some w → k ≠ i ∧ lvg l k = some w
  | [], i, k, w, h => by simp [lvn, lvg] at h
  | o :: t, 0, 0, w, h => by simp [lvn, lvg] at h
  | o :: t, 0, k + 1, w, h => ⟨by omega, h⟩
  | o :: t, i + 1, 0, w, h => ⟨by omega, h⟩
  | o :: t, i + 1, k + 1, w, h => by
    obtain ⟨h1, h2⟩ := lvg_lvn (l := t) h
    exact ⟨by omega, h2⟩
theorem LV.set2 {ls' : Array Slot} {nL : Nat} {lv : List (Option Value)} {i : Nat} {v : Value} (hok : lvok lv i = true) (h : lv_has ls' nL ((i, v) :: (pr 0 lv).filter (fun q => !(q.1 == i) && (!(q.1 == i + 1) && !(q.1 + 1 == i && q.2.category == 2))))) : LV ls' nL (lvn (lvs lv i v) (i + 1)) := by
  refine ⟨h.1, h.2.1, fun q hq => h.2.2 q ?_⟩
  obtain ⟨k, h1, h2⟩ := pr_mem.mp hq
  rw [Nat.zero_add] at h1
  obtain ⟨h7, h2⟩ := lvg_lvn h2
  rcases lvg_lvs h2 with ⟨h3, h4⟩ | ⟨h3, h4⟩
  · have : q = (i, v) := Prod.ext (h1.trans h3) h4
    rw [this]
    exact List.mem_cons_self
  · refine List.mem_cons_of_mem _ (List.mem_filter.mpr ⟨pr_mem.mpr ⟨k, by omega, h4⟩, ?_⟩)
    have h5 : (q.1 == i) = false := by simpa [h1] using h3
    have h8 : (q.1 == i + 1) = false := by simpa [h1] using h7
    rw [h5, h8]
    by_cases h6 : q.1 + 1 = i
    · subst h6
      rw [h1] at hok
      simp only [lvok, h4] at hok
      simp
      intro hc
      rw [hc] at hok
      exact absurd hok (by decide)
    · simp [h6]
section Rows
variable {ρ : Type} {Λ : Ly} {Θ : TT} {Qf : ρ → State → Prop} {cc : ByteArray} {own : String} {ret : Option FieldType} {rm : Room} {nL pc : Nat} {lv : List (Option Value)} {st : List Value} {σ : St} {K : Option ρ}
theorem CX.hx (C : CX Θ cc own ret rm nL) : Θ.1.1.tables.exec = Jvm.exec := C.1
theorem CX.hb (C : CX Θ cc own ret rm nL) : Θ.1.2.2.2.2.2.2.2.2.2.code = cc := C.2.1
theorem CX.hml (C : CX Θ cc own ret rm nL) : Θ.1.2.2.2.2.2.2.2.2.2.maxLocals = nL := C.2.2.1.trans C.2.2.2.2.2.2.2.2.2.2.2.1
theorem CX.hown (C : CX Θ cc own ret rm nL) : (cS Θ).vm.findClass own = some (cM Θ).cls := C.2.2.2.1
theorem CX.hts (C : CX Θ cc own ret rm nL) : ∀ w ∈ wt, w.before Θ.1.2.2.2.2.2.2.1 (cS Θ) = true := C.2.2.2.2.1
theorem CX.hr (C : CX Θ cc own ret rm nL) : Θ.1.2.2.2.2.2.2.2.2.1.sig.returnType = ret := C.2.2.2.2.2.1
theorem CX.hlk (C : CX Θ cc own ret rm nL) : Θ.1.2.2.2.2.2.2.2.2.1.locks = false := C.2.2.2.2.2.2.1
theorem CX.hK (C : CX Θ cc own ret rm nL) : va_K (cW Θ).1 vwCl (tys (cW Θ)) (cS Θ) := C.2.2.2.2.2.2.2.1
theorem CX.hA (C : CX Θ cc own ret rm nL) : ∀ q, (cS Θ).heap.size ≤ q → (cW Θ).2.2.1 q := C.2.2.2.2.2.2.2.2.1
theorem CX.hF (C : CX Θ cc own ret rm nL) : SF (cW Θ) (cS Θ) (cS Θ).heap := C.2.2.2.2.2.2.2.2.2.1
theorem CX.hR (C : CX Θ cc own ret rm nL) : Θ.1.2.2.2.1 = rm := C.2.2.2.2.2.2.2.2.2.2.1
theorem CX.hn (C : CX Θ cc own ret rm nL) : cNL Θ = nL := C.2.2.2.2.2.2.2.2.2.2.2.1
theorem CX.hN (C : CX Θ cc own ret rm nL) : NW (cS Θ) := C.2.2.2.2.2.2.2.2.2.2.2.2.1
theorem CX.hc (C : CX Θ cc own ret rm nL) : (cC Θ).1 ≤ rm.cells ∧ (cC Θ).2 ≤ rm.slots := C.2.2.2.2.2.2.2.2.2.2.2.2.2
theorem CX.hcR (C : CX Θ cc own ret rm nL) : (cC Θ).1 ≤ Θ.1.2.2.2.1.cells ∧ (cC Θ).2 ≤ Θ.1.2.2.2.1.slots := by rw [C.hR]; exact C.hc
-- constants
theorem r_iconst (C : CX Θ cc own ret rm nL) {n : Int} (v : Int32) (hdg : decode cc pc = .ok (.iconst n, 1)) (hv : Int32.ofInt n = v) (k : WA Λ Θ Qf (pc + 1) lv (.int v :: st) σ K) : WA Λ Θ Qf pc lv st σ K :=
  fun r hr H ls locs hl hR hS => lv_iconst C.hx C.hb hdg hv (k r hr H ls locs hl hR hS)
theorem r_bipush (C : CX Θ cc own ret rm nL) {n : Int} (v : Int32) (hdg : decode cc pc = .ok (.bipush n, 2)) (hv : (Int8.ofInt n).toInt32 = v) (k : WA Λ Θ Qf (pc + 2) lv (.int v :: st) σ K) : WA Λ Θ Qf pc lv st σ K :=
  fun r hr H ls locs hl hR hS => lv_bipush C.hx C.hb hdg hv (k r hr H ls locs hl hR hS)
theorem r_sipush (C : CX Θ cc own ret rm nL) {n : Int} (v : Int32) (hdg : decode cc pc = .ok (.sipush n, 3)) (hv : (Int16.ofInt n).toInt32 = v) (k : WA Λ Θ Qf (pc + 3) lv (.int v :: st) σ K) : WA Λ Θ Qf pc lv st σ K :=
  fun r hr H ls locs hl hR hS => lv_sipush C.hx C.hb hdg hv (k r hr H ls locs hl hR hS)
theorem r_ldc (C : CX Θ cc own ret rm nL) {i : Nat} {v : Int32} (hdg : decode cc pc = .ok (.ldc i, 2)) (hw : Cond.constant own i v ∈ wt) (k : WA Λ Θ Qf (pc + 2) lv (.int v :: st) σ K) : WA Λ Θ Qf pc lv st σ K :=
  fun r hr H ls locs hl hR hS => lv_ldc C.hx C.hb C.hown (C.hts _ hw) hdg (k r hr H ls locs hl hR hS)
theorem r_ldcw (C : CX Θ cc own ret rm nL) {i : Nat} {v : Int32} (hdg : decode cc pc = .ok (.ldc_w i, 3)) (hw : Cond.constant own i v ∈ wt) (k : WA Λ Θ Qf (pc + 3) lv (.int v :: st) σ K) : WA Λ Θ Qf pc lv st σ K :=
  fun r hr H ls locs hl hR hS => lv_ldcw C.hx C.hb C.hown (C.hts _ hw) hdg (k r hr H ls locs hl hR hS)
theorem r_null (C : CX Θ cc own ret rm nL) (hdg : decode cc pc = .ok (.aconst_null, 1)) (k : WA Λ Θ Qf (pc + 1) lv (.null :: st) σ K) : WA Λ Θ Qf pc lv st σ K :=
  fun r hr H ls locs hl hR hS => lv_null C.hx C.hb hdg (k r hr H ls locs hl hR hS)
-- locals
theorem r_iload_n (C : CX Θ cc own ret rm nL) {i : Fin 4} {x : Int32} (hdg : decode cc pc = .ok (.iload_n i, 1)) (h : lvg lv i = some (.int x)) (k : WA Λ Θ Qf (pc + 1) lv (.int x :: st) σ K) : WA Λ Θ Qf pc lv st σ K :=
  fun r hr H ls locs hl hR hS => lv_iload_n C.hx C.hb hdg rfl (hl.get h) (k r hr H ls locs hl hR hS)
theorem r_iload (C : CX Θ cc own ret rm nL) {i : Nat} {x : Int32} (hdg : decode cc pc = .ok (.iload i, 2)) (h : lvg lv i = some (.int x)) (k : WA Λ Θ Qf (pc + 2) lv (.int x :: st) σ K) : WA Λ Θ Qf pc lv st σ K :=
  fun r hr H ls locs hl hR hS => lv_iload C.hx C.hb hdg (hl.get h) (k r hr H ls locs hl hR hS)
theorem r_lload_n (C : CX Θ cc own ret rm nL) {i : Fin 4} {x : Int64} (hdg : decode cc pc = .ok (.lload_n i, 1)) (h : lvg lv i = some (.long x)) (k : WA Λ Θ Qf (pc + 1) lv (.long x :: st) σ K) : WA Λ Θ Qf pc lv st σ K :=
  fun r hr H ls locs hl hR hS => lv_lload_n C.hx C.hb hdg rfl (hl.get h) (k r hr H ls locs hl hR hS)
theorem r_aload_n (C : CX Θ cc own ret rm nL) {i : Fin 4} {x : Nat} (hdg : decode cc pc = .ok (.aload_n i, 1)) (h : lvg lv i = some (.ref x)) (k : WA Λ Θ Qf (pc + 1) lv (.ref x :: st) σ K) : WA Λ Θ Qf pc lv st σ K :=
  fun r hr H ls locs hl hR hS => lv_aload_n C.hx C.hb hdg rfl (hl.get h) (k r hr H ls locs hl hR hS)
theorem r_aload (C : CX Θ cc own ret rm nL) {i : Nat} {x : Nat} (hdg : decode cc pc = .ok (.aload i, 2)) (h : lvg lv i = some (.ref x)) (k : WA Λ Θ Qf (pc + 2) lv (.ref x :: st) σ K) : WA Λ Θ Qf pc lv st σ K :=
  fun r hr H ls locs hl hR hS => lv_aload C.hx C.hb hdg (hl.get h) (k r hr H ls locs hl hR hS)
theorem r_aload_nQ (C : CX Θ cc own ret rm nL) {i : Fin 4} {x : Option Nat} (hdg : decode cc pc = .ok (.aload_n i, 1)) (h : lvg lv i = some (va_rf x)) (k : WA Λ Θ Qf (pc + 1) lv (va_rf x :: st) σ K) : WA Λ Θ Qf pc lv st σ K :=
  fun r hr H ls locs hl hR hS => by
    cases x with
    | none => exact lv_aload_nN C.hx C.hb hdg rfl (hl.get h) (k r hr H ls locs hl hR hS)
    | some a => exact lv_aload_n C.hx C.hb hdg rfl (hl.get h) (k r hr H ls locs hl hR hS)
theorem r_aloadQ (C : CX Θ cc own ret rm nL) {i : Nat} {x : Option Nat} (hdg : decode cc pc = .ok (.aload i, 2)) (h : lvg lv i = some (va_rf x)) (k : WA Λ Θ Qf (pc + 2) lv (va_rf x :: st) σ K) : WA Λ Θ Qf pc lv st σ K :=
  fun r hr H ls locs hl hR hS => by
    cases x with
    | none => exact lv_aloadN C.hx C.hb hdg (hl.get h) (k r hr H ls locs hl hR hS)
    | some a => exact lv_aload C.hx C.hb hdg (hl.get h) (k r hr H ls locs hl hR hS)
theorem r_istore_n (C : CX Θ cc own ret rm nL) {i : Fin 4} {x : Int32} (lv' : List (Option Value)) (hdg : decode cc pc = .ok (.istore_n i, 1)) (hs : lvs lv i (.int x) = lv') (hn : (i : Nat) < nL) (hok : lvok lv i = true) (k : WA Λ Θ Qf (pc + 1) lv' st σ K) : WA Λ Θ Qf pc lv (.int x :: st) σ K :=
  fun r hr H ls locs hl hR hS => lv_istore_n C.hx C.hb hdg rfl hl (by rw [C.hn]; exact hn) rfl (fun ls' hl' => k r hr H ls' locs (by rw [← hs]; exact LV.set hok hl') hR hS)
theorem r_istore (C : CX Θ cc own ret rm nL) {i : Nat} {x : Int32} (lv' : List (Option Value)) (hdg : decode cc pc = .ok (.istore i, 2)) (hs : lvs lv i (.int x) = lv') (hn : i < nL) (hok : lvok lv i = true) (k : WA Λ Θ Qf (pc + 2) lv' st σ K) : WA Λ Θ Qf pc lv (.int x :: st) σ K :=
  fun r hr H ls locs hl hR hS => lv_istore C.hx C.hb hdg hl (by rw [C.hn]; exact hn) rfl (fun ls' hl' => k r hr H ls' locs (by rw [← hs]; exact LV.set hok hl') hR hS)
theorem r_astore_n (C : CX Θ cc own ret rm nL) {i : Fin 4} {x : Option Nat} (lv' : List (Option Value)) (hdg : decode cc pc = .ok (.astore_n i, 1)) (hs : lvs lv i (va_rf x) = lv') (hn : (i : Nat) < nL) (hok : lvok lv i = true) (k : WA Λ Θ Qf (pc + 1) lv' st σ K) : WA Λ Θ Qf pc lv (va_rf x :: st) σ K :=
  fun r hr H ls locs hl hR hS => by
    cases x with
    | none => exact lv_astore_nN C.hx C.hb hdg rfl hl (by rw [C.hn]; exact hn) rfl (fun ls' hl' => k r hr H ls' locs (by rw [← hs]; exact LV.set hok hl') hR hS)
    | some a => exact lv_astore_n C.hx C.hb hdg rfl hl (by rw [C.hn]; exact hn) rfl (fun ls' hl' => k r hr H ls' locs (by rw [← hs]; exact LV.set hok hl') hR hS)
theorem r_astore (C : CX Θ cc own ret rm nL) {i : Nat} {x : Option Nat} (lv' : List (Option Value)) (hdg : decode cc pc = .ok (.astore i, 2)) (hs : lvs lv i (va_rf x) = lv') (hn : i < nL) (hok : lvok lv i = true) (k : WA Λ Θ Qf (pc + 2) lv' st σ K) : WA Λ Θ Qf pc lv (va_rf x :: st) σ K :=
  fun r hr H ls locs hl hR hS => by
    cases x with
    | none => exact lv_astoreN C.hx C.hb hdg hl (by rw [C.hn]; exact hn) rfl (fun ls' hl' => k r hr H ls' locs (by rw [← hs]; exact LV.set hok hl') hR hS)
    | some a => exact lv_astore C.hx C.hb hdg hl (by rw [C.hn]; exact hn) rfl (fun ls' hl' => k r hr H ls' locs (by rw [← hs]; exact LV.set hok hl') hR hS)
theorem r_iinc (C : CX Θ cc own ret rm nL) {i : Nat} {n : Int} {x : Int32} (c : Int32) (lv' : List (Option Value)) (hdg : decode cc pc = .ok (.iinc i n, 3)) (hc : Int32.ofInt n = c) (h : lvg lv i = some (.int x)) (hs : lvs lv i (.int (x + c)) = lv') (hn : i < nL) (hok : lvok lv i = true) (k : WA Λ Θ Qf (pc + 3) lv' st σ K) : WA Λ Θ Qf pc lv st σ K :=
  fun r hr H ls locs hl hR hS => by
    obtain ⟨k0, hk0⟩ := List.getElem?_of_mem (pr_mem.mpr ⟨i, by simp, h⟩ : ((i, Value.int x) : Nat × Value) ∈ pr 0 lv)
    exact lv_iinc C.hx C.hb hdg hl hk0 (by rw [hc]) (by rw [C.hn]; exact hn) rfl (fun ls' hl' => k r hr H ls' locs (by rw [← hs]; exact LV.set hok hl') hR hS)
-- stack
theorem r_dup (C : CX Θ cc own ret rm nL) {v : Value} (hdg : decode cc pc = .ok (.dup, 1)) (hc : v.category = 1) (k : WA Λ Θ Qf (pc + 1) lv (v :: v :: st) σ K) : WA Λ Θ Qf pc lv (v :: st) σ K :=
  fun r hr H ls locs hl hR hS => lv_dup C.hx C.hb hdg hc (k r hr H ls locs hl hR hS)
theorem r_dup2 (C : CX Θ cc own ret rm nL) {v w : Value} (hdg : decode cc pc = .ok (.dup2, 1)) (hv : v.category = 1) (hw : w.category = 1) (k : WA Λ Θ Qf (pc + 1) lv (v :: w :: v :: w :: st) σ K) : WA Λ Θ Qf pc lv (v :: w :: st) σ K :=
  fun r hr H ls locs hl hR hS => lv_dup2_11 C.hx C.hb hdg hv hw (k r hr H ls locs hl hR hS)
-- arithmetic
theorem r_iadd (C : CX Θ cc own ret rm nL) {x y : Int32} (hdg : decode cc pc = .ok (.iadd, 1)) (k : WA Λ Θ Qf (pc + 1) lv (.int (x + y) :: st) σ K) : WA Λ Θ Qf pc lv (.int y :: .int x :: st) σ K :=
  fun r hr H ls locs hl hR hS => lv_iadd C.hx C.hb hdg (k r hr H ls locs hl hR hS)
theorem r_isub (C : CX Θ cc own ret rm nL) {x y : Int32} (hdg : decode cc pc = .ok (.isub, 1)) (k : WA Λ Θ Qf (pc + 1) lv (.int (x - y) :: st) σ K) : WA Λ Θ Qf pc lv (.int y :: .int x :: st) σ K :=
  fun r hr H ls locs hl hR hS => lv_isub C.hx C.hb hdg (k r hr H ls locs hl hR hS)
theorem r_imul (C : CX Θ cc own ret rm nL) {x y : Int32} (hdg : decode cc pc = .ok (.imul, 1)) (k : WA Λ Θ Qf (pc + 1) lv (.int (x * y) :: st) σ K) : WA Λ Θ Qf pc lv (.int y :: .int x :: st) σ K :=
  fun r hr H ls locs hl hR hS => lv_imul C.hx C.hb hdg (k r hr H ls locs hl hR hS)
theorem r_iand (C : CX Θ cc own ret rm nL) {x y : Int32} (hdg : decode cc pc = .ok (.iand, 1)) (k : WA Λ Θ Qf (pc + 1) lv (.int (x &&& y) :: st) σ K) : WA Λ Θ Qf pc lv (.int y :: .int x :: st) σ K :=
  fun r hr H ls locs hl hR hS => lv_iand C.hx C.hb hdg (k r hr H ls locs hl hR hS)
theorem r_ior (C : CX Θ cc own ret rm nL) {x y : Int32} (hdg : decode cc pc = .ok (.ior, 1)) (k : WA Λ Θ Qf (pc + 1) lv (.int (x ||| y) :: st) σ K) : WA Λ Θ Qf pc lv (.int y :: .int x :: st) σ K :=
  fun r hr H ls locs hl hR hS => lv_ior C.hx C.hb hdg (k r hr H ls locs hl hR hS)
theorem r_ixor (C : CX Θ cc own ret rm nL) {x y : Int32} (hdg : decode cc pc = .ok (.ixor, 1)) (k : WA Λ Θ Qf (pc + 1) lv (.int (x ^^^ y) :: st) σ K) : WA Λ Θ Qf pc lv (.int y :: .int x :: st) σ K :=
  fun r hr H ls locs hl hR hS => lv_ixor C.hx C.hb hdg (k r hr H ls locs hl hR hS)
theorem r_ishl (C : CX Θ cc own ret rm nL) {x y : Int32} (hdg : decode cc pc = .ok (.ishl, 1)) (k : WA Λ Θ Qf (pc + 1) lv (.int (x <<< (y &&& 31)) :: st) σ K) : WA Λ Θ Qf pc lv (.int y :: .int x :: st) σ K :=
  fun r hr H ls locs hl hR hS => lv_ishl C.hx C.hb hdg (k r hr H ls locs hl hR hS)
theorem r_ishr (C : CX Θ cc own ret rm nL) {x y : Int32} (hdg : decode cc pc = .ok (.ishr, 1)) (k : WA Λ Θ Qf (pc + 1) lv (.int (x >>> (y &&& 31)) :: st) σ K) : WA Λ Θ Qf pc lv (.int y :: .int x :: st) σ K :=
  fun r hr H ls locs hl hR hS => lv_ishr C.hx C.hb hdg (k r hr H ls locs hl hR hS)
theorem r_iushr (C : CX Θ cc own ret rm nL) {x y : Int32} (hdg : decode cc pc = .ok (.iushr, 1)) (k : WA Λ Θ Qf (pc + 1) lv (.int (x.toUInt32 >>> (y.toUInt32 &&& Int32.toUInt32 31)).toInt32 :: st) σ K) : WA Λ Θ Qf pc lv (.int y :: .int x :: st) σ K :=
  fun r hr H ls locs hl hR hS => lv_iushr C.hx C.hb hdg rfl (k r hr H ls locs hl hR hS)
theorem r_ineg (C : CX Θ cc own ret rm nL) {x : Int32} (hdg : decode cc pc = .ok (.ineg, 1)) (k : WA Λ Θ Qf (pc + 1) lv (.int (-x) :: st) σ K) : WA Λ Θ Qf pc lv (.int x :: st) σ K :=
  fun r hr H ls locs hl hR hS => lv_ineg C.hx C.hb hdg (k r hr H ls locs hl hR hS)
/-- by a number that is not 0 -/
theorem r_idivc (C : CX Θ cc own ret rm nL) {x y : Int32} (hdg : decode cc pc = .ok (.idiv, 1)) (hy : ¬ y = 0) (k : WA Λ Θ Qf (pc + 1) lv (.int (x / y) :: st) σ K) : WA Λ Θ Qf pc lv (.int y :: .int x :: st) σ K :=
  fun r hr H ls locs hl hR hS => lv_idiv C.hx C.hb hdg hy (k r hr H ls locs hl hR hS)
theorem r_iremc (C : CX Θ cc own ret rm nL) {x y : Int32} (hdg : decode cc pc = .ok (.irem, 1)) (hy : ¬ y = 0) (k : WA Λ Θ Qf (pc + 1) lv (.int (x - x / y * y) :: st) σ K) : WA Λ Θ Qf pc lv (.int y :: .int x :: st) σ K :=
  fun r hr H ls locs hl hR hS => lv_irem C.hx C.hb hdg hy (k r hr H ls locs hl hR hS)
theorem r_idiv (C : CX Θ cc own ret rm nL) {x y : Int32} (hdg : decode cc pc = .ok (.idiv, 1)) (k : WA Λ Θ Qf (pc + 1) lv (.int (x / y) :: st) σ K) : WA Λ Θ Qf pc lv (.int y :: .int x :: st) σ (if y = 0 then none else K) :=
  fun r hr H ls locs hl hR hS => by
    by_cases hy : y = 0
    · rw [if_pos hy] at hr; cases hr
    · rw [if_neg hy] at hr
      exact lv_idiv C.hx C.hb hdg hy (k r hr H ls locs hl hR hS)
theorem r_irem (C : CX Θ cc own ret rm nL) {x y : Int32} (hdg : decode cc pc = .ok (.irem, 1)) (k : WA Λ Θ Qf (pc + 1) lv (.int (x - x / y * y) :: st) σ K) : WA Λ Θ Qf pc lv (.int y :: .int x :: st) σ (if y = 0 then none else K) :=
  fun r hr H ls locs hl hR hS => by
    by_cases hy : y = 0
    · rw [if_pos hy] at hr; cases hr
    · rw [if_neg hy] at hr
      exact lv_irem C.hx C.hb hdg hy (k r hr H ls locs hl hR hS)
-- longs
theorem r_lconst (C : CX Θ cc own ret rm nL) {n : Fin 2} (v : Int64) (hdg : decode cc pc = .ok (.lconst n, 1)) (hv : Int64.ofNat (n : Nat) = v) (k : WA Λ Θ Qf (pc + 1) lv (.long v :: st) σ K) : WA Λ Θ Qf pc lv st σ K :=
  fun r hr H ls locs hl hR hS => lv_lconst C.hx C.hb hdg hv (k r hr H ls locs hl hR hS)
theorem r_lor (C : CX Θ cc own ret rm nL) {x y : Int64} (hdg : decode cc pc = .ok (.lor, 1)) (k : WA Λ Θ Qf (pc + 1) lv (.long (x ||| y) :: st) σ K) : WA Λ Θ Qf pc lv (.long y :: .long x :: st) σ K :=
  fun r hr H ls locs hl hR hS => lv_lor C.hx C.hb hdg (k r hr H ls locs hl hR hS)
theorem r_lxor (C : CX Θ cc own ret rm nL) {x y : Int64} (hdg : decode cc pc = .ok (.lxor, 1)) (k : WA Λ Θ Qf (pc + 1) lv (.long (x ^^^ y) :: st) σ K) : WA Λ Θ Qf pc lv (.long y :: .long x :: st) σ K :=
  fun r hr H ls locs hl hR hS => lv_lxor C.hx C.hb hdg (k r hr H ls locs hl hR hS)
theorem r_land (C : CX Θ cc own ret rm nL) {x y : Int64} (hdg : decode cc pc = .ok (.land, 1)) (k : WA Λ Θ Qf (pc + 1) lv (.long (x &&& y) :: st) σ K) : WA Λ Θ Qf pc lv (.long y :: .long x :: st) σ K :=
  fun r hr H ls locs hl hR hS => lv_land C.hx C.hb hdg (k r hr H ls locs hl hR hS)
theorem r_ladd (C : CX Θ cc own ret rm nL) {x y : Int64} (hdg : decode cc pc = .ok (.ladd, 1)) (k : WA Λ Θ Qf (pc + 1) lv (.long (x + y) :: st) σ K) : WA Λ Θ Qf pc lv (.long y :: .long x :: st) σ K :=
  fun r hr H ls locs hl hR hS => lv_ladd C.hx C.hb hdg (k r hr H ls locs hl hR hS)
theorem r_lsub (C : CX Θ cc own ret rm nL) {x y : Int64} (hdg : decode cc pc = .ok (.lsub, 1)) (k : WA Λ Θ Qf (pc + 1) lv (.long (x - y) :: st) σ K) : WA Λ Θ Qf pc lv (.long y :: .long x :: st) σ K :=
  fun r hr H ls locs hl hR hS => lv_lsub C.hx C.hb hdg (k r hr H ls locs hl hR hS)
theorem r_l2i (C : CX Θ cc own ret rm nL) {x : Int64} (hdg : decode cc pc = .ok (.l2i, 1)) (k : WA Λ Θ Qf (pc + 1) lv (.int x.toInt32 :: st) σ K) : WA Λ Θ Qf pc lv (.long x :: st) σ K :=
  fun r hr H ls locs hl hR hS => lv_l2i C.hx C.hb hdg rfl (k r hr H ls locs hl hR hS)
theorem r_lushr (C : CX Θ cc own ret rm nL) {x : Int64} {y : Int32} (hdg : decode cc pc = .ok (.lushr, 1)) (k : WA Λ Θ Qf (pc + 1) lv (.long (x.toUInt64 >>> (y.toInt64.toUInt64 &&& Int64.toUInt64 63)).toInt64 :: st) σ K) : WA Λ Θ Qf pc lv (.int y :: .long x :: st) σ K :=
  fun r hr H ls locs hl hR hS => lv_lushr C.hx C.hb hdg rfl (k r hr H ls locs hl hR hS)
theorem r_lshl (C : CX Θ cc own ret rm nL) {x : Int64} {y : Int32} (hdg : decode cc pc = .ok (.lshl, 1)) (k : WA Λ Θ Qf (pc + 1) lv (.long (x <<< (y.toInt64 &&& 63)) :: st) σ K) : WA Λ Θ Qf pc lv (.int y :: .long x :: st) σ K :=
  fun r hr H ls locs hl hR hS => lv_lshl C.hx C.hb hdg rfl (k r hr H ls locs hl hR hS)
theorem r_ldc2 (C : CX Θ cc own ret rm nL) {i : Nat} {v : Int64} (hdg : decode cc pc = .ok (.ldc2_w i, 3)) (hw : Cond.constantLong own i v ∈ wt) (k : WA Λ Θ Qf (pc + 3) lv (.long v :: st) σ K) : WA Λ Θ Qf pc lv st σ K :=
  fun r hr H ls locs hl hR hS => lv_ldc2 C.hx C.hb C.hown (C.hts _ hw) hdg (k r hr H ls locs hl hR hS)
theorem r_lstore_n (C : CX Θ cc own ret rm nL) {i : Fin 4} {x : Int64} (lv' : List (Option Value)) (hdg : decode cc pc = .ok (.lstore_n i, 1)) (hs : lvn (lvs lv i (.long x)) (i + 1) = lv') (hn : (i : Nat) + 1 < nL) (hok : lvok lv i = true) (k : WA Λ Θ Qf (pc + 1) lv' st σ K) : WA Λ Θ Qf pc lv (.long x :: st) σ K :=
  fun r hr H ls locs hl hR hS => lv_lstore_n C.hx C.hb hdg rfl hl (by rw [C.hn]; exact hn) rfl (fun ls' hl' => k r hr H ls' locs (by rw [← hs]; exact LV.set2 hok hl') hR hS)
-- branches
theorem r_goto (C : CX Θ cc own ret rm nL) {off : Int} (tgt : Nat) (hdg : decode cc pc = .ok (.goto off, 3)) (ht : (pc : Int) + off = (tgt : Int)) (k : WA Λ Θ Qf tgt lv st σ K) : WA Λ Θ Qf pc lv st σ K :=
  fun r hr H ls locs hl hR hS => lv_goto C.hx C.hb hdg ht (k r hr H ls locs hl hR hS)
theorem r_icmp_eq (C : CX Θ cc own ret rm nL) {x y : Int32} {off : Int} (tgt : Nat) {K1 K2 : Option ρ} (hdg : decode cc pc = .ok (.if_icmp .eq off, 3)) (ht : (pc : Int) + off = (tgt : Int)) (kt : WA Λ Θ Qf tgt lv st σ K1) (kf : WA Λ Θ Qf (pc + 3) lv st σ K2) : WA Λ Θ Qf pc lv (.int y :: .int x :: st) σ (if x = y then K1 else K2) :=
  fun r hr H ls locs hl hR hS => lv_icmp_eq C.hx C.hb hdg ht (fun h => kt r (by rw [if_pos h] at hr; exact hr) H ls locs hl hR hS) (fun h => kf r (by rw [if_neg h] at hr; exact hr) H ls locs hl hR hS)
theorem r_if_eq (C : CX Θ cc own ret rm nL) {x : Int32} {off : Int} (tgt : Nat) {K1 K2 : Option ρ} (hdg : decode cc pc = .ok (.ifCond .eq off, 3)) (ht : (pc : Int) + off = (tgt : Int)) (kt : WA Λ Θ Qf tgt lv st σ K1) (kf : WA Λ Θ Qf (pc + 3) lv st σ K2) : WA Λ Θ Qf pc lv (.int x :: st) σ (if x = 0 then K1 else K2) :=
  fun r hr H ls locs hl hR hS => lv_if_eq C.hx C.hb hdg ht (fun h => kt r (by rw [if_pos h] at hr; exact hr) H ls locs hl hR hS) (fun h => kf r (by rw [if_neg h] at hr; exact hr) H ls locs hl hR hS)
theorem r_icmp_ne (C : CX Θ cc own ret rm nL) {x y : Int32} {off : Int} (tgt : Nat) {K1 K2 : Option ρ} (hdg : decode cc pc = .ok (.if_icmp .ne off, 3)) (ht : (pc : Int) + off = (tgt : Int)) (kt : WA Λ Θ Qf tgt lv st σ K2) (kf : WA Λ Θ Qf (pc + 3) lv st σ K1) : WA Λ Θ Qf pc lv (.int y :: .int x :: st) σ (if x = y then K1 else K2) :=
  fun r hr H ls locs hl hR hS => lv_icmp_ne C.hx C.hb hdg ht (fun h => kt r (by rw [if_neg h] at hr; exact hr) H ls locs hl hR hS) (fun h => kf r (by rw [if_pos h] at hr; exact hr) H ls locs hl hR hS)
theorem r_if_ne (C : CX Θ cc own ret rm nL) {x : Int32} {off : Int} (tgt : Nat) {K1 K2 : Option ρ} (hdg : decode cc pc = .ok (.ifCond .ne off, 3)) (ht : (pc : Int) + off = (tgt : Int)) (kt : WA Λ Θ Qf tgt lv st σ K2) (kf : WA Λ Θ Qf (pc + 3) lv st σ K1) : WA Λ Θ Qf pc lv (.int x :: st) σ (if x = 0 then K1 else K2) :=
  fun r hr H ls locs hl hR hS => lv_if_ne C.hx C.hb hdg ht (fun h => kt r (by rw [if_neg h] at hr; exact hr) H ls locs hl hR hS) (fun h => kf r (by rw [if_pos h] at hr; exact hr) H ls locs hl hR hS)
theorem r_icmp_lt (C : CX Θ cc own ret rm nL) {x y : Int32} {off : Int} (tgt : Nat) {K1 K2 : Option ρ} (hdg : decode cc pc = .ok (.if_icmp .lt off, 3)) (ht : (pc : Int) + off = (tgt : Int)) (kt : WA Λ Θ Qf tgt lv st σ K1) (kf : WA Λ Θ Qf (pc + 3) lv st σ K2) : WA Λ Θ Qf pc lv (.int y :: .int x :: st) σ (if x < y then K1 else K2) :=
  fun r hr H ls locs hl hR hS => lv_icmp_lt C.hx C.hb hdg ht (fun h => kt r (by rw [if_pos h] at hr; exact hr) H ls locs hl hR hS) (fun h => kf r (by rw [if_neg h] at hr; exact hr) H ls locs hl hR hS)
theorem r_if_lt (C : CX Θ cc own ret rm nL) {x : Int32} {off : Int} (tgt : Nat) {K1 K2 : Option ρ} (hdg : decode cc pc = .ok (.ifCond .lt off, 3)) (ht : (pc : Int) + off = (tgt : Int)) (kt : WA Λ Θ Qf tgt lv st σ K1) (kf : WA Λ Θ Qf (pc + 3) lv st σ K2) : WA Λ Θ Qf pc lv (.int x :: st) σ (if x < 0 then K1 else K2) :=
  fun r hr H ls locs hl hR hS => lv_if_lt C.hx C.hb hdg ht (fun h => kt r (by rw [if_pos h] at hr; exact hr) H ls locs hl hR hS) (fun h => kf r (by rw [if_neg h] at hr; exact hr) H ls locs hl hR hS)
theorem r_icmp_ge (C : CX Θ cc own ret rm nL) {x y : Int32} {off : Int} (tgt : Nat) {K1 K2 : Option ρ} (hdg : decode cc pc = .ok (.if_icmp .ge off, 3)) (ht : (pc : Int) + off = (tgt : Int)) (kt : WA Λ Θ Qf tgt lv st σ K2) (kf : WA Λ Θ Qf (pc + 3) lv st σ K1) : WA Λ Θ Qf pc lv (.int y :: .int x :: st) σ (if x < y then K1 else K2) :=
  fun r hr H ls locs hl hR hS => lv_icmp_ge C.hx C.hb hdg ht (fun h => kt r (by rw [if_neg (Int32.not_lt.mpr h)] at hr; exact hr) H ls locs hl hR hS) (fun h => kf r (by rw [if_pos (Int32.not_le.mp h)] at hr; exact hr) H ls locs hl hR hS)
theorem r_if_ge (C : CX Θ cc own ret rm nL) {x : Int32} {off : Int} (tgt : Nat) {K1 K2 : Option ρ} (hdg : decode cc pc = .ok (.ifCond .ge off, 3)) (ht : (pc : Int) + off = (tgt : Int)) (kt : WA Λ Θ Qf tgt lv st σ K2) (kf : WA Λ Θ Qf (pc + 3) lv st σ K1) : WA Λ Θ Qf pc lv (.int x :: st) σ (if x < 0 then K1 else K2) :=
  fun r hr H ls locs hl hR hS => lv_if_ge C.hx C.hb hdg ht (fun h => kt r (by rw [if_neg (Int32.not_lt.mpr h)] at hr; exact hr) H ls locs hl hR hS) (fun h => kf r (by rw [if_pos (Int32.not_le.mp h)] at hr; exact hr) H ls locs hl hR hS)
theorem r_icmp_gt (C : CX Θ cc own ret rm nL) {x y : Int32} {off : Int} (tgt : Nat) {K1 K2 : Option ρ} (hdg : decode cc pc = .ok (.if_icmp .gt off, 3)) (ht : (pc : Int) + off = (tgt : Int)) (kt : WA Λ Θ Qf tgt lv st σ K1) (kf : WA Λ Θ Qf (pc + 3) lv st σ K2) : WA Λ Θ Qf pc lv (.int y :: .int x :: st) σ (if y < x then K1 else K2) :=
  fun r hr H ls locs hl hR hS => lv_icmp_gt C.hx C.hb hdg ht (fun h => kt r (by rw [if_pos h] at hr; exact hr) H ls locs hl hR hS) (fun h => kf r (by rw [if_neg h] at hr; exact hr) H ls locs hl hR hS)
theorem r_if_gt (C : CX Θ cc own ret rm nL) {x : Int32} {off : Int} (tgt : Nat) {K1 K2 : Option ρ} (hdg : decode cc pc = .ok (.ifCond .gt off, 3)) (ht : (pc : Int) + off = (tgt : Int)) (kt : WA Λ Θ Qf tgt lv st σ K1) (kf : WA Λ Θ Qf (pc + 3) lv st σ K2) : WA Λ Θ Qf pc lv (.int x :: st) σ (if 0 < x then K1 else K2) :=
  fun r hr H ls locs hl hR hS => lv_if_gt C.hx C.hb hdg ht (fun h => kt r (by rw [if_pos h] at hr; exact hr) H ls locs hl hR hS) (fun h => kf r (by rw [if_neg h] at hr; exact hr) H ls locs hl hR hS)
theorem r_icmp_le (C : CX Θ cc own ret rm nL) {x y : Int32} {off : Int} (tgt : Nat) {K1 K2 : Option ρ} (hdg : decode cc pc = .ok (.if_icmp .le off, 3)) (ht : (pc : Int) + off = (tgt : Int)) (kt : WA Λ Θ Qf tgt lv st σ K2) (kf : WA Λ Θ Qf (pc + 3) lv st σ K1) : WA Λ Θ Qf pc lv (.int y :: .int x :: st) σ (if y < x then K1 else K2) :=
  fun r hr H ls locs hl hR hS => lv_icmp_le C.hx C.hb hdg ht (fun h => kt r (by rw [if_neg (Int32.not_lt.mpr h)] at hr; exact hr) H ls locs hl hR hS) (fun h => kf r (by rw [if_pos (Int32.not_le.mp h)] at hr; exact hr) H ls locs hl hR hS)
theorem r_if_le (C : CX Θ cc own ret rm nL) {x : Int32} {off : Int} (tgt : Nat) {K1 K2 : Option ρ} (hdg : decode cc pc = .ok (.ifCond .le off, 3)) (ht : (pc : Int) + off = (tgt : Int)) (kt : WA Λ Θ Qf tgt lv st σ K2) (kf : WA Λ Θ Qf (pc + 3) lv st σ K1) : WA Λ Θ Qf pc lv (.int x :: st) σ (if 0 < x then K1 else K2) :=
  fun r hr H ls locs hl hR hS => lv_if_le C.hx C.hb hdg ht (fun h => kt r (by rw [if_neg (Int32.not_lt.mpr h)] at hr; exact hr) H ls locs hl hR hS) (fun h => kf r (by rw [if_pos (Int32.not_le.mp h)] at hr; exact hr) H ls locs hl hR hS)
/-- a choice ahead of what follows -/
theorem WA.bif {α : Type} {c : Prop} {hc : Decidable c} {X Y : Option α} {k : α → Option ρ} (w : WA Λ Θ Qf pc lv st σ (@ite _ c hc (X.bind k) (Y.bind k))) : WA Λ Θ Qf pc lv st σ ((@ite _ c hc X Y).bind k) := by
  by_cases h : c
  · rw [if_pos h] at w ⊢; exact w
  · rw [if_neg h] at w ⊢; exact w
theorem WA.asc {α β : Type} {X : Option α} {f : α → Option β} {g : β → Option ρ} (w : WA Λ Θ Qf pc lv st σ (X.bind fun a => (f a).bind g)) : WA Λ Θ Qf pc lv st σ ((X.bind f).bind g) := by
  rw [Option.bind_assoc]; exact w
theorem WA.bel {α β : Type} {o : Option α} {X : Option β} {Y : α → Option β} {k : β → Option ρ} (w : WA Λ Θ Qf pc lv st σ (o.elim (X.bind k) (fun a => (Y a).bind k))) : WA Λ Θ Qf pc lv st σ ((o.elim X Y).bind k) := by
  cases o <;> exact w
theorem r_ifnullN (C : CX Θ cc own ret rm nL) {f : Nat → Nat} {off : Int} (tgt : Nat) {α : Type} {K2 : α → Option ρ} (hdg : decode cc pc = .ok (.ifnull off, 3)) (ht : (pc : Int) + off = (tgt : Int)) (k : WA Λ Θ Qf tgt lv st σ K) : WA Λ Θ Qf pc lv (va_rf (Option.map f none) :: st) σ (Option.elim none K K2) :=
  fun r hr H ls locs hl hR hS => lv_ifnullN C.hx C.hb hdg ht (k r hr H ls locs hl hR hS)
theorem r_ifnullS (C : CX Θ cc own ret rm nL) {f : Nat → Nat} {off : Int} {q : Nat} {K1 : Option ρ} {K2 : Nat → Option ρ} (hdg : decode cc pc = .ok (.ifnull off, 3)) (k : WA Λ Θ Qf (pc + 3) lv st σ (K2 q)) : WA Λ Θ Qf pc lv (va_rf (Option.map f (some q)) :: st) σ (Option.elim (some q) K1 K2) :=
  fun r hr H ls locs hl hR hS => lv_ifnull C.hx C.hb hdg (k r hr H ls locs hl hR hS)
theorem r_ifnonnullN (C : CX Θ cc own ret rm nL) {f : Nat → Nat} {off : Int} {α : Type} {K2 : α → Option ρ} (hdg : decode cc pc = .ok (.ifnonnull off, 3)) (k : WA Λ Θ Qf (pc + 3) lv st σ K) : WA Λ Θ Qf pc lv (va_rf (Option.map f none) :: st) σ (Option.elim none K K2) :=
  fun r hr H ls locs hl hR hS => lv_ifnonnullN C.hx C.hb hdg (k r hr H ls locs hl hR hS)
theorem r_ifnonnullS (C : CX Θ cc own ret rm nL) {f : Nat → Nat} {off : Int} (tgt : Nat) {q : Nat} {K1 : Option ρ} {K2 : Nat → Option ρ} (hdg : decode cc pc = .ok (.ifnonnull off, 3)) (ht : (pc : Int) + off = (tgt : Int)) (k : WA Λ Θ Qf tgt lv st σ (K2 q)) : WA Λ Θ Qf pc lv (va_rf (Option.map f (some q)) :: st) σ (Option.elim (some q) K1 K2) :=
  fun r hr H ls locs hl hR hS => lv_ifnonnull C.hx C.hb hdg ht (k r hr H ls locs hl hR hS)
/-- a reference that is known: no choice -/
theorem r_ifnullK (C : CX Θ cc own ret rm nL) {off : Int} {x : Nat} (hdg : decode cc pc = .ok (.ifnull off, 3)) (k : WA Λ Θ Qf (pc + 3) lv st σ K) : WA Λ Θ Qf pc lv (.ref x :: st) σ K :=
  fun r hr H ls locs hl hR hS => lv_ifnull C.hx C.hb hdg (k r hr H ls locs hl hR hS)
theorem r_ifnonnullK (C : CX Θ cc own ret rm nL) {off : Int} (tgt : Nat) {x : Nat} (hdg : decode cc pc = .ok (.ifnonnull off, 3)) (ht : (pc : Int) + off = (tgt : Int)) (k : WA Λ Θ Qf tgt lv st σ K) : WA Λ Θ Qf pc lv (.ref x :: st) σ K :=
  fun r hr H ls locs hl hR hS => lv_ifnonnull C.hx C.hb hdg ht (k r hr H ls locs hl hR hS)
theorem r_ifnullZ (C : CX Θ cc own ret rm nL) {off : Int} (tgt : Nat) (hdg : decode cc pc = .ok (.ifnull off, 3)) (ht : (pc : Int) + off = (tgt : Int)) (k : WA Λ Θ Qf tgt lv st σ K) : WA Λ Θ Qf pc lv (.null :: st) σ K :=
  fun r hr H ls locs hl hR hS => lv_ifnullN C.hx C.hb hdg ht (k r hr H ls locs hl hR hS)
theorem r_ifnonnullZ (C : CX Θ cc own ret rm nL) {off : Int} (hdg : decode cc pc = .ok (.ifnonnull off, 3)) (k : WA Λ Θ Qf (pc + 3) lv st σ K) : WA Λ Θ Qf pc lv (.null :: st) σ K :=
  fun r hr H ls locs hl hR hS => lv_ifnonnullN C.hx C.hb hdg (k r hr H ls locs hl hR hS)
end Rows
end
section
/-! ===== rows of the memory ===== -/
/-- class own, by its pool's entry 'index', reads field kf of the object (d, j); what kind of field that is -/
def FG (Λ : Ly) (own : String) (index d j kf : Nat) (q : Nat × Nat) : Prop :=
  ∃ (ci : Nat) (fs : List (Nat × Nat)) (Cn : String) (T : u_T) (M : Nat), Λ.2 d j = .inl (ci, fs) ∧ fs[kf]? = some q ∧ vwCl[ci]? = some (Cn, T, M) ∧ kf < M ∧ (∀ w ∈ u_ws Cn T M, w ∈ wt) ∧ Cond.fieldLink own index (T kf).1 (T kf).2.1 (T kf).2.2.1 ∈ wt
/-- and may write it -/
def FP (Λ : Ly) (own : String) (index d j kf : Nat) (q : Nat × Nat) (ty : FieldType) : Prop :=
  ∃ (ci : Nat) (fs : List (Nat × Nat)) (Cn : String) (T : u_T) (M : Nat) (ty0 : Nat → FieldType), Λ.2 d j = .inl (ci, fs) ∧ fs[kf]? = some q ∧ vwCl[ci]? = some (Cn, T, M) ∧ kf < M ∧ (∀ w ∈ u_ws Cn T M, w ∈ wt) ∧ Cond.fieldLink own index (T kf).1 (T kf).2.1 (T kf).2.2.1 ∈ wt ∧
    (∀ k, k < M → parseFieldDescriptor (T k).2.2.1 = some (ty0 k)) ∧ (∀ a, a < M → ∀ b, b < M → a ≠ b → (T a).2.1 ≠ (T b).2.1) ∧ (T kf).2.2.2 = false ∧ parseFieldDescriptor (T kf).2.2.1 = some ty
/-- the fixed cell j is an array of type t with n places -/
def AG (Λ : Ly) (j t n : Nat) : Prop := j < Λ.1 ∧ Λ.2 0 j = .inr (t, n)
/-- a place of an array of n -/
def ix (n : Nat) (i : Int32) : Option Nat := if i < 0 then none else if i.toNatClampNeg < n then some i.toNatClampNeg else none
theorem ix_some {n : Nat} {i : Int32} {k : Nat} (h : ix n i = some k) : vp_in i n ∧ i.toNatClampNeg = k := by
  unfold ix at h
  split at h
  · cases h
  · split at h
    · exact ⟨fun q => q.elim (fun a => by contradiction) (fun a => by omega), Option.some.inj h⟩
    · cases h
/-- a name for a value -/
def lt1 {α : Type} {β : Type} (x : α) (k : α → β) : β := k x
section Mem
variable {ρ : Type} {Λ : Ly} {Θ : TT} {Qf : ρ → State → Prop} {cc : ByteArray} {own : String} {ret : Option FieldType} {rm : Room} {nL pc : Nat} {lv : List (Option Value)} {st : List Value} {σ : St} {K : Option ρ}
theorem dm0 {N : Nat → Nat} {j : Nat} (h : j < Λ.1) : dm Λ N 0 j := Or.inl ⟨rfl, h⟩
theorem dmk {N : Nat → Nat} {d j : Nat} (h1 : 1 ≤ d) (h2 : d ≤ 4) (h : j < N d) : dm Λ N d j := Or.inr ⟨h1, h2, h⟩
theorem one_P {D : va_G} {cl : List vw_C} {q : Nat × va_E} {H : Heap} (h : va_at D cl q H) : va_P D cl [q] H := fun k x hx => by
  have hz : k < 1 := (List.getElem?_eq_some_iff.mp hx).1
  rw [show k = 0 by omega] at hx
  cases hx
  exact h
theorem r_get (C : CX Θ cc own ret rm nL) {index d j kf : Nat} {q : Nat × Nat} (hdg : decode cc pc = .ok (.getfield index, 3)) (hf : FG Λ own index d j kf q) (hm : dm Λ (cN Θ) d j)
    (k : WA Λ Θ Qf (pc + 3) lv (fvl (cF Θ) (cAd Θ) σ d j kf q :: st) σ K) : WA Λ Θ Qf pc lv (.ref (adr (cW Θ) (cAd Θ) d j) :: st) σ K := by
  intro r hr H ls locs hl hR hS
  obtain ⟨ci, fs, Cn, T, M, h1, h2, h3, h4, h5, h6⟩ := hf
  have hat := hR.1 d j hm
  rw [h1] at hat
  refine va_get C.hx C.hb C.hts h5 C.hown C.hK (one_P hat) 0 (fs := fvs (cF Θ) (cAd Θ) σ d j 0 fs) rfl h3 kf h4 (C.hts _ h6) (fun _ h => h) (v := fvl (cF Θ) (cAd Θ) σ d j kf q) ?_ hdg (k r hr H ls locs hl hR hS)
  rw [fvs_get, h2, Nat.zero_add]
  rfl
theorem r_getI0 (C : CX Θ cc own ret rm nL) {index j kf z : Nat} (hdg : decode cc pc = .ok (.getfield index, 3)) (hf : FG Λ own index 0 j kf (0, z)) (hj : j < Λ.1)
    (k : WA Λ Θ Qf (pc + 3) lv (.int (σ.1 0 j kf) :: st) σ K) : WA Λ Θ Qf pc lv (.ref (cF Θ j) :: st) σ K := r_get C hdg hf (dm0 hj) k
theorem r_getF0 (C : CX Θ cc own ret rm nL) {index j kf i : Nat} (hdg : decode cc pc = .ok (.getfield index, 3)) (hf : FG Λ own index 0 j kf (1, i)) (hj : j < Λ.1)
    (k : WA Λ Θ Qf (pc + 3) lv (.ref (cF Θ i) :: st) σ K) : WA Λ Θ Qf pc lv (.ref (cF Θ j) :: st) σ K := r_get C hdg hf (dm0 hj) k
theorem r_getI (C : CX Θ cc own ret rm nL) {index d j kf z : Nat} (hdg : decode cc pc = .ok (.getfield index, 3)) (hf : FG Λ own index (d + 1) j kf (0, z)) (hd : d + 1 ≤ 4) (hj : j < cN Θ (d + 1))
    (k : WA Λ Θ Qf (pc + 3) lv (.int (σ.1 (d + 1) j kf) :: st) σ K) : WA Λ Θ Qf pc lv (.ref (cAd Θ (d + 1) j) :: st) σ K := r_get C hdg hf (dmk (Nat.succ_le_succ (Nat.zero_le d)) hd hj) k
/-- a reference of kind t + 1 out of an object: it gets a name, and is of use -/
theorem r_getQ (C : CX Θ cc own ret rm nL) {index d j kf t z : Nat} (hdg : decode cc pc = .ok (.getfield index, 3)) (hf : FG Λ own index (d + 1) j kf (t + 2, z)) (hd : d + 1 ≤ 4) (hj : j < cN Θ (d + 1)) {K2 : Option Nat → Option ρ}
    (k : ∀ x : Option Nat, (∀ q, x = some q → q < cN Θ (t + 1)) → WA Λ Θ Qf (pc + 3) lv (va_rf (x.map (cAd Θ (t + 1))) :: st) σ (K2 x)) : WA Λ Θ Qf pc lv (.ref (cAd Θ (d + 1) j) :: st) σ (lt1 (σ.2 (d + 1) j kf) K2) := by
  intro r hr H ls locs hl hR hS
  have hm : dm Λ (cN Θ) (d + 1) j := dmk (Nat.succ_le_succ (Nat.zero_le d)) hd hj
  obtain ⟨ci, fs, Cn, T, M, h1, h2, -⟩ := id hf
  have hv := hR.2.2.2 (d + 1) j hm
  rw [h1] at hv
  exact r_get C hdg hf hm (k (σ.2 (d + 1) j kf) (fun q hq => hv kf t z h2 q hq)) r hr H ls locs hl hR hS
theorem fvs_eq {fa : Nat → Nat} {ad : Nat → Nat → Nat} {σ σ' : St} {d j kf : Nat} : ∀ (qs : List (Nat × Nat)) (k0 : Nat) {v : Value}, (∀ k q, qs[k]? = some q → fvl fa ad σ' d j (k0 + k) q = if k = kf then v else fvl fa ad σ d j (k0 + k) q) → fvs fa ad σ' d j k0 qs = (fvs fa ad σ d j k0 qs).set kf v := by
  intro qs k0 v h
  apply List.ext_getElem?
  intro k
  rw [fvs_get, List.getElem?_set, fvs_get, fvs_len]
  cases hq : qs[k]? with
  | none =>
    have hk : qs.length ≤ k := List.getElem?_eq_none_iff.mp hq
    simp
    intro e
    omega
  | some q =>
    have hk : k < qs.length := (List.getElem?_eq_some_iff.mp hq).1
    simp only [Option.map_some, h k q hq]
    by_cases e : kf = k
    · subst e; simp [hk]
    · rw [if_neg (fun x => e x.symm), if_neg e]
/-- an int, or a boolean, into an object -/
theorem r_put (C : CX Θ cc own ret rm nL) {index d j kf z : Nat} {ty : FieldType} {x : Int32} (hdg : decode cc pc = .ok (.putfield index, 3)) (hf : FP Λ own index d j kf (0, z) ty) (hm : dm Λ (cN Θ) d j) (hn : narrow ty (.int x) = .int x) (hfit : fits ty (.int x) = true)
    (k : WA Λ Θ Qf (pc + 3) lv st (sx σ d j kf x) K) : WA Λ Θ Qf pc lv (.int x :: .ref (adr (cW Θ) (cAd Θ) d j) :: st) σ K := by
  intro r hr H ls locs hl hR hS
  obtain ⟨ci, fs, Cn, T, M, ty0, h1, h2, h3, h4, h5, h6, h7, h8, h9, h10⟩ := hf
  obtain ⟨i, i1, i2, i3⟩ := wl_at (ω := cW Θ) (ad := cAd Θ) hm σ
  rw [h1] at i3
  refine va_put C.hx C.hb C.hts h5 ty0 h7 h8 C.hown C.hK hR.P hR.D hS i (fs := fvs (cF Θ) (cAd Θ) σ d j 0 fs) i3 h3 kf h4 (C.hts _ h6) (fun _ h => h) h9 h10 hn hfit (by rw [fvs_len]; exact (List.getElem?_eq_some_iff.mp h2).1) hdg (fun H1 locs1 hP1 hD1 hS1 => ?_)
  refine k r hr H1 ls locs1 hl (hR.back i1 i2 hP1 ?_ (fun d' j' h => sx_o h) (hR.2.2.2 d j hm)) hS1
  rw [h1]
  simp only [cel]
  rw [fvs_eq (σ := σ) (kf := kf) (v := .int x) fs 0 (fun k q hq => ?_)]
  rw [Nat.zero_add]
  by_cases e : k = kf
  · subst e
    rw [h2] at hq
    cases hq
    simp [fvl, sx_1]
  · rw [if_neg e]
    unfold fvl
    rw [sx_1, sx_2, if_neg (fun h => e h.2.2)]
theorem r_putI0 (C : CX Θ cc own ret rm nL) {index j kf z : Nat} {x : Int32} (hdg : decode cc pc = .ok (.putfield index, 3)) (hf : FP Λ own index 0 j kf (0, z) .int) (hj : j < Λ.1)
    (k : WA Λ Θ Qf (pc + 3) lv st (sx σ 0 j kf x) K) : WA Λ Θ Qf pc lv (.int x :: .ref (cF Θ j) :: st) σ K := r_put C hdg hf (dm0 hj) rfl rfl k
theorem r_putZ0 (C : CX Θ cc own ret rm nL) {index j kf z : Nat} {x : Int32} (hdg : decode cc pc = .ok (.putfield index, 3)) (hf : FP Λ own index 0 j kf (0, z) .boolean) (hj : j < Λ.1) (hn : narrow .boolean (.int x) = .int x) (hfit : fits .boolean (.int x) = true)
    (k : WA Λ Θ Qf (pc + 3) lv st (sx σ 0 j kf x) K) : WA Λ Θ Qf pc lv (.int x :: .ref (cF Θ j) :: st) σ K := r_put C hdg hf (dm0 hj) hn hfit k
theorem r_putI (C : CX Θ cc own ret rm nL) {index d j kf z : Nat} {x : Int32} (hdg : decode cc pc = .ok (.putfield index, 3)) (hf : FP Λ own index (d + 1) j kf (0, z) .int) (hd : d + 1 ≤ 4) (hj : j < cN Θ (d + 1))
    (k : WA Λ Θ Qf (pc + 3) lv st (sx σ (d + 1) j kf x) K) : WA Λ Θ Qf pc lv (.int x :: .ref (cAd Θ (d + 1) j) :: st) σ K := r_put C hdg hf (dmk (Nat.succ_le_succ (Nat.zero_le d)) hd hj) rfl rfl k
/-- a reference into an object -/
theorem r_putQ (C : CX Θ cc own ret rm nL) {index d j kf t z : Nat} {Cn' : String} {x : Option Nat} (hdg : decode cc pc = .ok (.putfield index, 3)) (hf : FP Λ own index (d + 1) j kf (t + 2, z) (.object Cn')) (hd : d + 1 ≤ 4) (hj : j < cN Θ (d + 1)) (hx : ∀ q, x = some q → q < cN Θ (t + 1))
    (k : WA Λ Θ Qf (pc + 3) lv st (sy σ (d + 1) j kf x) K) : WA Λ Θ Qf pc lv (va_rf (x.map (cAd Θ (t + 1))) :: .ref (cAd Θ (d + 1) j) :: st) σ K := by
  intro r hr H ls locs hl hR hS
  have hm : dm Λ (cN Θ) (d + 1) j := dmk (Nat.succ_le_succ (Nat.zero_le d)) hd hj
  obtain ⟨ci, fs, Cn, T, M, ty0, h1, h2, h3, h4, h5, h6, h7, h8, h9, h10⟩ := hf
  obtain ⟨i, i1, i2, i3⟩ := wl_at (ω := cW Θ) (ad := cAd Θ) hm σ
  rw [h1] at i3
  refine va_put C.hx C.hb C.hts h5 ty0 h7 h8 C.hown C.hK hR.P hR.D hS i (fs := fvs (cF Θ) (cAd Θ) σ (d + 1) j 0 fs) i3 h3 kf h4 (C.hts _ h6) (fun _ h => h) h9 h10 (v := va_rf (x.map (cAd Θ (t + 1)))) (by cases x <;> rfl) (by cases x <;> rfl) (by rw [fvs_len]; exact (List.getElem?_eq_some_iff.mp h2).1) hdg (fun H1 locs1 hP1 hD1 hS1 => ?_)
  refine k r hr H1 ls locs1 hl (hR.back i1 i2 hP1 ?_ (fun d' j' h => sy_o h) ?_) hS1
  · rw [h1]
    simp only [cel]
    rw [fvs_eq (σ := σ) (kf := kf) (v := va_rf (x.map (cAd Θ (t + 1)))) fs 0 (fun k q hq => ?_)]
    rw [Nat.zero_add]
    by_cases e : k = kf
    · subst e
      rw [h2] at hq
      cases hq
      simp [fvl, sy_2]
    · rw [if_neg e]
      unfold fvl
      rw [sy_2, sy_1, if_neg (fun h => e h.2.2)]
  · have hv := hR.2.2.2 (d + 1) j hm
    rw [h1] at hv ⊢
    intro k' t' z' hk' q hq
    rw [sy_2] at hq
    by_cases e : k' = kf
    · subst e
      rw [if_pos ⟨rfl, rfl, rfl⟩] at hq
      rw [h2] at hk'
      cases hk'
      exact hx q hq
    · rw [if_neg (fun h => e h.2.2)] at hq
      exact hv k' t' z' hk' q hq
-- arrays
theorem r_iald (C : CX Θ cc own ret rm nL) {j n : Nat} {i : Int32} {α : Type} {K2 : Nat → Option ρ} (hdg : decode cc pc = .ok (.iaload, 1)) (hg : AG Λ j 0 n)
    (k : ∀ i' : Nat, WA Λ Θ Qf (pc + 1) lv (.int (σ.1 0 j i') :: st) σ (K2 i')) : WA Λ Θ Qf pc lv (.int i :: .ref (cF Θ j) :: st) σ ((ix n i).bind K2) := by
  intro r hr H ls locs hl hR hS
  cases hi : ix n i with
  | none => rw [hi] at hr; cases hr
  | some i' =>
    rw [hi] at hr
    obtain ⟨h1, h2⟩ := ix_some hi
    have hat := hR.1 0 j (dm0 hg.1)
    rw [hg.2] at hat
    subst h2
    exact va_iald C.hx C.hb C.hK (one_P hat) 0 0 (f := σ.1 0 j) rfl rfl h1 hdg (k _ r hr H ls locs hl hR hS)
theorem r_zald (C : CX Θ cc own ret rm nL) {j n : Nat} {i : Int32} {K2 : Nat → Option ρ} (hdg : decode cc pc = .ok (.baload, 1)) (hg : AG Λ j 1 n)
    (k : ∀ i' : Nat, WA Λ Θ Qf (pc + 1) lv (.int (σ.1 0 j i') :: st) σ (K2 i')) : WA Λ Θ Qf pc lv (.int i :: .ref (cF Θ j) :: st) σ ((ix n i).bind K2) := by
  intro r hr H ls locs hl hR hS
  cases hi : ix n i with
  | none => rw [hi] at hr; cases hr
  | some i' =>
    rw [hi] at hr
    obtain ⟨h1, h2⟩ := ix_some hi
    have hat := hR.1 0 j (dm0 hg.1)
    rw [hg.2] at hat
    subst h2
    exact va_zald C.hx C.hb C.hK (one_P hat) 0 1 (f := σ.1 0 j) rfl rfl h1 hdg (k _ r hr H ls locs hl hR hS)
theorem r_iast (C : CX Θ cc own ret rm nL) {j n : Nat} {i x : Int32} {K2 : Nat → Option ρ} (hdg : decode cc pc = .ok (.iastore, 1)) (hg : AG Λ j 0 n)
    (k : ∀ i' : Nat, WA Λ Θ Qf (pc + 1) lv st (sx σ 0 j i' x) (K2 i')) : WA Λ Θ Qf pc lv (.int x :: .int i :: .ref (cF Θ j) :: st) σ ((ix n i).bind K2) := by
  intro r hr H ls locs hl hR hS
  cases hi : ix n i with
  | none => rw [hi] at hr; cases hr
  | some i' =>
    rw [hi] at hr
    obtain ⟨h1, h2⟩ := ix_some hi
    obtain ⟨p, i1, i2, i3⟩ := wl_at (ω := cW Θ) (ad := cAd Θ) (dm0 (N := cN Θ) hg.1) σ
    rw [hg.2] at i3
    subst h2
    refine va_iast C.hx C.hb C.hK hR.P hR.D hS p 0 (f := σ.1 0 j) i3 rfl h1 hdg (fun H1 locs1 hP1 hD1 hS1 => ?_)
    refine k _ r hr H1 ls locs1 hl (hR.back i1 i2 hP1 ?_ (fun d' j' h => sx_o h) (hR.2.2.2 0 j (dm0 hg.1))) hS1
    rw [hg.2]
    simp only [cel, arc]
    congr 4
    funext q
    rw [sx_1]
    by_cases e : q = i.toNatClampNeg
    · subst e; simp [upd]
    · simp [upd, e]
theorem r_zast (C : CX Θ cc own ret rm nL) {j n : Nat} {i x : Int32} {K2 : Nat → Option ρ} (hdg : decode cc pc = .ok (.bastore, 1)) (hg : AG Λ j 1 n) (hx : vp_nar .boolean x = x)
    (k : ∀ i' : Nat, WA Λ Θ Qf (pc + 1) lv st (sx σ 0 j i' x) (K2 i')) : WA Λ Θ Qf pc lv (.int x :: .int i :: .ref (cF Θ j) :: st) σ ((ix n i).bind K2) := by
  intro r hr H ls locs hl hR hS
  cases hi : ix n i with
  | none => rw [hi] at hr; cases hr
  | some i' =>
    rw [hi] at hr
    obtain ⟨h1, h2⟩ := ix_some hi
    obtain ⟨p, i1, i2, i3⟩ := wl_at (ω := cW Θ) (ad := cAd Θ) (dm0 (N := cN Θ) hg.1) σ
    rw [hg.2] at i3
    subst h2
    refine va_zast C.hx C.hb C.hK hR.P hR.D hS p 1 (f := σ.1 0 j) i3 rfl h1 hdg (fun H1 locs1 hP1 hD1 hS1 => ?_)
    rw [hx] at hP1
    refine k _ r hr H1 ls locs1 hl (hR.back i1 i2 hP1 ?_ (fun d' j' h => sx_o h) (hR.2.2.2 0 j (dm0 hg.1))) hS1
    rw [hg.2]
    simp only [cel, arc]
    congr 4
    funext q
    rw [sx_1]
    by_cases e : q = i.toNatClampNeg
    · subst e; simp [upd]
    · simp [upd, e]
/-- of an array of references of kind t + 1 -/
theorem r_aald (C : CX Θ cc own ret rm nL) {j n t : Nat} {i : Int32} {Cn : String} {K2 : Option Nat → Option ρ} (hdg : decode cc pc = .ok (.aaload, 1)) (hg : AG Λ j (t + 2) n) (ht : (tys (cW Θ))[t + 2]? = some ((cW Θ).2.2.2.1 (t + 2), .object Cn))
    (k : ∀ x : Option Nat, (∀ q, x = some q → q < cN Θ (t + 1)) → WA Λ Θ Qf (pc + 1) lv (va_rf (x.map (cAd Θ (t + 1))) :: st) σ (K2 x)) : WA Λ Θ Qf pc lv (.int i :: .ref (cF Θ j) :: st) σ ((ix n i).bind fun i' => lt1 (σ.2 0 j i') K2) := by
  intro r hr H ls locs hl hR hS
  cases hi : ix n i with
  | none => rw [hi] at hr; cases hr
  | some i' =>
    rw [hi] at hr
    obtain ⟨h1, h2⟩ := ix_some hi
    have hat := hR.1 0 j (dm0 hg.1)
    have hv := hR.2.2.2 0 j (dm0 hg.1)
    rw [hg.2] at hat hv
    subst h2
    have hlt : i.toNatClampNeg < n := Nat.not_le.mp fun q => h1 (Or.inr q)
    exact va_aldq C.hx C.hb C.hK (one_P hat) 0 (t + 2) (f := fun i => (σ.2 0 j i).map (cAd Θ (t + 1))) rfl ht h1 hdg (k (σ.2 0 j i.toNatClampNeg) (fun q hq => hv _ hlt q hq) r hr H ls locs hl hR hS)
theorem r_aast (C : CX Θ cc own ret rm nL) {j n t ci : Nat} {i : Int32} {fs : List (Nat × Nat)} {R0 : vw_C} {x : Option Nat} {K2 : Nat → Option ρ} (hdg : decode cc pc = .ok (.aastore, 1)) (hg : AG Λ j (t + 2) n) (ht : (tys (cW Θ))[t + 2]? = some ((cW Θ).2.2.2.1 (t + 2), .object R0.1)) (hc : vwCl[ci]? = some R0) (hsh : ∀ q, Λ.2 (t + 1) q = .inl (ci, fs)) (ht4 : t + 1 ≤ 4)
    (hx : ∀ q, x = some q → q < cN Θ (t + 1)) (k : ∀ i' : Nat, WA Λ Θ Qf (pc + 1) lv st (sy σ 0 j i' x) (K2 i')) : WA Λ Θ Qf pc lv (va_rf (x.map (cAd Θ (t + 1))) :: .int i :: .ref (cF Θ j) :: st) σ ((ix n i).bind K2) := by
  intro r hr H ls locs hl hR hS
  cases hi : ix n i with
  | none => rw [hi] at hr; cases hr
  | some i' =>
    rw [hi] at hr
    obtain ⟨h1, h2⟩ := ix_some hi
    obtain ⟨p, i1, i2, i3⟩ := wl_at (ω := cW Θ) (ad := cAd Θ) (dm0 (N := cN Θ) hg.1) σ
    rw [hg.2] at i3
    subst h2
    have hvl : vld (cN Θ) (sy σ 0 j i.toNatClampNeg x) 0 j (Λ.2 0 j) := by
      have hv := hR.2.2.2 0 j (dm0 hg.1)
      rw [hg.2] at hv ⊢
      intro a ha q hq
      rw [sy_2] at hq
      by_cases e : a = i.toNatClampNeg
      · subst e
        rw [if_pos ⟨rfl, rfl, rfl⟩] at hq
        exact hx q hq
      · rw [if_neg (fun h => e h.2.2)] at hq
        exact hv a ha q hq
    have hce : cel (cW Θ) (cAd Θ) (sy σ 0 j i.toNatClampNeg x) 0 j (Λ.2 0 j) = .inl ((cW Θ).2.2.2.1 (t + 2), n, .inr (.inr (.inr (.inr (va_up (fun i => (σ.2 0 j i).map (cAd Θ (t + 1))) i.toNatClampNeg (x.map (cAd Θ (t + 1)))))))) := by
      rw [hg.2]
      simp only [cel, arc]
      congr 7
      funext q
      rw [sy_2]
      by_cases e : q = i.toNatClampNeg
      · subst e; simp [va_up]
      · simp [va_up, e]
    cases x with
    | none =>
      refine va_astqN C.hx C.hb C.hK hR.P hR.D hS p (t + 2) (f := fun i => (σ.2 0 j i).map (cAd Θ (t + 1))) i3 ht h1 hdg (fun H1 locs1 hP1 hD1 hS1 => ?_)
      exact k _ r hr H1 ls locs1 hl (hR.back i1 i2 hP1 hce (fun d' j' h => sy_o h) hvl) hS1
    | some q =>
      obtain ⟨p2, k1, k2, k3⟩ := wl_at (ω := cW Θ) (ad := cAd Θ) (dmk (Λ := Λ) (N := cN Θ) (Nat.succ_le_succ (Nat.zero_le t)) ht4 (hx q rfl)) σ
      rw [hsh] at k3
      refine va_astq C.hx C.hb C.hK hR.P hR.D hS p (t + 2) p2 ci (v := cAd Θ (t + 1) q) (r := R0) (f := fun i => (σ.2 0 j i).map (cAd Θ (t + 1))) i3 ht k3 hc h1 hdg (fun H1 locs1 hP1 hD1 hS1 => ?_)
      exact k _ r hr H1 ls locs1 hl (hR.back i1 i2 hP1 hce (fun d' j' h => sy_o h) hvl) hS1
theorem r_alen (C : CX Θ cc own ret rm nL) {j n : Nat} (v : Int32) (hdg : decode cc pc = .ok (.arraylength, 1)) (hg : AG Λ j 0 n) (hv : Int32.ofNat n = v)
    (k : WA Λ Θ Qf (pc + 1) lv (.int v :: st) σ K) : WA Λ Θ Qf pc lv (.ref (cF Θ j) :: st) σ K := by
  intro r hr H ls locs hl hR hS
  have hat := hR.1 0 j (dm0 hg.1)
  rw [hg.2] at hat
  exact va_alen C.hx C.hb C.hK (one_P hat) 0 0 (x := (n, arc (cAd Θ) σ 0 j 0)) rfl (ty := .int) rfl hv hdg (k r hr H ls locs hl hR hS)
/-- references of one kind: the same address says the same number -/
theorem ad_inj {N : Nat → Nat} {ω : Wd} {ad : Nat → Nat → Nat} {H : Heap} (hR : Rep Λ ω ad N σ H) {d : Nat} (hd : d + 1 ≤ 4) {x y : Option Nat} (hx : ∀ q, x = some q → q < N (d + 1)) (hy : ∀ q, y = some q → q < N (d + 1)) : x.map (ad (d + 1)) = y.map (ad (d + 1)) ↔ x = y := by
  constructor
  · intro h
    cases x with
    | none => cases y with
      | none => rfl
      | some b => cases h
    | some a => cases y with
      | none => cases h
      | some b =>
        have e : ad (d + 1) a = ad (d + 1) b := Option.some.inj h
        have := (hR.2.1 (d + 1) a (d + 1) b (dmk (Nat.succ_le_succ (Nat.zero_le d)) hd (hx a rfl)) (dmk (Nat.succ_le_succ (Nat.zero_le d)) hd (hy b rfl)) e).2
        rw [this]
  · intro h; rw [h]
theorem r_acmp_eq (C : CX Θ cc own ret rm nL) {off : Int} (tgt d : Nat) (x y : Option Nat) {K1 K2 : Option ρ} (hdg : decode cc pc = .ok (.if_acmp .eq off, 3)) (ht : (pc : Int) + off = (tgt : Int)) (hd : d + 1 ≤ 4) (hx : ∀ q, x = some q → q < cN Θ (d + 1)) (hy : ∀ q, y = some q → q < cN Θ (d + 1))
    (kt : WA Λ Θ Qf tgt lv st σ K1) (kf : WA Λ Θ Qf (pc + 3) lv st σ K2) : WA Λ Θ Qf pc lv (va_rf (y.map (cAd Θ (d + 1))) :: va_rf (x.map (cAd Θ (d + 1))) :: st) σ (if x = y then K1 else K2) :=
  fun r hr H ls locs hl hR hS => lv_acmp_eq C.hx C.hb hdg ht (fun h => kt r (by rw [if_pos ((ad_inj hR hd hx hy).mp h)] at hr; exact hr) H ls locs hl hR hS) (fun h => kf r (by rw [if_neg (fun e => h ((ad_inj hR hd hx hy).mpr e))] at hr; exact hr) H ls locs hl hR hS)
theorem r_acmp_ne (C : CX Θ cc own ret rm nL) {off : Int} (tgt d : Nat) (x y : Option Nat) {K1 K2 : Option ρ} (hdg : decode cc pc = .ok (.if_acmp .ne off, 3)) (ht : (pc : Int) + off = (tgt : Int)) (hd : d + 1 ≤ 4) (hx : ∀ q, x = some q → q < cN Θ (d + 1)) (hy : ∀ q, y = some q → q < cN Θ (d + 1))
    (kt : WA Λ Θ Qf tgt lv st σ K2) (kf : WA Λ Θ Qf (pc + 3) lv st σ K1) : WA Λ Θ Qf pc lv (va_rf (y.map (cAd Θ (d + 1))) :: va_rf (x.map (cAd Θ (d + 1))) :: st) σ (if x = y then K1 else K2) :=
  fun r hr H ls locs hl hR hS => lv_acmp_ne C.hx C.hb hdg ht (fun h => kt r (by rw [if_neg (fun e => h ((ad_inj hR hd hx hy).mpr e))] at hr; exact hr) H ls locs hl hR hS) (fun h => kf r (by rw [if_pos ((ad_inj hR hd hx hy).mp h)] at hr; exact hr) H ls locs hl hR hS)
-- static arrays
theorem r_gets (C : CX Θ cc own ret rm nL) {index : Nat} (i : Nat) (hi : i < 4) (hdg : decode cc pc = .ok (.getstatic index, 3)) (hw : Cond.fieldLink own index "PostsEnd" (snm i) "[I" ∈ wt)
    (k : WA Λ Θ Qf (pc + 3) lv (.ref ((cW Θ).2.2.2.2 i) :: st) σ K) : WA Λ Θ Qf pc lv st σ K :=
  fun r hr H ls locs hl hR hS => va_gets C.hx C.hb (C.hF i hi).1 hS C.hown (C.hts _ hw) (fun _ h => h) hdg (k r hr H ls locs hl hR hS)
theorem r_sald (C : CX Θ cc own ret rm nL) {i : Nat} {a : Int32} {K2 : Nat → Option ρ} (hdg : decode cc pc = .ok (.iaload, 1)) (hi : i < 4)
    (k : ∀ a' : Nat, WA Λ Θ Qf (pc + 1) lv (.int (scon i a') :: st) σ (K2 a')) : WA Λ Θ Qf pc lv (.int a :: .ref ((cW Θ).2.2.2.2 i) :: st) σ ((ix 3 a).bind K2) := by
  intro r hr H ls locs hl hR hS
  cases he : ix 3 a with
  | none => rw [he] at hr; cases hr
  | some a' =>
    rw [he] at hr
    obtain ⟨h1, h2⟩ := ix_some he
    subst h2
    exact va_ti C.hx C.hb (C.hF i hi).2 hS h1 rfl hdg (k _ r hr H ls locs hl hR hS)
end Mem
end
section
/-! ===== loops, returns, calls, and a method's contract ===== -/
def itr0 {S E : Type} (f : S → Option (S ⊕ E)) : Nat → S → Option E
  | 0, _ => none
  | n + 1, s => (f s).bind (Sum.elim (itr0 f n) some)
/-- how often a loop may go round: far above all need -/
def FU : Nat := 1000000
/-- a method's end: what it returns, what holds of it, what the memory is -/
def Qm (Λ : Ly) (Θ : TT) (o : Option Value) (σ : St) (P : Prop) : State → Prop :=
  MQ Θ.1.2.2.2.2.2.2.2.1 (fun _ st oc t => oc = .returned o ∧ P ∧ Rep Λ (cW Θ) (cAd Θ) (cN Θ) σ t.heap ∧ va_F (cW Θ).2.2.1 st t) Θ.1.2.2.2.2.2.2.1 (cS Θ) (cC Θ).1 (cC Θ).2 (cW Θ).2.2.1
/-- a method's contract -/
def Ct (l : Launch) (y : MethodName) (cc : ByteArray) (maxL : Nat) (ret : Option FieldType) (rm : Room) (Λ : Ly) (ω : Wd) (ad : Nat → Nat → Nat) (N : Nat → Nat) (av : List Value) (σ : St) (o : Option Value) (σ' : St) (P : Prop) : Prop :=
  Met l y (.code y cc maxL ret :: wt) rm (va_Pc av (Pre Λ ω ad N σ)) (fun _ st oc t => oc = .returned o ∧ P ∧ Rep Λ ω ad N σ' t.heap ∧ va_F ω.2.2.1 st t) 0 0 ω.2.2.1
theorem Pre.blind {Λ : Ly} {ω : Wd} {ad : Nat → Nat → Nat} {N : Nat → Nat} {σ : St} {av : List Value} : FrameBlind (va_Pc av (Pre Λ ω ad N σ)) := by
  intro a U g mk h
  exact ⟨h.1, h.2.1, va_K.moved (u := U) (U := U.calling g mk a) (Vm.Alike.refl U.vm) h.2.2.1, h.2.2.2.1, SF.moved (u := U) (U := U.calling g mk a) (Vm.Alike.refl U.vm) h.2.2.2.2.1, NW.same (s := U) (U := U.calling g mk a) rfl h.2.2.2.2.2⟩
section Ret
variable {ρ : Type} {Λ : Ly} {Θ : TT} {Qf : ρ → State → Prop} {cc : ByteArray} {own : String} {ret : Option FieldType} {rm : Room} {nL pc : Nat} {lv : List (Option Value)} {st : List Value} {σ : St} {K : Option ρ}
theorem WA.itr {S E : Type} {f : S → Option (S ⊕ E)} {k : E → Option ρ} (head : Nat) (lvF : S → List (Option Value)) (stF : S → List Value) (sg : S → St) (I : S → Prop)
    (body : ∀ (s : S) (k' : S ⊕ E → Option ρ), I s → (∀ s', I s' → WA Λ Θ Qf head (lvF s') (stF s') (sg s') (k' (.inl s'))) → (∀ e, k' (.inr e) = k e) → WA Λ Θ Qf head (lvF s) (stF s) (sg s) ((f s).bind k')) :
    ∀ (n : Nat) (s : S), I s → WA Λ Θ Qf head (lvF s) (stF s) (sg s) ((itr0 f n s).bind k) := by
  intro n
  induction n with
  | zero => intro s _ r hr; cases hr
  | succ n ih =>
    intro s hs
    have h := body s (fun x => (Sum.elim (itr0 f n) some x).bind k) hs (fun s' hs' => ih s' hs') (fun e => rfl)
    intro r hr
    refine h r ?_
    rw [← hr]
    show _ = ((f s).bind _).bind k
    rw [Option.bind_assoc]
theorem WA.eqK {K' : Option ρ} (h : K = K') (w : WA Λ Θ Qf pc lv st σ K') : WA Λ Θ Qf pc lv st σ K := by rw [h]; exact w
theorem WA.cas {x v : Int32} {K1 K2 : Option ρ} (h1 : WA Λ Θ Qf pc lv (.int v :: st) σ K1) (h2 : ¬ x = v → WA Λ Θ Qf pc lv (.int x :: st) σ K2) : WA Λ Θ Qf pc lv (.int x :: st) σ (if x = v then K1 else K2) := by
  by_cases h : x = v
  · rw [if_pos h]; rw [h]; exact h1
  · rw [if_neg h]; exact h2 h
theorem tq_ne {x v : Int32} {z : Int} (h : ¬ x = v) (hv : v.toInt = z) : x.toInt ≠ z := fun e => h (Int32.toInt_inj.mp (e.trans hv.symm))
theorem r_tabIn (C : CX Θ cc own ret rm nL) {dflt lo hi : Int} {offs : Array Int} {len : Nat} {v : Int32} {off : Int} (tgt : Nat) (hdg : decode cc pc = .ok (.tableswitch dflt lo hi offs, len)) (h1 : ¬ v.toInt < lo) (h2 : ¬ hi < v.toInt) (ho : offs[(v.toInt - lo).toNat]? = some off) (ht : (pc : Int) + off = (tgt : Int)) (k : WA Λ Θ Qf tgt lv st σ K) : WA Λ Θ Qf pc lv (.int v :: st) σ K :=
  fun r hr H ls locs hl hR hS => lv_tableIn C.hx C.hb hdg h1 h2 ho ht (k r hr H ls locs hl hR hS)
theorem r_tabOut (C : CX Θ cc own ret rm nL) {dflt lo hi : Int} {offs : Array Int} {len : Nat} {x : Int32} (tgt : Nat) (hdg : decode cc pc = .ok (.tableswitch dflt lo hi offs, len)) (h : x.toInt < lo ∨ hi < x.toInt) (ht : (pc : Int) + dflt = (tgt : Int)) (k : WA Λ Θ Qf tgt lv st σ K) : WA Λ Θ Qf pc lv (.int x :: st) σ K :=
  fun r hr H ls locs hl hR hS => lv_tableOut C.hx C.hb hdg h ht (k r hr H ls locs hl hR hS)
theorem r_lookup (C : CX Θ cc own ret rm nL) {dflt : Int} {ps : Array (Int × Int)} {len : Nat} {x : Int32} {off : Int} (tgt : Nat) (hdg : decode cc pc = .ok (.lookupswitch dflt ps, len)) (hp : (ps.toList.zip (ps.toList.drop 1)).all (fun (a, next) => a.1 < next.1) = true) (ho : Op.lookupswitch.offset ps.toList dflt x.toInt = off) (ht : (pc : Int) + off = (tgt : Int)) (k : WA Λ Θ Qf tgt lv st σ K) : WA Λ Θ Qf pc lv (.int x :: st) σ K :=
  fun r hr H ls locs hl hR hS => lv_lookup C.hx C.hb hdg hp ho ht (k r hr H ls locs hl hR hS)
theorem r_iret (C : CX Θ cc own (some .int) rm nL) {x : Int32} {o : ρ → Option Value} {s' : ρ → St} {P : ρ → Prop} {r0 : ρ} (hdg : decode cc pc = .ok (.ireturn, 1)) (ho : o r0 = some (.int x)) (hs : s' r0 = σ) (hP : P r0) :
    WA Λ Θ (fun r => Qm Λ Θ (o r) (s' r) (P r)) pc lv [.int x] σ (some r0) := by
  intro r hr H ls locs hl hR hS
  cases hr
  show WW Θ.1 H locs (cC Θ).1 (cC Θ).2 (Qm Λ Θ (o r0) (s' r0) (P r0)) _
  rw [ho, hs]
  exact W.iret C.hx C.hb C.hr (fun t ht _ => ⟨rfl, hP, by rw [ht]; exact hR, hS.F ht⟩) (fun q hq => hS.2.2 q hq) hdg (hlocks := C.hlk)
theorem r_zret (C : CX Θ cc own (some .boolean) rm nL) {x : Int32} {o : ρ → Option Value} {s' : ρ → St} {P : ρ → Prop} {r0 : ρ} (hdg : decode cc pc = .ok (.ireturn, 1)) (hn : narrow .boolean (.int x) = .int x) (ho : o r0 = some (.int x)) (hs : s' r0 = σ) (hP : P r0) :
    WA Λ Θ (fun r => Qm Λ Θ (o r) (s' r) (P r)) pc lv [.int x] σ (some r0) := by
  intro r hr H ls locs hl hR hS
  cases hr
  show WW Θ.1 H locs (cC Θ).1 (cC Θ).2 (Qm Λ Θ (o r0) (s' r0) (P r0)) _
  rw [ho, hs]
  exact W.zret C.hx C.hb C.hr hn (fun t ht _ => ⟨rfl, hP, by rw [ht]; exact hR, hS.F ht⟩) (fun q hq => hS.2.2 q hq) hdg (hlocks := C.hlk)
theorem r_lret (C : CX Θ cc own (some .long) rm nL) {x : Int64} {o : ρ → Option Value} {s' : ρ → St} {P : ρ → Prop} {r0 : ρ} (hdg : decode cc pc = .ok (.lreturn, 1)) (ho : o r0 = some (.long x)) (hs : s' r0 = σ) (hP : P r0) :
    WA Λ Θ (fun r => Qm Λ Θ (o r) (s' r) (P r)) pc lv [.long x] σ (some r0) := by
  intro r hr H ls locs hl hR hS
  cases hr
  show WW Θ.1 H locs (cC Θ).1 (cC Θ).2 (Qm Λ Θ (o r0) (s' r0) (P r0)) _
  rw [ho, hs]
  exact W.lret C.hx C.hb C.hr (fun t ht _ => ⟨rfl, hP, by rw [ht]; exact hR, hS.F ht⟩) (fun q hq => hS.2.2 q hq) hdg (hlocks := C.hlk)
theorem r_vret (C : CX Θ cc own none rm nL) {o : ρ → Option Value} {s' : ρ → St} {P : ρ → Prop} {r0 : ρ} (hdg : decode cc pc = .ok (.return_, 1)) (ho : o r0 = none) (hs : s' r0 = σ) (hP : P r0) :
    WA Λ Θ (fun r => Qm Λ Θ (o r) (s' r) (P r)) pc lv [] σ (some r0) := by
  intro r hr H ls locs hl hR hS
  cases hr
  show WW Θ.1 H locs (cC Θ).1 (cC Θ).2 (Qm Λ Θ (o r0) (s' r0) (P r0)) _
  rw [ho, hs]
  exact W.vret C.hx C.hb C.hr (fun t ht _ => ⟨rfl, hP, by rw [ht]; exact hR, hS.F ht⟩) (fun q hq => hS.2.2 q hq) hdg (hlocks := C.hlk)
theorem r_aret {Cn : String} (C : CX Θ cc own (some (.object Cn)) rm nL) {x : Option Nat} {o : ρ → Option Value} {s' : ρ → St} {P : ρ → Prop} {r0 : ρ} (hdg : decode cc pc = .ok (.areturn, 1)) (ho : o r0 = some (va_rf x)) (hs : s' r0 = σ) (hP : P r0) :
    WA Λ Θ (fun r => Qm Λ Θ (o r) (s' r) (P r)) pc lv [va_rf x] σ (some r0) := by
  intro r hr H ls locs hl hR hS
  cases hr
  show WW Θ.1 H locs (cC Θ).1 (cC Θ).2 (Qm Λ Θ (o r0) (s' r0) (P r0)) _
  rw [ho, hs]
  exact W.aret C.hx C.hb C.hr (Or.inl ⟨_, rfl⟩) (va_rf_or x) (fun t ht _ => ⟨rfl, hP, by rw [ht]; exact hR, hS.F ht⟩) (fun q hq => hS.2.2 q hq) hdg (hlocks := C.hlk)
/-! Math -/
def JW (own : String) (index : Nat) (y : MethodName) (bytes : ByteArray) (maxL : Nat) : Prop := Cond.methodLink own index y ∈ wt ∧ Cond.static y ∈ wt ∧ Cond.initialized "java/lang/Math" ∈ wt ∧ Cond.code y bytes maxL (some .int) ∈ wt
theorem r_mmax (C : CX Θ cc own ret rm nL) {index : Nat} {x y : Int32} (hdg : decode cc pc = .ok (.invokestatic index, 3)) (hw : JW own index Lib.Math.max.name Lib.Math.max.code 2) (h1 : 1 ≤ rm.frames) (h2 : (st.map fun v => v.category).sum + 13 ≤ rm.locals)
    (k : WA Λ Θ Qf (pc + 3) lv (.int (if x < y then y else x) :: st) σ K) : WA Λ Θ Qf pc lv (.int y :: .int x :: st) σ K :=
  fun r hr H ls locs hl hR hS => va_mmax C.hx C.hb (C.hml.trans ((hl.1).trans C.hn).symm) C.hown (C.hts _ hw.1) (C.hts _ hw.2.1) (C.hts _ hw.2.2.1) (C.hts _ hw.2.2.2) (by rw [C.hR]; exact h1) (by rw [C.hR]; exact h2) C.hcR.1 C.hcR.2 hdg (k r hr H ls locs hl hR hS)
theorem r_mmin (C : CX Θ cc own ret rm nL) {index : Nat} {x y : Int32} (hdg : decode cc pc = .ok (.invokestatic index, 3)) (hw : JW own index Lib.Math.min.name Lib.Math.min.code 2) (h1 : 1 ≤ rm.frames) (h2 : (st.map fun v => v.category).sum + 13 ≤ rm.locals)
    (k : WA Λ Θ Qf (pc + 3) lv (.int (if y < x then y else x) :: st) σ K) : WA Λ Θ Qf pc lv (.int y :: .int x :: st) σ K :=
  fun r hr H ls locs hl hR hS => va_mmin C.hx C.hb (C.hml.trans ((hl.1).trans C.hn).symm) C.hown (C.hts _ hw.1) (C.hts _ hw.2.1) (C.hts _ hw.2.2.1) (C.hts _ hw.2.2.2) (by rw [C.hR]; exact h1) (by rw [C.hR]; exact h2) C.hcR.1 C.hcR.2 hdg (k r hr H ls locs hl hR hS)
theorem r_mabs (C : CX Θ cc own ret rm nL) {index : Nat} {x : Int32} (hdg : decode cc pc = .ok (.invokestatic index, 3)) (hw : JW own index Lib.Math.abs.name Lib.Math.abs.code 1) (h1 : 1 ≤ rm.frames) (h2 : (st.map fun v => v.category).sum + 13 ≤ rm.locals)
    (k : WA Λ Θ Qf (pc + 3) lv (.int (if 0 ≤ x then x else 0 - x) :: st) σ K) : WA Λ Θ Qf pc lv (.int x :: st) σ K :=
  fun r hr H ls locs hl hR hS => va_mabs C.hx C.hb (C.hml.trans ((hl.1).trans C.hn).symm) C.hown (C.hts _ hw.1) (C.hts _ hw.2.1) (C.hts _ hw.2.2.1) (C.hts _ hw.2.2.2) (by rw [C.hR]; exact h1) (by rw [C.hR]; exact h2) C.hcR.1 C.hcR.2 hdg (k r hr H ls locs hl hR hS)
/-! calls -/
/-- what the tables say of a method that is called -/
def MW (y : MethodName) (bytes : ByteArray) (maxL : Nat) (ret : Option FieldType) (n : Nat) : Prop := Cond.initialized y.cls ∈ wt ∧ Cond.code y bytes maxL ret ∈ wt ∧ (y.cls ≠ "java/lang/invoke/MethodHandle" ∧ y.cls ≠ "java/lang/invoke/VarHandle" ∧ (parseMethodDescriptor y.desc).map (fun d => d.parameters.length) = some n)
def VW (y : MethodName) (bytes : ByteArray) (maxL : Nat) (ret : Option FieldType) (n : Nat) : Prop := MW y bytes maxL ret n ∧ Cond.instanceMethod y ∈ wt ∧ Cond.selects y.cls y y ∈ wt
def SW (y : MethodName) (bytes : ByteArray) (maxL : Nat) (ret : Option FieldType) (n : Nat) : Prop := MW y bytes maxL ret n ∧ Cond.static y ∈ wt
/-- the object (d, j) is of the class C -/
def RV (Λ : Ly) (d j : Nat) (Cn : String) : Prop := ∃ (ci : Nat) (fs : List (Nat × Nat)) (T : u_T) (M : Nat), Λ.2 d j = .inl (ci, fs) ∧ vwCl[ci]? = some (Cn, T, M)
theorem wt_cons {y : MethodName} {bytes : ByteArray} {maxL : Nat} {ret : Option FieldType} (h : Cond.code y bytes maxL ret ∈ wt) : GoodIn wt (.code y bytes maxL ret :: wt) := fun w hw => by
  rcases List.mem_cons.mp hw with e | e
  · rw [e]; exact wt_good _ h
  · exact wt_good _ e
/-- behind a call -/
theorem WA.after {α : Type} (C : CX Θ cc own ret rm nL) {Y : State → Outcome → State → Prop} {F : Option α} {o : α → Option Value} {s' : α → St} {P : α → Prop} {st0 : List Value} {K2 : α → Option ρ} {r0 : α} (hF : F = some r0) {H : Heap} {ls : Array Slot} {locs : List Loc} (hl : LV ls (cNL Θ) lv)
    (hS : va_S (cW Θ).2.2.1 (cS Θ).heap H locs)
    (run : va_Run Θ.1.1 Θ.1.2.1 Θ.1.2.2.1 Θ.1.2.2.2.1 Θ.1.2.2.2.2.1 Θ.1.2.2.2.2.2.1 Θ.1.2.2.2.2.2.2.1 Θ.1.2.2.2.2.2.2.2.1 Θ.1.2.2.2.2.2.2.2.2.1 Θ.1.2.2.2.2.2.2.2.2.2 H locs (cC Θ).1 (cC Θ).2 0 0 (F0 (cM Θ) pc ls st0) st (fun st oc t => oc = .returned (o r0) ∧ P r0 ∧ Rep Λ (cW Θ) (cAd Θ) (cN Θ) (s' r0) t.heap ∧ va_F (cW Θ).2.2.1 st t) (cW Θ).2.2.1)
    (k : ∀ r, P r → WA Λ Θ Qf (pc + 3) lv ((o r).toList ++ st) (s' r) (K2 r)) (r : ρ) (hr : F.bind K2 = some r) : WW Θ.1 H locs (cC Θ).1 (cC Θ).2 (Qf r) (F0 (cM Θ) pc ls st0) := by
  rw [hF] at hr
  intro T hT X
  obtain ⟨v, st₀, t, T', L, h0, X', hL, e1, e2, ⟨hv, hp, hrep, hz, hk⟩, go⟩ := run T hT X
  cases hv
  rw [h0] at hz hk
  obtain ⟨t2, a1, b1⟩ := k r0 hp r hr T'.heap ls (locs ++ L) hl (by rw [e1]; exact hrep)
    ⟨Nat.le_trans hS.1 (by rw [e1]; exact hz), fun q h1 h2 => by rw [e1, hk q (Nat.lt_of_lt_of_le h1 hS.1) h2]; exact hS.2.1 q h1 h2, fun q hq => by
      rcases List.mem_append.mp hq with h | h
      · exact hS.2.2 q h
      · exact hL q h⟩ T' rfl X'
  exact ⟨t2, go t2 a1, b1⟩
theorem CX.pre (C : CX Θ cc own ret rm nL) {H : Heap} {locs : List Loc} (hR : Rep Λ (cW Θ) (cAd Θ) (cN Θ) σ H) (hS : va_S (cW Θ).2.2.1 (cS Θ).heap H locs) {U : State} (hU : U.heap = H) (hW : (cS Θ).WarmedH U.vm) : Pre Λ (cW Θ) (cAd Θ) (cN Θ) σ U :=
  ⟨by rw [hU]; exact hR, va_K.moved hW.alike C.hK, fun q hq => C.hA q (Nat.le_trans hS.1 (by rw [← hU]; exact hq)), by rw [hU]; exact SF.moved hW.alike (SF.kept C.hF hS.2.1), C.hN.warm hW⟩
theorem r_callV (C : CX Θ cc own ret rm nL) {α : Type} {index n : Nat} {y : MethodName} {bytes : ByteArray} {maxL : Nat} {rc : Option FieldType} {rmc : Room} {d j : Nat} {As : List Value} {F : Option α} {o : α → Option Value} {s' : α → St} {P : α → Prop} {st0 : List Value} {K2 : α → Option ρ}
    (hdg : decode cc pc = .ok (.invokevirtual index, 3)) (hlink : Cond.methodLink own index y ∈ wt) (hw : VW y bytes maxL rc n) (hv : RV Λ d j y.cls) (hm : dm Λ (cN Θ) d j)
    (hM : ∀ r, F = some r → Ct Θ.1.2.1 y bytes maxL rc rmc Λ (cW Θ) (cAd Θ) (cN Θ) (.ref (adr (cW Θ) (cAd Θ) d j) :: As) σ (o r) (s' r) (P r)) (hn : As.length = n) (hst : st0 = As.reverse ++ .ref (adr (cW Θ) (cAd Θ) d j) :: st) (hsum : (st.map fun v => v.category).sum ≤ 8)
    (hrm : rmc.cells = 0 ∧ rmc.slots = 0 ∧ rmc.frames + 1 ≤ rm.frames ∧ 8 + (maxL + 11) + rmc.locals ≤ rm.locals)
    (k : ∀ r, P r → WA Λ Θ Qf (pc + 3) lv ((o r).toList ++ st) (s' r) (K2 r)) : WA Λ Θ Qf pc lv st0 σ (F.bind K2) := by
  intro r hr H ls locs hl hR hS
  cases hF : F with
  | none => rw [hF] at hr; cases hr
  | some r0 =>
    have hM0 := hM r0 hF
    obtain ⟨ci, fs, T, M, v1, v2⟩ := hv
    have hat := hR.1 d j hm
    rw [v1] at hat
    refine WA.after (Y := fun _ _ _ => True) C hF hl hS ?_ k r hr
    refine va_runV (As := As) (rest := st) (n := n) (C := y.cls) (rm := rmc) ⟨C.hx, C.hb, C.hml, C.hown, C.hts⟩ hM0 ⟨callB_of n C.hts (wt_cons hw.1.2.1) rfl hrm.1 hrm.2.1 (C.hts _ hw.1.1) (C.hts _ hlink) hw.1.2.2 (by rw [C.hR]; exact hrm.2.2), C.hts _ hw.2.1, C.hts _ hw.2.2⟩
      ⟨Pre.blind, va_recv C.hK (one_P hat) v2 (q0 := 0) rfl, fun U hU hW => ⟨rfl, C.pre hR hS hU hW⟩⟩ rfl hn (hl.1.trans C.hn) hst (lv_room hsum) hdg C.hcR
theorem r_callS (C : CX Θ cc own ret rm nL) {α : Type} {index n : Nat} {y : MethodName} {bytes : ByteArray} {maxL : Nat} {rc : Option FieldType} {rmc : Room} {As : List Value} {F : Option α} {o : α → Option Value} {s' : α → St} {P : α → Prop} {st0 : List Value} {K2 : α → Option ρ}
    (hdg : decode cc pc = .ok (.invokestatic index, 3)) (hlink : Cond.methodLink own index y ∈ wt) (hw : SW y bytes maxL rc n)
    (hM : ∀ r, F = some r → Ct Θ.1.2.1 y bytes maxL rc rmc Λ (cW Θ) (cAd Θ) (cN Θ) As σ (o r) (s' r) (P r)) (hn : As.length = n) (hst : st0 = As.reverse ++ st) (hsum : (st.map fun v => v.category).sum ≤ 8)
    (hrm : rmc.cells = 0 ∧ rmc.slots = 0 ∧ rmc.frames + 1 ≤ rm.frames ∧ 8 + (maxL + 11) + rmc.locals ≤ rm.locals)
    (k : ∀ r, P r → WA Λ Θ Qf (pc + 3) lv ((o r).toList ++ st) (s' r) (K2 r)) : WA Λ Θ Qf pc lv st0 σ (F.bind K2) := by
  intro r hr H ls locs hl hR hS
  cases hF : F with
  | none => rw [hF] at hr; cases hr
  | some r0 =>
    have hM0 := hM r0 hF
    refine WA.after (Y := fun _ _ _ => True) C hF hl hS ?_ k r hr
    refine va_runS (As := As) (rest := st) (n := n) (rm := rmc) ⟨C.hx, C.hb, C.hml, C.hown, C.hts⟩ hM0 ⟨callB_of n C.hts (wt_cons hw.1.2.1) rfl hrm.1 hrm.2.1 (C.hts _ hw.1.1) (C.hts _ hlink) hw.1.2.2 (by rw [C.hR]; exact hrm.2.2), C.hts _ hw.2⟩
      ⟨Pre.blind, fun U hU hW => ⟨rfl, C.pre hR hS hU hW⟩⟩ rfl hn (hl.1.trans C.hn) hst (lv_room hsum) hdg C.hcR
theorem r_callN (C : CX Θ cc own ret rm nL) {α : Type} {index n : Nat} {y : MethodName} {host : String} {bytes : ByteArray} {maxL : Nat} {rc : Option FieldType} {rmc : Room} {As : List Value} {F : Option α} {o : α → Option Value} {s' : α → St} {P : α → Prop} {st0 : List Value} {K2 : α → Option ρ}
    (hdg : decode cc pc = .ok (.invokestatic index, 3)) (hlink : (own, index, y, host) ∈ nws) (hw : SW y bytes maxL rc n)
    (hM : ∀ r, F = some r → Ct Θ.1.2.1 y bytes maxL rc rmc Λ (cW Θ) (cAd Θ) (cN Θ) As σ (o r) (s' r) (P r)) (hn : As.length = n) (hst : st0 = As.reverse ++ st) (hsum : (st.map fun v => v.category).sum ≤ 8)
    (hrm : rmc.cells = 0 ∧ rmc.slots = 0 ∧ rmc.frames + 1 ≤ rm.frames ∧ 8 + (maxL + 11) + rmc.locals ≤ rm.locals)
    (k : ∀ r, P r → WA Λ Θ Qf (pc + 3) lv ((o r).toList ++ st) (s' r) (K2 r)) : WA Λ Θ Qf pc lv st0 σ (F.bind K2) := by
  intro r hr H ls locs hl hR hS
  cases hF : F with
  | none => rw [hF] at hr; cases hr
  | some r0 =>
    have hM0 := hM r0 hF
    refine WA.after (Y := fun _ _ _ => True) C hF hl hS ?_ k r hr
    refine va_runSN (As := As) (rest := st) (n := n) (rm := rmc) ⟨C.hx, C.hb, C.hml, C.hown, C.hts⟩ hM0 ⟨va_cnB n C.hts (wt_cons hw.1.2.1) rfl hrm.1 hrm.2.1 (C.hN _ hlink) (C.hts _ hw.1.1) hw.1.2.2 (by rw [C.hR]; exact hrm.2.2), C.hts _ hw.2, trivial⟩
      ⟨Pre.blind, fun U hU hW => ⟨rfl, C.pre hR hS hU hW⟩⟩ rfl hn (hl.1.trans C.hn) hst (lv_room hsum) hdg C.hcR
end Ret
/-- the contract out of the walk -/
theorem ct_of {ρ : Type} {l : Launch} {y : MethodName} {cc : ByteArray} {maxL : Nat} {ret : Option FieldType} {rm : Room} {Λ : Ly} {ω : Wd} {ad : Nat → Nat → Nat} {N : Nat → Nat} {av : List Value} {σ : St} {o : ρ → Option Value} {s' : ρ → St} {P : ρ → Prop} {K : Option ρ} (lv0 : List (Option Value))
    (hpl : plainName y.cls = true) (hlv : pr 0 lv0 = lv_args 0 av) (hlen : (lg_sl av).length ≤ maxL)
    (body : ∀ Γ : CT, CX (Γ, ω, maxL, ad, N, 0, 0) cc y.cls ret rm maxL → Γ.2.1 = l → Γ.2.2.2.2.2.2.2.2.1.name = y.name → WA Λ (Γ, ω, maxL, ad, N, 0, 0) (fun r => Qm Λ (Γ, ω, maxL, ad, N, 0, 0) (o r) (s' r) (P r)) 0 lv0 [] σ K) :
    ∀ r, K = some r → Ct l y cc maxL ret rm Λ ω ad N av σ (o r) (s' r) (P r) := by
  intro r hr
  refine Met.ofW (cc := cc) (maxL := maxL) (ret := ret) hpl rfl ?_
  intro p e s m args below meth c s₁ B hml hv
  obtain ⟨rfl, hP1, hP2, hP3, hP4, hP5⟩ := hv
  have hts : ∀ w ∈ (Cond.code y cc maxL ret :: wt), w.before av.toArray s = true := atoms_spec (ws := Cond.code y cc maxL ret :: wt) B.pre
  have C : CX ((p, l, e, (headSpec (Cond.code y cc maxL ret :: wt) rm).room, s, m, av.toArray, below, meth, c), ω, maxL, ad, N, 0, 0) cc y.cls ret rm maxL :=
    ⟨B.exec, B.bytes, hml, findClass_of_methodNamed B.named, fun w hw => hts w (List.mem_cons_of_mem _ hw), B.returns, B.notSynchronized, hP2, hP3, hP4, rfl, rfl, hP5, Nat.zero_le _, Nat.zero_le _⟩
  have hl := lv_entry av (n := maxL) hlen
  rw [lg_entry_eq]
  generalize (lg_sl av ++ List.replicate (maxL - (lg_sl av).length) Slot.unset).toArray = ls at hl ⊢
  rw [← hlv] at hl
  exact body _ C rfl (name_of_methodNamed B.named B.method).1 r hr s.heap ls [] hl hP1 va_S.rf
end
section
/-! ===== joins, names, weaker locals ===== -/
def lvmask : List Bool → List (Option Value) → List (Option Value)
  | true :: m, o :: t => o :: lvmask m t
  | false :: m, _ :: t => none :: lvmask m t
  | _, _ => []
theorem lvg_mask : ∀ {m : List Bool} {l : List (Option Value)} {i : Nat} {v : Value}, lvg (lvmask m l) i = some v → lvg l i = some v
  | [], l, i, v, h => by simp [lvmask, lvg] at h
  | true :: m, [], i, v, h => by simp [lvmask, lvg] at h
  | false :: m, [], i, v, h => by simp [lvmask, lvg] at h
  | true :: m, o :: t, 0, v, h => h
  | true :: m, o :: t, i + 1, v, h => lvg_mask (m := m) (l := t) h
  | false :: m, o :: t, 0, v, h => by simp [lvmask, lvg] at h
  | false :: m, o :: t, i + 1, v, h => lvg_mask (m := m) (l := t) h
theorem lvok_q {lv : List (Option Value)} {i : Nat} {x : Option Nat} (h : lvg lv i = some (va_rf x)) : lvok lv (i + 1) = true := by
  simp only [lvok, h]
  cases x <;> rfl
section More
variable {ρ : Type} {Λ : Ly} {Θ : TT} {Qf : ρ → State → Prop} {pc : Nat} {lv : List (Option Value)} {st : List Value} {σ : St} {K : Option ρ}
theorem WA.wk {lv' : List (Option Value)} (ms : List Bool) (h : lvmask ms lv = lv') (w : WA Λ Θ Qf pc lv' st σ K) : WA Λ Θ Qf pc lv st σ K := by
  intro r hr H ls locs hl hR hS
  refine w r hr H ls locs ⟨hl.1, hl.2.1, fun q hq => ?_⟩ hR hS
  obtain ⟨k, h1, h2⟩ := pr_mem.mp hq
  rw [← h] at h2
  exact hl.2.2 q (pr_mem.mpr ⟨k, h1, lvg_mask h2⟩)
theorem WA.non : WA Λ Θ Qf pc lv st σ none := fun _ hr => by cases hr
theorem WA.els {α : Type} {q : α} {X : Option ρ} {f : α → Option ρ} (w : WA Λ Θ Qf pc lv st σ (f q)) : WA Λ Θ Qf pc lv st σ (Option.elim (some q) X f) := w
theorem WA.blt {α β : Type} {e : α} {f : α → Option β} {k : β → Option ρ} (w : WA Λ Θ Qf pc lv st σ (lt1 e fun x => (f x).bind k)) : WA Λ Θ Qf pc lv st σ ((lt1 e f).bind k) := w
theorem WA.nml {α : Type} {x : α} {k : α → Option ρ} (w : WA Λ Θ Qf pc lv st σ (k x)) : WA Λ Θ Qf pc lv st σ (lt1 x k) := w
theorem WA.gen {e : St} {k : St → Option ρ} (w : ∀ σ', WA Λ Θ Qf pc lv st σ' (k σ')) : WA Λ Θ Qf pc lv st e (lt1 e k) := w e
theorem WA.genB {β : Type} {e : St} {f : St → Option β} {k : β → Option ρ} (w : ∀ σ', WA Λ Θ Qf pc lv st σ' ((f σ').bind k)) : WA Λ Θ Qf pc lv st e ((lt1 e f).bind k) := w e
theorem WA.asl {α β γ : Type} {X : Option α} {e : α → β} {f : β → Option γ} {k : γ → Option ρ} (w : WA Λ Θ Qf pc lv st σ (X.bind fun a => lt1 (e a) fun b => (f b).bind k)) : WA Λ Θ Qf pc lv st σ ((X.bind fun a => lt1 (e a) f).bind k) := by
  rw [Option.bind_assoc]; exact w
theorem WA.join {α : Type} {X : Option α} {k : α → Option ρ} (P : Nat) (lvF : α → List (Option Value)) (stF : α → List Value) (sg : α → St) (V : α → Prop) (hJ : ∀ t, V t → WA Λ Θ Qf P (lvF t) (stF t) (sg t) (k t))
    (hX : (∀ t, V t → WA Λ Θ Qf P (lvF t) (stF t) (sg t) (k t)) → WA Λ Θ Qf pc lv st σ (X.bind k)) : WA Λ Θ Qf pc lv st σ (X.bind k) := hX hJ
theorem WA.joinL {α β : Type} {X : Option (α ⊕ β)} {k : α ⊕ β → Option ρ} (P : Nat) (lvF : α → List (Option Value)) (stF : α → List Value) (sg : α → St) (V : α → Prop) (hJ : ∀ t, V t → WA Λ Θ Qf P (lvF t) (stF t) (sg t) (k (.inl t)))
    (hX : (∀ t, V t → WA Λ Θ Qf P (lvF t) (stF t) (sg t) (k (.inl t))) → WA Λ Θ Qf pc lv st σ (X.bind k)) : WA Λ Θ Qf pc lv st σ (X.bind k) := hX hJ
theorem WA.sml {α β : Type} {e : α} {f : α → Option ρ} {h : β → Option ρ} (w : WA Λ Θ Qf pc lv st σ (f e)) : WA Λ Θ Qf pc lv st σ (Sum.elim f h (.inl e)) := w
theorem bool_n {x : Int32} (h : x = 0 ∨ x = 1) : narrow .boolean (.int x) = .int x := by
  rcases h with rfl | rfl <;> rfl
theorem r_zretC {cc : ByteArray} {own : String} {rm : Room} {nL : Nat} (C : CX Θ cc own (some .boolean) rm nL) {x : Int32} {o : ρ → Option Value} {s' : ρ → St} {P : ρ → Prop} {r0 : ρ} (hdg : decode cc pc = .ok (.ireturn, 1)) (ho : o r0 = some (.int x)) (hs : s' r0 = σ) (hP : x = 0 ∨ x = 1 → P r0) :
    WA Λ Θ (fun r => Qm Λ Θ (o r) (s' r) (P r)) pc lv [.int x] σ (if x = 0 ∨ x = 1 then some r0 else none) := by
  by_cases h : x = 0 ∨ x = 1
  · rw [if_pos h]
    exact r_zret C hdg (bool_n h) ho hs (hP h)
  · rw [if_neg h]
    exact WA.non
end More
end
section
/-! the fixed cells of LC: 0 PostsEnd; 1 PostsEnd$Firm; 2 PostsEnd$Pools; 3 PostsEnd$Ranks; 4 PostsEnd$Chooser; 5 PostsEnd$Bumping; 6 PostsEnd$Offering; 7 PostsEnd$Endings; 8 PostsEnd.refusals; 9 PostsEnd$Firm.upward; 10 PostsEnd$Firm.postRow; 11 PostsEnd$Firm.personRow; 12 PostsEnd$Firm.tellingRow; 13 PostsEnd$Firm.weighed; 14 PostsEnd$Firm.setting; 15 PostsEnd$Pools.poolRow; 16 PostsEnd$Pools.reached; 17 PostsEnd$Pools.memberRow; 18 PostsEnd$Ranks.row; 19 PostsEnd$Ranks.marks; 20 PostsEnd$Ranks.tried; 21 PostsEnd$Ranks.growth; 22 PostsEnd$Chooser.costs; 23 PostsEnd$Chooser.marks; 24 PostsEnd$Chooser.having; 25 PostsEnd$Chooser.least; 26 PostsEnd$Bumping.marks; 27 PostsEnd$Bumping.row; 28 PostsEnd$Offering.leaverRow; 29 PostsEnd$Offering.vacantRow; 30 PostsEnd$Offering.worth; 31 PostsEnd$Offering.best; 32 PostsEnd$Offering.offerRow; 33 PostsEnd$Endings.placeRow; 34 PostsEnd$Endings.dayRow; 35 PostsEnd$Endings.numberRow; 36 PostsEnd$Endings.cost; 37 PostsEnd$Endings.goneAfter; 38 PostsEnd$Endings.toldBy; 39 PostsEnd$Endings.leastOfBand; 40 PostsEnd$Endings.leastAt -/
def LC0 (j : Nat) : Shp := match j with
  | 0 => .inl (11, [(1, 1), (1, 2), (1, 3), (1, 4), (1, 5), (1, 6), (1, 7), (1, 8)])
  | 1 => .inl (3, [(0, 0), (0, 0), (0, 0), (0, 0), (0, 0), (0, 0), (1, 9), (1, 10), (1, 11), (1, 12), (1, 13), (1, 14)])
  | 2 => .inl (6, [(1, 1), (1, 15), (1, 16), (1, 17), (0, 0), (0, 0), (0, 0)])
  | 3 => .inl (8, [(1, 1), (1, 18), (1, 19), (1, 20), (1, 21), (0, 0)])
  | 4 => .inl (1, [(1, 1), (1, 22), (1, 23), (1, 24), (1, 25), (0, 0), (0, 0), (0, 0), (0, 0), (0, 0), (0, 0), (0, 0), (0, 0)])
  | 5 => .inl (0, [(1, 1), (1, 26), (1, 27), (0, 0)])
  | 6 => .inl (4, [(1, 1), (1, 28), (1, 29), (1, 30), (1, 31), (1, 32), (0, 0), (0, 0)])
  | 7 => .inl (2, [(1, 33), (1, 34), (1, 35), (0, 0), (1, 36), (1, 37), (1, 38), (1, 39), (1, 40), (0, 0), (0, 0), (0, 0), (0, 0)])
  | 8 => .inr (0, 7)
  | 9 => .inr (0, 12)
  | 10 => .inr (2, 40)
  | 11 => .inr (3, 40)
  | 12 => .inr (4, 120)
  | 13 => .inr (0, 4)
  | 14 => .inr (0, 3)
  | 15 => .inr (0, 40)
  | 16 => .inr (2, 40)
  | 17 => .inr (3, 40)
  | 18 => .inr (3, 40)
  | 19 => .inr (0, 40)
  | 20 => .inr (0, 40)
  | 21 => .inr (0, 40)
  | 22 => .inr (0, 12)
  | 23 => .inr (0, 12)
  | 24 => .inr (0, 10)
  | 25 => .inr (0, 10)
  | 26 => .inr (0, 40)
  | 27 => .inr (3, 40)
  | 28 => .inr (3, 8)
  | 29 => .inr (2, 8)
  | 30 => .inr (0, 64)
  | 31 => .inr (0, 2304)
  | 32 => .inr (2, 8)
  | 33 => .inr (0, 60)
  | 34 => .inr (0, 60)
  | 35 => .inr (0, 60)
  | 36 => .inr (0, 201)
  | 37 => .inr (0, 1206)
  | 38 => .inr (0, 6)
  | 39 => .inr (0, 3)
  | 40 => .inr (0, 3)
  | _ => .inr (0, 0)
def LC : Ly := (41, fun d j => match d with
  | 0 => LC0 j
  | 1 => .inl (7, [(0, 0), (0, 0), (0, 0), (0, 0), (0, 0), (0, 0), (0, 0), (3, 0)])
  | 2 => .inl (5, [(0, 0), (0, 0), (0, 0), (0, 0), (2, 0), (2, 0), (0, 0), (0, 0), (0, 0), (4, 0), (4, 0)])
  | 3 => .inl (10, [(3, 0), (0, 0), (0, 0), (0, 0), (4, 0), (5, 0), (0, 0)])
  | 4 => .inl (9, [(0, 0), (0, 0), (5, 0)])
  | _ => .inr (0, 0))
/-! the fixed cells of LM: 0 PostsEndModel; 1 PostsEndModel.place; 2 PostsEndModel.unitAbove; 3 PostsEndModel.unitOf; 4 PostsEndModel.line; 5 PostsEndModel.grade; 6 PostsEndModel.hours; 7 PostsEndModel.wants; 8 PostsEndModel.endedOn; 9 PostsEndModel.skills; 10 PostsEndModel.came; 11 PostsEndModel.pay; 12 PostsEndModel.holds; 13 PostsEndModel.held; 14 PostsEndModel.leftOn; 15 PostsEndModel.guarded; 16 PostsEndModel.asks; 17 PostsEndModel.weights; 18 PostsEndModel.refused; 19 PostsEndModel.tellWho; 20 PostsEndModel.tellWhat; 21 PostsEndModel.tellValue; 22 PostsEndModel.tellDay; 23 PostsEndModel.rightOf; 24 PostsEndModel.rightValue; 25 PostsEndModel.rightDay; 26 PostsEndModel.leastOf; 27 PostsEndModel.poolNumber; 28 PostsEndModel.row; 29 PostsEndModel.rowMark; 30 PostsEndModel.poolPeople; 31 PostsEndModel.costOf; 32 PostsEndModel.markAt; 33 PostsEndModel.mover; 34 PostsEndModel.toPost; 35 PostsEndModel.bumped; 36 PostsEndModel.leaver; 37 PostsEndModel.vacant; 38 PostsEndModel.toCome; 39 PostsEndModel.offer; 40 PostsEndModel.endPlace; 41 PostsEndModel.endDay; 42 PostsEndModel.endSum; 43 PostsEndModel.costOn; 44 PostsEndModel.toldBy; 45 PostsEndModel.isIn -/
def LM0 (j : Nat) : Shp := match j with
  | 0 => .inl (12, [(0, 0), (0, 0), (1, 1), (1, 2), (0, 0), (1, 3), (1, 4), (1, 5), (1, 6), (1, 7), (1, 8), (0, 0), (1, 9), (1, 10), (1, 11), (1, 12), (1, 13), (1, 14), (1, 15), (1, 16), (0, 0), (0, 0), (0, 0), (1, 17), (1, 18), (0, 0), (1, 19), (1, 20), (1, 21), (1, 22), (0, 0), (1, 23), (1, 24), (1, 25), (1, 26), (1, 27), (1, 28), (1, 29), (0, 0), (1, 30), (0, 0), (0, 0), (0, 0), (0, 0), (0, 0), (0, 0), (1, 31), (1, 32), (1, 33), (1, 34), (1, 35), (0, 0), (0, 0), (0, 0), (1, 36), (1, 37), (0, 0), (1, 38), (1, 39), (0, 0), (1, 40), (1, 41), (1, 42), (1, 43), (1, 44), (1, 45)])
  | 1 => .inr (0, 12)
  | 2 => .inr (0, 12)
  | 3 => .inr (0, 40)
  | 4 => .inr (0, 40)
  | 5 => .inr (0, 40)
  | 6 => .inr (0, 40)
  | 7 => .inr (0, 40)
  | 8 => .inr (0, 40)
  | 9 => .inr (0, 40)
  | 10 => .inr (0, 40)
  | 11 => .inr (0, 40)
  | 12 => .inr (0, 40)
  | 13 => .inr (0, 40)
  | 14 => .inr (0, 40)
  | 15 => .inr (0, 40)
  | 16 => .inr (0, 40)
  | 17 => .inr (0, 4)
  | 18 => .inr (0, 7)
  | 19 => .inr (0, 120)
  | 20 => .inr (0, 120)
  | 21 => .inr (0, 120)
  | 22 => .inr (0, 120)
  | 23 => .inr (0, 61)
  | 24 => .inr (0, 61)
  | 25 => .inr (0, 61)
  | 26 => .inr (0, 40)
  | 27 => .inr (0, 40)
  | 28 => .inr (0, 40)
  | 29 => .inr (0, 40)
  | 30 => .inr (0, 40)
  | 31 => .inr (0, 12)
  | 32 => .inr (0, 12)
  | 33 => .inr (0, 41)
  | 34 => .inr (0, 41)
  | 35 => .inr (0, 41)
  | 36 => .inr (0, 8)
  | 37 => .inr (0, 8)
  | 38 => .inr (0, 2304)
  | 39 => .inr (0, 8)
  | 40 => .inr (0, 60)
  | 41 => .inr (0, 60)
  | 42 => .inr (0, 60)
  | 43 => .inr (0, 1407)
  | 44 => .inr (0, 6)
  | 45 => .inr (1, 40)
  | _ => .inr (0, 0)
def LM : Ly := (46, fun d j => match d with
  | 0 => LM0 j
  | _ => .inr (0, 0))
theorem uw_X0 : ∀ w ∈ u_ws RX0 TX0 4, w ∈ wt := sub_wt [292, 294, 296, 298] (by decide +kernel) (by decide +kernel)
theorem uw_X1 : ∀ w ∈ u_ws RX1 TX1 13, w ∈ wt := sub_wt [253, 255, 257, 259, 261, 263, 265, 267, 269, 271, 273, 275, 277] (by decide +kernel) (by decide +kernel)
theorem uw_X2 : ∀ w ∈ u_ws RX2 TX2 13, w ∈ wt := sub_wt [355, 357, 359, 361, 363, 365, 367, 369, 371, 373, 375, 377, 379] (by decide +kernel) (by decide +kernel)
theorem uw_X3 : ∀ w ∈ u_ws RX3 TX3 12, w ∈ wt := sub_wt [145, 147, 149, 151, 153, 155, 157, 159, 161, 163, 165, 167] (by decide +kernel) (by decide +kernel)
theorem uw_X4 : ∀ w ∈ u_ws RX4 TX4 8, w ∈ wt := sub_wt [318, 320, 322, 324, 326, 328, 330, 332] (by decide +kernel) (by decide +kernel)
theorem uw_X5 : ∀ w ∈ u_ws RX5 TX5 11, w ∈ wt := sub_wt [555, 557, 559, 561, 563, 565, 567, 569, 571, 573, 575] (by decide +kernel) (by decide +kernel)
theorem uw_X6 : ∀ w ∈ u_ws RX6 TX6 7, w ∈ wt := sub_wt [190, 192, 194, 196, 198, 200, 202] (by decide +kernel) (by decide +kernel)
theorem uw_X7 : ∀ w ∈ u_ws RX7 TX7 8, w ∈ wt := sub_wt [461, 463, 465, 467, 469, 471, 473, 475] (by decide +kernel) (by decide +kernel)
theorem uw_X8 : ∀ w ∈ u_ws RX8 TX8 6, w ∈ wt := sub_wt [218, 220, 222, 224, 226, 228] (by decide +kernel) (by decide +kernel)
theorem uw_X9 : ∀ w ∈ u_ws RX9 TX9 3, w ∈ wt := sub_wt [692, 694, 696] (by decide +kernel) (by decide +kernel)
theorem uw_X10 : ∀ w ∈ u_ws RX10 TX10 7, w ∈ wt := sub_wt [649, 651, 653, 655, 657, 659, 661] (by decide +kernel) (by decide +kernel)
theorem uw_X11 : ∀ w ∈ u_ws RX11 TX11 8, w ∈ wt := sub_wt [390, 392, 394, 396, 398, 400, 402, 404] (by decide +kernel) (by decide +kernel)
theorem uw_X12 : ∀ w ∈ u_ws RX12 TX12 66, w ∈ wt := sub_wt [1300, 1302, 1304, 1306, 1308, 1310, 1312, 1314, 1316, 1318, 1320, 1322, 1324, 1326, 1328, 1330, 1332, 1334, 1336, 1338, 1340, 1342, 1344, 1346, 1348, 1350, 1352, 1354, 1356, 1358, 1360, 1362, 1364, 1366, 1368, 1370, 1372, 1374, 1376, 1378, 1380, 1382, 1384, 1386, 1388, 1390, 1392, 1394, 1396, 1398, 1400, 1402, 1404, 1406, 1408, 1410, 1412, 1414, 1416, 1418, 1420, 1422, 1424, 1426, 1428, 1430] (by decide +kernel) (by decide +kernel)
end
section
theorem cat_rf (x : Option Nat) : (va_rf x).category = 1 := by cases x <;> rfl
theorem cat_i (x : Int32) : (Value.int x).category = 1 := rfl
theorem cat_r (x : Nat) : (Value.ref x).category = 1 := rfl
end
section
/-! ===== objects that are made: a constructor's rows, 'new', contracts of methods that make one ===== -/
def nup (N : Nat → Nat) (d n : Nat) : Nat → Nat := fun d' => if d' = d then n else N d'
theorem nup_self {N : Nat → Nat} {d n : Nat} (h : N d = n) : nup N d n = N := by
  funext d'
  unfold nup
  split
  · rename_i e; rw [e, h]
  · rfl
theorem nup_at (N : Nat → Nat) (d n : Nat) : nup N d n d = n := by simp [nup]
theorem nup_ne (N : Nat → Nat) {d n d' : Nat} (h : d' ≠ d) : nup N d n d' = N d' := by simp [nup, h]
/-- a new object: all 0 and null -/
def clr (σ : St) (d n : Nat) : St := (fun d' j k => if d' = d ∧ j = n then 0 else σ.1 d' j k, fun d' j k => if d' = d ∧ j = n then none else σ.2 d' j k)
theorem clr_o {σ : St} {d n d' j : Nat} (h : ¬ (d' = d ∧ j = n)) : (clr σ d n).1 d' j = σ.1 d' j ∧ (clr σ d n).2 d' j = σ.2 d' j := by
  unfold clr
  constructor
  · funext k; simp only [if_neg h]
  · funext k; simp only [if_neg h]
/-- the world of Θ1 is that of Θ with at most one object of kind d more, of which there are then n -/
def Ext (Θ Θ1 : TT) (d n k z : Nat) : Prop :=
  Θ1.1 = Θ.1 ∧ cW Θ1 = cW Θ ∧ cN Θ1 = nup (cN Θ) d n ∧ (∀ d', d' ≠ d → cAd Θ1 d' = cAd Θ d') ∧ (∀ j, j < cN Θ d → cAd Θ1 d j = cAd Θ d j) ∧ cN Θ d ≤ n ∧ cC Θ1 = ((cC Θ).1 + k, (cC Θ).2 + z) ∧ cNL Θ1 = cNL Θ
theorem Ext.lt {Θ Θ1 : TT} {d n k z : Nat} (h : Ext Θ Θ1 d n k z) {d' j : Nat} (hj : j < cN Θ d') : j < cN Θ1 d' := by
  rw [h.2.2.1]
  by_cases e : d' = d
  · subst e; rw [nup_at]; exact Nat.lt_of_lt_of_le hj h.2.2.2.2.2.1
  · rw [nup_ne _ e]; exact hj
theorem Ext.lq {Θ Θ1 : TT} {d n k z : Nat} (h : Ext Θ Θ1 d n k z) {d' : Nat} {x : Option Nat} (hj : ∀ q, x = some q → q < cN Θ d') : ∀ q, x = some q → q < cN Θ1 d' := fun q e => h.lt (hj q e)
theorem Ext.hF {Θ Θ1 : TT} {d n k z : Nat} (h : Ext Θ Θ1 d n k z) : cF Θ1 = cF Θ := by
  show (cW Θ1).2.1 = (cW Θ).2.1
  rw [h.2.1]
theorem Ext.hA {Θ Θ1 : TT} {d n k z : Nat} (h : Ext Θ Θ1 d n k z) {d' : Nat} (e : d' ≠ d) : cAd Θ1 d' = cAd Θ d' := h.2.2.2.1 d' e
theorem Ext.hN {Θ Θ1 : TT} {d n k z : Nat} (h : Ext Θ Θ1 d n k z) : cN Θ1 d = n := by rw [h.2.2.1, nup_at]
theorem Ext.refl (Θ : TT) {d n : Nat} (h : cN Θ d = n) : Ext Θ Θ d n 0 0 := ⟨rfl, rfl, (nup_self h).symm, fun _ _ => rfl, fun _ _ => rfl, Nat.le_of_eq h, rfl, rfl⟩
/-- and may write it, in a constructor -/
def FPi (Λ : Ly) (own : String) (index d j kf : Nat) (q : Nat × Nat) (ty : FieldType) : Prop :=
  ∃ (ci : Nat) (fs : List (Nat × Nat)) (Cn : String) (T : u_T) (M : Nat) (ty0 : Nat → FieldType), Λ.2 d j = .inl (ci, fs) ∧ fs[kf]? = some q ∧ vwCl[ci]? = some (Cn, T, M) ∧ kf < M ∧ (∀ w ∈ u_ws Cn T M, w ∈ wt) ∧ Cond.fieldLink own index (T kf).1 (T kf).2.1 (T kf).2.2.1 ∈ wt ∧
    (∀ k, k < M → parseFieldDescriptor (T k).2.2.1 = some (ty0 k)) ∧ (∀ a, a < M → ∀ b, b < M → a ≠ b → (T a).2.1 ≠ (T b).2.1) ∧ (T kf).2.2.2 = true ∧ (T kf).1 = own ∧ parseFieldDescriptor (T kf).2.2.1 = some ty
section Alloc
variable {ρ : Type} {Λ : Ly} {Θ : TT} {Qf : ρ → State → Prop} {cc : ByteArray} {own : String} {ret : Option FieldType} {rm : Room} {nL pc : Nat} {lv : List (Option Value)} {st : List Value} {σ : St} {K : Option ρ}
theorem WA.rl {lv' : List (Option Value)} {st' : List Value} (h1 : lv = lv') (h2 : st = st') (w : WA Λ Θ Qf pc lv' st' σ K) : WA Λ Θ Qf pc lv st σ K := by rw [h1, h2]; exact w
theorem r_putFI (C : CX Θ cc own ret rm nL) (hnm : Θ.1.2.2.2.2.2.2.2.2.1.name = "<init>") {index d j kf z : Nat} {x : Int32} (hdg : decode cc pc = .ok (.putfield index, 3)) (hf : FPi Λ own index (d + 1) j kf (0, z) .int) (hd : d + 1 ≤ 4) (hj : j < cN Θ (d + 1))
    (k : WA Λ Θ Qf (pc + 3) lv st (sx σ (d + 1) j kf x) K) : WA Λ Θ Qf pc lv (.int x :: .ref (cAd Θ (d + 1) j) :: st) σ K := by
  intro r hr H ls locs hl hR hS
  have hm : dm Λ (cN Θ) (d + 1) j := dmk (Nat.succ_le_succ (Nat.zero_le d)) hd hj
  obtain ⟨ci, fs, Cn, T, M, ty0, h1, h2, h3, h4, h5, h6, h7, h8, h9, h11, h10⟩ := hf
  obtain ⟨i, i1, i2, i3⟩ := wl_at (ω := cW Θ) (ad := cAd Θ) hm σ
  rw [h1] at i3
  refine va_putF C.hx C.hb C.hts h5 ty0 h7 h8 C.hown C.hK hR.P hR.D hS i (fs := fvs (cF Θ) (cAd Θ) σ (d + 1) j 0 fs) i3 h3 kf h4 (C.hts _ h6) (fun _ h => h) h9 hnm h11 h10 (v := .int x) rfl rfl (by rw [fvs_len]; exact (List.getElem?_eq_some_iff.mp h2).1) hdg (fun H1 locs1 hP1 hD1 hS1 => ?_)
  refine k r hr H1 ls locs1 hl (hR.back i1 i2 hP1 ?_ (fun d' j' h => sx_o h) (hR.2.2.2 (d + 1) j hm)) hS1
  rw [h1]
  simp only [cel]
  rw [fvs_eq (σ := σ) (kf := kf) (v := .int x) fs 0 (fun k q hq => ?_)]
  rw [Nat.zero_add]
  by_cases e : k = kf
  · subst e
    rw [h2] at hq
    cases hq
    simp [fvl, sx_1]
  · rw [if_neg e]
    unfold fvl
    rw [sx_1, sx_2, if_neg (fun h => e h.2.2)]
theorem r_putFQ (C : CX Θ cc own ret rm nL) (hnm : Θ.1.2.2.2.2.2.2.2.2.1.name = "<init>") {index d j kf t z : Nat} {Cn' : String} {x : Option Nat} (hdg : decode cc pc = .ok (.putfield index, 3)) (hf : FPi Λ own index (d + 1) j kf (t + 2, z) (.object Cn')) (hd : d + 1 ≤ 4) (hj : j < cN Θ (d + 1)) (hx : ∀ q, x = some q → q < cN Θ (t + 1))
    (k : WA Λ Θ Qf (pc + 3) lv st (sy σ (d + 1) j kf x) K) : WA Λ Θ Qf pc lv (va_rf (x.map (cAd Θ (t + 1))) :: .ref (cAd Θ (d + 1) j) :: st) σ K := by
  intro r hr H ls locs hl hR hS
  have hm : dm Λ (cN Θ) (d + 1) j := dmk (Nat.succ_le_succ (Nat.zero_le d)) hd hj
  obtain ⟨ci, fs, Cn, T, M, ty0, h1, h2, h3, h4, h5, h6, h7, h8, h9, h11, h10⟩ := hf
  obtain ⟨i, i1, i2, i3⟩ := wl_at (ω := cW Θ) (ad := cAd Θ) hm σ
  rw [h1] at i3
  refine va_putF C.hx C.hb C.hts h5 ty0 h7 h8 C.hown C.hK hR.P hR.D hS i (fs := fvs (cF Θ) (cAd Θ) σ (d + 1) j 0 fs) i3 h3 kf h4 (C.hts _ h6) (fun _ h => h) h9 hnm h11 h10 (v := va_rf (x.map (cAd Θ (t + 1)))) (by cases x <;> rfl) (by cases x <;> rfl) (by rw [fvs_len]; exact (List.getElem?_eq_some_iff.mp h2).1) hdg (fun H1 locs1 hP1 hD1 hS1 => ?_)
  refine k r hr H1 ls locs1 hl (hR.back i1 i2 hP1 ?_ (fun d' j' h => sy_o h) ?_) hS1
  · rw [h1]
    simp only [cel]
    rw [fvs_eq (σ := σ) (kf := kf) (v := va_rf (x.map (cAd Θ (t + 1)))) fs 0 (fun k q hq => ?_)]
    rw [Nat.zero_add]
    by_cases e : k = kf
    · subst e
      rw [h2] at hq
      cases hq
      simp [fvl, sy_2]
    · rw [if_neg e]
      unfold fvl
      rw [sy_2, sy_1, if_neg (fun h => e h.2.2)]
  · have hv := hR.2.2.2 (d + 1) j hm
    rw [h1] at hv ⊢
    intro k' t' z' hk' q hq
    rw [sy_2] at hq
    by_cases e : k' = kf
    · subst e
      rw [if_pos ⟨rfl, rfl, rfl⟩] at hq
      rw [h2] at hk'
      cases hk'
      exact hx q hq
    · rw [if_neg (fun h => e h.2.2)] at hq
      exact hv k' t' z' hk' q hq
theorem r_objInit (C : CX Θ cc own ret rm nL) {index x : Nat} (hdg : decode cc pc = .ok (.invokespecial index, 3)) (hw : Cond.methodLink own index Lib.objectInit ∈ wt ∧ Cond.instanceMethod Lib.objectInit ∈ wt ∧ Cond.code Lib.objectInit ⟨#[0xb1]⟩ 1 none ∈ wt) (h1 : 1 ≤ rm.frames) (h2 : (st.map fun v => v.category).sum + 12 ≤ rm.locals)
    (k : WA Λ Θ Qf (pc + 3) lv st σ K) : WA Λ Θ Qf pc lv (.ref x :: st) σ K :=
  fun r hr H ls locs hl hR hS => W.objInit C.hx C.hb C.hown (C.hts _ hw.1) (C.hts _ hw.2.1) (C.hts _ hw.2.2) rfl (by rw [C.hml]; exact hl.1.trans C.hn) rfl hdg (by rw [C.hR]; exact h1) (by rw [C.hR]; simpa [F0, JFrame.monitorRoom] using h2) (k r hr H ls locs hl hR hS)
/-- what the tables say of a class whose objects are made -/
def NWd (Λ : Ly) (own : String) (index d M : Nat) : Prop :=
  ∃ (ci : Nat) (fs : List (Nat × Nat)) (Cn : String) (T : u_T) (ty0 : Nat → FieldType), (∀ j, Λ.2 d j = .inl (ci, fs)) ∧ vwCl[ci]? = some (Cn, T, M) ∧ (∀ w ∈ u_ws Cn T M, w ∈ wt) ∧ Cond.classLink own index Cn ∈ wt ∧ Cond.instantiable Cn M ∈ wt ∧ Cond.initialized Cn ∈ wt ∧
    (∀ k, k < M → parseFieldDescriptor (T k).2.2.1 = some (ty0 k)) ∧ (∀ k, k < M → defaultValue (ty0 k) = (match fs.getD k (0, 0) with | (0, _) => .int 0 | _ => .null)) ∧ fs.length = M ∧ (∀ (k : Nat) (q : Nat × Nat), fs[k]? = some q → q.1 ≠ 1)
theorem arrV_cong {cA : ClassId} {n : Nat} {f g : Nat → Value} (h : ∀ j, j < n → f j = g j) : arrV cA n f = arrV cA n g := by
  unfold arrV
  congr 1
  apply Array.ext_getElem?
  intro i
  by_cases hi : i < n
  · simp [hi, h i hi]
  · simp [hi]
theorem cel_same {D : va_G} {ω : Wd} {ad ad1 : Nat → Nat → Nat} {σ σ1 : St} {N : Nat → Nat} {d j a : Nat} {sh : Shp} {H : Heap} (h1 : σ1.1 d j = σ.1 d j) (h2 : σ1.2 d j = σ.2 d j) (hv : vld N σ d j sh) (ha : ∀ d' q, q < N d' → ad1 d' q = ad d' q) (hat : va_at D vwCl (a, cel ω ad σ d j sh) H) : va_at D vwCl (a, cel ω ad1 σ1 d j sh) H := by
  cases sh with
  | inl x =>
    obtain ⟨ci, fs⟩ := x
    have e : cel ω ad1 σ1 d j (.inl (ci, fs)) = cel ω ad σ d j (.inl (ci, fs)) := by
      simp only [cel]
      congr 2
      apply List.ext_getElem?
      intro k
      rw [fvs_get, fvs_get, Nat.zero_add]
      cases hq : fs[k]? with
      | none => rfl
      | some q =>
        simp only [Option.map_some]
        obtain ⟨t, z⟩ := q
        unfold fvl
        rw [h1, h2]
        match t, hq with
        | 0, _ => rfl
        | 1, _ => rfl
        | t + 2, hq =>
          simp only
          cases hy : σ.2 d j k with
          | none => rfl
          | some y => simp only [Option.map_some, ha _ _ (hv k t z hq y hy)]
    rw [e]
    exact hat
  | inr x =>
    obtain ⟨t, n⟩ := x
    match t, hv, hat with
    | 0, _, hat =>
      have e : cel ω ad1 σ1 d j (.inr (0, n)) = cel ω ad σ d j (.inr (0, n)) := by simp only [cel, arc, h1]
      rw [e]; exact hat
    | 1, _, hat =>
      have e : cel ω ad1 σ1 d j (.inr (1, n)) = cel ω ad σ d j (.inr (1, n)) := by simp only [cel, arc, h1]
      rw [e]; exact hat
    | t + 2, hv, hat =>
      have e : vp_cell (ω.2.2.2.1 (t + 2)) (n, arc ad1 σ1 d j (t + 2)) = vp_cell (ω.2.2.2.1 (t + 2)) (n, arc ad σ d j (t + 2)) := by
        simp only [arc, vp_cell_q]
        apply arrV_cong
        intro i hi
        simp only [h2]
        cases hy : σ.2 d j i with
        | none => rfl
        | some y => simp only [Option.map_some, ha _ _ (hv i hi y hy)]
      show H[a]? = some (vp_cell _ _)
      rw [e]
      exact hat
theorem r_new (C : CX Θ cc own ret rm nL) {index d M n : Nat} (hdg : decode cc pc = .ok (.new index, 3)) (hw : NWd Λ own index (d + 1) M) (hd : d + 1 ≤ 4) (hn : cN Θ (d + 1) = n) (hr1 : (cC Θ).1 + 1 ≤ rm.cells) (hr2 : (cC Θ).2 + M ≤ rm.slots)
    (k : ∀ Θ1 : TT, CX Θ1 cc own ret rm nL → Ext Θ Θ1 (d + 1) (n + 1) 1 M → WA Λ Θ1 Qf (pc + 3) lv (.ref (cAd Θ1 (d + 1) n) :: st) (clr σ (d + 1) n) K) : WA Λ Θ Qf pc lv st σ K := by
  intro r hr H ls locs hl hR hS
  obtain ⟨ci, fs, Cn, T, ty0, h1, h2, h3, h4, h5, h6, h7, h8, h9, h10⟩ := hw
  have hfs : ∀ j, j < M → defaultValue (ty0 j) = vp_V (fvs (cF Θ) (cAd Θ) ((fun _ _ _ => 0, fun _ _ _ => none) : St) (d + 1) n 0 fs) j := by
    intro j hj
    rw [h8 j hj]
    unfold vp_V
    rw [List.getD_eq_getElem?_getD, List.getD_eq_getElem?_getD, fvs_get]
    have hlt : j < fs.length := by rw [h9]; exact hj
    have hq : fs[j]? = some fs[j] := List.getElem?_eq_getElem hlt
    rw [hq]
    simp only [Option.map_some, Option.getD_some]
    have h11 := h10 j _ hq
    generalize fs[j] = q at h11
    obtain ⟨t, z⟩ := q
    match t, h11 with
    | 0, _ => rfl
    | 1, h11 => exact absurd rfl h11
    | t + 2, _ => rfl
  refine va_new C.hx C.hb C.hts h3 ty0 h7 C.hown (C.hts _ h4) (C.hts _ h5) (C.hts _ h6) C.hK hR.P hR.D hS C.hA h2 hfs (by rw [C.hR]; exact hr1) (by rw [C.hR]; exact hr2) hdg (fun q H1 hP1 hD1 hS1 => ?_)
  have hlenw : (wl Λ (cW Θ) (cAd Θ) (cN Θ) σ).length = tot Λ (cN Θ) := by unfold wl; simp
  have hnew := hP1 (tot Λ (cN Θ)) (q, .inr (ci, fvs (cF Θ) (cAd Θ) ((fun _ _ _ => 0, fun _ _ _ => none) : St) (d + 1) n 0 fs)) (by rw [List.getElem?_append_right (by omega), hlenw, Nat.sub_self]; rfl)
  have hold : ∀ i, i < tot Λ (cN Θ) → ((wl Λ (cW Θ) (cAd Θ) (cN Θ) σ) ++ [(q, .inr (ci, fvs (cF Θ) (cAd Θ) ((fun _ _ _ => 0, fun _ _ _ => none) : St) (d + 1) n 0 fs))])[i]? = (wl Λ (cW Θ) (cAd Θ) (cN Θ) σ)[i]? := fun i hi => List.getElem?_append_left (by omega)
  let ad1 : Nat → Nat → Nat := fun d' j => if d' = d + 1 ∧ j = n then q else cAd Θ d' j
  have hag : ∀ d' j, j < cN Θ d' → ad1 d' j = cAd Θ d' j := fun d' j hj => by
    show (if _ then _ else _) = _
    rw [if_neg (fun e => by rw [e.1, hn] at hj; omega)]
  have hfresh : ∀ d' j, dm Λ (cN Θ) d' j → adr (cW Θ) (cAd Θ) d' j ≠ q := by
    intro d' j hm e
    obtain ⟨i, i1, i2, i3⟩ := wl_at (ω := cW Θ) (ad := cAd Θ) hm σ
    have e1 := hD1.1 i (tot Λ (cN Θ)) _ (q, .inr (ci, fvs (cF Θ) (cAd Θ) ((fun _ _ _ => 0, fun _ _ _ => none) : St) (d + 1) n 0 fs)) (by rw [hold i i1]; exact i3) (by rw [List.getElem?_append_right (by omega), hlenw, Nat.sub_self]; rfl) e
    omega
  have hadr : ∀ d' j, dm Λ (cN Θ) d' j → adr (cW Θ) ad1 d' j = adr (cW Θ) (cAd Θ) d' j := by
    intro d' j hm
    rcases hm with ⟨rfl, h⟩ | ⟨g1, g2, g3⟩
    · rfl
    · obtain ⟨d'', rfl⟩ : ∃ d'', d' = d'' + 1 := ⟨d' - 1, by omega⟩
      exact hag _ _ g3
  have hadn : adr (cW Θ) ad1 (d + 1) n = q := by show ad1 (d + 1) n = q; show (if _ then _ else _) = _; rw [if_pos ⟨rfl, rfl⟩]
  have hdm : ∀ d' j, dm Λ (nup (cN Θ) (d + 1) (n + 1)) d' j → dm Λ (cN Θ) d' j ∨ (d' = d + 1 ∧ j = n) := by
    intro d' j hm
    rcases hm with h | ⟨g1, g2, g3⟩
    · exact Or.inl (Or.inl h)
    · by_cases e : d' = d + 1
      · subst e
        rw [nup_at] at g3
        by_cases e2 : j = n
        · exact Or.inr ⟨rfl, e2⟩
        · exact Or.inl (Or.inr ⟨g1, g2, by rw [hn]; omega⟩)
      · rw [nup_ne _ e] at g3
        exact Or.inl (Or.inr ⟨g1, g2, g3⟩)
  have hcs : ∀ d' j, dm Λ (cN Θ) d' j → ¬ (d' = d + 1 ∧ j = n) := by
    intro d' j hm e
    rcases hm with ⟨g, -⟩ | ⟨-, -, g3⟩
    · omega
    · rw [e.1, hn] at g3; omega
  have hmono : ∀ d', cN Θ d' ≤ nup (cN Θ) (d + 1) (n + 1) d' := by
    intro d'
    by_cases e : d' = d + 1
    · subst e; rw [nup_at, hn]; omega
    · rw [nup_ne _ e]; exact Nat.le_refl _
  have hR1 : Rep Λ (cW Θ) ad1 (nup (cN Θ) (d + 1) (n + 1)) (clr σ (d + 1) n) H1 := by
    refine ⟨fun d' j hm => ?_, fun d' j d2 j2 hm hm2 e => ?_, fun d' j hm => ?_, fun d' j hm => ?_⟩
    · rcases hdm d' j hm with hm | ⟨rfl, rfl⟩
      · rw [hadr d' j hm]
        have hne := hcs d' j hm
        obtain ⟨i, i1, i2, i3⟩ := wl_at (ω := cW Θ) (ad := cAd Θ) hm σ
        exact cel_same (σ := σ) (N := cN Θ) (clr_o hne).1 (clr_o hne).2 (hR.2.2.2 d' j hm) hag (hP1 i _ (by rw [hold i i1]; exact i3))
      · rw [hadn, h1]
        have e : cel (cW Θ) ad1 (clr σ (d + 1) j) (d + 1) j (.inl (ci, fs)) = .inr (ci, fvs (cF Θ) (cAd Θ) ((fun _ _ _ => 0, fun _ _ _ => none) : St) (d + 1) j 0 fs) := by
          simp only [cel]
          congr 2
          apply List.ext_getElem?
          intro k
          rw [fvs_get, fvs_get, Nat.zero_add]
          cases hq : fs[k]? with
          | none => rfl
          | some q' =>
            simp only [Option.map_some]
            obtain ⟨t, z⟩ := q'
            unfold fvl clr
            match t with
            | 0 => simp
            | 1 => rfl
            | t + 2 => simp
        rw [e]
        exact hnew
    · rcases hdm d' j hm with ha | ⟨ha1, ha2⟩
      · rcases hdm d2 j2 hm2 with hb | ⟨hb1, hb2⟩
        · rw [hadr d' j ha, hadr d2 j2 hb] at e
          exact hR.2.1 _ _ _ _ ha hb e
        · rw [hadr d' j ha, hb1, hb2, hadn] at e
          exact absurd e (hfresh d' j ha)
      · rcases hdm d2 j2 hm2 with hb | ⟨hb1, hb2⟩
        · rw [ha1, ha2, hadn, hadr d2 j2 hb] at e
          exact absurd e.symm (hfresh d2 j2 hb)
        · exact ⟨ha1.trans hb1.symm, ha2.trans hb2.symm⟩
    · rcases hdm d' j hm with hm | ⟨rfl, rfl⟩
      · rw [hadr d' j hm]; exact hR.2.2.1 d' j hm
      · rw [hadn]
        exact hD1.2 (tot Λ (cN Θ)) (q, .inr (ci, fvs (cF Θ) (cAd Θ) ((fun _ _ _ => 0, fun _ _ _ => none) : St) (d + 1) j 0 fs)) (by rw [List.getElem?_append_right (by omega), hlenw, Nat.sub_self]; rfl)
    · rcases hdm d' j hm with hm | ⟨rfl, rfl⟩
      · have hne := hcs d' j hm
        have hv := hR.2.2.2 d' j hm
        have e2 : (clr σ (d + 1) n).2 d' j = σ.2 d' j := (clr_o hne).2
        generalize Λ.2 d' j = sh at hv
        match sh, hv with
        | .inl (_, fs'), hv =>
          intro k' t z hk q' hq'
          rw [e2] at hq'
          exact Nat.lt_of_lt_of_le (hv k' t z hk q' hq') (hmono _)
        | .inr (0, _), _ => trivial
        | .inr (1, _), _ => trivial
        | .inr (t + 2, n'), hv =>
          intro i hi q' hq'
          rw [e2] at hq'
          exact Nat.lt_of_lt_of_le (hv i hi q' hq') (hmono _)
      · rw [h1]
        intro k' t z hk q' hq'
        simp [clr] at hq'
  have C1 : CX (Θ.1, cW Θ, cNL Θ, ad1, nup (cN Θ) (d + 1) (n + 1), (cC Θ).1 + 1, (cC Θ).2 + M) cc own ret rm nL :=
    ⟨C.1, C.2.1, C.2.2.1, C.2.2.2.1, C.2.2.2.2.1, C.2.2.2.2.2.1, C.2.2.2.2.2.2.1, C.2.2.2.2.2.2.2.1, C.2.2.2.2.2.2.2.2.1, C.2.2.2.2.2.2.2.2.2.1, C.2.2.2.2.2.2.2.2.2.2.1, C.2.2.2.2.2.2.2.2.2.2.2.1, C.2.2.2.2.2.2.2.2.2.2.2.2.1, hr1, hr2⟩
  have w := k _ C1 ⟨rfl, rfl, rfl, fun d' hd' => by
    show ad1 d' = _
    funext j
    show (if _ then _ else _) = _
    rw [if_neg (fun e => hd' e.1)], fun j hj => hag _ j hj, by rw [hn]; omega, rfl, rfl⟩ r hr H1 ls locs hl hR1 hS1
  have e0 : cAd ((Θ.1, cW Θ, cNL Θ, ad1, nup (cN Θ) (d + 1) (n + 1), (cC Θ).1 + 1, (cC Θ).2 + M) : TT) (d + 1) n = q := hadn
  rw [e0] at w
  exact w
end Alloc
end
section
/-! ===== contracts of methods that may make one object ===== -/
/-- such a method's end: the memory with n' objects of kind d, the old ones where they were -/
def QmA (Λ : Ly) (Θ : TT) (d mc ms : Nat) (o : Option Value) (σ : St) (n' : Nat) (P : Prop) : State → Prop :=
  MQ Θ.1.2.2.2.2.2.2.2.1 (fun _ st oc t => oc = .returned o ∧ P ∧ cN Θ d ≤ n' ∧ (∃ ad' : Nat → Nat → Nat, (∀ d', d' ≠ d → ad' d' = cAd Θ d') ∧ (∀ j, j < cN Θ d → ad' d j = cAd Θ d j) ∧ Rep Λ (cW Θ) ad' (nup (cN Θ) d n') σ t.heap) ∧ va_F (cW Θ).2.2.1 st t) Θ.1.2.2.2.2.2.2.1 (cS Θ) mc ms (cW Θ).2.2.1
def CtA (l : Launch) (y : MethodName) (cc : ByteArray) (maxL : Nat) (ret : Option FieldType) (rm : Room) (Λ : Ly) (ω : Wd) (ad : Nat → Nat → Nat) (N : Nat → Nat) (av : List Value) (σ : St) (d mc ms : Nat) (o : Option Value) (σ' : St) (n' : Nat) (P : Prop) : Prop :=
  Met l y (.code y cc maxL ret :: wt) rm (va_Pc av (Pre Λ ω ad N σ)) (fun _ st oc t => oc = .returned o ∧ P ∧ N d ≤ n' ∧ (∃ ad' : Nat → Nat → Nat, (∀ d', d' ≠ d → ad' d' = ad d') ∧ (∀ j, j < N d → ad' d j = ad d j) ∧ Rep Λ ω ad' (nup N d n') σ' t.heap) ∧ va_F ω.2.2.1 st t) mc ms ω.2.2.1
section Alloc2
variable {ρ : Type} {Λ : Ly} {Θ : TT} {Qf : ρ → State → Prop} {cc : ByteArray} {own : String} {ret : Option FieldType} {rm : Room} {nL pc : Nat} {lv : List (Option Value)} {st : List Value} {σ : St} {K : Option ρ}
theorem r_iretA {Θ1 : TT} (C : CX Θ1 cc own (some .int) rm nL) {d n0 k z mc ms : Nat} (E : Ext Θ Θ1 d n0 k z) (hk : (cC Θ).1 + k ≤ mc) (hz : (cC Θ).2 + z ≤ ms) {x : Int32} {o : ρ → Option Value} {s' : ρ → St} {n' : ρ → Nat} {P : ρ → Prop} {r0 : ρ} (hdg : decode cc pc = .ok (.ireturn, 1)) (ho : o r0 = some (.int x)) (hs : s' r0 = σ) (hn : n' r0 = n0) (hP : P r0) :
    WA Λ Θ1 (fun r => QmA Λ Θ d mc ms (o r) (s' r) (n' r) (P r)) pc lv [.int x] σ (some r0) := by
  intro r hr H ls locs hl hR hS
  cases hr
  show WW Θ1.1 H locs (cC Θ1).1 (cC Θ1).2 (QmA Λ Θ d mc ms (o r0) (s' r0) (n' r0) (P r0)) _
  rw [ho, hs, hn]
  obtain ⟨Γ, ω, nl, ad, N, c1, c2⟩ := Θ
  obtain ⟨Γ1, ω1, nl1, ad1, N1, k1, k2⟩ := Θ1
  obtain ⟨e1, e2, e3, e4, e5, e6, e7, e8⟩ := E
  dsimp only [cW, cN, cAd, cC, cNL, cS, cM] at *
  subst e1; subst e2; subst e3
  cases e7
  refine W.widen (k := mc) (n := ms) hk hz ?_
  exact W.iret C.hx C.hb C.hr (fun t ht _ => ⟨rfl, hP, e6, ⟨ad1, e4, e5, by rw [ht]; exact hR⟩, hS.F ht⟩) (fun q hq => hS.2.2 q hq) hdg (hlocks := C.hlk)
theorem ct_ofA {l : Launch} {y : MethodName} {cc : ByteArray} {maxL : Nat} {ret : Option FieldType} {rm : Room} {Λ : Ly} {ω : Wd} {ad : Nat → Nat → Nat} {N : Nat → Nat} {av : List Value} {σ : St} {d mc ms : Nat} {o : ρ → Option Value} {s' : ρ → St} {n' : ρ → Nat} {P : ρ → Prop} {K : Option ρ} (lv0 : List (Option Value))
    (hpl : plainName y.cls = true) (hlv : pr 0 lv0 = lv_args 0 av) (hlen : (lg_sl av).length ≤ maxL)
    (body : ∀ Γ : CT, CX (Γ, ω, maxL, ad, N, 0, 0) cc y.cls ret rm maxL → Γ.2.1 = l → WA Λ (Γ, ω, maxL, ad, N, 0, 0) (fun r => QmA Λ (Γ, ω, maxL, ad, N, 0, 0) d mc ms (o r) (s' r) (n' r) (P r)) 0 lv0 [] σ K) :
    ∀ r, K = some r → CtA l y cc maxL ret rm Λ ω ad N av σ d mc ms (o r) (s' r) (n' r) (P r) := by
  intro r hr
  refine Met.ofW (cc := cc) (maxL := maxL) (ret := ret) hpl rfl ?_
  intro p e s m args below meth c s₁ B hml hv
  obtain ⟨rfl, hP1, hP2, hP3, hP4, hP5⟩ := hv
  have hts : ∀ w ∈ (Cond.code y cc maxL ret :: wt), w.before av.toArray s = true := atoms_spec (ws := Cond.code y cc maxL ret :: wt) B.pre
  have C : CX ((p, l, e, (headSpec (Cond.code y cc maxL ret :: wt) rm).room, s, m, av.toArray, below, meth, c), ω, maxL, ad, N, 0, 0) cc y.cls ret rm maxL :=
    ⟨B.exec, B.bytes, hml, findClass_of_methodNamed B.named, fun w hw => hts w (List.mem_cons_of_mem _ hw), B.returns, B.notSynchronized, hP2, hP3, hP4, rfl, rfl, hP5, Nat.zero_le _, Nat.zero_le _⟩
  have hl := lv_entry av (n := maxL) hlen
  rw [lg_entry_eq]
  generalize (lg_sl av ++ List.replicate (maxL - (lg_sl av).length) Slot.unset).toArray = ls at hl ⊢
  rw [← hlv] at hl
  exact body _ C rfl r hr s.heap ls [] hl hP1 va_S.rf
/-- a constructor's call -/
theorem r_callI (C : CX Θ cc own ret rm nL) {α : Type} {index n : Nat} {y : MethodName} {bytes : ByteArray} {maxL : Nat} {rmc : Room} {b : Nat} {As : List Value} {F : Option α} {o : α → Option Value} {s' : α → St} {P : α → Prop} {st0 : List Value} {K2 : α → Option ρ}
    (hdg : decode cc pc = .ok (.invokespecial index, 3)) (hlink : Cond.methodLink own index y ∈ wt) (hw : MW y bytes maxL none n ∧ Cond.instanceMethod y ∈ wt) (hnm : y.name = "<init>")
    (hM : ∀ r, F = some r → Ct Θ.1.2.1 y bytes maxL none rmc Λ (cW Θ) (cAd Θ) (cN Θ) (.ref b :: As) σ (o r) (s' r) (P r)) (hn : As.length = n) (hst : st0 = As.reverse ++ .ref b :: st) (hsum : (st.map fun v => v.category).sum ≤ 8)
    (hrm : rmc.cells = 0 ∧ rmc.slots = 0 ∧ rmc.frames + 1 ≤ rm.frames ∧ 8 + (maxL + 11) + rmc.locals ≤ rm.locals)
    (k : ∀ r, P r → WA Λ Θ Qf (pc + 3) lv ((o r).toList ++ st) (s' r) (K2 r)) : WA Λ Θ Qf pc lv st0 σ (F.bind K2) := by
  intro r hr H ls locs hl hR hS
  cases hF : F with
  | none => rw [hF] at hr; cases hr
  | some r0 =>
    have hM0 := hM r0 hF
    refine WA.after (Y := fun _ _ _ => True) C hF hl hS ?_ k r hr
    refine va_runI (As := As) (rest := st) (n := n) (rm := rmc) ⟨C.hx, C.hb, C.hml, C.hown, C.hts⟩ hM0 ⟨callB_of n C.hts (wt_cons hw.1.2.1) rfl hrm.1 hrm.2.1 (C.hts _ hw.1.1) (C.hts _ hlink) hw.1.2.2 (by rw [C.hR]; exact hrm.2.2), hnm, C.hts _ hw.2⟩
      ⟨Pre.blind, fun U hU hW => ⟨rfl, C.pre hR hS hU hW⟩⟩ rfl hn (hl.1.trans C.hn) hst (lv_room hsum) hdg C.hcR
/-- a call of a method that may make an object -/
theorem r_callA (C : CX Θ cc own ret rm nL) {α : Type} {index n : Nat} {y : MethodName} {bytes : ByteArray} {maxL : Nat} {rc : Option FieldType} {rmc : Room} {d j kd mc ms : Nat} {As : List Value} {F : Option α} {o : α → Option Value} {s' : α → St} {n' : α → Nat} {P : α → Prop} {st0 : List Value} {K2 : α → Option ρ}
    (hdg : decode cc pc = .ok (.invokevirtual index, 3)) (hlink : Cond.methodLink own index y ∈ wt) (hw : VW y bytes maxL rc n) (hv : RV Λ d j y.cls) (hm : dm Λ (cN Θ) d j)
    (hM : ∀ r, F = some r → CtA Θ.1.2.1 y bytes maxL rc rmc Λ (cW Θ) (cAd Θ) (cN Θ) (.ref (adr (cW Θ) (cAd Θ) d j) :: As) σ kd mc ms (o r) (s' r) (n' r) (P r)) (hn : As.length = n) (hst : st0 = As.reverse ++ .ref (adr (cW Θ) (cAd Θ) d j) :: st) (hsum : (st.map fun v => v.category).sum ≤ 8)
    (hrm : rmc.cells = mc ∧ rmc.slots = ms ∧ rmc.frames + 1 ≤ rm.frames ∧ 8 + (maxL + 11) + rmc.locals ≤ rm.locals) (hc1 : (cC Θ).1 + mc ≤ rm.cells) (hc2 : (cC Θ).2 + ms ≤ rm.slots)
    (k : ∀ r, P r → ∀ Θ1 : TT, CX Θ1 cc own ret rm nL → Ext Θ Θ1 kd (n' r) mc ms → WA Λ Θ1 Qf (pc + 3) lv ((o r).toList ++ st) (s' r) (K2 r)) : WA Λ Θ Qf pc lv st0 σ (F.bind K2) := by
  intro r hr H ls locs hl hR hS
  cases hF : F with
  | none => rw [hF] at hr; cases hr
  | some r0 =>
    have hM0 := hM r0 hF
    obtain ⟨ci, fs, T, M, v1, v2⟩ := hv
    have hat := hR.1 d j hm
    rw [v1] at hat
    rw [hF] at hr
    have run : va_Run Θ.1.1 Θ.1.2.1 Θ.1.2.2.1 Θ.1.2.2.2.1 Θ.1.2.2.2.2.1 Θ.1.2.2.2.2.2.1 Θ.1.2.2.2.2.2.2.1 Θ.1.2.2.2.2.2.2.2.1 Θ.1.2.2.2.2.2.2.2.2.1 Θ.1.2.2.2.2.2.2.2.2.2 H locs (cC Θ).1 (cC Θ).2 mc ms (F0 (cM Θ) pc ls st0) st (fun st oc t => oc = .returned (o r0) ∧ P r0 ∧ cN Θ kd ≤ n' r0 ∧ (∃ ad' : Nat → Nat → Nat, (∀ d', d' ≠ kd → ad' d' = cAd Θ d') ∧ (∀ j, j < cN Θ kd → ad' kd j = cAd Θ kd j) ∧ Rep Λ (cW Θ) ad' (nup (cN Θ) kd (n' r0)) (s' r0) t.heap) ∧ va_F (cW Θ).2.2.1 st t) (cW Θ).2.2.1 := by
      refine va_runV (As := As) (rest := st) (n := n) (C := y.cls) (rm := rmc) ⟨C.hx, C.hb, C.hml, C.hown, C.hts⟩ hM0 ⟨callB_of n C.hts (wt_cons hw.1.2.1) rfl hrm.1 hrm.2.1 (C.hts _ hw.1.1) (C.hts _ hlink) hw.1.2.2 (by rw [C.hR]; exact hrm.2.2), C.hts _ hw.2.1, C.hts _ hw.2.2⟩
        ⟨Pre.blind, va_recv C.hK (one_P hat) v2 (q0 := 0) rfl, fun U hU hW => ⟨rfl, C.pre hR hS hU hW⟩⟩ rfl hn (hl.1.trans C.hn) hst (lv_room hsum) hdg (by rw [C.hR]; exact ⟨hc1, hc2⟩)
    intro T hT X
    obtain ⟨v, st₀, t, T', L, h0, X', hL, e1, e2, ⟨hv, hp, hle, ⟨ad', a1, a2, hrep⟩, hz, hk⟩, go⟩ := run T hT X
    cases hv
    rw [h0] at hz hk
    have C1 : CX (Θ.1, cW Θ, cNL Θ, ad', nup (cN Θ) kd (n' r0), (cC Θ).1 + mc, (cC Θ).2 + ms) cc own ret rm nL :=
      ⟨C.1, C.2.1, C.2.2.1, C.2.2.2.1, C.2.2.2.2.1, C.2.2.2.2.2.1, C.2.2.2.2.2.2.1, C.2.2.2.2.2.2.2.1, C.2.2.2.2.2.2.2.2.1, C.2.2.2.2.2.2.2.2.2.1, C.2.2.2.2.2.2.2.2.2.2.1, C.2.2.2.2.2.2.2.2.2.2.2.1, C.2.2.2.2.2.2.2.2.2.2.2.2.1, hc1, hc2⟩
    obtain ⟨t2, b1, b2⟩ := k r0 hp _ C1 ⟨rfl, rfl, rfl, a1, a2, hle, rfl, rfl⟩ r hr T'.heap ls (locs ++ L) hl (by rw [e1]; exact hrep)
      ⟨Nat.le_trans hS.1 (by rw [e1]; exact hz), fun q h1 h2 => by rw [e1, hk q (Nat.lt_of_lt_of_le h1 hS.1) h2]; exact hS.2.1 q h1 h2, fun q hq => by
        rcases List.mem_append.mp hq with h | h
        · exact hS.2.2 q h
        · exact hL q h⟩ T' rfl X'
    exact ⟨t2, go t2 b1, b2⟩
end Alloc2
end
