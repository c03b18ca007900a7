theorem dX0_init_0 : decode cX0_init 0 = .ok (.aload_n 0, 1) := by decide +kernel
theorem dX0_init_1 : decode cX0_init 1 = .ok (.invokespecial 3, 3) := by decide +kernel
theorem dX0_init_4 : decode cX0_init 4 = .ok (.aload_n 0, 1) := by decide +kernel
theorem dX0_init_5 : decode cX0_init 5 = .ok (.bipush 40, 2) := by decide +kernel
theorem dX0_init_7 : decode cX0_init 7 = .ok (.newarray .int, 2) := by decide +kernel
theorem dX0_init_9 : decode cX0_init 9 = .ok (.putfield 9, 3) := by decide +kernel
theorem dX0_init_12 : decode cX0_init 12 = .ok (.aload_n 0, 1) := by decide +kernel
theorem dX0_init_13 : decode cX0_init 13 = .ok (.bipush 40, 2) := by decide +kernel
theorem dX0_init_15 : decode cX0_init 15 = .ok (.anewarray 15, 3) := by decide +kernel
theorem dX0_init_18 : decode cX0_init 18 = .ok (.putfield 17, 3) := by decide +kernel
theorem dX0_init_21 : decode cX0_init 21 = .ok (.aload_n 0, 1) := by decide +kernel
theorem dX0_init_22 : decode cX0_init 22 = .ok (.aload_n 1, 1) := by decide +kernel
theorem dX0_init_23 : decode cX0_init 23 = .ok (.putfield 21, 3) := by decide +kernel
theorem dX0_init_26 : decode cX0_init 26 = .ok (.return_, 1) := by decide +kernel
theorem dX0_follow_0 : decode cX0_follow 0 = .ok (.aload_n 0, 1) := by decide +kernel
theorem dX0_follow_1 : decode cX0_follow 1 = .ok (.invokevirtual 25, 3) := by decide +kernel
theorem dX0_follow_4 : decode cX0_follow 4 = .ok (.aload_n 0, 1) := by decide +kernel
theorem dX0_follow_5 : decode cX0_follow 5 = .ok (.iconst 0, 1) := by decide +kernel
theorem dX0_follow_6 : decode cX0_follow 6 = .ok (.putfield 28, 3) := by decide +kernel
theorem dX0_follow_9 : decode cX0_follow 9 = .ok (.aload_n 0, 1) := by decide +kernel
theorem dX0_follow_10 : decode cX0_follow 10 = .ok (.getfield 17, 3) := by decide +kernel
theorem dX0_follow_13 : decode cX0_follow 13 = .ok (.iconst 0, 1) := by decide +kernel
theorem dX0_follow_14 : decode cX0_follow 14 = .ok (.aload_n 1, 1) := by decide +kernel
theorem dX0_follow_15 : decode cX0_follow 15 = .ok (.aastore, 1) := by decide +kernel
theorem dX0_follow_16 : decode cX0_follow 16 = .ok (.aload_n 0, 1) := by decide +kernel
theorem dX0_follow_17 : decode cX0_follow 17 = .ok (.aload_n 1, 1) := by decide +kernel
theorem dX0_follow_18 : decode cX0_follow 18 = .ok (.invokevirtual 32, 3) := by decide +kernel
theorem dX0_follow_21 : decode cX0_follow 21 = .ok (.astore_n 2, 1) := by decide +kernel
theorem dX0_follow_22 : decode cX0_follow 22 = .ok (.aload_n 2, 1) := by decide +kernel
theorem dX0_follow_23 : decode cX0_follow 23 = .ok (.ifnull 43, 3) := by decide +kernel
theorem dX0_follow_26 : decode cX0_follow 26 = .ok (.aload_n 0, 1) := by decide +kernel
theorem dX0_follow_27 : decode cX0_follow 27 = .ok (.getfield 28, 3) := by decide +kernel
theorem dX0_follow_30 : decode cX0_follow 30 = .ok (.iconst 1, 1) := by decide +kernel
theorem dX0_follow_31 : decode cX0_follow 31 = .ok (.iadd, 1) := by decide +kernel
theorem dX0_follow_32 : decode cX0_follow 32 = .ok (.bipush 40, 2) := by decide +kernel
theorem dX0_follow_34 : decode cX0_follow 34 = .ok (.if_icmp .ge 32, 3) := by decide +kernel
theorem dX0_follow_37 : decode cX0_follow 37 = .ok (.aload_n 0, 1) := by decide +kernel
theorem dX0_follow_38 : decode cX0_follow 38 = .ok (.dup, 1) := by decide +kernel
theorem dX0_follow_39 : decode cX0_follow 39 = .ok (.getfield 28, 3) := by decide +kernel
theorem dX0_follow_42 : decode cX0_follow 42 = .ok (.iconst 1, 1) := by decide +kernel
theorem dX0_follow_43 : decode cX0_follow 43 = .ok (.iadd, 1) := by decide +kernel
theorem dX0_follow_44 : decode cX0_follow 44 = .ok (.putfield 28, 3) := by decide +kernel
theorem dX0_follow_47 : decode cX0_follow 47 = .ok (.aload_n 0, 1) := by decide +kernel
theorem dX0_follow_48 : decode cX0_follow 48 = .ok (.getfield 17, 3) := by decide +kernel
theorem dX0_follow_51 : decode cX0_follow 51 = .ok (.aload_n 0, 1) := by decide +kernel
theorem dX0_follow_52 : decode cX0_follow 52 = .ok (.getfield 28, 3) := by decide +kernel
theorem dX0_follow_55 : decode cX0_follow 55 = .ok (.aload_n 2, 1) := by decide +kernel
theorem dX0_follow_56 : decode cX0_follow 56 = .ok (.aastore, 1) := by decide +kernel
theorem dX0_follow_57 : decode cX0_follow 57 = .ok (.aload_n 0, 1) := by decide +kernel
theorem dX0_follow_58 : decode cX0_follow 58 = .ok (.aload_n 2, 1) := by decide +kernel
theorem dX0_follow_59 : decode cX0_follow 59 = .ok (.invokevirtual 32, 3) := by decide +kernel
theorem dX0_follow_62 : decode cX0_follow 62 = .ok (.astore_n 2, 1) := by decide +kernel
theorem dX0_follow_63 : decode cX0_follow 63 = .ok (.goto (-41), 3) := by decide +kernel
theorem dX0_follow_66 : decode cX0_follow 66 = .ok (.return_, 1) := by decide +kernel
theorem dX0_gatherMarks_0 : decode cX0_gatherMarks 0 = .ok (.iconst 0, 1) := by decide +kernel
theorem dX0_gatherMarks_1 : decode cX0_gatherMarks 1 = .ok (.istore_n 1, 1) := by decide +kernel
theorem dX0_gatherMarks_2 : decode cX0_gatherMarks 2 = .ok (.iload_n 1, 1) := by decide +kernel
theorem dX0_gatherMarks_3 : decode cX0_gatherMarks 3 = .ok (.aload_n 0, 1) := by decide +kernel
theorem dX0_gatherMarks_4 : decode cX0_gatherMarks 4 = .ok (.getfield 21, 3) := by decide +kernel
theorem dX0_gatherMarks_7 : decode cX0_gatherMarks 7 = .ok (.getfield 36, 3) := by decide +kernel
theorem dX0_gatherMarks_10 : decode cX0_gatherMarks 10 = .ok (.if_icmp .ge 53, 3) := by decide +kernel
theorem dX0_gatherMarks_13 : decode cX0_gatherMarks 13 = .ok (.iload_n 1, 1) := by decide +kernel
theorem dX0_gatherMarks_14 : decode cX0_gatherMarks 14 = .ok (.bipush 40, 2) := by decide +kernel
theorem dX0_gatherMarks_16 : decode cX0_gatherMarks 16 = .ok (.if_icmp .ge 47, 3) := by decide +kernel
theorem dX0_gatherMarks_19 : decode cX0_gatherMarks 19 = .ok (.aload_n 0, 1) := by decide +kernel
theorem dX0_gatherMarks_20 : decode cX0_gatherMarks 20 = .ok (.getfield 21, 3) := by decide +kernel
theorem dX0_gatherMarks_23 : decode cX0_gatherMarks 23 = .ok (.iload_n 1, 1) := by decide +kernel
theorem dX0_gatherMarks_24 : decode cX0_gatherMarks 24 = .ok (.invokevirtual 41, 3) := by decide +kernel
theorem dX0_gatherMarks_27 : decode cX0_gatherMarks 27 = .ok (.astore_n 2, 1) := by decide +kernel
theorem dX0_gatherMarks_28 : decode cX0_gatherMarks 28 = .ok (.aload_n 0, 1) := by decide +kernel
theorem dX0_gatherMarks_29 : decode cX0_gatherMarks 29 = .ok (.getfield 9, 3) := by decide +kernel
theorem dX0_gatherMarks_32 : decode cX0_gatherMarks 32 = .ok (.iload_n 1, 1) := by decide +kernel
theorem dX0_gatherMarks_33 : decode cX0_gatherMarks 33 = .ok (.aload_n 2, 1) := by decide +kernel
theorem dX0_gatherMarks_34 : decode cX0_gatherMarks 34 = .ok (.ifnonnull 7, 3) := by decide +kernel
theorem dX0_gatherMarks_37 : decode cX0_gatherMarks 37 = .ok (.iconst 0, 1) := by decide +kernel
theorem dX0_gatherMarks_38 : decode cX0_gatherMarks 38 = .ok (.goto 18, 3) := by decide +kernel
theorem dX0_gatherMarks_41 : decode cX0_gatherMarks 41 = .ok (.aload_n 0, 1) := by decide +kernel
theorem dX0_gatherMarks_42 : decode cX0_gatherMarks 42 = .ok (.getfield 21, 3) := by decide +kernel
theorem dX0_gatherMarks_45 : decode cX0_gatherMarks 45 = .ok (.aload_n 2, 1) := by decide +kernel
theorem dX0_gatherMarks_46 : decode cX0_gatherMarks 46 = .ok (.aload_n 0, 1) := by decide +kernel
theorem dX0_gatherMarks_47 : decode cX0_gatherMarks 47 = .ok (.getfield 21, 3) := by decide +kernel
theorem dX0_gatherMarks_50 : decode cX0_gatherMarks 50 = .ok (.getfield 45, 3) := by decide +kernel
theorem dX0_gatherMarks_53 : decode cX0_gatherMarks 53 = .ok (.invokevirtual 48, 3) := by decide +kernel
theorem dX0_gatherMarks_56 : decode cX0_gatherMarks 56 = .ok (.iastore, 1) := by decide +kernel
theorem dX0_gatherMarks_57 : decode cX0_gatherMarks 57 = .ok (.iinc 1 1, 3) := by decide +kernel
theorem dX0_gatherMarks_60 : decode cX0_gatherMarks 60 = .ok (.goto (-58), 3) := by decide +kernel
theorem dX0_gatherMarks_63 : decode cX0_gatherMarks 63 = .ok (.return_, 1) := by decide +kernel
theorem dX0_markOf_0 : decode cX0_markOf 0 = .ok (.aload_n 1, 1) := by decide +kernel
theorem dX0_markOf_1 : decode cX0_markOf 1 = .ok (.getfield 52, 3) := by decide +kernel
theorem dX0_markOf_4 : decode cX0_markOf 4 = .ok (.istore_n 2, 1) := by decide +kernel
theorem dX0_markOf_5 : decode cX0_markOf 5 = .ok (.iload_n 2, 1) := by decide +kernel
theorem dX0_markOf_6 : decode cX0_markOf 6 = .ok (.ifCond .lt 18, 3) := by decide +kernel
theorem dX0_markOf_9 : decode cX0_markOf 9 = .ok (.iload_n 2, 1) := by decide +kernel
theorem dX0_markOf_10 : decode cX0_markOf 10 = .ok (.bipush 40, 2) := by decide +kernel
theorem dX0_markOf_12 : decode cX0_markOf 12 = .ok (.if_icmp .ge 12, 3) := by decide +kernel
theorem dX0_markOf_15 : decode cX0_markOf 15 = .ok (.aload_n 0, 1) := by decide +kernel
theorem dX0_markOf_16 : decode cX0_markOf 16 = .ok (.getfield 9, 3) := by decide +kernel
theorem dX0_markOf_19 : decode cX0_markOf 19 = .ok (.iload_n 2, 1) := by decide +kernel
theorem dX0_markOf_20 : decode cX0_markOf 20 = .ok (.iaload, 1) := by decide +kernel
theorem dX0_markOf_21 : decode cX0_markOf 21 = .ok (.goto 4, 3) := by decide +kernel
theorem dX0_markOf_24 : decode cX0_markOf 24 = .ok (.iconst 0, 1) := by decide +kernel
theorem dX0_markOf_25 : decode cX0_markOf 25 = .ok (.ireturn, 1) := by decide +kernel
theorem dX0_bumpedBy_0 : decode cX0_bumpedBy 0 = .ok (.aconst_null, 1) := by decide +kernel
theorem dX0_bumpedBy_1 : decode cX0_bumpedBy 1 = .ok (.astore_n 2, 1) := by decide +kernel
theorem dX0_bumpedBy_2 : decode cX0_bumpedBy 2 = .ok (.iconst 0, 1) := by decide +kernel
theorem dX0_bumpedBy_3 : decode cX0_bumpedBy 3 = .ok (.istore_n 3, 1) := by decide +kernel
theorem dX0_bumpedBy_4 : decode cX0_bumpedBy 4 = .ok (.iload_n 3, 1) := by decide +kernel
theorem dX0_bumpedBy_5 : decode cX0_bumpedBy 5 = .ok (.aload_n 0, 1) := by decide +kernel
theorem dX0_bumpedBy_6 : decode cX0_bumpedBy 6 = .ok (.getfield 21, 3) := by decide +kernel
theorem dX0_bumpedBy_9 : decode cX0_bumpedBy 9 = .ok (.getfield 36, 3) := by decide +kernel
theorem dX0_bumpedBy_12 : decode cX0_bumpedBy 12 = .ok (.if_icmp .ge 51, 3) := by decide +kernel
theorem dX0_bumpedBy_15 : decode cX0_bumpedBy 15 = .ok (.aload_n 0, 1) := by decide +kernel
theorem dX0_bumpedBy_16 : decode cX0_bumpedBy 16 = .ok (.getfield 21, 3) := by decide +kernel
theorem dX0_bumpedBy_19 : decode cX0_bumpedBy 19 = .ok (.iload_n 3, 1) := by decide +kernel
theorem dX0_bumpedBy_20 : decode cX0_bumpedBy 20 = .ok (.invokevirtual 41, 3) := by decide +kernel
theorem dX0_bumpedBy_23 : decode cX0_bumpedBy 23 = .ok (.astore 4, 2) := by decide +kernel
theorem dX0_bumpedBy_25 : decode cX0_bumpedBy 25 = .ok (.aload 4, 2) := by decide +kernel
theorem dX0_bumpedBy_27 : decode cX0_bumpedBy 27 = .ok (.ifnull 30, 3) := by decide +kernel
theorem dX0_bumpedBy_30 : decode cX0_bumpedBy 30 = .ok (.aload_n 0, 1) := by decide +kernel
theorem dX0_bumpedBy_31 : decode cX0_bumpedBy 31 = .ok (.aload_n 1, 1) := by decide +kernel
theorem dX0_bumpedBy_32 : decode cX0_bumpedBy 32 = .ok (.aload 4, 2) := by decide +kernel
theorem dX0_bumpedBy_34 : decode cX0_bumpedBy 34 = .ok (.invokevirtual 55, 3) := by decide +kernel
theorem dX0_bumpedBy_37 : decode cX0_bumpedBy 37 = .ok (.ifCond .eq 20, 3) := by decide +kernel
theorem dX0_bumpedBy_40 : decode cX0_bumpedBy 40 = .ok (.aload_n 2, 1) := by decide +kernel
theorem dX0_bumpedBy_41 : decode cX0_bumpedBy 41 = .ok (.ifnull 13, 3) := by decide +kernel
theorem dX0_bumpedBy_44 : decode cX0_bumpedBy 44 = .ok (.aload_n 0, 1) := by decide +kernel
theorem dX0_bumpedBy_45 : decode cX0_bumpedBy 45 = .ok (.aload 4, 2) := by decide +kernel
theorem dX0_bumpedBy_47 : decode cX0_bumpedBy 47 = .ok (.aload_n 2, 1) := by decide +kernel
theorem dX0_bumpedBy_48 : decode cX0_bumpedBy 48 = .ok (.invokevirtual 59, 3) := by decide +kernel
theorem dX0_bumpedBy_51 : decode cX0_bumpedBy 51 = .ok (.ifCond .eq 6, 3) := by decide +kernel
theorem dX0_bumpedBy_54 : decode cX0_bumpedBy 54 = .ok (.aload 4, 2) := by decide +kernel
theorem dX0_bumpedBy_56 : decode cX0_bumpedBy 56 = .ok (.astore_n 2, 1) := by decide +kernel
theorem dX0_bumpedBy_57 : decode cX0_bumpedBy 57 = .ok (.iinc 3 1, 3) := by decide +kernel
theorem dX0_bumpedBy_60 : decode cX0_bumpedBy 60 = .ok (.goto (-56), 3) := by decide +kernel
theorem dX0_bumpedBy_63 : decode cX0_bumpedBy 63 = .ok (.aload_n 2, 1) := by decide +kernel
theorem dX0_bumpedBy_64 : decode cX0_bumpedBy 64 = .ok (.areturn, 1) := by decide +kernel
theorem dX0_mayBump_0 : decode cX0_mayBump 0 = .ok (.aload_n 1, 1) := by decide +kernel
theorem dX0_mayBump_1 : decode cX0_mayBump 1 = .ok (.getfield 62, 3) := by decide +kernel
theorem dX0_mayBump_4 : decode cX0_mayBump 4 = .ok (.astore_n 3, 1) := by decide +kernel
theorem dX0_mayBump_5 : decode cX0_mayBump 5 = .ok (.aload_n 2, 1) := by decide +kernel
theorem dX0_mayBump_6 : decode cX0_mayBump 6 = .ok (.getfield 62, 3) := by decide +kernel
theorem dX0_mayBump_9 : decode cX0_mayBump 9 = .ok (.astore 4, 2) := by decide +kernel
theorem dX0_mayBump_11 : decode cX0_mayBump 11 = .ok (.aload_n 3, 1) := by decide +kernel
theorem dX0_mayBump_12 : decode cX0_mayBump 12 = .ok (.ifnull 85, 3) := by decide +kernel
theorem dX0_mayBump_15 : decode cX0_mayBump 15 = .ok (.aload 4, 2) := by decide +kernel
theorem dX0_mayBump_17 : decode cX0_mayBump 17 = .ok (.ifnull 80, 3) := by decide +kernel
theorem dX0_mayBump_20 : decode cX0_mayBump 20 = .ok (.aload_n 0, 1) := by decide +kernel
theorem dX0_mayBump_21 : decode cX0_mayBump 21 = .ok (.getfield 21, 3) := by decide +kernel
theorem dX0_mayBump_24 : decode cX0_mayBump 24 = .ok (.aload_n 2, 1) := by decide +kernel
theorem dX0_mayBump_25 : decode cX0_mayBump 25 = .ok (.invokevirtual 66, 3) := by decide +kernel
theorem dX0_mayBump_28 : decode cX0_mayBump 28 = .ok (.ifCond .ne 69, 3) := by decide +kernel
theorem dX0_mayBump_31 : decode cX0_mayBump 31 = .ok (.aload 4, 2) := by decide +kernel
theorem dX0_mayBump_33 : decode cX0_mayBump 33 = .ok (.getfield 70, 3) := by decide +kernel
theorem dX0_mayBump_36 : decode cX0_mayBump 36 = .ok (.aload_n 3, 1) := by decide +kernel
theorem dX0_mayBump_37 : decode cX0_mayBump 37 = .ok (.getfield 70, 3) := by decide +kernel
theorem dX0_mayBump_40 : decode cX0_mayBump 40 = .ok (.if_icmp .ne 57, 3) := by decide +kernel
theorem dX0_mayBump_43 : decode cX0_mayBump 43 = .ok (.aload 4, 2) := by decide +kernel
theorem dX0_mayBump_45 : decode cX0_mayBump 45 = .ok (.getfield 75, 3) := by decide +kernel
theorem dX0_mayBump_48 : decode cX0_mayBump 48 = .ok (.aload_n 3, 1) := by decide +kernel
theorem dX0_mayBump_49 : decode cX0_mayBump 49 = .ok (.getfield 75, 3) := by decide +kernel
theorem dX0_mayBump_52 : decode cX0_mayBump 52 = .ok (.if_icmp .gt 45, 3) := by decide +kernel
theorem dX0_mayBump_55 : decode cX0_mayBump 55 = .ok (.aload 4, 2) := by decide +kernel
theorem dX0_mayBump_57 : decode cX0_mayBump 57 = .ok (.getfield 75, 3) := by decide +kernel
theorem dX0_mayBump_60 : decode cX0_mayBump 60 = .ok (.aload_n 3, 1) := by decide +kernel
theorem dX0_mayBump_61 : decode cX0_mayBump 61 = .ok (.getfield 75, 3) := by decide +kernel
theorem dX0_mayBump_64 : decode cX0_mayBump 64 = .ok (.iconst 2, 1) := by decide +kernel
theorem dX0_mayBump_65 : decode cX0_mayBump 65 = .ok (.isub, 1) := by decide +kernel
theorem dX0_mayBump_66 : decode cX0_mayBump 66 = .ok (.if_icmp .lt 31, 3) := by decide +kernel
theorem dX0_mayBump_69 : decode cX0_mayBump 69 = .ok (.aload_n 0, 1) := by decide +kernel
theorem dX0_mayBump_70 : decode cX0_mayBump 70 = .ok (.aload_n 2, 1) := by decide +kernel
theorem dX0_mayBump_71 : decode cX0_mayBump 71 = .ok (.invokevirtual 78, 3) := by decide +kernel
theorem dX0_mayBump_74 : decode cX0_mayBump 74 = .ok (.aload_n 0, 1) := by decide +kernel
theorem dX0_mayBump_75 : decode cX0_mayBump 75 = .ok (.aload_n 1, 1) := by decide +kernel
theorem dX0_mayBump_76 : decode cX0_mayBump 76 = .ok (.invokevirtual 78, 3) := by decide +kernel
theorem dX0_mayBump_79 : decode cX0_mayBump 79 = .ok (.if_icmp .ge 18, 3) := by decide +kernel
theorem dX0_mayBump_82 : decode cX0_mayBump 82 = .ok (.aload_n 1, 1) := by decide +kernel
theorem dX0_mayBump_83 : decode cX0_mayBump 83 = .ok (.aload 4, 2) := by decide +kernel
theorem dX0_mayBump_85 : decode cX0_mayBump 85 = .ok (.invokestatic 82, 3) := by decide +kernel
theorem dX0_mayBump_88 : decode cX0_mayBump 88 = .ok (.bipush 50, 2) := by decide +kernel
theorem dX0_mayBump_90 : decode cX0_mayBump 90 = .ok (.if_icmp .lt 7, 3) := by decide +kernel
theorem dX0_mayBump_93 : decode cX0_mayBump 93 = .ok (.iconst 1, 1) := by decide +kernel
theorem dX0_mayBump_94 : decode cX0_mayBump 94 = .ok (.goto 4, 3) := by decide +kernel
theorem dX0_mayBump_97 : decode cX0_mayBump 97 = .ok (.iconst 0, 1) := by decide +kernel
theorem dX0_mayBump_98 : decode cX0_mayBump 98 = .ok (.ireturn, 1) := by decide +kernel
theorem dX0_isBetter_0 : decode cX0_isBetter 0 = .ok (.aload_n 1, 1) := by decide +kernel
theorem dX0_isBetter_1 : decode cX0_isBetter 1 = .ok (.invokestatic 86, 3) := by decide +kernel
theorem dX0_isBetter_4 : decode cX0_isBetter 4 = .ok (.istore_n 3, 1) := by decide +kernel
theorem dX0_isBetter_5 : decode cX0_isBetter 5 = .ok (.aload_n 2, 1) := by decide +kernel
theorem dX0_isBetter_6 : decode cX0_isBetter 6 = .ok (.invokestatic 86, 3) := by decide +kernel
theorem dX0_isBetter_9 : decode cX0_isBetter 9 = .ok (.istore 4, 2) := by decide +kernel
theorem dX0_isBetter_11 : decode cX0_isBetter 11 = .ok (.iload_n 3, 1) := by decide +kernel
theorem dX0_isBetter_12 : decode cX0_isBetter 12 = .ok (.iload 4, 2) := by decide +kernel
theorem dX0_isBetter_14 : decode cX0_isBetter 14 = .ok (.if_icmp .eq 15, 3) := by decide +kernel
theorem dX0_isBetter_17 : decode cX0_isBetter 17 = .ok (.iload_n 3, 1) := by decide +kernel
theorem dX0_isBetter_18 : decode cX0_isBetter 18 = .ok (.iload 4, 2) := by decide +kernel
theorem dX0_isBetter_20 : decode cX0_isBetter 20 = .ok (.if_icmp .le 7, 3) := by decide +kernel
theorem dX0_isBetter_23 : decode cX0_isBetter 23 = .ok (.iconst 1, 1) := by decide +kernel
theorem dX0_isBetter_24 : decode cX0_isBetter 24 = .ok (.goto 4, 3) := by decide +kernel
theorem dX0_isBetter_27 : decode cX0_isBetter 27 = .ok (.iconst 0, 1) := by decide +kernel
theorem dX0_isBetter_28 : decode cX0_isBetter 28 = .ok (.ireturn, 1) := by decide +kernel
theorem dX0_isBetter_29 : decode cX0_isBetter 29 = .ok (.aload_n 0, 1) := by decide +kernel
theorem dX0_isBetter_30 : decode cX0_isBetter 30 = .ok (.aload_n 1, 1) := by decide +kernel
theorem dX0_isBetter_31 : decode cX0_isBetter 31 = .ok (.invokevirtual 78, 3) := by decide +kernel
theorem dX0_isBetter_34 : decode cX0_isBetter 34 = .ok (.aload_n 0, 1) := by decide +kernel
theorem dX0_isBetter_35 : decode cX0_isBetter 35 = .ok (.aload_n 2, 1) := by decide +kernel
theorem dX0_isBetter_36 : decode cX0_isBetter 36 = .ok (.invokevirtual 78, 3) := by decide +kernel
theorem dX0_isBetter_39 : decode cX0_isBetter 39 = .ok (.if_icmp .ge 7, 3) := by decide +kernel
theorem dX0_isBetter_42 : decode cX0_isBetter 42 = .ok (.iconst 1, 1) := by decide +kernel
theorem dX0_isBetter_43 : decode cX0_isBetter 43 = .ok (.goto 4, 3) := by decide +kernel
theorem dX0_isBetter_46 : decode cX0_isBetter 46 = .ok (.iconst 0, 1) := by decide +kernel
theorem dX0_isBetter_47 : decode cX0_isBetter 47 = .ok (.ireturn, 1) := by decide +kernel
theorem dX0_gradeOf_0 : decode cX0_gradeOf 0 = .ok (.aload_n 0, 1) := by decide +kernel
theorem dX0_gradeOf_1 : decode cX0_gradeOf 1 = .ok (.getfield 62, 3) := by decide +kernel
theorem dX0_gradeOf_4 : decode cX0_gradeOf 4 = .ok (.astore_n 1, 1) := by decide +kernel
theorem dX0_gradeOf_5 : decode cX0_gradeOf 5 = .ok (.aload_n 1, 1) := by decide +kernel
theorem dX0_gradeOf_6 : decode cX0_gradeOf 6 = .ok (.ifnonnull 7, 3) := by decide +kernel
theorem dX0_gradeOf_9 : decode cX0_gradeOf 9 = .ok (.iconst 0, 1) := by decide +kernel
theorem dX0_gradeOf_10 : decode cX0_gradeOf 10 = .ok (.goto 7, 3) := by decide +kernel
theorem dX0_gradeOf_13 : decode cX0_gradeOf 13 = .ok (.aload_n 1, 1) := by decide +kernel
theorem dX0_gradeOf_14 : decode cX0_gradeOf 14 = .ok (.getfield 75, 3) := by decide +kernel
theorem dX0_gradeOf_17 : decode cX0_gradeOf 17 = .ok (.ireturn, 1) := by decide +kernel
theorem dX0_personAfter_0 : decode cX0_personAfter 0 = .ok (.iload_n 1, 1) := by decide +kernel
theorem dX0_personAfter_1 : decode cX0_personAfter 1 = .ok (.ifCond .lt 26, 3) := by decide +kernel
theorem dX0_personAfter_4 : decode cX0_personAfter 4 = .ok (.iload_n 1, 1) := by decide +kernel
theorem dX0_personAfter_5 : decode cX0_personAfter 5 = .ok (.aload_n 0, 1) := by decide +kernel
theorem dX0_personAfter_6 : decode cX0_personAfter 6 = .ok (.getfield 28, 3) := by decide +kernel
theorem dX0_personAfter_9 : decode cX0_personAfter 9 = .ok (.if_icmp .gt 18, 3) := by decide +kernel
theorem dX0_personAfter_12 : decode cX0_personAfter 12 = .ok (.iload_n 1, 1) := by decide +kernel
theorem dX0_personAfter_13 : decode cX0_personAfter 13 = .ok (.bipush 40, 2) := by decide +kernel
theorem dX0_personAfter_15 : decode cX0_personAfter 15 = .ok (.if_icmp .ge 12, 3) := by decide +kernel
theorem dX0_personAfter_18 : decode cX0_personAfter 18 = .ok (.aload_n 0, 1) := by decide +kernel
theorem dX0_personAfter_19 : decode cX0_personAfter 19 = .ok (.getfield 17, 3) := by decide +kernel
theorem dX0_personAfter_22 : decode cX0_personAfter 22 = .ok (.iload_n 1, 1) := by decide +kernel
theorem dX0_personAfter_23 : decode cX0_personAfter 23 = .ok (.aaload, 1) := by decide +kernel
theorem dX0_personAfter_24 : decode cX0_personAfter 24 = .ok (.goto 4, 3) := by decide +kernel
theorem dX0_personAfter_27 : decode cX0_personAfter 27 = .ok (.aconst_null, 1) := by decide +kernel
theorem dX0_personAfter_28 : decode cX0_personAfter 28 = .ok (.astore_n 2, 1) := by decide +kernel
theorem dX0_personAfter_29 : decode cX0_personAfter 29 = .ok (.aload_n 2, 1) := by decide +kernel
theorem dX0_personAfter_30 : decode cX0_personAfter 30 = .ok (.ifnonnull 8, 3) := by decide +kernel
theorem dX0_personAfter_33 : decode cX0_personAfter 33 = .ok (.bipush (-9), 2) := by decide +kernel
theorem dX0_personAfter_35 : decode cX0_personAfter 35 = .ok (.goto 7, 3) := by decide +kernel
theorem dX0_personAfter_38 : decode cX0_personAfter 38 = .ok (.aload_n 2, 1) := by decide +kernel
theorem dX0_personAfter_39 : decode cX0_personAfter 39 = .ok (.getfield 52, 3) := by decide +kernel
theorem dX0_personAfter_42 : decode cX0_personAfter 42 = .ok (.ireturn, 1) := by decide +kernel
theorem dX0_postOf_0 : decode cX0_postOf 0 = .ok (.iload_n 1, 1) := by decide +kernel
theorem dX0_postOf_1 : decode cX0_postOf 1 = .ok (.ifCond .lt 30, 3) := by decide +kernel
theorem dX0_postOf_4 : decode cX0_postOf 4 = .ok (.iload_n 1, 1) := by decide +kernel
theorem dX0_postOf_5 : decode cX0_postOf 5 = .ok (.aload_n 0, 1) := by decide +kernel
theorem dX0_postOf_6 : decode cX0_postOf 6 = .ok (.getfield 28, 3) := by decide +kernel
theorem dX0_postOf_9 : decode cX0_postOf 9 = .ok (.if_icmp .ge 22, 3) := by decide +kernel
theorem dX0_postOf_12 : decode cX0_postOf 12 = .ok (.iload_n 1, 1) := by decide +kernel
theorem dX0_postOf_13 : decode cX0_postOf 13 = .ok (.iconst 1, 1) := by decide +kernel
theorem dX0_postOf_14 : decode cX0_postOf 14 = .ok (.iadd, 1) := by decide +kernel
theorem dX0_postOf_15 : decode cX0_postOf 15 = .ok (.bipush 40, 2) := by decide +kernel
theorem dX0_postOf_17 : decode cX0_postOf 17 = .ok (.if_icmp .ge 14, 3) := by decide +kernel
theorem dX0_postOf_20 : decode cX0_postOf 20 = .ok (.aload_n 0, 1) := by decide +kernel
theorem dX0_postOf_21 : decode cX0_postOf 21 = .ok (.getfield 17, 3) := by decide +kernel
theorem dX0_postOf_24 : decode cX0_postOf 24 = .ok (.iload_n 1, 1) := by decide +kernel
theorem dX0_postOf_25 : decode cX0_postOf 25 = .ok (.iconst 1, 1) := by decide +kernel
theorem dX0_postOf_26 : decode cX0_postOf 26 = .ok (.iadd, 1) := by decide +kernel
theorem dX0_postOf_27 : decode cX0_postOf 27 = .ok (.aaload, 1) := by decide +kernel
theorem dX0_postOf_28 : decode cX0_postOf 28 = .ok (.goto 4, 3) := by decide +kernel
theorem dX0_postOf_31 : decode cX0_postOf 31 = .ok (.aconst_null, 1) := by decide +kernel
theorem dX0_postOf_32 : decode cX0_postOf 32 = .ok (.astore_n 2, 1) := by decide +kernel
theorem dX0_postOf_33 : decode cX0_postOf 33 = .ok (.aload_n 2, 1) := by decide +kernel
theorem dX0_postOf_34 : decode cX0_postOf 34 = .ok (.ifnonnull 7, 3) := by decide +kernel
theorem dX0_postOf_37 : decode cX0_postOf 37 = .ok (.aconst_null, 1) := by decide +kernel
theorem dX0_postOf_38 : decode cX0_postOf 38 = .ok (.goto 7, 3) := by decide +kernel
theorem dX0_postOf_41 : decode cX0_postOf 41 = .ok (.aload_n 2, 1) := by decide +kernel
theorem dX0_postOf_42 : decode cX0_postOf 42 = .ok (.getfield 62, 3) := by decide +kernel
theorem dX0_postOf_45 : decode cX0_postOf 45 = .ok (.astore_n 3, 1) := by decide +kernel
theorem dX0_postOf_46 : decode cX0_postOf 46 = .ok (.aload_n 3, 1) := by decide +kernel
theorem dX0_postOf_47 : decode cX0_postOf 47 = .ok (.ifnonnull 8, 3) := by decide +kernel
theorem dX0_postOf_50 : decode cX0_postOf 50 = .ok (.bipush (-9), 2) := by decide +kernel
theorem dX0_postOf_52 : decode cX0_postOf 52 = .ok (.goto 7, 3) := by decide +kernel
theorem dX0_postOf_55 : decode cX0_postOf 55 = .ok (.aload_n 3, 1) := by decide +kernel
theorem dX0_postOf_56 : decode cX0_postOf 56 = .ok (.getfield 89, 3) := by decide +kernel
theorem dX0_postOf_59 : decode cX0_postOf 59 = .ok (.ireturn, 1) := by decide +kernel
theorem dX1_init_0 : decode cX1_init 0 = .ok (.aload_n 0, 1) := by decide +kernel
theorem dX1_init_1 : decode cX1_init 1 = .ok (.invokespecial 3, 3) := by decide +kernel
theorem dX1_init_4 : decode cX1_init 4 = .ok (.aload_n 0, 1) := by decide +kernel
theorem dX1_init_5 : decode cX1_init 5 = .ok (.bipush 12, 2) := by decide +kernel
theorem dX1_init_7 : decode cX1_init 7 = .ok (.newarray .int, 2) := by decide +kernel
theorem dX1_init_9 : decode cX1_init 9 = .ok (.putfield 9, 3) := by decide +kernel
theorem dX1_init_12 : decode cX1_init 12 = .ok (.aload_n 0, 1) := by decide +kernel
theorem dX1_init_13 : decode cX1_init 13 = .ok (.bipush 12, 2) := by decide +kernel
theorem dX1_init_15 : decode cX1_init 15 = .ok (.newarray .int, 2) := by decide +kernel
theorem dX1_init_17 : decode cX1_init 17 = .ok (.putfield 15, 3) := by decide +kernel
theorem dX1_init_20 : decode cX1_init 20 = .ok (.aload_n 0, 1) := by decide +kernel
theorem dX1_init_21 : decode cX1_init 21 = .ok (.bipush 10, 2) := by decide +kernel
theorem dX1_init_23 : decode cX1_init 23 = .ok (.newarray .int, 2) := by decide +kernel
theorem dX1_init_25 : decode cX1_init 25 = .ok (.putfield 18, 3) := by decide +kernel
theorem dX1_init_28 : decode cX1_init 28 = .ok (.aload_n 0, 1) := by decide +kernel
theorem dX1_init_29 : decode cX1_init 29 = .ok (.bipush 10, 2) := by decide +kernel
theorem dX1_init_31 : decode cX1_init 31 = .ok (.newarray .int, 2) := by decide +kernel
theorem dX1_init_33 : decode cX1_init 33 = .ok (.putfield 21, 3) := by decide +kernel
theorem dX1_init_36 : decode cX1_init 36 = .ok (.aload_n 0, 1) := by decide +kernel
theorem dX1_init_37 : decode cX1_init 37 = .ok (.aload_n 1, 1) := by decide +kernel
theorem dX1_init_38 : decode cX1_init 38 = .ok (.putfield 24, 3) := by decide +kernel
theorem dX1_init_41 : decode cX1_init 41 = .ok (.return_, 1) := by decide +kernel
theorem dX1_gather_0 : decode cX1_gather 0 = .ok (.aload_n 0, 1) := by decide +kernel
theorem dX1_gather_1 : decode cX1_gather 1 = .ok (.aload_n 1, 1) := by decide +kernel
theorem dX1_gather_2 : decode cX1_gather 2 = .ok (.getfield 28, 3) := by decide +kernel
theorem dX1_gather_5 : decode cX1_gather 5 = .ok (.bipush 12, 2) := by decide +kernel
theorem dX1_gather_7 : decode cX1_gather 7 = .ok (.invokestatic 34, 3) := by decide +kernel
theorem dX1_gather_10 : decode cX1_gather 10 = .ok (.putfield 40, 3) := by decide +kernel
theorem dX1_gather_13 : decode cX1_gather 13 = .ok (.aload_n 0, 1) := by decide +kernel
theorem dX1_gather_14 : decode cX1_gather 14 = .ok (.iconst 0, 1) := by decide +kernel
theorem dX1_gather_15 : decode cX1_gather 15 = .ok (.putfield 43, 3) := by decide +kernel
theorem dX1_gather_18 : decode cX1_gather 18 = .ok (.aload_n 0, 1) := by decide +kernel
theorem dX1_gather_19 : decode cX1_gather 19 = .ok (.iconst 0, 1) := by decide +kernel
theorem dX1_gather_20 : decode cX1_gather 20 = .ok (.putfield 46, 3) := by decide +kernel
theorem dX1_gather_23 : decode cX1_gather 23 = .ok (.aload_n 0, 1) := by decide +kernel
theorem dX1_gather_24 : decode cX1_gather 24 = .ok (.getfield 18, 3) := by decide +kernel
theorem dX1_gather_27 : decode cX1_gather 27 = .ok (.iconst 0, 1) := by decide +kernel
theorem dX1_gather_28 : decode cX1_gather 28 = .ok (.invokestatic 49, 3) := by decide +kernel
theorem dX1_gather_31 : decode cX1_gather 31 = .ok (.iconst 0, 1) := by decide +kernel
theorem dX1_gather_32 : decode cX1_gather 32 = .ok (.istore_n 2, 1) := by decide +kernel
theorem dX1_gather_33 : decode cX1_gather 33 = .ok (.iload_n 2, 1) := by decide +kernel
theorem dX1_gather_34 : decode cX1_gather 34 = .ok (.aload_n 0, 1) := by decide +kernel
theorem dX1_gather_35 : decode cX1_gather 35 = .ok (.getfield 40, 3) := by decide +kernel
theorem dX1_gather_38 : decode cX1_gather 38 = .ok (.if_icmp .ge 25, 3) := by decide +kernel
theorem dX1_gather_41 : decode cX1_gather 41 = .ok (.aload_n 1, 1) := by decide +kernel
theorem dX1_gather_42 : decode cX1_gather 42 = .ok (.iload_n 2, 1) := by decide +kernel
theorem dX1_gather_43 : decode cX1_gather 43 = .ok (.invokevirtual 55, 3) := by decide +kernel
theorem dX1_gather_46 : decode cX1_gather 46 = .ok (.astore_n 3, 1) := by decide +kernel
theorem dX1_gather_47 : decode cX1_gather 47 = .ok (.aload_n 3, 1) := by decide +kernel
theorem dX1_gather_48 : decode cX1_gather 48 = .ok (.ifnull 9, 3) := by decide +kernel
theorem dX1_gather_51 : decode cX1_gather 51 = .ok (.aload_n 0, 1) := by decide +kernel
theorem dX1_gather_52 : decode cX1_gather 52 = .ok (.iload_n 2, 1) := by decide +kernel
theorem dX1_gather_53 : decode cX1_gather 53 = .ok (.aload_n 3, 1) := by decide +kernel
theorem dX1_gather_54 : decode cX1_gather 54 = .ok (.invokevirtual 59, 3) := by decide +kernel
theorem dX1_gather_57 : decode cX1_gather 57 = .ok (.iinc 2 1, 3) := by decide +kernel
theorem dX1_gather_60 : decode cX1_gather 60 = .ok (.goto (-27), 3) := by decide +kernel
theorem dX1_gather_63 : decode cX1_gather 63 = .ok (.aload_n 0, 1) := by decide +kernel
theorem dX1_gather_64 : decode cX1_gather 64 = .ok (.aload_n 1, 1) := by decide +kernel
theorem dX1_gather_65 : decode cX1_gather 65 = .ok (.invokevirtual 63, 3) := by decide +kernel
theorem dX1_gather_68 : decode cX1_gather 68 = .ok (.invokevirtual 67, 3) := by decide +kernel
theorem dX1_gather_71 : decode cX1_gather 71 = .ok (.return_, 1) := by decide +kernel
theorem dX1_choose_0 : decode cX1_choose 0 = .ok (.aload_n 0, 1) := by decide +kernel
theorem dX1_choose_1 : decode cX1_choose 1 = .ok (.iconst 0, 1) := by decide +kernel
theorem dX1_choose_2 : decode cX1_choose 2 = .ok (.putfield 71, 3) := by decide +kernel
theorem dX1_choose_5 : decode cX1_choose 5 = .ok (.iconst 0, 1) := by decide +kernel
theorem dX1_choose_6 : decode cX1_choose 6 = .ok (.istore_n 2, 1) := by decide +kernel
theorem dX1_choose_7 : decode cX1_choose 7 = .ok (.iload_n 2, 1) := by decide +kernel
theorem dX1_choose_8 : decode cX1_choose 8 = .ok (.iconst 1, 1) := by decide +kernel
theorem dX1_choose_9 : decode cX1_choose 9 = .ok (.aload_n 0, 1) := by decide +kernel
theorem dX1_choose_10 : decode cX1_choose 10 = .ok (.getfield 40, 3) := by decide +kernel
theorem dX1_choose_13 : decode cX1_choose 13 = .ok (.ishl, 1) := by decide +kernel
theorem dX1_choose_14 : decode cX1_choose 14 = .ok (.if_icmp .ge 39, 3) := by decide +kernel
theorem dX1_choose_17 : decode cX1_choose 17 = .ok (.iload_n 2, 1) := by decide +kernel
theorem dX1_choose_18 : decode cX1_choose 18 = .ok (.invokestatic 75, 3) := by decide +kernel
theorem dX1_choose_21 : decode cX1_choose 21 = .ok (.iload_n 1, 1) := by decide +kernel
theorem dX1_choose_22 : decode cX1_choose 22 = .ok (.if_icmp .ne 25, 3) := by decide +kernel
theorem dX1_choose_25 : decode cX1_choose 25 = .ok (.iload_n 2, 1) := by decide +kernel
theorem dX1_choose_26 : decode cX1_choose 26 = .ok (.aload_n 0, 1) := by decide +kernel
theorem dX1_choose_27 : decode cX1_choose 27 = .ok (.getfield 43, 3) := by decide +kernel
theorem dX1_choose_30 : decode cX1_choose 30 = .ok (.iand, 1) := by decide +kernel
theorem dX1_choose_31 : decode cX1_choose 31 = .ok (.ifCond .ne 16, 3) := by decide +kernel
theorem dX1_choose_34 : decode cX1_choose 34 = .ok (.aload_n 0, 1) := by decide +kernel
theorem dX1_choose_35 : decode cX1_choose 35 = .ok (.iload_n 2, 1) := by decide +kernel
theorem dX1_choose_36 : decode cX1_choose 36 = .ok (.invokevirtual 81, 3) := by decide +kernel
theorem dX1_choose_39 : decode cX1_choose 39 = .ok (.ifCond .eq 8, 3) := by decide +kernel
theorem dX1_choose_42 : decode cX1_choose 42 = .ok (.aload_n 0, 1) := by decide +kernel
theorem dX1_choose_43 : decode cX1_choose 43 = .ok (.iload_n 2, 1) := by decide +kernel
theorem dX1_choose_44 : decode cX1_choose 44 = .ok (.invokevirtual 85, 3) := by decide +kernel
theorem dX1_choose_47 : decode cX1_choose 47 = .ok (.iinc 2 1, 3) := by decide +kernel
theorem dX1_choose_50 : decode cX1_choose 50 = .ok (.goto (-43), 3) := by decide +kernel
theorem dX1_choose_53 : decode cX1_choose 53 = .ok (.return_, 1) := by decide +kernel
theorem dX1_goes_0 : decode cX1_goes 0 = .ok (.aload_n 0, 1) := by decide +kernel
theorem dX1_goes_1 : decode cX1_goes 1 = .ok (.getfield 71, 3) := by decide +kernel
theorem dX1_goes_4 : decode cX1_goes 4 = .ok (.ifCond .eq 31, 3) := by decide +kernel
theorem dX1_goes_7 : decode cX1_goes 7 = .ok (.iload_n 1, 1) := by decide +kernel
theorem dX1_goes_8 : decode cX1_goes 8 = .ok (.ifCond .lt 27, 3) := by decide +kernel
theorem dX1_goes_11 : decode cX1_goes 11 = .ok (.iload_n 1, 1) := by decide +kernel
theorem dX1_goes_12 : decode cX1_goes 12 = .ok (.aload_n 0, 1) := by decide +kernel
theorem dX1_goes_13 : decode cX1_goes 13 = .ok (.getfield 40, 3) := by decide +kernel
theorem dX1_goes_16 : decode cX1_goes 16 = .ok (.if_icmp .ge 19, 3) := by decide +kernel
theorem dX1_goes_19 : decode cX1_goes 19 = .ok (.aload_n 0, 1) := by decide +kernel
theorem dX1_goes_20 : decode cX1_goes 20 = .ok (.getfield 88, 3) := by decide +kernel
theorem dX1_goes_23 : decode cX1_goes 23 = .ok (.iload_n 1, 1) := by decide +kernel
theorem dX1_goes_24 : decode cX1_goes 24 = .ok (.ishr, 1) := by decide +kernel
theorem dX1_goes_25 : decode cX1_goes 25 = .ok (.iconst 1, 1) := by decide +kernel
theorem dX1_goes_26 : decode cX1_goes 26 = .ok (.iand, 1) := by decide +kernel
theorem dX1_goes_27 : decode cX1_goes 27 = .ok (.iconst 1, 1) := by decide +kernel
theorem dX1_goes_28 : decode cX1_goes 28 = .ok (.if_icmp .ne 7, 3) := by decide +kernel
theorem dX1_goes_31 : decode cX1_goes 31 = .ok (.iconst 1, 1) := by decide +kernel
theorem dX1_goes_32 : decode cX1_goes 32 = .ok (.goto 4, 3) := by decide +kernel
theorem dX1_goes_35 : decode cX1_goes 35 = .ok (.iconst 0, 1) := by decide +kernel
theorem dX1_goes_36 : decode cX1_goes 36 = .ok (.ireturn, 1) := by decide +kernel
theorem dX1_gatherOne_0 : decode cX1_gatherOne 0 = .ok (.iload_n 1, 1) := by decide +kernel
theorem dX1_gatherOne_1 : decode cX1_gatherOne 1 = .ok (.ifCond .lt 9, 3) := by decide +kernel
theorem dX1_gatherOne_4 : decode cX1_gatherOne 4 = .ok (.iload_n 1, 1) := by decide +kernel
theorem dX1_gatherOne_5 : decode cX1_gatherOne 5 = .ok (.bipush 12, 2) := by decide +kernel
theorem dX1_gatherOne_7 : decode cX1_gatherOne 7 = .ok (.if_icmp .lt 4, 3) := by decide +kernel
theorem dX1_gatherOne_10 : decode cX1_gatherOne 10 = .ok (.return_, 1) := by decide +kernel
theorem dX1_gatherOne_11 : decode cX1_gatherOne 11 = .ok (.iconst 1, 1) := by decide +kernel
theorem dX1_gatherOne_12 : decode cX1_gatherOne 12 = .ok (.iload_n 1, 1) := by decide +kernel
theorem dX1_gatherOne_13 : decode cX1_gatherOne 13 = .ok (.ishl, 1) := by decide +kernel
theorem dX1_gatherOne_14 : decode cX1_gatherOne 14 = .ok (.istore_n 3, 1) := by decide +kernel
theorem dX1_gatherOne_15 : decode cX1_gatherOne 15 = .ok (.aload_n 0, 1) := by decide +kernel
theorem dX1_gatherOne_16 : decode cX1_gatherOne 16 = .ok (.getfield 9, 3) := by decide +kernel
theorem dX1_gatherOne_19 : decode cX1_gatherOne 19 = .ok (.iload_n 1, 1) := by decide +kernel
theorem dX1_gatherOne_20 : decode cX1_gatherOne 20 = .ok (.aload_n 0, 1) := by decide +kernel
theorem dX1_gatherOne_21 : decode cX1_gatherOne 21 = .ok (.getfield 24, 3) := by decide +kernel
theorem dX1_gatherOne_24 : decode cX1_gatherOne 24 = .ok (.aload_n 2, 1) := by decide +kernel
theorem dX1_gatherOne_25 : decode cX1_gatherOne 25 = .ok (.invokevirtual 91, 3) := by decide +kernel
theorem dX1_gatherOne_28 : decode cX1_gatherOne 28 = .ok (.aload_n 2, 1) := by decide +kernel
theorem dX1_gatherOne_29 : decode cX1_gatherOne 29 = .ok (.getfield 97, 3) := by decide +kernel
theorem dX1_gatherOne_32 : decode cX1_gatherOne 32 = .ok (.iconst 0, 1) := by decide +kernel
theorem dX1_gatherOne_33 : decode cX1_gatherOne 33 = .ok (.invokestatic 102, 3) := by decide +kernel
theorem dX1_gatherOne_36 : decode cX1_gatherOne 36 = .ok (.iadd, 1) := by decide +kernel
theorem dX1_gatherOne_37 : decode cX1_gatherOne 37 = .ok (.iastore, 1) := by decide +kernel
theorem dX1_gatherOne_38 : decode cX1_gatherOne 38 = .ok (.aload_n 0, 1) := by decide +kernel
theorem dX1_gatherOne_39 : decode cX1_gatherOne 39 = .ok (.getfield 15, 3) := by decide +kernel
theorem dX1_gatherOne_42 : decode cX1_gatherOne 42 = .ok (.iload_n 1, 1) := by decide +kernel
theorem dX1_gatherOne_43 : decode cX1_gatherOne 43 = .ok (.aload_n 0, 1) := by decide +kernel
theorem dX1_gatherOne_44 : decode cX1_gatherOne 44 = .ok (.getfield 24, 3) := by decide +kernel
theorem dX1_gatherOne_47 : decode cX1_gatherOne 47 = .ok (.aload_n 2, 1) := by decide +kernel
theorem dX1_gatherOne_48 : decode cX1_gatherOne 48 = .ok (.aload_n 0, 1) := by decide +kernel
theorem dX1_gatherOne_49 : decode cX1_gatherOne 49 = .ok (.getfield 24, 3) := by decide +kernel
theorem dX1_gatherOne_52 : decode cX1_gatherOne 52 = .ok (.getfield 105, 3) := by decide +kernel
theorem dX1_gatherOne_55 : decode cX1_gatherOne 55 = .ok (.invokevirtual 108, 3) := by decide +kernel
theorem dX1_gatherOne_58 : decode cX1_gatherOne 58 = .ok (.iastore, 1) := by decide +kernel
theorem dX1_gatherOne_59 : decode cX1_gatherOne 59 = .ok (.aload_n 2, 1) := by decide +kernel
theorem dX1_gatherOne_60 : decode cX1_gatherOne 60 = .ok (.invokevirtual 112, 3) := by decide +kernel
theorem dX1_gatherOne_63 : decode cX1_gatherOne 63 = .ok (.ifCond .eq 16, 3) := by decide +kernel
theorem dX1_gatherOne_66 : decode cX1_gatherOne 66 = .ok (.aload_n 0, 1) := by decide +kernel
theorem dX1_gatherOne_67 : decode cX1_gatherOne 67 = .ok (.dup, 1) := by decide +kernel
theorem dX1_gatherOne_68 : decode cX1_gatherOne 68 = .ok (.getfield 46, 3) := by decide +kernel
theorem dX1_gatherOne_71 : decode cX1_gatherOne 71 = .ok (.iload_n 3, 1) := by decide +kernel
theorem dX1_gatherOne_72 : decode cX1_gatherOne 72 = .ok (.ior, 1) := by decide +kernel
theorem dX1_gatherOne_73 : decode cX1_gatherOne 73 = .ok (.putfield 46, 3) := by decide +kernel
theorem dX1_gatherOne_76 : decode cX1_gatherOne 76 = .ok (.goto 24, 3) := by decide +kernel
theorem dX1_gatherOne_79 : decode cX1_gatherOne 79 = .ok (.aload_n 0, 1) := by decide +kernel
theorem dX1_gatherOne_80 : decode cX1_gatherOne 80 = .ok (.getfield 24, 3) := by decide +kernel
theorem dX1_gatherOne_83 : decode cX1_gatherOne 83 = .ok (.aload_n 2, 1) := by decide +kernel
theorem dX1_gatherOne_84 : decode cX1_gatherOne 84 = .ok (.invokevirtual 116, 3) := by decide +kernel
theorem dX1_gatherOne_87 : decode cX1_gatherOne 87 = .ok (.ifCond .eq 13, 3) := by decide +kernel
theorem dX1_gatherOne_90 : decode cX1_gatherOne 90 = .ok (.aload_n 0, 1) := by decide +kernel
theorem dX1_gatherOne_91 : decode cX1_gatherOne 91 = .ok (.dup, 1) := by decide +kernel
theorem dX1_gatherOne_92 : decode cX1_gatherOne 92 = .ok (.getfield 43, 3) := by decide +kernel
theorem dX1_gatherOne_95 : decode cX1_gatherOne 95 = .ok (.iload_n 3, 1) := by decide +kernel
theorem dX1_gatherOne_96 : decode cX1_gatherOne 96 = .ok (.ior, 1) := by decide +kernel
theorem dX1_gatherOne_97 : decode cX1_gatherOne 97 = .ok (.putfield 43, 3) := by decide +kernel
theorem dX1_gatherOne_100 : decode cX1_gatherOne 100 = .ok (.iconst 0, 1) := by decide +kernel
theorem dX1_gatherOne_101 : decode cX1_gatherOne 101 = .ok (.istore 4, 2) := by decide +kernel
theorem dX1_gatherOne_103 : decode cX1_gatherOne 103 = .ok (.iload 4, 2) := by decide +kernel
theorem dX1_gatherOne_105 : decode cX1_gatherOne 105 = .ok (.bipush 10, 2) := by decide +kernel
theorem dX1_gatherOne_107 : decode cX1_gatherOne 107 = .ok (.if_icmp .ge 33, 3) := by decide +kernel
theorem dX1_gatherOne_110 : decode cX1_gatherOne 110 = .ok (.aload_n 2, 1) := by decide +kernel
theorem dX1_gatherOne_111 : decode cX1_gatherOne 111 = .ok (.getfield 120, 3) := by decide +kernel
theorem dX1_gatherOne_114 : decode cX1_gatherOne 114 = .ok (.iload 4, 2) := by decide +kernel
theorem dX1_gatherOne_116 : decode cX1_gatherOne 116 = .ok (.ishr, 1) := by decide +kernel
theorem dX1_gatherOne_117 : decode cX1_gatherOne 117 = .ok (.iconst 1, 1) := by decide +kernel
theorem dX1_gatherOne_118 : decode cX1_gatherOne 118 = .ok (.iand, 1) := by decide +kernel
theorem dX1_gatherOne_119 : decode cX1_gatherOne 119 = .ok (.iconst 1, 1) := by decide +kernel
theorem dX1_gatherOne_120 : decode cX1_gatherOne 120 = .ok (.if_icmp .ne 14, 3) := by decide +kernel
theorem dX1_gatherOne_123 : decode cX1_gatherOne 123 = .ok (.aload_n 0, 1) := by decide +kernel
theorem dX1_gatherOne_124 : decode cX1_gatherOne 124 = .ok (.getfield 18, 3) := by decide +kernel
theorem dX1_gatherOne_127 : decode cX1_gatherOne 127 = .ok (.iload 4, 2) := by decide +kernel
theorem dX1_gatherOne_129 : decode cX1_gatherOne 129 = .ok (.dup2, 1) := by decide +kernel
theorem dX1_gatherOne_130 : decode cX1_gatherOne 130 = .ok (.iaload, 1) := by decide +kernel
theorem dX1_gatherOne_131 : decode cX1_gatherOne 131 = .ok (.iload_n 3, 1) := by decide +kernel
theorem dX1_gatherOne_132 : decode cX1_gatherOne 132 = .ok (.ior, 1) := by decide +kernel
theorem dX1_gatherOne_133 : decode cX1_gatherOne 133 = .ok (.iastore, 1) := by decide +kernel
theorem dX1_gatherOne_134 : decode cX1_gatherOne 134 = .ok (.iinc 4 1, 3) := by decide +kernel
theorem dX1_gatherOne_137 : decode cX1_gatherOne 137 = .ok (.goto (-34), 3) := by decide +kernel
theorem dX1_gatherOne_140 : decode cX1_gatherOne 140 = .ok (.return_, 1) := by decide +kernel
theorem dX1_gatherLeast_0 : decode cX1_gatherLeast 0 = .ok (.iconst 0, 1) := by decide +kernel
theorem dX1_gatherLeast_1 : decode cX1_gatherLeast 1 = .ok (.istore_n 2, 1) := by decide +kernel
theorem dX1_gatherLeast_2 : decode cX1_gatherLeast 2 = .ok (.iload_n 2, 1) := by decide +kernel
theorem dX1_gatherLeast_3 : decode cX1_gatherLeast 3 = .ok (.bipush 10, 2) := by decide +kernel
theorem dX1_gatherLeast_5 : decode cX1_gatherLeast 5 = .ok (.if_icmp .ge 59, 3) := by decide +kernel
theorem dX1_gatherLeast_8 : decode cX1_gatherLeast 8 = .ok (.iload_n 1, 1) := by decide +kernel
theorem dX1_gatherLeast_9 : decode cX1_gatherLeast 9 = .ok (.iload_n 2, 1) := by decide +kernel
theorem dX1_gatherLeast_10 : decode cX1_gatherLeast 10 = .ok (.ishr, 1) := by decide +kernel
theorem dX1_gatherLeast_11 : decode cX1_gatherLeast 11 = .ok (.iconst 1, 1) := by decide +kernel
theorem dX1_gatherLeast_12 : decode cX1_gatherLeast 12 = .ok (.iand, 1) := by decide +kernel
theorem dX1_gatherLeast_13 : decode cX1_gatherLeast 13 = .ok (.iconst 1, 1) := by decide +kernel
theorem dX1_gatherLeast_14 : decode cX1_gatherLeast 14 = .ok (.if_icmp .ne 7, 3) := by decide +kernel
theorem dX1_gatherLeast_17 : decode cX1_gatherLeast 17 = .ok (.iconst 1, 1) := by decide +kernel
theorem dX1_gatherLeast_18 : decode cX1_gatherLeast 18 = .ok (.goto 4, 3) := by decide +kernel
theorem dX1_gatherLeast_21 : decode cX1_gatherLeast 21 = .ok (.iconst 0, 1) := by decide +kernel
theorem dX1_gatherLeast_22 : decode cX1_gatherLeast 22 = .ok (.istore_n 3, 1) := by decide +kernel
theorem dX1_gatherLeast_23 : decode cX1_gatherLeast 23 = .ok (.aload_n 0, 1) := by decide +kernel
theorem dX1_gatherLeast_24 : decode cX1_gatherLeast 24 = .ok (.getfield 21, 3) := by decide +kernel
theorem dX1_gatherLeast_27 : decode cX1_gatherLeast 27 = .ok (.iload_n 2, 1) := by decide +kernel
theorem dX1_gatherLeast_28 : decode cX1_gatherLeast 28 = .ok (.iload_n 3, 1) := by decide +kernel
theorem dX1_gatherLeast_29 : decode cX1_gatherLeast 29 = .ok (.ifCond .eq 27, 3) := by decide +kernel
theorem dX1_gatherLeast_32 : decode cX1_gatherLeast 32 = .ok (.aload_n 0, 1) := by decide +kernel
theorem dX1_gatherLeast_33 : decode cX1_gatherLeast 33 = .ok (.getfield 24, 3) := by decide +kernel
theorem dX1_gatherLeast_36 : decode cX1_gatherLeast 36 = .ok (.getfield 123, 3) := by decide +kernel
theorem dX1_gatherLeast_39 : decode cX1_gatherLeast 39 = .ok (.iconst 1, 1) := by decide +kernel
theorem dX1_gatherLeast_40 : decode cX1_gatherLeast 40 = .ok (.iaload, 1) := by decide +kernel
theorem dX1_gatherLeast_41 : decode cX1_gatherLeast 41 = .ok (.aload_n 0, 1) := by decide +kernel
theorem dX1_gatherLeast_42 : decode cX1_gatherLeast 42 = .ok (.getfield 18, 3) := by decide +kernel
theorem dX1_gatherLeast_45 : decode cX1_gatherLeast 45 = .ok (.iload_n 2, 1) := by decide +kernel
theorem dX1_gatherLeast_46 : decode cX1_gatherLeast 46 = .ok (.iaload, 1) := by decide +kernel
theorem dX1_gatherLeast_47 : decode cX1_gatherLeast 47 = .ok (.invokestatic 75, 3) := by decide +kernel
theorem dX1_gatherLeast_50 : decode cX1_gatherLeast 50 = .ok (.invokestatic 34, 3) := by decide +kernel
theorem dX1_gatherLeast_53 : decode cX1_gatherLeast 53 = .ok (.goto 4, 3) := by decide +kernel
theorem dX1_gatherLeast_56 : decode cX1_gatherLeast 56 = .ok (.iconst 0, 1) := by decide +kernel
theorem dX1_gatherLeast_57 : decode cX1_gatherLeast 57 = .ok (.iastore, 1) := by decide +kernel
theorem dX1_gatherLeast_58 : decode cX1_gatherLeast 58 = .ok (.iinc 2 1, 3) := by decide +kernel
theorem dX1_gatherLeast_61 : decode cX1_gatherLeast 61 = .ok (.goto (-59), 3) := by decide +kernel
theorem dX1_gatherLeast_64 : decode cX1_gatherLeast 64 = .ok (.return_, 1) := by decide +kernel
theorem dX1_keepsSkills_0 : decode cX1_keepsSkills 0 = .ok (.iconst 0, 1) := by decide +kernel
theorem dX1_keepsSkills_1 : decode cX1_keepsSkills 1 = .ok (.istore_n 2, 1) := by decide +kernel
theorem dX1_keepsSkills_2 : decode cX1_keepsSkills 2 = .ok (.iload_n 2, 1) := by decide +kernel
theorem dX1_keepsSkills_3 : decode cX1_keepsSkills 3 = .ok (.bipush 10, 2) := by decide +kernel
theorem dX1_keepsSkills_5 : decode cX1_keepsSkills 5 = .ok (.if_icmp .ge 33, 3) := by decide +kernel
theorem dX1_keepsSkills_8 : decode cX1_keepsSkills 8 = .ok (.aload_n 0, 1) := by decide +kernel
theorem dX1_keepsSkills_9 : decode cX1_keepsSkills 9 = .ok (.getfield 18, 3) := by decide +kernel
theorem dX1_keepsSkills_12 : decode cX1_keepsSkills 12 = .ok (.iload_n 2, 1) := by decide +kernel
theorem dX1_keepsSkills_13 : decode cX1_keepsSkills 13 = .ok (.iaload, 1) := by decide +kernel
theorem dX1_keepsSkills_14 : decode cX1_keepsSkills 14 = .ok (.iload_n 1, 1) := by decide +kernel
theorem dX1_keepsSkills_15 : decode cX1_keepsSkills 15 = .ok (.iconst (-1), 1) := by decide +kernel
theorem dX1_keepsSkills_16 : decode cX1_keepsSkills 16 = .ok (.ixor, 1) := by decide +kernel
theorem dX1_keepsSkills_17 : decode cX1_keepsSkills 17 = .ok (.iand, 1) := by decide +kernel
theorem dX1_keepsSkills_18 : decode cX1_keepsSkills 18 = .ok (.invokestatic 75, 3) := by decide +kernel
theorem dX1_keepsSkills_21 : decode cX1_keepsSkills 21 = .ok (.aload_n 0, 1) := by decide +kernel
theorem dX1_keepsSkills_22 : decode cX1_keepsSkills 22 = .ok (.getfield 21, 3) := by decide +kernel
theorem dX1_keepsSkills_25 : decode cX1_keepsSkills 25 = .ok (.iload_n 2, 1) := by decide +kernel
theorem dX1_keepsSkills_26 : decode cX1_keepsSkills 26 = .ok (.iaload, 1) := by decide +kernel
theorem dX1_keepsSkills_27 : decode cX1_keepsSkills 27 = .ok (.if_icmp .ge 5, 3) := by decide +kernel
theorem dX1_keepsSkills_30 : decode cX1_keepsSkills 30 = .ok (.iconst 0, 1) := by decide +kernel
theorem dX1_keepsSkills_31 : decode cX1_keepsSkills 31 = .ok (.ireturn, 1) := by decide +kernel
theorem dX1_keepsSkills_32 : decode cX1_keepsSkills 32 = .ok (.iinc 2 1, 3) := by decide +kernel
theorem dX1_keepsSkills_35 : decode cX1_keepsSkills 35 = .ok (.goto (-33), 3) := by decide +kernel
theorem dX1_keepsSkills_38 : decode cX1_keepsSkills 38 = .ok (.iconst 1, 1) := by decide +kernel
theorem dX1_keepsSkills_39 : decode cX1_keepsSkills 39 = .ok (.ireturn, 1) := by decide +kernel
theorem dX1_weigh_0 : decode cX1_weigh 0 = .ok (.iload_n 1, 1) := by decide +kernel
theorem dX1_weigh_1 : decode cX1_weigh 1 = .ok (.aload_n 0, 1) := by decide +kernel
theorem dX1_weigh_2 : decode cX1_weigh 2 = .ok (.getfield 46, 3) := by decide +kernel
theorem dX1_weigh_5 : decode cX1_weigh 5 = .ok (.iconst (-1), 1) := by decide +kernel
theorem dX1_weigh_6 : decode cX1_weigh 6 = .ok (.ixor, 1) := by decide +kernel
theorem dX1_weigh_7 : decode cX1_weigh 7 = .ok (.iand, 1) := by decide +kernel
theorem dX1_weigh_8 : decode cX1_weigh 8 = .ok (.invokestatic 75, 3) := by decide +kernel
theorem dX1_weigh_11 : decode cX1_weigh 11 = .ok (.istore_n 2, 1) := by decide +kernel
theorem dX1_weigh_12 : decode cX1_weigh 12 = .ok (.aload_n 0, 1) := by decide +kernel
theorem dX1_weigh_13 : decode cX1_weigh 13 = .ok (.getfield 71, 3) := by decide +kernel
theorem dX1_weigh_16 : decode cX1_weigh 16 = .ok (.ifCond .eq 12, 3) := by decide +kernel
theorem dX1_weigh_19 : decode cX1_weigh 19 = .ok (.iload_n 2, 1) := by decide +kernel
theorem dX1_weigh_20 : decode cX1_weigh 20 = .ok (.aload_n 0, 1) := by decide +kernel
theorem dX1_weigh_21 : decode cX1_weigh 21 = .ok (.getfield 126, 3) := by decide +kernel
theorem dX1_weigh_24 : decode cX1_weigh 24 = .ok (.if_icmp .le 4, 3) := by decide +kernel
theorem dX1_weigh_27 : decode cX1_weigh 27 = .ok (.return_, 1) := by decide +kernel
theorem dX1_weigh_28 : decode cX1_weigh 28 = .ok (.aload_n 0, 1) := by decide +kernel
theorem dX1_weigh_29 : decode cX1_weigh 29 = .ok (.aload_n 0, 1) := by decide +kernel
theorem dX1_weigh_30 : decode cX1_weigh 30 = .ok (.getfield 9, 3) := by decide +kernel
theorem dX1_weigh_33 : decode cX1_weigh 33 = .ok (.iload_n 1, 1) := by decide +kernel
theorem dX1_weigh_34 : decode cX1_weigh 34 = .ok (.invokevirtual 129, 3) := by decide +kernel
theorem dX1_weigh_37 : decode cX1_weigh 37 = .ok (.istore_n 3, 1) := by decide +kernel
theorem dX1_weigh_38 : decode cX1_weigh 38 = .ok (.aload_n 0, 1) := by decide +kernel
theorem dX1_weigh_39 : decode cX1_weigh 39 = .ok (.aload_n 0, 1) := by decide +kernel
theorem dX1_weigh_40 : decode cX1_weigh 40 = .ok (.getfield 15, 3) := by decide +kernel
theorem dX1_weigh_43 : decode cX1_weigh 43 = .ok (.iload_n 1, 1) := by decide +kernel
theorem dX1_weigh_44 : decode cX1_weigh 44 = .ok (.invokevirtual 129, 3) := by decide +kernel
theorem dX1_weigh_47 : decode cX1_weigh 47 = .ok (.istore 4, 2) := by decide +kernel
theorem dX1_weigh_49 : decode cX1_weigh 49 = .ok (.aload_n 0, 1) := by decide +kernel
theorem dX1_weigh_50 : decode cX1_weigh 50 = .ok (.getfield 71, 3) := by decide +kernel
theorem dX1_weigh_53 : decode cX1_weigh 53 = .ok (.ifCond .eq 36, 3) := by decide +kernel
theorem dX1_weigh_56 : decode cX1_weigh 56 = .ok (.iload_n 2, 1) := by decide +kernel
theorem dX1_weigh_57 : decode cX1_weigh 57 = .ok (.aload_n 0, 1) := by decide +kernel
theorem dX1_weigh_58 : decode cX1_weigh 58 = .ok (.getfield 126, 3) := by decide +kernel
theorem dX1_weigh_61 : decode cX1_weigh 61 = .ok (.if_icmp .lt 28, 3) := by decide +kernel
theorem dX1_weigh_64 : decode cX1_weigh 64 = .ok (.iload_n 3, 1) := by decide +kernel
theorem dX1_weigh_65 : decode cX1_weigh 65 = .ok (.aload_n 0, 1) := by decide +kernel
theorem dX1_weigh_66 : decode cX1_weigh 66 = .ok (.getfield 133, 3) := by decide +kernel
theorem dX1_weigh_69 : decode cX1_weigh 69 = .ok (.if_icmp .lt 20, 3) := by decide +kernel
theorem dX1_weigh_72 : decode cX1_weigh 72 = .ok (.iload_n 3, 1) := by decide +kernel
theorem dX1_weigh_73 : decode cX1_weigh 73 = .ok (.aload_n 0, 1) := by decide +kernel
theorem dX1_weigh_74 : decode cX1_weigh 74 = .ok (.getfield 133, 3) := by decide +kernel
theorem dX1_weigh_77 : decode cX1_weigh 77 = .ok (.if_icmp .ne 38, 3) := by decide +kernel
theorem dX1_weigh_80 : decode cX1_weigh 80 = .ok (.iload 4, 2) := by decide +kernel
theorem dX1_weigh_82 : decode cX1_weigh 82 = .ok (.aload_n 0, 1) := by decide +kernel
theorem dX1_weigh_83 : decode cX1_weigh 83 = .ok (.getfield 136, 3) := by decide +kernel
theorem dX1_weigh_86 : decode cX1_weigh 86 = .ok (.if_icmp .ge 29, 3) := by decide +kernel
theorem dX1_weigh_89 : decode cX1_weigh 89 = .ok (.aload_n 0, 1) := by decide +kernel
theorem dX1_weigh_90 : decode cX1_weigh 90 = .ok (.iconst 1, 1) := by decide +kernel
theorem dX1_weigh_91 : decode cX1_weigh 91 = .ok (.putfield 71, 3) := by decide +kernel
theorem dX1_weigh_94 : decode cX1_weigh 94 = .ok (.aload_n 0, 1) := by decide +kernel
theorem dX1_weigh_95 : decode cX1_weigh 95 = .ok (.iload_n 1, 1) := by decide +kernel
theorem dX1_weigh_96 : decode cX1_weigh 96 = .ok (.putfield 88, 3) := by decide +kernel
theorem dX1_weigh_99 : decode cX1_weigh 99 = .ok (.aload_n 0, 1) := by decide +kernel
theorem dX1_weigh_100 : decode cX1_weigh 100 = .ok (.iload_n 2, 1) := by decide +kernel
theorem dX1_weigh_101 : decode cX1_weigh 101 = .ok (.putfield 126, 3) := by decide +kernel
theorem dX1_weigh_104 : decode cX1_weigh 104 = .ok (.aload_n 0, 1) := by decide +kernel
theorem dX1_weigh_105 : decode cX1_weigh 105 = .ok (.iload_n 3, 1) := by decide +kernel
theorem dX1_weigh_106 : decode cX1_weigh 106 = .ok (.putfield 133, 3) := by decide +kernel
theorem dX1_weigh_109 : decode cX1_weigh 109 = .ok (.aload_n 0, 1) := by decide +kernel
theorem dX1_weigh_110 : decode cX1_weigh 110 = .ok (.iload 4, 2) := by decide +kernel
theorem dX1_weigh_112 : decode cX1_weigh 112 = .ok (.putfield 136, 3) := by decide +kernel
theorem dX1_weigh_115 : decode cX1_weigh 115 = .ok (.return_, 1) := by decide +kernel
theorem dX1_together_0 : decode cX1_together 0 = .ok (.iconst 0, 1) := by decide +kernel
theorem dX1_together_1 : decode cX1_together 1 = .ok (.istore_n 3, 1) := by decide +kernel
theorem dX1_together_2 : decode cX1_together 2 = .ok (.iconst 0, 1) := by decide +kernel
theorem dX1_together_3 : decode cX1_together 3 = .ok (.istore 4, 2) := by decide +kernel
theorem dX1_together_5 : decode cX1_together 5 = .ok (.iload 4, 2) := by decide +kernel
theorem dX1_together_7 : decode cX1_together 7 = .ok (.aload_n 0, 1) := by decide +kernel
theorem dX1_together_8 : decode cX1_together 8 = .ok (.getfield 40, 3) := by decide +kernel
theorem dX1_together_11 : decode cX1_together 11 = .ok (.if_icmp .ge 33, 3) := by decide +kernel
theorem dX1_together_14 : decode cX1_together 14 = .ok (.iload 4, 2) := by decide +kernel
theorem dX1_together_16 : decode cX1_together 16 = .ok (.aload_n 1, 1) := by decide +kernel
theorem dX1_together_17 : decode cX1_together 17 = .ok (.arraylength, 1) := by decide +kernel
theorem dX1_together_18 : decode cX1_together 18 = .ok (.if_icmp .ge 26, 3) := by decide +kernel
theorem dX1_together_21 : decode cX1_together 21 = .ok (.iload_n 2, 1) := by decide +kernel
theorem dX1_together_22 : decode cX1_together 22 = .ok (.iload 4, 2) := by decide +kernel
theorem dX1_together_24 : decode cX1_together 24 = .ok (.ishr, 1) := by decide +kernel
theorem dX1_together_25 : decode cX1_together 25 = .ok (.iconst 1, 1) := by decide +kernel
theorem dX1_together_26 : decode cX1_together 26 = .ok (.iand, 1) := by decide +kernel
theorem dX1_together_27 : decode cX1_together 27 = .ok (.iconst 1, 1) := by decide +kernel
theorem dX1_together_28 : decode cX1_together 28 = .ok (.if_icmp .ne 10, 3) := by decide +kernel
theorem dX1_together_31 : decode cX1_together 31 = .ok (.iload_n 3, 1) := by decide +kernel
theorem dX1_together_32 : decode cX1_together 32 = .ok (.aload_n 1, 1) := by decide +kernel
theorem dX1_together_33 : decode cX1_together 33 = .ok (.iload 4, 2) := by decide +kernel
theorem dX1_together_35 : decode cX1_together 35 = .ok (.iaload, 1) := by decide +kernel
theorem dX1_together_36 : decode cX1_together 36 = .ok (.iadd, 1) := by decide +kernel
theorem dX1_together_37 : decode cX1_together 37 = .ok (.istore_n 3, 1) := by decide +kernel
theorem dX1_together_38 : decode cX1_together 38 = .ok (.iinc 4 1, 3) := by decide +kernel
theorem dX1_together_41 : decode cX1_together 41 = .ok (.goto (-36), 3) := by decide +kernel
theorem dX1_together_44 : decode cX1_together 44 = .ok (.iload_n 3, 1) := by decide +kernel
theorem dX1_together_45 : decode cX1_together 45 = .ok (.ireturn, 1) := by decide +kernel
theorem dX2_init_0 : decode cX2_init 0 = .ok (.aload_n 0, 1) := by decide +kernel
theorem dX2_init_1 : decode cX2_init 1 = .ok (.invokespecial 3, 3) := by decide +kernel
theorem dX2_init_4 : decode cX2_init 4 = .ok (.aload_n 0, 1) := by decide +kernel
theorem dX2_init_5 : decode cX2_init 5 = .ok (.bipush 60, 2) := by decide +kernel
theorem dX2_init_7 : decode cX2_init 7 = .ok (.newarray .int, 2) := by decide +kernel
theorem dX2_init_9 : decode cX2_init 9 = .ok (.putfield 9, 3) := by decide +kernel
theorem dX2_init_12 : decode cX2_init 12 = .ok (.aload_n 0, 1) := by decide +kernel
theorem dX2_init_13 : decode cX2_init 13 = .ok (.bipush 60, 2) := by decide +kernel
theorem dX2_init_15 : decode cX2_init 15 = .ok (.newarray .int, 2) := by decide +kernel
theorem dX2_init_17 : decode cX2_init 17 = .ok (.putfield 15, 3) := by decide +kernel
theorem dX2_init_20 : decode cX2_init 20 = .ok (.aload_n 0, 1) := by decide +kernel
theorem dX2_init_21 : decode cX2_init 21 = .ok (.bipush 60, 2) := by decide +kernel
theorem dX2_init_23 : decode cX2_init 23 = .ok (.newarray .int, 2) := by decide +kernel
theorem dX2_init_25 : decode cX2_init 25 = .ok (.putfield 18, 3) := by decide +kernel
theorem dX2_init_28 : decode cX2_init 28 = .ok (.aload_n 0, 1) := by decide +kernel
theorem dX2_init_29 : decode cX2_init 29 = .ok (.sipush 201, 3) := by decide +kernel
theorem dX2_init_32 : decode cX2_init 32 = .ok (.newarray .int, 2) := by decide +kernel
theorem dX2_init_34 : decode cX2_init 34 = .ok (.putfield 21, 3) := by decide +kernel
theorem dX2_init_37 : decode cX2_init 37 = .ok (.aload_n 0, 1) := by decide +kernel
theorem dX2_init_38 : decode cX2_init 38 = .ok (.sipush 1206, 3) := by decide +kernel
theorem dX2_init_41 : decode cX2_init 41 = .ok (.newarray .int, 2) := by decide +kernel
theorem dX2_init_43 : decode cX2_init 43 = .ok (.putfield 24, 3) := by decide +kernel
theorem dX2_init_46 : decode cX2_init 46 = .ok (.aload_n 0, 1) := by decide +kernel
theorem dX2_init_47 : decode cX2_init 47 = .ok (.bipush 6, 2) := by decide +kernel
theorem dX2_init_49 : decode cX2_init 49 = .ok (.newarray .int, 2) := by decide +kernel
theorem dX2_init_51 : decode cX2_init 51 = .ok (.putfield 27, 3) := by decide +kernel
theorem dX2_init_54 : decode cX2_init 54 = .ok (.aload_n 0, 1) := by decide +kernel
theorem dX2_init_55 : decode cX2_init 55 = .ok (.iconst 3, 1) := by decide +kernel
theorem dX2_init_56 : decode cX2_init 56 = .ok (.newarray .int, 2) := by decide +kernel
theorem dX2_init_58 : decode cX2_init 58 = .ok (.putfield 30, 3) := by decide +kernel
theorem dX2_init_61 : decode cX2_init 61 = .ok (.aload_n 0, 1) := by decide +kernel
theorem dX2_init_62 : decode cX2_init 62 = .ok (.iconst 3, 1) := by decide +kernel
theorem dX2_init_63 : decode cX2_init 63 = .ok (.newarray .int, 2) := by decide +kernel
theorem dX2_init_65 : decode cX2_init 65 = .ok (.putfield 33, 3) := by decide +kernel
theorem dX2_init_68 : decode cX2_init 68 = .ok (.return_, 1) := by decide +kernel
theorem dX2_add_0 : decode cX2_add 0 = .ok (.aload_n 0, 1) := by decide +kernel
theorem dX2_add_1 : decode cX2_add 1 = .ok (.getfield 36, 3) := by decide +kernel
theorem dX2_add_4 : decode cX2_add 4 = .ok (.bipush 60, 2) := by decide +kernel
theorem dX2_add_6 : decode cX2_add 6 = .ok (.if_icmp .ge 43, 3) := by decide +kernel
theorem dX2_add_9 : decode cX2_add 9 = .ok (.aload_n 0, 1) := by decide +kernel
theorem dX2_add_10 : decode cX2_add 10 = .ok (.getfield 9, 3) := by decide +kernel
theorem dX2_add_13 : decode cX2_add 13 = .ok (.aload_n 0, 1) := by decide +kernel
theorem dX2_add_14 : decode cX2_add 14 = .ok (.getfield 36, 3) := by decide +kernel
theorem dX2_add_17 : decode cX2_add 17 = .ok (.iload_n 1, 1) := by decide +kernel
theorem dX2_add_18 : decode cX2_add 18 = .ok (.iastore, 1) := by decide +kernel
theorem dX2_add_19 : decode cX2_add 19 = .ok (.aload_n 0, 1) := by decide +kernel
theorem dX2_add_20 : decode cX2_add 20 = .ok (.getfield 15, 3) := by decide +kernel
theorem dX2_add_23 : decode cX2_add 23 = .ok (.aload_n 0, 1) := by decide +kernel
theorem dX2_add_24 : decode cX2_add 24 = .ok (.getfield 36, 3) := by decide +kernel
theorem dX2_add_27 : decode cX2_add 27 = .ok (.iload_n 2, 1) := by decide +kernel
theorem dX2_add_28 : decode cX2_add 28 = .ok (.iastore, 1) := by decide +kernel
theorem dX2_add_29 : decode cX2_add 29 = .ok (.aload_n 0, 1) := by decide +kernel
theorem dX2_add_30 : decode cX2_add 30 = .ok (.getfield 18, 3) := by decide +kernel
theorem dX2_add_33 : decode cX2_add 33 = .ok (.aload_n 0, 1) := by decide +kernel
theorem dX2_add_34 : decode cX2_add 34 = .ok (.getfield 36, 3) := by decide +kernel
theorem dX2_add_37 : decode cX2_add 37 = .ok (.iload_n 3, 1) := by decide +kernel
theorem dX2_add_38 : decode cX2_add 38 = .ok (.iastore, 1) := by decide +kernel
theorem dX2_add_39 : decode cX2_add 39 = .ok (.aload_n 0, 1) := by decide +kernel
theorem dX2_add_40 : decode cX2_add 40 = .ok (.dup, 1) := by decide +kernel
theorem dX2_add_41 : decode cX2_add 41 = .ok (.getfield 36, 3) := by decide +kernel
theorem dX2_add_44 : decode cX2_add 44 = .ok (.iconst 1, 1) := by decide +kernel
theorem dX2_add_45 : decode cX2_add 45 = .ok (.iadd, 1) := by decide +kernel
theorem dX2_add_46 : decode cX2_add 46 = .ok (.putfield 36, 3) := by decide +kernel
theorem dX2_add_49 : decode cX2_add 49 = .ok (.aload_n 0, 1) := by decide +kernel
theorem dX2_add_50 : decode cX2_add 50 = .ok (.getfield 36, 3) := by decide +kernel
theorem dX2_add_53 : decode cX2_add 53 = .ok (.ireturn, 1) := by decide +kernel
theorem dX2_within_0 : decode cX2_within 0 = .ok (.iconst 0, 1) := by decide +kernel
theorem dX2_within_1 : decode cX2_within 1 = .ok (.istore_n 3, 1) := by decide +kernel
theorem dX2_within_2 : decode cX2_within 2 = .ok (.iconst 0, 1) := by decide +kernel
theorem dX2_within_3 : decode cX2_within 3 = .ok (.istore 4, 2) := by decide +kernel
theorem dX2_within_5 : decode cX2_within 5 = .ok (.iload 4, 2) := by decide +kernel
theorem dX2_within_7 : decode cX2_within 7 = .ok (.aload_n 0, 1) := by decide +kernel
theorem dX2_within_8 : decode cX2_within 8 = .ok (.getfield 36, 3) := by decide +kernel
theorem dX2_within_11 : decode cX2_within 11 = .ok (.if_icmp .ge 62, 3) := by decide +kernel
theorem dX2_within_14 : decode cX2_within 14 = .ok (.iload 4, 2) := by decide +kernel
theorem dX2_within_16 : decode cX2_within 16 = .ok (.bipush 60, 2) := by decide +kernel
theorem dX2_within_18 : decode cX2_within 18 = .ok (.if_icmp .ge 55, 3) := by decide +kernel
theorem dX2_within_21 : decode cX2_within 21 = .ok (.aload_n 0, 1) := by decide +kernel
theorem dX2_within_22 : decode cX2_within 22 = .ok (.getfield 9, 3) := by decide +kernel
theorem dX2_within_25 : decode cX2_within 25 = .ok (.iload 4, 2) := by decide +kernel
theorem dX2_within_27 : decode cX2_within 27 = .ok (.iaload, 1) := by decide +kernel
theorem dX2_within_28 : decode cX2_within 28 = .ok (.iload_n 1, 1) := by decide +kernel
theorem dX2_within_29 : decode cX2_within 29 = .ok (.if_icmp .ne 38, 3) := by decide +kernel
theorem dX2_within_32 : decode cX2_within 32 = .ok (.aload_n 0, 1) := by decide +kernel
theorem dX2_within_33 : decode cX2_within 33 = .ok (.getfield 15, 3) := by decide +kernel
theorem dX2_within_36 : decode cX2_within 36 = .ok (.iload 4, 2) := by decide +kernel
theorem dX2_within_38 : decode cX2_within 38 = .ok (.iaload, 1) := by decide +kernel
theorem dX2_within_39 : decode cX2_within 39 = .ok (.iload_n 2, 1) := by decide +kernel
theorem dX2_within_40 : decode cX2_within 40 = .ok (.if_icmp .gt 27, 3) := by decide +kernel
theorem dX2_within_43 : decode cX2_within 43 = .ok (.aload_n 0, 1) := by decide +kernel
theorem dX2_within_44 : decode cX2_within 44 = .ok (.getfield 15, 3) := by decide +kernel
theorem dX2_within_47 : decode cX2_within 47 = .ok (.iload 4, 2) := by decide +kernel
theorem dX2_within_49 : decode cX2_within 49 = .ok (.iaload, 1) := by decide +kernel
theorem dX2_within_50 : decode cX2_within 50 = .ok (.iload_n 2, 1) := by decide +kernel
theorem dX2_within_51 : decode cX2_within 51 = .ok (.bipush 90, 2) := by decide +kernel
theorem dX2_within_53 : decode cX2_within 53 = .ok (.isub, 1) := by decide +kernel
theorem dX2_within_54 : decode cX2_within 54 = .ok (.if_icmp .le 13, 3) := by decide +kernel
theorem dX2_within_57 : decode cX2_within 57 = .ok (.iload_n 3, 1) := by decide +kernel
theorem dX2_within_58 : decode cX2_within 58 = .ok (.aload_n 0, 1) := by decide +kernel
theorem dX2_within_59 : decode cX2_within 59 = .ok (.getfield 18, 3) := by decide +kernel
theorem dX2_within_62 : decode cX2_within 62 = .ok (.iload 4, 2) := by decide +kernel
theorem dX2_within_64 : decode cX2_within 64 = .ok (.iaload, 1) := by decide +kernel
theorem dX2_within_65 : decode cX2_within 65 = .ok (.iadd, 1) := by decide +kernel
theorem dX2_within_66 : decode cX2_within 66 = .ok (.istore_n 3, 1) := by decide +kernel
theorem dX2_within_67 : decode cX2_within 67 = .ok (.iinc 4 1, 3) := by decide +kernel
theorem dX2_within_70 : decode cX2_within 70 = .ok (.goto (-65), 3) := by decide +kernel
theorem dX2_within_73 : decode cX2_within 73 = .ok (.iload_n 3, 1) := by decide +kernel
theorem dX2_within_74 : decode cX2_within 74 = .ok (.ireturn, 1) := by decide +kernel
theorem dX2_part_0 : decode cX2_part 0 = .ok (.aload_n 0, 1) := by decide +kernel
theorem dX2_part_1 : decode cX2_part 1 = .ok (.iconst 1, 1) := by decide +kernel
theorem dX2_part_2 : decode cX2_part 2 = .ok (.iload 4, 2) := by decide +kernel
theorem dX2_part_4 : decode cX2_part 4 = .ok (.bipush 6, 2) := by decide +kernel
theorem dX2_part_6 : decode cX2_part 6 = .ok (.invokestatic 40, 3) := by decide +kernel
theorem dX2_part_9 : decode cX2_part 9 = .ok (.invokestatic 46, 3) := by decide +kernel
theorem dX2_part_12 : decode cX2_part 12 = .ok (.iconst 1, 1) := by decide +kernel
theorem dX2_part_13 : decode cX2_part 13 = .ok (.isub, 1) := by decide +kernel
theorem dX2_part_14 : decode cX2_part 14 = .ok (.putfield 49, 3) := by decide +kernel
theorem dX2_part_17 : decode cX2_part 17 = .ok (.aload_n 0, 1) := by decide +kernel
theorem dX2_part_18 : decode cX2_part 18 = .ok (.iconst 1, 1) := by decide +kernel
theorem dX2_part_19 : decode cX2_part 19 = .ok (.iload 5, 2) := by decide +kernel
theorem dX2_part_21 : decode cX2_part 21 = .ok (.invokestatic 46, 3) := by decide +kernel
theorem dX2_part_24 : decode cX2_part 24 = .ok (.putfield 52, 3) := by decide +kernel
theorem dX2_part_27 : decode cX2_part 27 = .ok (.aload_n 0, 1) := by decide +kernel
theorem dX2_part_28 : decode cX2_part 28 = .ok (.iconst 0, 1) := by decide +kernel
theorem dX2_part_29 : decode cX2_part 29 = .ok (.iload_n 3, 1) := by decide +kernel
theorem dX2_part_30 : decode cX2_part 30 = .ok (.sipush 200, 3) := by decide +kernel
theorem dX2_part_33 : decode cX2_part 33 = .ok (.invokestatic 40, 3) := by decide +kernel
theorem dX2_part_36 : decode cX2_part 36 = .ok (.invokestatic 46, 3) := by decide +kernel
theorem dX2_part_39 : decode cX2_part 39 = .ok (.aload_n 0, 1) := by decide +kernel
theorem dX2_part_40 : decode cX2_part 40 = .ok (.getfield 52, 3) := by decide +kernel
theorem dX2_part_43 : decode cX2_part 43 = .ok (.idiv, 1) := by decide +kernel
theorem dX2_part_44 : decode cX2_part 44 = .ok (.putfield 55, 3) := by decide +kernel
theorem dX2_part_47 : decode cX2_part 47 = .ok (.aload_n 0, 1) := by decide +kernel
theorem dX2_part_48 : decode cX2_part 48 = .ok (.iload_n 3, 1) := by decide +kernel
theorem dX2_part_49 : decode cX2_part 49 = .ok (.aload_n 0, 1) := by decide +kernel
theorem dX2_part_50 : decode cX2_part 50 = .ok (.getfield 55, 3) := by decide +kernel
theorem dX2_part_53 : decode cX2_part 53 = .ok (.aload_n 0, 1) := by decide +kernel
theorem dX2_part_54 : decode cX2_part 54 = .ok (.getfield 52, 3) := by decide +kernel
theorem dX2_part_57 : decode cX2_part 57 = .ok (.imul, 1) := by decide +kernel
theorem dX2_part_58 : decode cX2_part 58 = .ok (.isub, 1) := by decide +kernel
theorem dX2_part_59 : decode cX2_part 59 = .ok (.putfield 58, 3) := by decide +kernel
theorem dX2_part_62 : decode cX2_part 62 = .ok (.iconst 0, 1) := by decide +kernel
theorem dX2_part_63 : decode cX2_part 63 = .ok (.istore 6, 2) := by decide +kernel
theorem dX2_part_65 : decode cX2_part 65 = .ok (.iload 6, 2) := by decide +kernel
theorem dX2_part_67 : decode cX2_part 67 = .ok (.aload_n 0, 1) := by decide +kernel
theorem dX2_part_68 : decode cX2_part 68 = .ok (.getfield 49, 3) := by decide +kernel
theorem dX2_part_71 : decode cX2_part 71 = .ok (.if_icmp .gt 28, 3) := by decide +kernel
theorem dX2_part_74 : decode cX2_part 74 = .ok (.aload_n 0, 1) := by decide +kernel
theorem dX2_part_75 : decode cX2_part 75 = .ok (.getfield 27, 3) := by decide +kernel
theorem dX2_part_78 : decode cX2_part 78 = .ok (.iload 6, 2) := by decide +kernel
theorem dX2_part_80 : decode cX2_part 80 = .ok (.aload_n 0, 1) := by decide +kernel
theorem dX2_part_81 : decode cX2_part 81 = .ok (.iload_n 1, 1) := by decide +kernel
theorem dX2_part_82 : decode cX2_part 82 = .ok (.iload_n 2, 1) := by decide +kernel
theorem dX2_part_83 : decode cX2_part 83 = .ok (.bipush 7, 2) := by decide +kernel
theorem dX2_part_85 : decode cX2_part 85 = .ok (.iload 6, 2) := by decide +kernel
theorem dX2_part_87 : decode cX2_part 87 = .ok (.imul, 1) := by decide +kernel
theorem dX2_part_88 : decode cX2_part 88 = .ok (.iadd, 1) := by decide +kernel
theorem dX2_part_89 : decode cX2_part 89 = .ok (.invokevirtual 61, 3) := by decide +kernel
theorem dX2_part_92 : decode cX2_part 92 = .ok (.iastore, 1) := by decide +kernel
theorem dX2_part_93 : decode cX2_part 93 = .ok (.iinc 6 1, 3) := by decide +kernel
theorem dX2_part_96 : decode cX2_part 96 = .ok (.goto (-31), 3) := by decide +kernel
theorem dX2_part_99 : decode cX2_part 99 = .ok (.aload_n 0, 1) := by decide +kernel
theorem dX2_part_100 : decode cX2_part 100 = .ok (.iload_n 3, 1) := by decide +kernel
theorem dX2_part_101 : decode cX2_part 101 = .ok (.invokevirtual 64, 3) := by decide +kernel
theorem dX2_part_104 : decode cX2_part 104 = .ok (.aload_n 0, 1) := by decide +kernel
theorem dX2_part_105 : decode cX2_part 105 = .ok (.getfield 49, 3) := by decide +kernel
theorem dX2_part_108 : decode cX2_part 108 = .ok (.iconst 1, 1) := by decide +kernel
theorem dX2_part_109 : decode cX2_part 109 = .ok (.isub, 1) := by decide +kernel
theorem dX2_part_110 : decode cX2_part 110 = .ok (.istore 6, 2) := by decide +kernel
theorem dX2_part_112 : decode cX2_part 112 = .ok (.iload 6, 2) := by decide +kernel
theorem dX2_part_114 : decode cX2_part 114 = .ok (.ifCond .lt 15, 3) := by decide +kernel
theorem dX2_part_117 : decode cX2_part 117 = .ok (.aload_n 0, 1) := by decide +kernel
theorem dX2_part_118 : decode cX2_part 118 = .ok (.iload 6, 2) := by decide +kernel
theorem dX2_part_120 : decode cX2_part 120 = .ok (.invokevirtual 68, 3) := by decide +kernel
theorem dX2_part_123 : decode cX2_part 123 = .ok (.iinc 6 (-1), 3) := by decide +kernel
theorem dX2_part_126 : decode cX2_part 126 = .ok (.goto (-14), 3) := by decide +kernel
theorem dX2_part_129 : decode cX2_part 129 = .ok (.return_, 1) := by decide +kernel
theorem dX2_fillLastWeek_0 : decode cX2_fillLastWeek 0 = .ok (.aload_n 0, 1) := by decide +kernel
theorem dX2_fillLastWeek_1 : decode cX2_fillLastWeek 1 = .ok (.getfield 49, 3) := by decide +kernel
theorem dX2_fillLastWeek_4 : decode cX2_fillLastWeek 4 = .ok (.aload_n 0, 1) := by decide +kernel
theorem dX2_fillLastWeek_5 : decode cX2_fillLastWeek 5 = .ok (.getfield 27, 3) := by decide +kernel
theorem dX2_fillLastWeek_8 : decode cX2_fillLastWeek 8 = .ok (.aload_n 0, 1) := by decide +kernel
theorem dX2_fillLastWeek_9 : decode cX2_fillLastWeek 9 = .ok (.getfield 49, 3) := by decide +kernel
theorem dX2_fillLastWeek_12 : decode cX2_fillLastWeek 12 = .ok (.iaload, 1) := by decide +kernel
theorem dX2_fillLastWeek_13 : decode cX2_fillLastWeek 13 = .ok (.iload_n 1, 1) := by decide +kernel
theorem dX2_fillLastWeek_14 : decode cX2_fillLastWeek 14 = .ok (.iadd, 1) := by decide +kernel
theorem dX2_fillLastWeek_15 : decode cX2_fillLastWeek 15 = .ok (.invokestatic 71, 3) := by decide +kernel
theorem dX2_fillLastWeek_18 : decode cX2_fillLastWeek 18 = .ok (.invokestatic 75, 3) := by decide +kernel
theorem dX2_fillLastWeek_21 : decode cX2_fillLastWeek 21 = .ok (.istore_n 2, 1) := by decide +kernel
theorem dX2_fillLastWeek_22 : decode cX2_fillLastWeek 22 = .ok (.iconst 0, 1) := by decide +kernel
theorem dX2_fillLastWeek_23 : decode cX2_fillLastWeek 23 = .ok (.istore_n 3, 1) := by decide +kernel
theorem dX2_fillLastWeek_24 : decode cX2_fillLastWeek 24 = .ok (.iload_n 3, 1) := by decide +kernel
theorem dX2_fillLastWeek_25 : decode cX2_fillLastWeek 25 = .ok (.aload_n 0, 1) := by decide +kernel
theorem dX2_fillLastWeek_26 : decode cX2_fillLastWeek 26 = .ok (.getfield 55, 3) := by decide +kernel
theorem dX2_fillLastWeek_29 : decode cX2_fillLastWeek 29 = .ok (.if_icmp .gt 33, 3) := by decide +kernel
theorem dX2_fillLastWeek_32 : decode cX2_fillLastWeek 32 = .ok (.aload_n 0, 1) := by decide +kernel
theorem dX2_fillLastWeek_33 : decode cX2_fillLastWeek 33 = .ok (.getfield 21, 3) := by decide +kernel
theorem dX2_fillLastWeek_36 : decode cX2_fillLastWeek 36 = .ok (.iload_n 3, 1) := by decide +kernel
theorem dX2_fillLastWeek_37 : decode cX2_fillLastWeek 37 = .ok (.aload_n 0, 1) := by decide +kernel
theorem dX2_fillLastWeek_38 : decode cX2_fillLastWeek 38 = .ok (.getfield 55, 3) := by decide +kernel
theorem dX2_fillLastWeek_41 : decode cX2_fillLastWeek 41 = .ok (.iload_n 3, 1) := by decide +kernel
theorem dX2_fillLastWeek_42 : decode cX2_fillLastWeek 42 = .ok (.isub, 1) := by decide +kernel
theorem dX2_fillLastWeek_43 : decode cX2_fillLastWeek 43 = .ok (.aload_n 0, 1) := by decide +kernel
theorem dX2_fillLastWeek_44 : decode cX2_fillLastWeek 44 = .ok (.getfield 52, 3) := by decide +kernel
theorem dX2_fillLastWeek_47 : decode cX2_fillLastWeek 47 = .ok (.imul, 1) := by decide +kernel
theorem dX2_fillLastWeek_48 : decode cX2_fillLastWeek 48 = .ok (.aload_n 0, 1) := by decide +kernel
theorem dX2_fillLastWeek_49 : decode cX2_fillLastWeek 49 = .ok (.getfield 58, 3) := by decide +kernel
theorem dX2_fillLastWeek_52 : decode cX2_fillLastWeek 52 = .ok (.iadd, 1) := by decide +kernel
theorem dX2_fillLastWeek_53 : decode cX2_fillLastWeek 53 = .ok (.iload_n 2, 1) := by decide +kernel
theorem dX2_fillLastWeek_54 : decode cX2_fillLastWeek 54 = .ok (.imul, 1) := by decide +kernel
theorem dX2_fillLastWeek_55 : decode cX2_fillLastWeek 55 = .ok (.iastore, 1) := by decide +kernel
theorem dX2_fillLastWeek_56 : decode cX2_fillLastWeek 56 = .ok (.iinc 3 1, 3) := by decide +kernel
theorem dX2_fillLastWeek_59 : decode cX2_fillLastWeek 59 = .ok (.goto (-35), 3) := by decide +kernel
theorem dX2_fillLastWeek_62 : decode cX2_fillLastWeek 62 = .ok (.return_, 1) := by decide +kernel
theorem dX2_weeksEach_0 : decode cX2_weeksEach 0 = .ok (.iload_n 1, 1) := by decide +kernel
theorem dX2_weeksEach_1 : decode cX2_weeksEach 1 = .ok (.invokestatic 78, 3) := by decide +kernel
theorem dX2_weeksEach_4 : decode cX2_weeksEach 4 = .ok (.bipush 7, 2) := by decide +kernel
theorem dX2_weeksEach_6 : decode cX2_weeksEach 6 = .ok (.iadd, 1) := by decide +kernel
theorem dX2_weeksEach_7 : decode cX2_weeksEach 7 = .ok (.iconst 1, 1) := by decide +kernel
theorem dX2_weeksEach_8 : decode cX2_weeksEach 8 = .ok (.isub, 1) := by decide +kernel
theorem dX2_weeksEach_9 : decode cX2_weeksEach 9 = .ok (.bipush 7, 2) := by decide +kernel
theorem dX2_weeksEach_11 : decode cX2_weeksEach 11 = .ok (.idiv, 1) := by decide +kernel
theorem dX2_weeksEach_12 : decode cX2_weeksEach 12 = .ok (.iload_n 0, 1) := by decide +kernel
theorem dX2_weeksEach_13 : decode cX2_weeksEach 13 = .ok (.iadd, 1) := by decide +kernel
theorem dX2_weeksEach_14 : decode cX2_weeksEach 14 = .ok (.ireturn, 1) := by decide +kernel
theorem dX2_fillWeek_0 : decode cX2_fillWeek 0 = .ok (.aload_n 0, 1) := by decide +kernel
theorem dX2_fillWeek_1 : decode cX2_fillWeek 1 = .ok (.getfield 33, 3) := by decide +kernel
theorem dX2_fillWeek_4 : decode cX2_fillWeek 4 = .ok (.iconst (-1), 1) := by decide +kernel
theorem dX2_fillWeek_5 : decode cX2_fillWeek 5 = .ok (.invokestatic 81, 3) := by decide +kernel
theorem dX2_fillWeek_8 : decode cX2_fillWeek 8 = .ok (.aload_n 0, 1) := by decide +kernel
theorem dX2_fillWeek_9 : decode cX2_fillWeek 9 = .ok (.getfield 55, 3) := by decide +kernel
theorem dX2_fillWeek_12 : decode cX2_fillWeek 12 = .ok (.istore_n 2, 1) := by decide +kernel
theorem dX2_fillWeek_13 : decode cX2_fillWeek 13 = .ok (.iload_n 2, 1) := by decide +kernel
theorem dX2_fillWeek_14 : decode cX2_fillWeek 14 = .ok (.ifCond .lt 21, 3) := by decide +kernel
theorem dX2_fillWeek_17 : decode cX2_fillWeek 17 = .ok (.aload_n 0, 1) := by decide +kernel
theorem dX2_fillWeek_18 : decode cX2_fillWeek 18 = .ok (.iload_n 1, 1) := by decide +kernel
theorem dX2_fillWeek_19 : decode cX2_fillWeek 19 = .ok (.iload_n 2, 1) := by decide +kernel
theorem dX2_fillWeek_20 : decode cX2_fillWeek 20 = .ok (.invokevirtual 87, 3) := by decide +kernel
theorem dX2_fillWeek_23 : decode cX2_fillWeek 23 = .ok (.aload_n 0, 1) := by decide +kernel
theorem dX2_fillWeek_24 : decode cX2_fillWeek 24 = .ok (.iload_n 1, 1) := by decide +kernel
theorem dX2_fillWeek_25 : decode cX2_fillWeek 25 = .ok (.iload_n 2, 1) := by decide +kernel
theorem dX2_fillWeek_26 : decode cX2_fillWeek 26 = .ok (.invokevirtual 91, 3) := by decide +kernel
theorem dX2_fillWeek_29 : decode cX2_fillWeek 29 = .ok (.iinc 2 (-1), 3) := by decide +kernel
theorem dX2_fillWeek_32 : decode cX2_fillWeek 32 = .ok (.goto (-19), 3) := by decide +kernel
theorem dX2_fillWeek_35 : decode cX2_fillWeek 35 = .ok (.return_, 1) := by decide +kernel
theorem dX2_keepLeast_0 : decode cX2_keepLeast 0 = .ok (.aload_n 0, 1) := by decide +kernel
theorem dX2_keepLeast_1 : decode cX2_keepLeast 1 = .ok (.getfield 27, 3) := by decide +kernel
theorem dX2_keepLeast_4 : decode cX2_keepLeast 4 = .ok (.iload_n 1, 1) := by decide +kernel
theorem dX2_keepLeast_5 : decode cX2_keepLeast 5 = .ok (.iaload, 1) := by decide +kernel
theorem dX2_keepLeast_6 : decode cX2_keepLeast 6 = .ok (.iload_n 2, 1) := by decide +kernel
theorem dX2_keepLeast_7 : decode cX2_keepLeast 7 = .ok (.aload_n 0, 1) := by decide +kernel
theorem dX2_keepLeast_8 : decode cX2_keepLeast 8 = .ok (.getfield 52, 3) := by decide +kernel
theorem dX2_keepLeast_11 : decode cX2_keepLeast 11 = .ok (.imul, 1) := by decide +kernel
theorem dX2_keepLeast_12 : decode cX2_keepLeast 12 = .ok (.iadd, 1) := by decide +kernel
theorem dX2_keepLeast_13 : decode cX2_keepLeast 13 = .ok (.invokestatic 71, 3) := by decide +kernel
theorem dX2_keepLeast_16 : decode cX2_keepLeast 16 = .ok (.istore_n 3, 1) := by decide +kernel
theorem dX2_keepLeast_17 : decode cX2_keepLeast 17 = .ok (.iload_n 2, 1) := by decide +kernel
theorem dX2_keepLeast_18 : decode cX2_keepLeast 18 = .ok (.aload_n 0, 1) := by decide +kernel
theorem dX2_keepLeast_19 : decode cX2_keepLeast 19 = .ok (.getfield 52, 3) := by decide +kernel
theorem dX2_keepLeast_22 : decode cX2_keepLeast 22 = .ok (.imul, 1) := by decide +kernel
theorem dX2_keepLeast_23 : decode cX2_keepLeast 23 = .ok (.iload_n 1, 1) := by decide +kernel
theorem dX2_keepLeast_24 : decode cX2_keepLeast 24 = .ok (.iload_n 3, 1) := by decide +kernel
theorem dX2_keepLeast_25 : decode cX2_keepLeast 25 = .ok (.invokestatic 75, 3) := by decide +kernel
theorem dX2_keepLeast_28 : decode cX2_keepLeast 28 = .ok (.imul, 1) := by decide +kernel
theorem dX2_keepLeast_29 : decode cX2_keepLeast 29 = .ok (.aload_n 0, 1) := by decide +kernel
theorem dX2_keepLeast_30 : decode cX2_keepLeast 30 = .ok (.getfield 21, 3) := by decide +kernel
theorem dX2_keepLeast_33 : decode cX2_keepLeast 33 = .ok (.iload_n 2, 1) := by decide +kernel
theorem dX2_keepLeast_34 : decode cX2_keepLeast 34 = .ok (.iaload, 1) := by decide +kernel
theorem dX2_keepLeast_35 : decode cX2_keepLeast 35 = .ok (.iadd, 1) := by decide +kernel
theorem dX2_keepLeast_36 : decode cX2_keepLeast 36 = .ok (.istore 4, 2) := by decide +kernel
theorem dX2_keepLeast_38 : decode cX2_keepLeast 38 = .ok (.aload_n 0, 1) := by decide +kernel
theorem dX2_keepLeast_39 : decode cX2_keepLeast 39 = .ok (.getfield 33, 3) := by decide +kernel
theorem dX2_keepLeast_42 : decode cX2_keepLeast 42 = .ok (.iload_n 3, 1) := by decide +kernel
theorem dX2_keepLeast_43 : decode cX2_keepLeast 43 = .ok (.iaload, 1) := by decide +kernel
theorem dX2_keepLeast_44 : decode cX2_keepLeast 44 = .ok (.ifCond .lt 14, 3) := by decide +kernel
theorem dX2_keepLeast_47 : decode cX2_keepLeast 47 = .ok (.iload 4, 2) := by decide +kernel
theorem dX2_keepLeast_49 : decode cX2_keepLeast 49 = .ok (.aload_n 0, 1) := by decide +kernel
theorem dX2_keepLeast_50 : decode cX2_keepLeast 50 = .ok (.getfield 30, 3) := by decide +kernel
theorem dX2_keepLeast_53 : decode cX2_keepLeast 53 = .ok (.iload_n 3, 1) := by decide +kernel
theorem dX2_keepLeast_54 : decode cX2_keepLeast 54 = .ok (.iaload, 1) := by decide +kernel
theorem dX2_keepLeast_55 : decode cX2_keepLeast 55 = .ok (.if_icmp .ge 18, 3) := by decide +kernel
theorem dX2_keepLeast_58 : decode cX2_keepLeast 58 = .ok (.aload_n 0, 1) := by decide +kernel
theorem dX2_keepLeast_59 : decode cX2_keepLeast 59 = .ok (.getfield 30, 3) := by decide +kernel
theorem dX2_keepLeast_62 : decode cX2_keepLeast 62 = .ok (.iload_n 3, 1) := by decide +kernel
theorem dX2_keepLeast_63 : decode cX2_keepLeast 63 = .ok (.iload 4, 2) := by decide +kernel
theorem dX2_keepLeast_65 : decode cX2_keepLeast 65 = .ok (.iastore, 1) := by decide +kernel
theorem dX2_keepLeast_66 : decode cX2_keepLeast 66 = .ok (.aload_n 0, 1) := by decide +kernel
theorem dX2_keepLeast_67 : decode cX2_keepLeast 67 = .ok (.getfield 33, 3) := by decide +kernel
theorem dX2_keepLeast_70 : decode cX2_keepLeast 70 = .ok (.iload_n 3, 1) := by decide +kernel
theorem dX2_keepLeast_71 : decode cX2_keepLeast 71 = .ok (.iload_n 2, 1) := by decide +kernel
theorem dX2_keepLeast_72 : decode cX2_keepLeast 72 = .ok (.iastore, 1) := by decide +kernel
theorem dX2_keepLeast_73 : decode cX2_keepLeast 73 = .ok (.return_, 1) := by decide +kernel
theorem dX2_takeLeast_0 : decode cX2_takeLeast 0 = .ok (.iconst (-1), 1) := by decide +kernel
theorem dX2_takeLeast_1 : decode cX2_takeLeast 1 = .ok (.istore_n 3, 1) := by decide +kernel
theorem dX2_takeLeast_2 : decode cX2_takeLeast 2 = .ok (.iload_n 2, 1) := by decide +kernel
theorem dX2_takeLeast_3 : decode cX2_takeLeast 3 = .ok (.istore 4, 2) := by decide +kernel
theorem dX2_takeLeast_5 : decode cX2_takeLeast 5 = .ok (.iconst 2, 1) := by decide +kernel
theorem dX2_takeLeast_6 : decode cX2_takeLeast 6 = .ok (.istore 5, 2) := by decide +kernel
theorem dX2_takeLeast_8 : decode cX2_takeLeast 8 = .ok (.iload 5, 2) := by decide +kernel
theorem dX2_takeLeast_10 : decode cX2_takeLeast 10 = .ok (.ifCond .lt 64, 3) := by decide +kernel
theorem dX2_takeLeast_13 : decode cX2_takeLeast 13 = .ok (.aload_n 0, 1) := by decide +kernel
theorem dX2_takeLeast_14 : decode cX2_takeLeast 14 = .ok (.getfield 33, 3) := by decide +kernel
theorem dX2_takeLeast_17 : decode cX2_takeLeast 17 = .ok (.iload 5, 2) := by decide +kernel
theorem dX2_takeLeast_19 : decode cX2_takeLeast 19 = .ok (.iaload, 1) := by decide +kernel
theorem dX2_takeLeast_20 : decode cX2_takeLeast 20 = .ok (.ifCond .lt 48, 3) := by decide +kernel
theorem dX2_takeLeast_23 : decode cX2_takeLeast 23 = .ok (.aload_n 0, 1) := by decide +kernel
theorem dX2_takeLeast_24 : decode cX2_takeLeast 24 = .ok (.getfield 30, 3) := by decide +kernel
theorem dX2_takeLeast_27 : decode cX2_takeLeast 27 = .ok (.iload 5, 2) := by decide +kernel
theorem dX2_takeLeast_29 : decode cX2_takeLeast 29 = .ok (.iaload, 1) := by decide +kernel
theorem dX2_takeLeast_30 : decode cX2_takeLeast 30 = .ok (.iload_n 2, 1) := by decide +kernel
theorem dX2_takeLeast_31 : decode cX2_takeLeast 31 = .ok (.aload_n 0, 1) := by decide +kernel
theorem dX2_takeLeast_32 : decode cX2_takeLeast 32 = .ok (.getfield 52, 3) := by decide +kernel
theorem dX2_takeLeast_35 : decode cX2_takeLeast 35 = .ok (.imul, 1) := by decide +kernel
theorem dX2_takeLeast_36 : decode cX2_takeLeast 36 = .ok (.iload_n 1, 1) := by decide +kernel
theorem dX2_takeLeast_37 : decode cX2_takeLeast 37 = .ok (.iload 5, 2) := by decide +kernel
theorem dX2_takeLeast_39 : decode cX2_takeLeast 39 = .ok (.invokestatic 75, 3) := by decide +kernel
theorem dX2_takeLeast_42 : decode cX2_takeLeast 42 = .ok (.imul, 1) := by decide +kernel
theorem dX2_takeLeast_43 : decode cX2_takeLeast 43 = .ok (.isub, 1) := by decide +kernel
theorem dX2_takeLeast_44 : decode cX2_takeLeast 44 = .ok (.istore 6, 2) := by decide +kernel
theorem dX2_takeLeast_46 : decode cX2_takeLeast 46 = .ok (.iload_n 3, 1) := by decide +kernel
theorem dX2_takeLeast_47 : decode cX2_takeLeast 47 = .ok (.ifCond .lt 9, 3) := by decide +kernel
theorem dX2_takeLeast_50 : decode cX2_takeLeast 50 = .ok (.iload 6, 2) := by decide +kernel
theorem dX2_takeLeast_52 : decode cX2_takeLeast 52 = .ok (.iload_n 3, 1) := by decide +kernel
theorem dX2_takeLeast_53 : decode cX2_takeLeast 53 = .ok (.if_icmp .ge 15, 3) := by decide +kernel
theorem dX2_takeLeast_56 : decode cX2_takeLeast 56 = .ok (.iload 6, 2) := by decide +kernel
theorem dX2_takeLeast_58 : decode cX2_takeLeast 58 = .ok (.istore_n 3, 1) := by decide +kernel
theorem dX2_takeLeast_59 : decode cX2_takeLeast 59 = .ok (.aload_n 0, 1) := by decide +kernel
theorem dX2_takeLeast_60 : decode cX2_takeLeast 60 = .ok (.getfield 33, 3) := by decide +kernel
theorem dX2_takeLeast_63 : decode cX2_takeLeast 63 = .ok (.iload 5, 2) := by decide +kernel
theorem dX2_takeLeast_65 : decode cX2_takeLeast 65 = .ok (.iaload, 1) := by decide +kernel
theorem dX2_takeLeast_66 : decode cX2_takeLeast 66 = .ok (.istore 4, 2) := by decide +kernel
theorem dX2_takeLeast_68 : decode cX2_takeLeast 68 = .ok (.iinc 5 (-1), 3) := by decide +kernel
theorem dX2_takeLeast_71 : decode cX2_takeLeast 71 = .ok (.goto (-63), 3) := by decide +kernel
theorem dX2_takeLeast_74 : decode cX2_takeLeast 74 = .ok (.aload_n 0, 1) := by decide +kernel
theorem dX2_takeLeast_75 : decode cX2_takeLeast 75 = .ok (.getfield 21, 3) := by decide +kernel
theorem dX2_takeLeast_78 : decode cX2_takeLeast 78 = .ok (.iload_n 2, 1) := by decide +kernel
theorem dX2_takeLeast_79 : decode cX2_takeLeast 79 = .ok (.iload_n 3, 1) := by decide +kernel
theorem dX2_takeLeast_80 : decode cX2_takeLeast 80 = .ok (.iastore, 1) := by decide +kernel
theorem dX2_takeLeast_81 : decode cX2_takeLeast 81 = .ok (.aload_n 0, 1) := by decide +kernel
theorem dX2_takeLeast_82 : decode cX2_takeLeast 82 = .ok (.getfield 24, 3) := by decide +kernel
theorem dX2_takeLeast_85 : decode cX2_takeLeast 85 = .ok (.iload_n 1, 1) := by decide +kernel
theorem dX2_takeLeast_86 : decode cX2_takeLeast 86 = .ok (.sipush 201, 3) := by decide +kernel
theorem dX2_takeLeast_89 : decode cX2_takeLeast 89 = .ok (.imul, 1) := by decide +kernel
theorem dX2_takeLeast_90 : decode cX2_takeLeast 90 = .ok (.iload_n 2, 1) := by decide +kernel
theorem dX2_takeLeast_91 : decode cX2_takeLeast 91 = .ok (.iadd, 1) := by decide +kernel
theorem dX2_takeLeast_92 : decode cX2_takeLeast 92 = .ok (.iload 4, 2) := by decide +kernel
theorem dX2_takeLeast_94 : decode cX2_takeLeast 94 = .ok (.iastore, 1) := by decide +kernel
theorem dX2_takeLeast_95 : decode cX2_takeLeast 95 = .ok (.return_, 1) := by decide +kernel
theorem dX2_weeksPaid_0 : decode cX2_weeksPaid 0 = .ok (.aload_n 0, 1) := by decide +kernel
theorem dX2_weeksPaid_1 : decode cX2_weeksPaid 1 = .ok (.getfield 21, 3) := by decide +kernel
theorem dX2_weeksPaid_4 : decode cX2_weeksPaid 4 = .ok (.iconst 0, 1) := by decide +kernel
theorem dX2_weeksPaid_5 : decode cX2_weeksPaid 5 = .ok (.iaload, 1) := by decide +kernel
theorem dX2_weeksPaid_6 : decode cX2_weeksPaid 6 = .ok (.ireturn, 1) := by decide +kernel
theorem dX2_partIn_0 : decode cX2_partIn 0 = .ok (.iconst 0, 1) := by decide +kernel
theorem dX2_partIn_1 : decode cX2_partIn 1 = .ok (.istore_n 2, 1) := by decide +kernel
theorem dX2_partIn_2 : decode cX2_partIn 2 = .ok (.iconst 0, 1) := by decide +kernel
theorem dX2_partIn_3 : decode cX2_partIn 3 = .ok (.istore_n 3, 1) := by decide +kernel
theorem dX2_partIn_4 : decode cX2_partIn 4 = .ok (.iload_n 3, 1) := by decide +kernel
theorem dX2_partIn_5 : decode cX2_partIn 5 = .ok (.iload_n 1, 1) := by decide +kernel
theorem dX2_partIn_6 : decode cX2_partIn 6 = .ok (.if_icmp .ge 24, 3) := by decide +kernel
theorem dX2_partIn_9 : decode cX2_partIn 9 = .ok (.iload_n 3, 1) := by decide +kernel
theorem dX2_partIn_10 : decode cX2_partIn 10 = .ok (.aload_n 0, 1) := by decide +kernel
theorem dX2_partIn_11 : decode cX2_partIn 11 = .ok (.getfield 49, 3) := by decide +kernel
theorem dX2_partIn_14 : decode cX2_partIn 14 = .ok (.if_icmp .ge 16, 3) := by decide +kernel
theorem dX2_partIn_17 : decode cX2_partIn 17 = .ok (.aload_n 0, 1) := by decide +kernel
theorem dX2_partIn_18 : decode cX2_partIn 18 = .ok (.iload_n 3, 1) := by decide +kernel
theorem dX2_partIn_19 : decode cX2_partIn 19 = .ok (.iload_n 2, 1) := by decide +kernel
theorem dX2_partIn_20 : decode cX2_partIn 20 = .ok (.invokevirtual 94, 3) := by decide +kernel
theorem dX2_partIn_23 : decode cX2_partIn 23 = .ok (.istore_n 2, 1) := by decide +kernel
theorem dX2_partIn_24 : decode cX2_partIn 24 = .ok (.iinc 3 1, 3) := by decide +kernel
theorem dX2_partIn_27 : decode cX2_partIn 27 = .ok (.goto (-23), 3) := by decide +kernel
theorem dX2_partIn_30 : decode cX2_partIn 30 = .ok (.iload_n 1, 1) := by decide +kernel
theorem dX2_partIn_31 : decode cX2_partIn 31 = .ok (.aload_n 0, 1) := by decide +kernel
theorem dX2_partIn_32 : decode cX2_partIn 32 = .ok (.getfield 49, 3) := by decide +kernel
theorem dX2_partIn_35 : decode cX2_partIn 35 = .ok (.if_icmp .ne 20, 3) := by decide +kernel
theorem dX2_partIn_38 : decode cX2_partIn 38 = .ok (.aload_n 0, 1) := by decide +kernel
theorem dX2_partIn_39 : decode cX2_partIn 39 = .ok (.getfield 55, 3) := by decide +kernel
theorem dX2_partIn_42 : decode cX2_partIn 42 = .ok (.iload_n 2, 1) := by decide +kernel
theorem dX2_partIn_43 : decode cX2_partIn 43 = .ok (.isub, 1) := by decide +kernel
theorem dX2_partIn_44 : decode cX2_partIn 44 = .ok (.aload_n 0, 1) := by decide +kernel
theorem dX2_partIn_45 : decode cX2_partIn 45 = .ok (.getfield 52, 3) := by decide +kernel
theorem dX2_partIn_48 : decode cX2_partIn 48 = .ok (.imul, 1) := by decide +kernel
theorem dX2_partIn_49 : decode cX2_partIn 49 = .ok (.aload_n 0, 1) := by decide +kernel
theorem dX2_partIn_50 : decode cX2_partIn 50 = .ok (.getfield 58, 3) := by decide +kernel
theorem dX2_partIn_53 : decode cX2_partIn 53 = .ok (.iadd, 1) := by decide +kernel
theorem dX2_partIn_54 : decode cX2_partIn 54 = .ok (.ireturn, 1) := by decide +kernel
theorem dX2_partIn_55 : decode cX2_partIn 55 = .ok (.aload_n 0, 1) := by decide +kernel
theorem dX2_partIn_56 : decode cX2_partIn 56 = .ok (.iload_n 1, 1) := by decide +kernel
theorem dX2_partIn_57 : decode cX2_partIn 57 = .ok (.iload_n 2, 1) := by decide +kernel
theorem dX2_partIn_58 : decode cX2_partIn 58 = .ok (.invokevirtual 94, 3) := by decide +kernel
theorem dX2_partIn_61 : decode cX2_partIn 61 = .ok (.iload_n 2, 1) := by decide +kernel
theorem dX2_partIn_62 : decode cX2_partIn 62 = .ok (.isub, 1) := by decide +kernel
theorem dX2_partIn_63 : decode cX2_partIn 63 = .ok (.aload_n 0, 1) := by decide +kernel
theorem dX2_partIn_64 : decode cX2_partIn 64 = .ok (.getfield 52, 3) := by decide +kernel
theorem dX2_partIn_67 : decode cX2_partIn 67 = .ok (.imul, 1) := by decide +kernel
theorem dX2_partIn_68 : decode cX2_partIn 68 = .ok (.ireturn, 1) := by decide +kernel
theorem dX2_behind_0 : decode cX2_behind 0 = .ok (.iload_n 1, 1) := by decide +kernel
theorem dX2_behind_1 : decode cX2_behind 1 = .ok (.sipush 201, 3) := by decide +kernel
theorem dX2_behind_4 : decode cX2_behind 4 = .ok (.imul, 1) := by decide +kernel
theorem dX2_behind_5 : decode cX2_behind 5 = .ok (.iload_n 2, 1) := by decide +kernel
theorem dX2_behind_6 : decode cX2_behind 6 = .ok (.iadd, 1) := by decide +kernel
theorem dX2_behind_7 : decode cX2_behind 7 = .ok (.istore_n 3, 1) := by decide +kernel
theorem dX2_behind_8 : decode cX2_behind 8 = .ok (.iload_n 3, 1) := by decide +kernel
theorem dX2_behind_9 : decode cX2_behind 9 = .ok (.ifCond .lt 21, 3) := by decide +kernel
theorem dX2_behind_12 : decode cX2_behind 12 = .ok (.iload_n 3, 1) := by decide +kernel
theorem dX2_behind_13 : decode cX2_behind 13 = .ok (.aload_n 0, 1) := by decide +kernel
theorem dX2_behind_14 : decode cX2_behind 14 = .ok (.getfield 24, 3) := by decide +kernel
theorem dX2_behind_17 : decode cX2_behind 17 = .ok (.arraylength, 1) := by decide +kernel
theorem dX2_behind_18 : decode cX2_behind 18 = .ok (.if_icmp .ge 12, 3) := by decide +kernel
theorem dX2_behind_21 : decode cX2_behind 21 = .ok (.aload_n 0, 1) := by decide +kernel
theorem dX2_behind_22 : decode cX2_behind 22 = .ok (.getfield 24, 3) := by decide +kernel
theorem dX2_behind_25 : decode cX2_behind 25 = .ok (.iload_n 3, 1) := by decide +kernel
theorem dX2_behind_26 : decode cX2_behind 26 = .ok (.iaload, 1) := by decide +kernel
theorem dX2_behind_27 : decode cX2_behind 27 = .ok (.goto 4, 3) := by decide +kernel
theorem dX2_behind_30 : decode cX2_behind 30 = .ok (.iload_n 2, 1) := by decide +kernel
theorem dX2_behind_31 : decode cX2_behind 31 = .ok (.ireturn, 1) := by decide +kernel
theorem dX3_init_0 : decode cX3_init 0 = .ok (.aload_n 0, 1) := by decide +kernel
theorem dX3_init_1 : decode cX3_init 1 = .ok (.invokespecial 3, 3) := by decide +kernel
theorem dX3_init_4 : decode cX3_init 4 = .ok (.aload_n 0, 1) := by decide +kernel
theorem dX3_init_5 : decode cX3_init 5 = .ok (.bipush 12, 2) := by decide +kernel
theorem dX3_init_7 : decode cX3_init 7 = .ok (.newarray .int, 2) := by decide +kernel
theorem dX3_init_9 : decode cX3_init 9 = .ok (.putfield 9, 3) := by decide +kernel
theorem dX3_init_12 : decode cX3_init 12 = .ok (.aload_n 0, 1) := by decide +kernel
theorem dX3_init_13 : decode cX3_init 13 = .ok (.bipush 40, 2) := by decide +kernel
theorem dX3_init_15 : decode cX3_init 15 = .ok (.anewarray 15, 3) := by decide +kernel
theorem dX3_init_18 : decode cX3_init 18 = .ok (.putfield 17, 3) := by decide +kernel
theorem dX3_init_21 : decode cX3_init 21 = .ok (.aload_n 0, 1) := by decide +kernel
theorem dX3_init_22 : decode cX3_init 22 = .ok (.bipush 40, 2) := by decide +kernel
theorem dX3_init_24 : decode cX3_init 24 = .ok (.anewarray 21, 3) := by decide +kernel
theorem dX3_init_27 : decode cX3_init 27 = .ok (.putfield 23, 3) := by decide +kernel
theorem dX3_init_30 : decode cX3_init 30 = .ok (.aload_n 0, 1) := by decide +kernel
theorem dX3_init_31 : decode cX3_init 31 = .ok (.bipush 120, 2) := by decide +kernel
theorem dX3_init_33 : decode cX3_init 33 = .ok (.anewarray 27, 3) := by decide +kernel
theorem dX3_init_36 : decode cX3_init 36 = .ok (.putfield 29, 3) := by decide +kernel
theorem dX3_init_39 : decode cX3_init 39 = .ok (.aload_n 0, 1) := by decide +kernel
theorem dX3_init_40 : decode cX3_init 40 = .ok (.iconst 4, 1) := by decide +kernel
theorem dX3_init_41 : decode cX3_init 41 = .ok (.newarray .int, 2) := by decide +kernel
theorem dX3_init_43 : decode cX3_init 43 = .ok (.dup, 1) := by decide +kernel
theorem dX3_init_44 : decode cX3_init 44 = .ok (.iconst 0, 1) := by decide +kernel
theorem dX3_init_45 : decode cX3_init 45 = .ok (.iconst 4, 1) := by decide +kernel
theorem dX3_init_46 : decode cX3_init 46 = .ok (.iastore, 1) := by decide +kernel
theorem dX3_init_47 : decode cX3_init 47 = .ok (.dup, 1) := by decide +kernel
theorem dX3_init_48 : decode cX3_init 48 = .ok (.iconst 1, 1) := by decide +kernel
theorem dX3_init_49 : decode cX3_init 49 = .ok (.iconst 3, 1) := by decide +kernel
theorem dX3_init_50 : decode cX3_init 50 = .ok (.iastore, 1) := by decide +kernel
theorem dX3_init_51 : decode cX3_init 51 = .ok (.dup, 1) := by decide +kernel
theorem dX3_init_52 : decode cX3_init 52 = .ok (.iconst 2, 1) := by decide +kernel
theorem dX3_init_53 : decode cX3_init 53 = .ok (.iconst 2, 1) := by decide +kernel
theorem dX3_init_54 : decode cX3_init 54 = .ok (.iastore, 1) := by decide +kernel
theorem dX3_init_55 : decode cX3_init 55 = .ok (.dup, 1) := by decide +kernel
theorem dX3_init_56 : decode cX3_init 56 = .ok (.iconst 3, 1) := by decide +kernel
theorem dX3_init_57 : decode cX3_init 57 = .ok (.iconst 1, 1) := by decide +kernel
theorem dX3_init_58 : decode cX3_init 58 = .ok (.iastore, 1) := by decide +kernel
theorem dX3_init_59 : decode cX3_init 59 = .ok (.putfield 33, 3) := by decide +kernel
theorem dX3_init_62 : decode cX3_init 62 = .ok (.aload_n 0, 1) := by decide +kernel
theorem dX3_init_63 : decode cX3_init 63 = .ok (.iconst 3, 1) := by decide +kernel
theorem dX3_init_64 : decode cX3_init 64 = .ok (.newarray .int, 2) := by decide +kernel
theorem dX3_init_66 : decode cX3_init 66 = .ok (.dup, 1) := by decide +kernel
theorem dX3_init_67 : decode cX3_init 67 = .ok (.iconst 0, 1) := by decide +kernel
theorem dX3_init_68 : decode cX3_init 68 = .ok (.iconst 1, 1) := by decide +kernel
theorem dX3_init_69 : decode cX3_init 69 = .ok (.iastore, 1) := by decide +kernel
theorem dX3_init_70 : decode cX3_init 70 = .ok (.dup, 1) := by decide +kernel
theorem dX3_init_71 : decode cX3_init 71 = .ok (.iconst 1, 1) := by decide +kernel
theorem dX3_init_72 : decode cX3_init 72 = .ok (.iconst 0, 1) := by decide +kernel
theorem dX3_init_73 : decode cX3_init 73 = .ok (.iastore, 1) := by decide +kernel
theorem dX3_init_74 : decode cX3_init 74 = .ok (.dup, 1) := by decide +kernel
theorem dX3_init_75 : decode cX3_init 75 = .ok (.iconst 2, 1) := by decide +kernel
theorem dX3_init_76 : decode cX3_init 76 = .ok (.sipush 600, 3) := by decide +kernel
theorem dX3_init_79 : decode cX3_init 79 = .ok (.iastore, 1) := by decide +kernel
theorem dX3_init_80 : decode cX3_init 80 = .ok (.putfield 36, 3) := by decide +kernel
theorem dX3_init_83 : decode cX3_init 83 = .ok (.return_, 1) := by decide +kernel
theorem dX3_isUnit_0 : decode cX3_isUnit 0 = .ok (.iload_n 1, 1) := by decide +kernel
theorem dX3_isUnit_1 : decode cX3_isUnit 1 = .ok (.ifCond .lt 15, 3) := by decide +kernel
theorem dX3_isUnit_4 : decode cX3_isUnit 4 = .ok (.iload_n 1, 1) := by decide +kernel
theorem dX3_isUnit_5 : decode cX3_isUnit 5 = .ok (.aload_n 0, 1) := by decide +kernel
theorem dX3_isUnit_6 : decode cX3_isUnit 6 = .ok (.getfield 39, 3) := by decide +kernel
theorem dX3_isUnit_9 : decode cX3_isUnit 9 = .ok (.if_icmp .ge 7, 3) := by decide +kernel
theorem dX3_isUnit_12 : decode cX3_isUnit 12 = .ok (.iconst 1, 1) := by decide +kernel
theorem dX3_isUnit_13 : decode cX3_isUnit 13 = .ok (.goto 4, 3) := by decide +kernel
theorem dX3_isUnit_16 : decode cX3_isUnit 16 = .ok (.iconst 0, 1) := by decide +kernel
theorem dX3_isUnit_17 : decode cX3_isUnit 17 = .ok (.ireturn, 1) := by decide +kernel
theorem dX3_postAt_0 : decode cX3_postAt 0 = .ok (.iload_n 1, 1) := by decide +kernel
theorem dX3_postAt_1 : decode cX3_postAt 1 = .ok (.ifCond .lt 20, 3) := by decide +kernel
theorem dX3_postAt_4 : decode cX3_postAt 4 = .ok (.iload_n 1, 1) := by decide +kernel
theorem dX3_postAt_5 : decode cX3_postAt 5 = .ok (.aload_n 0, 1) := by decide +kernel
theorem dX3_postAt_6 : decode cX3_postAt 6 = .ok (.getfield 43, 3) := by decide +kernel
theorem dX3_postAt_9 : decode cX3_postAt 9 = .ok (.if_icmp .ge 12, 3) := by decide +kernel
theorem dX3_postAt_12 : decode cX3_postAt 12 = .ok (.aload_n 0, 1) := by decide +kernel
theorem dX3_postAt_13 : decode cX3_postAt 13 = .ok (.getfield 17, 3) := by decide +kernel
theorem dX3_postAt_16 : decode cX3_postAt 16 = .ok (.iload_n 1, 1) := by decide +kernel
theorem dX3_postAt_17 : decode cX3_postAt 17 = .ok (.aaload, 1) := by decide +kernel
theorem dX3_postAt_18 : decode cX3_postAt 18 = .ok (.goto 4, 3) := by decide +kernel
theorem dX3_postAt_21 : decode cX3_postAt 21 = .ok (.aconst_null, 1) := by decide +kernel
theorem dX3_postAt_22 : decode cX3_postAt 22 = .ok (.areturn, 1) := by decide +kernel
theorem dX3_personAt_0 : decode cX3_personAt 0 = .ok (.iload_n 1, 1) := by decide +kernel
theorem dX3_personAt_1 : decode cX3_personAt 1 = .ok (.ifCond .lt 20, 3) := by decide +kernel
theorem dX3_personAt_4 : decode cX3_personAt 4 = .ok (.iload_n 1, 1) := by decide +kernel
theorem dX3_personAt_5 : decode cX3_personAt 5 = .ok (.aload_n 0, 1) := by decide +kernel
theorem dX3_personAt_6 : decode cX3_personAt 6 = .ok (.getfield 46, 3) := by decide +kernel
theorem dX3_personAt_9 : decode cX3_personAt 9 = .ok (.if_icmp .ge 12, 3) := by decide +kernel
theorem dX3_personAt_12 : decode cX3_personAt 12 = .ok (.aload_n 0, 1) := by decide +kernel
theorem dX3_personAt_13 : decode cX3_personAt 13 = .ok (.getfield 23, 3) := by decide +kernel
theorem dX3_personAt_16 : decode cX3_personAt 16 = .ok (.iload_n 1, 1) := by decide +kernel
theorem dX3_personAt_17 : decode cX3_personAt 17 = .ok (.aaload, 1) := by decide +kernel
theorem dX3_personAt_18 : decode cX3_personAt 18 = .ok (.goto 4, 3) := by decide +kernel
theorem dX3_personAt_21 : decode cX3_personAt 21 = .ok (.aconst_null, 1) := by decide +kernel
theorem dX3_personAt_22 : decode cX3_personAt 22 = .ok (.areturn, 1) := by decide +kernel
theorem dX3_tellingAt_0 : decode cX3_tellingAt 0 = .ok (.iload_n 1, 1) := by decide +kernel
theorem dX3_tellingAt_1 : decode cX3_tellingAt 1 = .ok (.ifCond .lt 20, 3) := by decide +kernel
theorem dX3_tellingAt_4 : decode cX3_tellingAt 4 = .ok (.iload_n 1, 1) := by decide +kernel
theorem dX3_tellingAt_5 : decode cX3_tellingAt 5 = .ok (.aload_n 0, 1) := by decide +kernel
theorem dX3_tellingAt_6 : decode cX3_tellingAt 6 = .ok (.getfield 49, 3) := by decide +kernel
theorem dX3_tellingAt_9 : decode cX3_tellingAt 9 = .ok (.if_icmp .ge 12, 3) := by decide +kernel
theorem dX3_tellingAt_12 : decode cX3_tellingAt 12 = .ok (.aload_n 0, 1) := by decide +kernel
theorem dX3_tellingAt_13 : decode cX3_tellingAt 13 = .ok (.getfield 29, 3) := by decide +kernel
theorem dX3_tellingAt_16 : decode cX3_tellingAt 16 = .ok (.iload_n 1, 1) := by decide +kernel
theorem dX3_tellingAt_17 : decode cX3_tellingAt 17 = .ok (.aaload, 1) := by decide +kernel
theorem dX3_tellingAt_18 : decode cX3_tellingAt 18 = .ok (.goto 4, 3) := by decide +kernel
theorem dX3_tellingAt_21 : decode cX3_tellingAt 21 = .ok (.aconst_null, 1) := by decide +kernel
theorem dX3_tellingAt_22 : decode cX3_tellingAt 22 = .ok (.areturn, 1) := by decide +kernel
theorem dX3_addUnit_0 : decode cX3_addUnit 0 = .ok (.aload_n 0, 1) := by decide +kernel
theorem dX3_addUnit_1 : decode cX3_addUnit 1 = .ok (.getfield 39, 3) := by decide +kernel
theorem dX3_addUnit_4 : decode cX3_addUnit 4 = .ok (.istore_n 2, 1) := by decide +kernel
theorem dX3_addUnit_5 : decode cX3_addUnit 5 = .ok (.iload_n 2, 1) := by decide +kernel
theorem dX3_addUnit_6 : decode cX3_addUnit 6 = .ok (.bipush 12, 2) := by decide +kernel
theorem dX3_addUnit_8 : decode cX3_addUnit 8 = .ok (.if_icmp .ge 41, 3) := by decide +kernel
theorem dX3_addUnit_11 : decode cX3_addUnit 11 = .ok (.aload_n 0, 1) := by decide +kernel
theorem dX3_addUnit_12 : decode cX3_addUnit 12 = .ok (.getfield 9, 3) := by decide +kernel
theorem dX3_addUnit_15 : decode cX3_addUnit 15 = .ok (.iload_n 2, 1) := by decide +kernel
theorem dX3_addUnit_16 : decode cX3_addUnit 16 = .ok (.iconst 1, 1) := by decide +kernel
theorem dX3_addUnit_17 : decode cX3_addUnit 17 = .ok (.iload_n 2, 1) := by decide +kernel
theorem dX3_addUnit_18 : decode cX3_addUnit 18 = .ok (.ishl, 1) := by decide +kernel
theorem dX3_addUnit_19 : decode cX3_addUnit 19 = .ok (.aload_n 0, 1) := by decide +kernel
theorem dX3_addUnit_20 : decode cX3_addUnit 20 = .ok (.iload_n 1, 1) := by decide +kernel
theorem dX3_addUnit_21 : decode cX3_addUnit 21 = .ok (.invokevirtual 52, 3) := by decide +kernel
theorem dX3_addUnit_24 : decode cX3_addUnit 24 = .ok (.ifCond .eq 12, 3) := by decide +kernel
theorem dX3_addUnit_27 : decode cX3_addUnit 27 = .ok (.aload_n 0, 1) := by decide +kernel
theorem dX3_addUnit_28 : decode cX3_addUnit 28 = .ok (.getfield 9, 3) := by decide +kernel
theorem dX3_addUnit_31 : decode cX3_addUnit 31 = .ok (.iload_n 1, 1) := by decide +kernel
theorem dX3_addUnit_32 : decode cX3_addUnit 32 = .ok (.iaload, 1) := by decide +kernel
theorem dX3_addUnit_33 : decode cX3_addUnit 33 = .ok (.goto 4, 3) := by decide +kernel
theorem dX3_addUnit_36 : decode cX3_addUnit 36 = .ok (.iconst 0, 1) := by decide +kernel
theorem dX3_addUnit_37 : decode cX3_addUnit 37 = .ok (.ior, 1) := by decide +kernel
theorem dX3_addUnit_38 : decode cX3_addUnit 38 = .ok (.iastore, 1) := by decide +kernel
theorem dX3_addUnit_39 : decode cX3_addUnit 39 = .ok (.aload_n 0, 1) := by decide +kernel
theorem dX3_addUnit_40 : decode cX3_addUnit 40 = .ok (.dup, 1) := by decide +kernel
theorem dX3_addUnit_41 : decode cX3_addUnit 41 = .ok (.getfield 39, 3) := by decide +kernel
theorem dX3_addUnit_44 : decode cX3_addUnit 44 = .ok (.iconst 1, 1) := by decide +kernel
theorem dX3_addUnit_45 : decode cX3_addUnit 45 = .ok (.iadd, 1) := by decide +kernel
theorem dX3_addUnit_46 : decode cX3_addUnit 46 = .ok (.putfield 39, 3) := by decide +kernel
theorem dX3_addUnit_49 : decode cX3_addUnit 49 = .ok (.iload_n 2, 1) := by decide +kernel
theorem dX3_addUnit_50 : decode cX3_addUnit 50 = .ok (.ireturn, 1) := by decide +kernel
theorem dX3_addPost_0 : decode cX3_addPost 0 = .ok (.aload_n 0, 1) := by decide +kernel
theorem dX3_addPost_1 : decode cX3_addPost 1 = .ok (.getfield 43, 3) := by decide +kernel
theorem dX3_addPost_4 : decode cX3_addPost 4 = .ok (.istore_n 2, 1) := by decide +kernel
theorem dX3_addPost_5 : decode cX3_addPost 5 = .ok (.iload_n 2, 1) := by decide +kernel
theorem dX3_addPost_6 : decode cX3_addPost 6 = .ok (.bipush 40, 2) := by decide +kernel
theorem dX3_addPost_8 : decode cX3_addPost 8 = .ok (.if_icmp .ge 20, 3) := by decide +kernel
theorem dX3_addPost_11 : decode cX3_addPost 11 = .ok (.aload_n 0, 1) := by decide +kernel
theorem dX3_addPost_12 : decode cX3_addPost 12 = .ok (.getfield 17, 3) := by decide +kernel
theorem dX3_addPost_15 : decode cX3_addPost 15 = .ok (.iload_n 2, 1) := by decide +kernel
theorem dX3_addPost_16 : decode cX3_addPost 16 = .ok (.aload_n 1, 1) := by decide +kernel
theorem dX3_addPost_17 : decode cX3_addPost 17 = .ok (.aastore, 1) := by decide +kernel
theorem dX3_addPost_18 : decode cX3_addPost 18 = .ok (.aload_n 0, 1) := by decide +kernel
theorem dX3_addPost_19 : decode cX3_addPost 19 = .ok (.dup, 1) := by decide +kernel
theorem dX3_addPost_20 : decode cX3_addPost 20 = .ok (.getfield 43, 3) := by decide +kernel
theorem dX3_addPost_23 : decode cX3_addPost 23 = .ok (.iconst 1, 1) := by decide +kernel
theorem dX3_addPost_24 : decode cX3_addPost 24 = .ok (.iadd, 1) := by decide +kernel
theorem dX3_addPost_25 : decode cX3_addPost 25 = .ok (.putfield 43, 3) := by decide +kernel
theorem dX3_addPost_28 : decode cX3_addPost 28 = .ok (.iload_n 2, 1) := by decide +kernel
theorem dX3_addPost_29 : decode cX3_addPost 29 = .ok (.ireturn, 1) := by decide +kernel
theorem dX3_addPerson_0 : decode cX3_addPerson 0 = .ok (.aload_n 0, 1) := by decide +kernel
theorem dX3_addPerson_1 : decode cX3_addPerson 1 = .ok (.getfield 46, 3) := by decide +kernel
theorem dX3_addPerson_4 : decode cX3_addPerson 4 = .ok (.istore_n 2, 1) := by decide +kernel
theorem dX3_addPerson_5 : decode cX3_addPerson 5 = .ok (.iload_n 2, 1) := by decide +kernel
theorem dX3_addPerson_6 : decode cX3_addPerson 6 = .ok (.bipush 40, 2) := by decide +kernel
theorem dX3_addPerson_8 : decode cX3_addPerson 8 = .ok (.if_icmp .ge 20, 3) := by decide +kernel
theorem dX3_addPerson_11 : decode cX3_addPerson 11 = .ok (.aload_n 0, 1) := by decide +kernel
theorem dX3_addPerson_12 : decode cX3_addPerson 12 = .ok (.getfield 23, 3) := by decide +kernel
theorem dX3_addPerson_15 : decode cX3_addPerson 15 = .ok (.iload_n 2, 1) := by decide +kernel
theorem dX3_addPerson_16 : decode cX3_addPerson 16 = .ok (.aload_n 1, 1) := by decide +kernel
theorem dX3_addPerson_17 : decode cX3_addPerson 17 = .ok (.aastore, 1) := by decide +kernel
theorem dX3_addPerson_18 : decode cX3_addPerson 18 = .ok (.aload_n 0, 1) := by decide +kernel
theorem dX3_addPerson_19 : decode cX3_addPerson 19 = .ok (.dup, 1) := by decide +kernel
theorem dX3_addPerson_20 : decode cX3_addPerson 20 = .ok (.getfield 46, 3) := by decide +kernel
theorem dX3_addPerson_23 : decode cX3_addPerson 23 = .ok (.iconst 1, 1) := by decide +kernel
theorem dX3_addPerson_24 : decode cX3_addPerson 24 = .ok (.iadd, 1) := by decide +kernel
theorem dX3_addPerson_25 : decode cX3_addPerson 25 = .ok (.putfield 46, 3) := by decide +kernel
theorem dX3_addPerson_28 : decode cX3_addPerson 28 = .ok (.iload_n 2, 1) := by decide +kernel
theorem dX3_addPerson_29 : decode cX3_addPerson 29 = .ok (.ireturn, 1) := by decide +kernel
theorem dX3_addTelling_0 : decode cX3_addTelling 0 = .ok (.aload_n 0, 1) := by decide +kernel
theorem dX3_addTelling_1 : decode cX3_addTelling 1 = .ok (.getfield 49, 3) := by decide +kernel
theorem dX3_addTelling_4 : decode cX3_addTelling 4 = .ok (.istore 4, 2) := by decide +kernel
theorem dX3_addTelling_6 : decode cX3_addTelling 6 = .ok (.iload 4, 2) := by decide +kernel
theorem dX3_addTelling_8 : decode cX3_addTelling 8 = .ok (.bipush 120, 2) := by decide +kernel
theorem dX3_addTelling_10 : decode cX3_addTelling 10 = .ok (.if_icmp .ge 49, 3) := by decide +kernel
theorem dX3_addTelling_13 : decode cX3_addTelling 13 = .ok (.new 27, 3) := by decide +kernel
theorem dX3_addTelling_16 : decode cX3_addTelling 16 = .ok (.dup, 1) := by decide +kernel
theorem dX3_addTelling_17 : decode cX3_addTelling 17 = .ok (.aload_n 1, 1) := by decide +kernel
theorem dX3_addTelling_18 : decode cX3_addTelling 18 = .ok (.iload_n 2, 1) := by decide +kernel
theorem dX3_addTelling_19 : decode cX3_addTelling 19 = .ok (.aload_n 0, 1) := by decide +kernel
theorem dX3_addTelling_20 : decode cX3_addTelling 20 = .ok (.getfield 56, 3) := by decide +kernel
theorem dX3_addTelling_23 : decode cX3_addTelling 23 = .ok (.iload_n 3, 1) := by decide +kernel
theorem dX3_addTelling_24 : decode cX3_addTelling 24 = .ok (.aload_n 1, 1) := by decide +kernel
theorem dX3_addTelling_25 : decode cX3_addTelling 25 = .ok (.iload_n 2, 1) := by decide +kernel
theorem dX3_addTelling_26 : decode cX3_addTelling 26 = .ok (.invokevirtual 59, 3) := by decide +kernel
theorem dX3_addTelling_29 : decode cX3_addTelling 29 = .ok (.invokespecial 63, 3) := by decide +kernel
theorem dX3_addTelling_32 : decode cX3_addTelling 32 = .ok (.astore 5, 2) := by decide +kernel
theorem dX3_addTelling_34 : decode cX3_addTelling 34 = .ok (.aload_n 0, 1) := by decide +kernel
theorem dX3_addTelling_35 : decode cX3_addTelling 35 = .ok (.getfield 29, 3) := by decide +kernel
theorem dX3_addTelling_38 : decode cX3_addTelling 38 = .ok (.iload 4, 2) := by decide +kernel
theorem dX3_addTelling_40 : decode cX3_addTelling 40 = .ok (.aload 5, 2) := by decide +kernel
theorem dX3_addTelling_42 : decode cX3_addTelling 42 = .ok (.aastore, 1) := by decide +kernel
theorem dX3_addTelling_43 : decode cX3_addTelling 43 = .ok (.aload_n 1, 1) := by decide +kernel
theorem dX3_addTelling_44 : decode cX3_addTelling 44 = .ok (.aload 5, 2) := by decide +kernel
theorem dX3_addTelling_46 : decode cX3_addTelling 46 = .ok (.invokevirtual 66, 3) := by decide +kernel
theorem dX3_addTelling_49 : decode cX3_addTelling 49 = .ok (.aload_n 0, 1) := by decide +kernel
theorem dX3_addTelling_50 : decode cX3_addTelling 50 = .ok (.dup, 1) := by decide +kernel
theorem dX3_addTelling_51 : decode cX3_addTelling 51 = .ok (.getfield 49, 3) := by decide +kernel
theorem dX3_addTelling_54 : decode cX3_addTelling 54 = .ok (.iconst 1, 1) := by decide +kernel
theorem dX3_addTelling_55 : decode cX3_addTelling 55 = .ok (.iadd, 1) := by decide +kernel
theorem dX3_addTelling_56 : decode cX3_addTelling 56 = .ok (.putfield 49, 3) := by decide +kernel
theorem dX3_addTelling_59 : decode cX3_addTelling 59 = .ok (.iload 4, 2) := by decide +kernel
theorem dX3_addTelling_61 : decode cX3_addTelling 61 = .ok (.ireturn, 1) := by decide +kernel
theorem dX3_isOpenBelow_0 : decode cX3_isOpenBelow 0 = .ok (.aload_n 1, 1) := by decide +kernel
theorem dX3_isOpenBelow_1 : decode cX3_isOpenBelow 1 = .ok (.invokevirtual 70, 3) := by decide +kernel
theorem dX3_isOpenBelow_4 : decode cX3_isOpenBelow 4 = .ok (.ifCond .eq 43, 3) := by decide +kernel
theorem dX3_isOpenBelow_7 : decode cX3_isOpenBelow 7 = .ok (.aload_n 0, 1) := by decide +kernel
theorem dX3_isOpenBelow_8 : decode cX3_isOpenBelow 8 = .ok (.aload_n 1, 1) := by decide +kernel
theorem dX3_isOpenBelow_9 : decode cX3_isOpenBelow 9 = .ok (.getfield 74, 3) := by decide +kernel
theorem dX3_isOpenBelow_12 : decode cX3_isOpenBelow 12 = .ok (.invokevirtual 52, 3) := by decide +kernel
theorem dX3_isOpenBelow_15 : decode cX3_isOpenBelow 15 = .ok (.ifCond .eq 32, 3) := by decide +kernel
theorem dX3_isOpenBelow_18 : decode cX3_isOpenBelow 18 = .ok (.aload_n 0, 1) := by decide +kernel
theorem dX3_isOpenBelow_19 : decode cX3_isOpenBelow 19 = .ok (.iload_n 2, 1) := by decide +kernel
theorem dX3_isOpenBelow_20 : decode cX3_isOpenBelow 20 = .ok (.invokevirtual 52, 3) := by decide +kernel
theorem dX3_isOpenBelow_23 : decode cX3_isOpenBelow 23 = .ok (.ifCond .eq 24, 3) := by decide +kernel
theorem dX3_isOpenBelow_26 : decode cX3_isOpenBelow 26 = .ok (.aload_n 0, 1) := by decide +kernel
theorem dX3_isOpenBelow_27 : decode cX3_isOpenBelow 27 = .ok (.getfield 9, 3) := by decide +kernel
theorem dX3_isOpenBelow_30 : decode cX3_isOpenBelow 30 = .ok (.aload_n 1, 1) := by decide +kernel
theorem dX3_isOpenBelow_31 : decode cX3_isOpenBelow 31 = .ok (.getfield 74, 3) := by decide +kernel
theorem dX3_isOpenBelow_34 : decode cX3_isOpenBelow 34 = .ok (.iaload, 1) := by decide +kernel
theorem dX3_isOpenBelow_35 : decode cX3_isOpenBelow 35 = .ok (.iload_n 2, 1) := by decide +kernel
theorem dX3_isOpenBelow_36 : decode cX3_isOpenBelow 36 = .ok (.ishr, 1) := by decide +kernel
theorem dX3_isOpenBelow_37 : decode cX3_isOpenBelow 37 = .ok (.iconst 1, 1) := by decide +kernel
theorem dX3_isOpenBelow_38 : decode cX3_isOpenBelow 38 = .ok (.iand, 1) := by decide +kernel
theorem dX3_isOpenBelow_39 : decode cX3_isOpenBelow 39 = .ok (.iconst 1, 1) := by decide +kernel
theorem dX3_isOpenBelow_40 : decode cX3_isOpenBelow 40 = .ok (.if_icmp .ne 7, 3) := by decide +kernel
theorem dX3_isOpenBelow_43 : decode cX3_isOpenBelow 43 = .ok (.iconst 1, 1) := by decide +kernel
theorem dX3_isOpenBelow_44 : decode cX3_isOpenBelow 44 = .ok (.goto 4, 3) := by decide +kernel
theorem dX3_isOpenBelow_47 : decode cX3_isOpenBelow 47 = .ok (.iconst 0, 1) := by decide +kernel
theorem dX3_isOpenBelow_48 : decode cX3_isOpenBelow 48 = .ok (.ireturn, 1) := by decide +kernel
theorem dX3_isAlike_0 : decode cX3_isAlike 0 = .ok (.aload_n 1, 1) := by decide +kernel
theorem dX3_isAlike_1 : decode cX3_isAlike 1 = .ok (.getfield 77, 3) := by decide +kernel
theorem dX3_isAlike_4 : decode cX3_isAlike 4 = .ok (.aload_n 2, 1) := by decide +kernel
theorem dX3_isAlike_5 : decode cX3_isAlike 5 = .ok (.getfield 77, 3) := by decide +kernel
theorem dX3_isAlike_8 : decode cX3_isAlike 8 = .ok (.if_icmp .ne 19, 3) := by decide +kernel
theorem dX3_isAlike_11 : decode cX3_isAlike 11 = .ok (.aload_n 1, 1) := by decide +kernel
theorem dX3_isAlike_12 : decode cX3_isAlike 12 = .ok (.getfield 80, 3) := by decide +kernel
theorem dX3_isAlike_15 : decode cX3_isAlike 15 = .ok (.aload_n 2, 1) := by decide +kernel
theorem dX3_isAlike_16 : decode cX3_isAlike 16 = .ok (.getfield 80, 3) := by decide +kernel
theorem dX3_isAlike_19 : decode cX3_isAlike 19 = .ok (.isub, 1) := by decide +kernel
theorem dX3_isAlike_20 : decode cX3_isAlike 20 = .ok (.invokestatic 83, 3) := by decide +kernel
theorem dX3_isAlike_23 : decode cX3_isAlike 23 = .ok (.iconst 1, 1) := by decide +kernel
theorem dX3_isAlike_24 : decode cX3_isAlike 24 = .ok (.if_icmp .le 5, 3) := by decide +kernel
theorem dX3_isAlike_27 : decode cX3_isAlike 27 = .ok (.iconst 0, 1) := by decide +kernel
theorem dX3_isAlike_28 : decode cX3_isAlike 28 = .ok (.ireturn, 1) := by decide +kernel
theorem dX3_isAlike_29 : decode cX3_isAlike 29 = .ok (.aload_n 1, 1) := by decide +kernel
theorem dX3_isAlike_30 : decode cX3_isAlike 30 = .ok (.getfield 89, 3) := by decide +kernel
theorem dX3_isAlike_33 : decode cX3_isAlike 33 = .ok (.ifCond .ne 12, 3) := by decide +kernel
theorem dX3_isAlike_36 : decode cX3_isAlike 36 = .ok (.aload_n 2, 1) := by decide +kernel
theorem dX3_isAlike_37 : decode cX3_isAlike 37 = .ok (.getfield 89, 3) := by decide +kernel
theorem dX3_isAlike_40 : decode cX3_isAlike 40 = .ok (.ifCond .ne 5, 3) := by decide +kernel
theorem dX3_isAlike_43 : decode cX3_isAlike 43 = .ok (.iconst 1, 1) := by decide +kernel
theorem dX3_isAlike_44 : decode cX3_isAlike 44 = .ok (.ireturn, 1) := by decide +kernel
theorem dX3_isAlike_45 : decode cX3_isAlike 45 = .ok (.aload_n 1, 1) := by decide +kernel
theorem dX3_isAlike_46 : decode cX3_isAlike 46 = .ok (.getfield 89, 3) := by decide +kernel
theorem dX3_isAlike_49 : decode cX3_isAlike 49 = .ok (.aload_n 2, 1) := by decide +kernel
theorem dX3_isAlike_50 : decode cX3_isAlike 50 = .ok (.getfield 89, 3) := by decide +kernel
theorem dX3_isAlike_53 : decode cX3_isAlike 53 = .ok (.iand, 1) := by decide +kernel
theorem dX3_isAlike_54 : decode cX3_isAlike 54 = .ok (.invokestatic 92, 3) := by decide +kernel
theorem dX3_isAlike_57 : decode cX3_isAlike 57 = .ok (.aload_n 0, 1) := by decide +kernel
theorem dX3_isAlike_58 : decode cX3_isAlike 58 = .ok (.getfield 36, 3) := by decide +kernel
theorem dX3_isAlike_61 : decode cX3_isAlike 61 = .ok (.iconst 0, 1) := by decide +kernel
theorem dX3_isAlike_62 : decode cX3_isAlike 62 = .ok (.iaload, 1) := by decide +kernel
theorem dX3_isAlike_63 : decode cX3_isAlike 63 = .ok (.if_icmp .lt 7, 3) := by decide +kernel
theorem dX3_isAlike_66 : decode cX3_isAlike 66 = .ok (.iconst 1, 1) := by decide +kernel
theorem dX3_isAlike_67 : decode cX3_isAlike 67 = .ok (.goto 4, 3) := by decide +kernel
theorem dX3_isAlike_70 : decode cX3_isAlike 70 = .ok (.iconst 0, 1) := by decide +kernel
theorem dX3_isAlike_71 : decode cX3_isAlike 71 = .ok (.ireturn, 1) := by decide +kernel
theorem dX3_isProtected_0 : decode cX3_isProtected 0 = .ok (.aload_n 0, 1) := by decide +kernel
theorem dX3_isProtected_1 : decode cX3_isProtected 1 = .ok (.getfield 56, 3) := by decide +kernel
theorem dX3_isProtected_4 : decode cX3_isProtected 4 = .ok (.aload_n 1, 1) := by decide +kernel
theorem dX3_isProtected_5 : decode cX3_isProtected 5 = .ok (.getfield 97, 3) := by decide +kernel
theorem dX3_isProtected_8 : decode cX3_isProtected 8 = .ok (.if_icmp .gt 7, 3) := by decide +kernel
theorem dX3_isProtected_11 : decode cX3_isProtected 11 = .ok (.iconst 1, 1) := by decide +kernel
theorem dX3_isProtected_12 : decode cX3_isProtected 12 = .ok (.goto 4, 3) := by decide +kernel
theorem dX3_isProtected_15 : decode cX3_isProtected 15 = .ok (.iconst 0, 1) := by decide +kernel
theorem dX3_isProtected_16 : decode cX3_isProtected 16 = .ok (.ireturn, 1) := by decide +kernel
theorem dX3_wholeYears_0 : decode cX3_wholeYears 0 = .ok (.aload_n 0, 1) := by decide +kernel
theorem dX3_wholeYears_1 : decode cX3_wholeYears 1 = .ok (.getfield 56, 3) := by decide +kernel
theorem dX3_wholeYears_4 : decode cX3_wholeYears 4 = .ok (.aload_n 1, 1) := by decide +kernel
theorem dX3_wholeYears_5 : decode cX3_wholeYears 5 = .ok (.getfield 100, 3) := by decide +kernel
theorem dX3_wholeYears_8 : decode cX3_wholeYears 8 = .ok (.isub, 1) := by decide +kernel
theorem dX3_wholeYears_9 : decode cX3_wholeYears 9 = .ok (.sipush 365, 3) := by decide +kernel
theorem dX3_wholeYears_12 : decode cX3_wholeYears 12 = .ok (.idiv, 1) := by decide +kernel
theorem dX3_wholeYears_13 : decode cX3_wholeYears 13 = .ok (.ireturn, 1) := by decide +kernel
theorem dX3_severanceOf_0 : decode cX3_severanceOf 0 = .ok (.aload_n 0, 1) := by decide +kernel
theorem dX3_severanceOf_1 : decode cX3_severanceOf 1 = .ok (.aload_n 1, 1) := by decide +kernel
theorem dX3_severanceOf_2 : decode cX3_severanceOf 2 = .ok (.invokevirtual 103, 3) := by decide +kernel
theorem dX3_severanceOf_5 : decode cX3_severanceOf 5 = .ok (.bipush 30, 2) := by decide +kernel
theorem dX3_severanceOf_7 : decode cX3_severanceOf 7 = .ok (.invokestatic 107, 3) := by decide +kernel
theorem dX3_severanceOf_10 : decode cX3_severanceOf 10 = .ok (.aload_n 1, 1) := by decide +kernel
theorem dX3_severanceOf_11 : decode cX3_severanceOf 11 = .ok (.getfield 111, 3) := by decide +kernel
theorem dX3_severanceOf_14 : decode cX3_severanceOf 14 = .ok (.aload_n 0, 1) := by decide +kernel
theorem dX3_severanceOf_15 : decode cX3_severanceOf 15 = .ok (.getfield 36, 3) := by decide +kernel
theorem dX3_severanceOf_18 : decode cX3_severanceOf 18 = .ok (.iconst 2, 1) := by decide +kernel
theorem dX3_severanceOf_19 : decode cX3_severanceOf 19 = .ok (.iaload, 1) := by decide +kernel
theorem dX3_severanceOf_20 : decode cX3_severanceOf 20 = .ok (.invokestatic 107, 3) := by decide +kernel
theorem dX3_severanceOf_23 : decode cX3_severanceOf 23 = .ok (.imul, 1) := by decide +kernel
theorem dX3_severanceOf_24 : decode cX3_severanceOf 24 = .ok (.ireturn, 1) := by decide +kernel
theorem dX3_partAsOf_0 : decode cX3_partAsOf 0 = .ok (.aload_n 1, 1) := by decide +kernel
theorem dX3_partAsOf_1 : decode cX3_partAsOf 1 = .ok (.getfield 114, 3) := by decide +kernel
theorem dX3_partAsOf_4 : decode cX3_partAsOf 4 = .ok (.astore 4, 2) := by decide +kernel
theorem dX3_partAsOf_6 : decode cX3_partAsOf 6 = .ok (.iload_n 2, 1) := by decide +kernel
theorem dX3_partAsOf_7 : decode cX3_partAsOf 7 = .ok (.tableswitch 76 0 3 #[29, 36, 52, 63], 29) := by decide +kernel
theorem dX3_partAsOf_36 : decode cX3_partAsOf 36 = .ok (.aload_n 1, 1) := by decide +kernel
theorem dX3_partAsOf_37 : decode cX3_partAsOf 37 = .ok (.iconst 0, 1) := by decide +kernel
theorem dX3_partAsOf_38 : decode cX3_partAsOf 38 = .ok (.iload_n 3, 1) := by decide +kernel
theorem dX3_partAsOf_39 : decode cX3_partAsOf 39 = .ok (.invokevirtual 118, 3) := by decide +kernel
theorem dX3_partAsOf_42 : decode cX3_partAsOf 42 = .ok (.ireturn, 1) := by decide +kernel
theorem dX3_partAsOf_43 : decode cX3_partAsOf 43 = .ok (.aload 4, 2) := by decide +kernel
theorem dX3_partAsOf_45 : decode cX3_partAsOf 45 = .ok (.ifnonnull 7, 3) := by decide +kernel
theorem dX3_partAsOf_48 : decode cX3_partAsOf 48 = .ok (.iconst 0, 1) := by decide +kernel
theorem dX3_partAsOf_49 : decode cX3_partAsOf 49 = .ok (.goto 9, 3) := by decide +kernel
theorem dX3_partAsOf_52 : decode cX3_partAsOf 52 = .ok (.aload_n 1, 1) := by decide +kernel
theorem dX3_partAsOf_53 : decode cX3_partAsOf 53 = .ok (.aload 4, 2) := by decide +kernel
theorem dX3_partAsOf_55 : decode cX3_partAsOf 55 = .ok (.invokestatic 121, 3) := by decide +kernel
theorem dX3_partAsOf_58 : decode cX3_partAsOf 58 = .ok (.ireturn, 1) := by decide +kernel
theorem dX3_partAsOf_59 : decode cX3_partAsOf 59 = .ok (.aload_n 0, 1) := by decide +kernel
theorem dX3_partAsOf_60 : decode cX3_partAsOf 60 = .ok (.aload_n 1, 1) := by decide +kernel
theorem dX3_partAsOf_61 : decode cX3_partAsOf 61 = .ok (.iconst 1, 1) := by decide +kernel
theorem dX3_partAsOf_62 : decode cX3_partAsOf 62 = .ok (.iload_n 3, 1) := by decide +kernel
theorem dX3_partAsOf_63 : decode cX3_partAsOf 63 = .ok (.invokevirtual 118, 3) := by decide +kernel
theorem dX3_partAsOf_66 : decode cX3_partAsOf 66 = .ok (.invokevirtual 125, 3) := by decide +kernel
theorem dX3_partAsOf_69 : decode cX3_partAsOf 69 = .ok (.ireturn, 1) := by decide +kernel
theorem dX3_partAsOf_70 : decode cX3_partAsOf 70 = .ok (.iconst 5, 1) := by decide +kernel
theorem dX3_partAsOf_71 : decode cX3_partAsOf 71 = .ok (.aload_n 0, 1) := by decide +kernel
theorem dX3_partAsOf_72 : decode cX3_partAsOf 72 = .ok (.aload_n 1, 1) := by decide +kernel
theorem dX3_partAsOf_73 : decode cX3_partAsOf 73 = .ok (.invokevirtual 103, 3) := by decide +kernel
theorem dX3_partAsOf_76 : decode cX3_partAsOf 76 = .ok (.imul, 1) := by decide +kernel
theorem dX3_partAsOf_77 : decode cX3_partAsOf 77 = .ok (.bipush 100, 2) := by decide +kernel
theorem dX3_partAsOf_79 : decode cX3_partAsOf 79 = .ok (.invokestatic 107, 3) := by decide +kernel
theorem dX3_partAsOf_82 : decode cX3_partAsOf 82 = .ok (.ireturn, 1) := by decide +kernel
theorem dX3_partAsOf_83 : decode cX3_partAsOf 83 = .ok (.iconst 0, 1) := by decide +kernel
theorem dX3_partAsOf_84 : decode cX3_partAsOf 84 = .ok (.ireturn, 1) := by decide +kernel
theorem dX3_recordOf_0 : decode cX3_recordOf 0 = .ok (.bipush 100, 2) := by decide +kernel
theorem dX3_recordOf_2 : decode cX3_recordOf 2 = .ok (.bipush 20, 2) := by decide +kernel
theorem dX3_recordOf_4 : decode cX3_recordOf 4 = .ok (.iload_n 1, 1) := by decide +kernel
theorem dX3_recordOf_5 : decode cX3_recordOf 5 = .ok (.imul, 1) := by decide +kernel
theorem dX3_recordOf_6 : decode cX3_recordOf 6 = .ok (.isub, 1) := by decide +kernel
theorem dX3_recordOf_7 : decode cX3_recordOf 7 = .ok (.iconst 0, 1) := by decide +kernel
theorem dX3_recordOf_8 : decode cX3_recordOf 8 = .ok (.invokestatic 128, 3) := by decide +kernel
theorem dX3_recordOf_11 : decode cX3_recordOf 11 = .ok (.ireturn, 1) := by decide +kernel
theorem dX3_markAsOf_0 : decode cX3_markAsOf 0 = .ok (.iconst 0, 1) := by decide +kernel
theorem dX3_markAsOf_1 : decode cX3_markAsOf 1 = .ok (.istore_n 3, 1) := by decide +kernel
theorem dX3_markAsOf_2 : decode cX3_markAsOf 2 = .ok (.iconst 0, 1) := by decide +kernel
theorem dX3_markAsOf_3 : decode cX3_markAsOf 3 = .ok (.istore 4, 2) := by decide +kernel
theorem dX3_markAsOf_5 : decode cX3_markAsOf 5 = .ok (.iload 4, 2) := by decide +kernel
theorem dX3_markAsOf_7 : decode cX3_markAsOf 7 = .ok (.iconst 4, 1) := by decide +kernel
theorem dX3_markAsOf_8 : decode cX3_markAsOf 8 = .ok (.if_icmp .ge 28, 3) := by decide +kernel
theorem dX3_markAsOf_11 : decode cX3_markAsOf 11 = .ok (.iload_n 3, 1) := by decide +kernel
theorem dX3_markAsOf_12 : decode cX3_markAsOf 12 = .ok (.aload_n 0, 1) := by decide +kernel
theorem dX3_markAsOf_13 : decode cX3_markAsOf 13 = .ok (.getfield 33, 3) := by decide +kernel
theorem dX3_markAsOf_16 : decode cX3_markAsOf 16 = .ok (.iload 4, 2) := by decide +kernel
theorem dX3_markAsOf_18 : decode cX3_markAsOf 18 = .ok (.iaload, 1) := by decide +kernel
theorem dX3_markAsOf_19 : decode cX3_markAsOf 19 = .ok (.aload_n 0, 1) := by decide +kernel
theorem dX3_markAsOf_20 : decode cX3_markAsOf 20 = .ok (.aload_n 1, 1) := by decide +kernel
theorem dX3_markAsOf_21 : decode cX3_markAsOf 21 = .ok (.iload 4, 2) := by decide +kernel
theorem dX3_markAsOf_23 : decode cX3_markAsOf 23 = .ok (.iload_n 2, 1) := by decide +kernel
theorem dX3_markAsOf_24 : decode cX3_markAsOf 24 = .ok (.invokevirtual 131, 3) := by decide +kernel
theorem dX3_markAsOf_27 : decode cX3_markAsOf 27 = .ok (.imul, 1) := by decide +kernel
theorem dX3_markAsOf_28 : decode cX3_markAsOf 28 = .ok (.iadd, 1) := by decide +kernel
theorem dX3_markAsOf_29 : decode cX3_markAsOf 29 = .ok (.istore_n 3, 1) := by decide +kernel
theorem dX3_markAsOf_30 : decode cX3_markAsOf 30 = .ok (.iinc 4 1, 3) := by decide +kernel
theorem dX3_markAsOf_33 : decode cX3_markAsOf 33 = .ok (.goto (-28), 3) := by decide +kernel
theorem dX3_markAsOf_36 : decode cX3_markAsOf 36 = .ok (.iload_n 3, 1) := by decide +kernel
theorem dX3_markAsOf_37 : decode cX3_markAsOf 37 = .ok (.ireturn, 1) := by decide +kernel
theorem dX3_fitFor_0 : decode cX3_fitFor 0 = .ok (.aload_n 1, 1) := by decide +kernel
theorem dX3_fitFor_1 : decode cX3_fitFor 1 = .ok (.getfield 114, 3) := by decide +kernel
theorem dX3_fitFor_4 : decode cX3_fitFor 4 = .ok (.astore_n 3, 1) := by decide +kernel
theorem dX3_fitFor_5 : decode cX3_fitFor 5 = .ok (.aload_n 1, 1) := by decide +kernel
theorem dX3_fitFor_6 : decode cX3_fitFor 6 = .ok (.aload_n 2, 1) := by decide +kernel
theorem dX3_fitFor_7 : decode cX3_fitFor 7 = .ok (.invokestatic 121, 3) := by decide +kernel
theorem dX3_fitFor_10 : decode cX3_fitFor 10 = .ok (.istore 4, 2) := by decide +kernel
theorem dX3_fitFor_12 : decode cX3_fitFor 12 = .ok (.aload_n 3, 1) := by decide +kernel
theorem dX3_fitFor_13 : decode cX3_fitFor 13 = .ok (.ifnonnull 19, 3) := by decide +kernel
theorem dX3_fitFor_16 : decode cX3_fitFor 16 = .ok (.iload 4, 2) := by decide +kernel
theorem dX3_fitFor_18 : decode cX3_fitFor 18 = .ok (.bipush 10, 2) := by decide +kernel
theorem dX3_fitFor_20 : decode cX3_fitFor 20 = .ok (.aload_n 2, 1) := by decide +kernel
theorem dX3_fitFor_21 : decode cX3_fitFor 21 = .ok (.getfield 80, 3) := by decide +kernel
theorem dX3_fitFor_24 : decode cX3_fitFor 24 = .ok (.iconst 1, 1) := by decide +kernel
theorem dX3_fitFor_25 : decode cX3_fitFor 25 = .ok (.isub, 1) := by decide +kernel
theorem dX3_fitFor_26 : decode cX3_fitFor 26 = .ok (.invokestatic 83, 3) := by decide +kernel
theorem dX3_fitFor_29 : decode cX3_fitFor 29 = .ok (.imul, 1) := by decide +kernel
theorem dX3_fitFor_30 : decode cX3_fitFor 30 = .ok (.isub, 1) := by decide +kernel
theorem dX3_fitFor_31 : decode cX3_fitFor 31 = .ok (.ireturn, 1) := by decide +kernel
theorem dX3_fitFor_32 : decode cX3_fitFor 32 = .ok (.iload 4, 2) := by decide +kernel
theorem dX3_fitFor_34 : decode cX3_fitFor 34 = .ok (.bipush 10, 2) := by decide +kernel
theorem dX3_fitFor_36 : decode cX3_fitFor 36 = .ok (.aload_n 2, 1) := by decide +kernel
theorem dX3_fitFor_37 : decode cX3_fitFor 37 = .ok (.getfield 80, 3) := by decide +kernel
theorem dX3_fitFor_40 : decode cX3_fitFor 40 = .ok (.aload_n 3, 1) := by decide +kernel
theorem dX3_fitFor_41 : decode cX3_fitFor 41 = .ok (.getfield 80, 3) := by decide +kernel
theorem dX3_fitFor_44 : decode cX3_fitFor 44 = .ok (.isub, 1) := by decide +kernel
theorem dX3_fitFor_45 : decode cX3_fitFor 45 = .ok (.invokestatic 83, 3) := by decide +kernel
theorem dX3_fitFor_48 : decode cX3_fitFor 48 = .ok (.imul, 1) := by decide +kernel
theorem dX3_fitFor_49 : decode cX3_fitFor 49 = .ok (.isub, 1) := by decide +kernel
theorem dX3_fitFor_50 : decode cX3_fitFor 50 = .ok (.iconst 2, 1) := by decide +kernel
theorem dX3_fitFor_51 : decode cX3_fitFor 51 = .ok (.aload_n 2, 1) := by decide +kernel
theorem dX3_fitFor_52 : decode cX3_fitFor 52 = .ok (.getfield 135, 3) := by decide +kernel
theorem dX3_fitFor_55 : decode cX3_fitFor 55 = .ok (.aload_n 3, 1) := by decide +kernel
theorem dX3_fitFor_56 : decode cX3_fitFor 56 = .ok (.getfield 135, 3) := by decide +kernel
theorem dX3_fitFor_59 : decode cX3_fitFor 59 = .ok (.isub, 1) := by decide +kernel
theorem dX3_fitFor_60 : decode cX3_fitFor 60 = .ok (.invokestatic 83, 3) := by decide +kernel
theorem dX3_fitFor_63 : decode cX3_fitFor 63 = .ok (.imul, 1) := by decide +kernel
theorem dX3_fitFor_64 : decode cX3_fitFor 64 = .ok (.isub, 1) := by decide +kernel
theorem dX3_fitFor_65 : decode cX3_fitFor 65 = .ok (.ireturn, 1) := by decide +kernel
theorem dX3_openPosts_0 : decode cX3_openPosts 0 = .ok (.iconst 0, 1) := by decide +kernel
theorem dX3_openPosts_1 : decode cX3_openPosts 1 = .ok (.istore_n 1, 1) := by decide +kernel
theorem dX3_openPosts_2 : decode cX3_openPosts 2 = .ok (.iconst 0, 1) := by decide +kernel
theorem dX3_openPosts_3 : decode cX3_openPosts 3 = .ok (.istore_n 2, 1) := by decide +kernel
theorem dX3_openPosts_4 : decode cX3_openPosts 4 = .ok (.iload_n 2, 1) := by decide +kernel
theorem dX3_openPosts_5 : decode cX3_openPosts 5 = .ok (.aload_n 0, 1) := by decide +kernel
theorem dX3_openPosts_6 : decode cX3_openPosts 6 = .ok (.getfield 43, 3) := by decide +kernel
theorem dX3_openPosts_9 : decode cX3_openPosts 9 = .ok (.if_icmp .ge 29, 3) := by decide +kernel
theorem dX3_openPosts_12 : decode cX3_openPosts 12 = .ok (.aload_n 0, 1) := by decide +kernel
theorem dX3_openPosts_13 : decode cX3_openPosts 13 = .ok (.iload_n 2, 1) := by decide +kernel
theorem dX3_openPosts_14 : decode cX3_openPosts 14 = .ok (.invokevirtual 138, 3) := by decide +kernel
theorem dX3_openPosts_17 : decode cX3_openPosts 17 = .ok (.astore_n 3, 1) := by decide +kernel
theorem dX3_openPosts_18 : decode cX3_openPosts 18 = .ok (.aload_n 3, 1) := by decide +kernel
theorem dX3_openPosts_19 : decode cX3_openPosts 19 = .ok (.ifnull 13, 3) := by decide +kernel
theorem dX3_openPosts_22 : decode cX3_openPosts 22 = .ok (.aload_n 3, 1) := by decide +kernel
theorem dX3_openPosts_23 : decode cX3_openPosts 23 = .ok (.invokevirtual 70, 3) := by decide +kernel
theorem dX3_openPosts_26 : decode cX3_openPosts 26 = .ok (.ifCond .eq 6, 3) := by decide +kernel
theorem dX3_openPosts_29 : decode cX3_openPosts 29 = .ok (.iinc 1 1, 3) := by decide +kernel
theorem dX3_openPosts_32 : decode cX3_openPosts 32 = .ok (.iinc 2 1, 3) := by decide +kernel
theorem dX3_openPosts_35 : decode cX3_openPosts 35 = .ok (.goto (-31), 3) := by decide +kernel
theorem dX3_openPosts_38 : decode cX3_openPosts 38 = .ok (.iload_n 1, 1) := by decide +kernel
theorem dX3_openPosts_39 : decode cX3_openPosts 39 = .ok (.ireturn, 1) := by decide +kernel
theorem dX3_vacantPosts_0 : decode cX3_vacantPosts 0 = .ok (.iconst 0, 1) := by decide +kernel
theorem dX3_vacantPosts_1 : decode cX3_vacantPosts 1 = .ok (.istore_n 1, 1) := by decide +kernel
theorem dX3_vacantPosts_2 : decode cX3_vacantPosts 2 = .ok (.iconst 0, 1) := by decide +kernel
theorem dX3_vacantPosts_3 : decode cX3_vacantPosts 3 = .ok (.istore_n 2, 1) := by decide +kernel
theorem dX3_vacantPosts_4 : decode cX3_vacantPosts 4 = .ok (.iload_n 2, 1) := by decide +kernel
theorem dX3_vacantPosts_5 : decode cX3_vacantPosts 5 = .ok (.aload_n 0, 1) := by decide +kernel
theorem dX3_vacantPosts_6 : decode cX3_vacantPosts 6 = .ok (.getfield 43, 3) := by decide +kernel
theorem dX3_vacantPosts_9 : decode cX3_vacantPosts 9 = .ok (.if_icmp .ge 29, 3) := by decide +kernel
theorem dX3_vacantPosts_12 : decode cX3_vacantPosts 12 = .ok (.aload_n 0, 1) := by decide +kernel
theorem dX3_vacantPosts_13 : decode cX3_vacantPosts 13 = .ok (.iload_n 2, 1) := by decide +kernel
theorem dX3_vacantPosts_14 : decode cX3_vacantPosts 14 = .ok (.invokevirtual 138, 3) := by decide +kernel
theorem dX3_vacantPosts_17 : decode cX3_vacantPosts 17 = .ok (.astore_n 3, 1) := by decide +kernel
theorem dX3_vacantPosts_18 : decode cX3_vacantPosts 18 = .ok (.aload_n 3, 1) := by decide +kernel
theorem dX3_vacantPosts_19 : decode cX3_vacantPosts 19 = .ok (.ifnull 13, 3) := by decide +kernel
theorem dX3_vacantPosts_22 : decode cX3_vacantPosts 22 = .ok (.aload_n 3, 1) := by decide +kernel
theorem dX3_vacantPosts_23 : decode cX3_vacantPosts 23 = .ok (.invokevirtual 142, 3) := by decide +kernel
theorem dX3_vacantPosts_26 : decode cX3_vacantPosts 26 = .ok (.ifCond .eq 6, 3) := by decide +kernel
theorem dX3_vacantPosts_29 : decode cX3_vacantPosts 29 = .ok (.iinc 1 1, 3) := by decide +kernel
theorem dX3_vacantPosts_32 : decode cX3_vacantPosts 32 = .ok (.iinc 2 1, 3) := by decide +kernel
theorem dX3_vacantPosts_35 : decode cX3_vacantPosts 35 = .ok (.goto (-31), 3) := by decide +kernel
theorem dX3_vacantPosts_38 : decode cX3_vacantPosts 38 = .ok (.iload_n 1, 1) := by decide +kernel
theorem dX3_vacantPosts_39 : decode cX3_vacantPosts 39 = .ok (.ireturn, 1) := by decide +kernel
theorem dX3_peopleHere_0 : decode cX3_peopleHere 0 = .ok (.iconst 0, 1) := by decide +kernel
theorem dX3_peopleHere_1 : decode cX3_peopleHere 1 = .ok (.istore_n 1, 1) := by decide +kernel
theorem dX3_peopleHere_2 : decode cX3_peopleHere 2 = .ok (.iconst 0, 1) := by decide +kernel
theorem dX3_peopleHere_3 : decode cX3_peopleHere 3 = .ok (.istore_n 2, 1) := by decide +kernel
theorem dX3_peopleHere_4 : decode cX3_peopleHere 4 = .ok (.iload_n 2, 1) := by decide +kernel
theorem dX3_peopleHere_5 : decode cX3_peopleHere 5 = .ok (.aload_n 0, 1) := by decide +kernel
theorem dX3_peopleHere_6 : decode cX3_peopleHere 6 = .ok (.getfield 46, 3) := by decide +kernel
theorem dX3_peopleHere_9 : decode cX3_peopleHere 9 = .ok (.if_icmp .ge 29, 3) := by decide +kernel
theorem dX3_peopleHere_12 : decode cX3_peopleHere 12 = .ok (.aload_n 0, 1) := by decide +kernel
theorem dX3_peopleHere_13 : decode cX3_peopleHere 13 = .ok (.iload_n 2, 1) := by decide +kernel
theorem dX3_peopleHere_14 : decode cX3_peopleHere 14 = .ok (.invokevirtual 145, 3) := by decide +kernel
theorem dX3_peopleHere_17 : decode cX3_peopleHere 17 = .ok (.astore_n 3, 1) := by decide +kernel
theorem dX3_peopleHere_18 : decode cX3_peopleHere 18 = .ok (.aload_n 3, 1) := by decide +kernel
theorem dX3_peopleHere_19 : decode cX3_peopleHere 19 = .ok (.ifnull 13, 3) := by decide +kernel
theorem dX3_peopleHere_22 : decode cX3_peopleHere 22 = .ok (.aload_n 3, 1) := by decide +kernel
theorem dX3_peopleHere_23 : decode cX3_peopleHere 23 = .ok (.invokevirtual 149, 3) := by decide +kernel
theorem dX3_peopleHere_26 : decode cX3_peopleHere 26 = .ok (.ifCond .eq 6, 3) := by decide +kernel
theorem dX3_peopleHere_29 : decode cX3_peopleHere 29 = .ok (.iinc 1 1, 3) := by decide +kernel
theorem dX3_peopleHere_32 : decode cX3_peopleHere 32 = .ok (.iinc 2 1, 3) := by decide +kernel
theorem dX3_peopleHere_35 : decode cX3_peopleHere 35 = .ok (.goto (-31), 3) := by decide +kernel
theorem dX3_peopleHere_38 : decode cX3_peopleHere 38 = .ok (.iload_n 1, 1) := by decide +kernel
theorem dX3_peopleHere_39 : decode cX3_peopleHere 39 = .ok (.ireturn, 1) := by decide +kernel
theorem dX3_volunteersHere_0 : decode cX3_volunteersHere 0 = .ok (.iconst 0, 1) := by decide +kernel
theorem dX3_volunteersHere_1 : decode cX3_volunteersHere 1 = .ok (.istore_n 1, 1) := by decide +kernel
theorem dX3_volunteersHere_2 : decode cX3_volunteersHere 2 = .ok (.iconst 0, 1) := by decide +kernel
theorem dX3_volunteersHere_3 : decode cX3_volunteersHere 3 = .ok (.istore_n 2, 1) := by decide +kernel
theorem dX3_volunteersHere_4 : decode cX3_volunteersHere 4 = .ok (.iload_n 2, 1) := by decide +kernel
theorem dX3_volunteersHere_5 : decode cX3_volunteersHere 5 = .ok (.aload_n 0, 1) := by decide +kernel
theorem dX3_volunteersHere_6 : decode cX3_volunteersHere 6 = .ok (.getfield 46, 3) := by decide +kernel
theorem dX3_volunteersHere_9 : decode cX3_volunteersHere 9 = .ok (.if_icmp .ge 36, 3) := by decide +kernel
theorem dX3_volunteersHere_12 : decode cX3_volunteersHere 12 = .ok (.aload_n 0, 1) := by decide +kernel
theorem dX3_volunteersHere_13 : decode cX3_volunteersHere 13 = .ok (.iload_n 2, 1) := by decide +kernel
theorem dX3_volunteersHere_14 : decode cX3_volunteersHere 14 = .ok (.invokevirtual 145, 3) := by decide +kernel
theorem dX3_volunteersHere_17 : decode cX3_volunteersHere 17 = .ok (.astore_n 3, 1) := by decide +kernel
theorem dX3_volunteersHere_18 : decode cX3_volunteersHere 18 = .ok (.aload_n 3, 1) := by decide +kernel
theorem dX3_volunteersHere_19 : decode cX3_volunteersHere 19 = .ok (.ifnull 20, 3) := by decide +kernel
theorem dX3_volunteersHere_22 : decode cX3_volunteersHere 22 = .ok (.aload_n 3, 1) := by decide +kernel
theorem dX3_volunteersHere_23 : decode cX3_volunteersHere 23 = .ok (.invokevirtual 149, 3) := by decide +kernel
theorem dX3_volunteersHere_26 : decode cX3_volunteersHere 26 = .ok (.ifCond .eq 13, 3) := by decide +kernel
theorem dX3_volunteersHere_29 : decode cX3_volunteersHere 29 = .ok (.aload_n 3, 1) := by decide +kernel
theorem dX3_volunteersHere_30 : decode cX3_volunteersHere 30 = .ok (.invokevirtual 152, 3) := by decide +kernel
theorem dX3_volunteersHere_33 : decode cX3_volunteersHere 33 = .ok (.ifCond .eq 6, 3) := by decide +kernel
theorem dX3_volunteersHere_36 : decode cX3_volunteersHere 36 = .ok (.iinc 1 1, 3) := by decide +kernel
theorem dX3_volunteersHere_39 : decode cX3_volunteersHere 39 = .ok (.iinc 2 1, 3) := by decide +kernel
theorem dX3_volunteersHere_42 : decode cX3_volunteersHere 42 = .ok (.goto (-38), 3) := by decide +kernel
theorem dX3_volunteersHere_45 : decode cX3_volunteersHere 45 = .ok (.iload_n 1, 1) := by decide +kernel
theorem dX3_volunteersHere_46 : decode cX3_volunteersHere 46 = .ok (.ireturn, 1) := by decide +kernel
theorem dX3_firstToReturn_0 : decode cX3_firstToReturn 0 = .ok (.aconst_null, 1) := by decide +kernel
theorem dX3_firstToReturn_1 : decode cX3_firstToReturn 1 = .ok (.astore_n 2, 1) := by decide +kernel
theorem dX3_firstToReturn_2 : decode cX3_firstToReturn 2 = .ok (.iconst 0, 1) := by decide +kernel
theorem dX3_firstToReturn_3 : decode cX3_firstToReturn 3 = .ok (.istore_n 3, 1) := by decide +kernel
theorem dX3_firstToReturn_4 : decode cX3_firstToReturn 4 = .ok (.iload_n 3, 1) := by decide +kernel
theorem dX3_firstToReturn_5 : decode cX3_firstToReturn 5 = .ok (.aload_n 0, 1) := by decide +kernel
theorem dX3_firstToReturn_6 : decode cX3_firstToReturn 6 = .ok (.getfield 46, 3) := by decide +kernel
theorem dX3_firstToReturn_9 : decode cX3_firstToReturn 9 = .ok (.if_icmp .ge 50, 3) := by decide +kernel
theorem dX3_firstToReturn_12 : decode cX3_firstToReturn 12 = .ok (.aload_n 0, 1) := by decide +kernel
theorem dX3_firstToReturn_13 : decode cX3_firstToReturn 13 = .ok (.iload_n 3, 1) := by decide +kernel
theorem dX3_firstToReturn_14 : decode cX3_firstToReturn 14 = .ok (.invokevirtual 145, 3) := by decide +kernel
theorem dX3_firstToReturn_17 : decode cX3_firstToReturn 17 = .ok (.astore 4, 2) := by decide +kernel
theorem dX3_firstToReturn_19 : decode cX3_firstToReturn 19 = .ok (.aload 4, 2) := by decide +kernel
theorem dX3_firstToReturn_21 : decode cX3_firstToReturn 21 = .ok (.ifnull 32, 3) := by decide +kernel
theorem dX3_firstToReturn_24 : decode cX3_firstToReturn 24 = .ok (.aload_n 0, 1) := by decide +kernel
theorem dX3_firstToReturn_25 : decode cX3_firstToReturn 25 = .ok (.aload 4, 2) := by decide +kernel
theorem dX3_firstToReturn_27 : decode cX3_firstToReturn 27 = .ok (.aload_n 1, 1) := by decide +kernel
theorem dX3_firstToReturn_28 : decode cX3_firstToReturn 28 = .ok (.invokevirtual 155, 3) := by decide +kernel
theorem dX3_firstToReturn_31 : decode cX3_firstToReturn 31 = .ok (.ifCond .eq 22, 3) := by decide +kernel
theorem dX3_firstToReturn_34 : decode cX3_firstToReturn 34 = .ok (.aload_n 2, 1) := by decide +kernel
theorem dX3_firstToReturn_35 : decode cX3_firstToReturn 35 = .ok (.ifnull 15, 3) := by decide +kernel
theorem dX3_firstToReturn_38 : decode cX3_firstToReturn 38 = .ok (.aload 4, 2) := by decide +kernel
theorem dX3_firstToReturn_40 : decode cX3_firstToReturn 40 = .ok (.getfield 159, 3) := by decide +kernel
theorem dX3_firstToReturn_43 : decode cX3_firstToReturn 43 = .ok (.aload_n 2, 1) := by decide +kernel
theorem dX3_firstToReturn_44 : decode cX3_firstToReturn 44 = .ok (.getfield 159, 3) := by decide +kernel
theorem dX3_firstToReturn_47 : decode cX3_firstToReturn 47 = .ok (.if_icmp .ge 6, 3) := by decide +kernel
theorem dX3_firstToReturn_50 : decode cX3_firstToReturn 50 = .ok (.aload 4, 2) := by decide +kernel
theorem dX3_firstToReturn_52 : decode cX3_firstToReturn 52 = .ok (.astore_n 2, 1) := by decide +kernel
theorem dX3_firstToReturn_53 : decode cX3_firstToReturn 53 = .ok (.iinc 3 1, 3) := by decide +kernel
theorem dX3_firstToReturn_56 : decode cX3_firstToReturn 56 = .ok (.goto (-52), 3) := by decide +kernel
theorem dX3_firstToReturn_59 : decode cX3_firstToReturn 59 = .ok (.aload_n 2, 1) := by decide +kernel
theorem dX3_firstToReturn_60 : decode cX3_firstToReturn 60 = .ok (.areturn, 1) := by decide +kernel
theorem dX3_mayReturn_0 : decode cX3_mayReturn 0 = .ok (.aload_n 1, 1) := by decide +kernel
theorem dX3_mayReturn_1 : decode cX3_mayReturn 1 = .ok (.getfield 162, 3) := by decide +kernel
theorem dX3_mayReturn_4 : decode cX3_mayReturn 4 = .ok (.astore_n 3, 1) := by decide +kernel
theorem dX3_mayReturn_5 : decode cX3_mayReturn 5 = .ok (.aload_n 3, 1) := by decide +kernel
theorem dX3_mayReturn_6 : decode cX3_mayReturn 6 = .ok (.ifnull 56, 3) := by decide +kernel
theorem dX3_mayReturn_9 : decode cX3_mayReturn 9 = .ok (.aload_n 1, 1) := by decide +kernel
theorem dX3_mayReturn_10 : decode cX3_mayReturn 10 = .ok (.invokevirtual 149, 3) := by decide +kernel
theorem dX3_mayReturn_13 : decode cX3_mayReturn 13 = .ok (.ifCond .ne 49, 3) := by decide +kernel
theorem dX3_mayReturn_16 : decode cX3_mayReturn 16 = .ok (.aload_n 3, 1) := by decide +kernel
theorem dX3_mayReturn_17 : decode cX3_mayReturn 17 = .ok (.invokevirtual 70, 3) := by decide +kernel
theorem dX3_mayReturn_20 : decode cX3_mayReturn 20 = .ok (.ifCond .ne 42, 3) := by decide +kernel
theorem dX3_mayReturn_23 : decode cX3_mayReturn 23 = .ok (.aload_n 0, 1) := by decide +kernel
theorem dX3_mayReturn_24 : decode cX3_mayReturn 24 = .ok (.getfield 56, 3) := by decide +kernel
theorem dX3_mayReturn_27 : decode cX3_mayReturn 27 = .ok (.aload_n 3, 1) := by decide +kernel
theorem dX3_mayReturn_28 : decode cX3_mayReturn 28 = .ok (.getfield 165, 3) := by decide +kernel
theorem dX3_mayReturn_31 : decode cX3_mayReturn 31 = .ok (.isub, 1) := by decide +kernel
theorem dX3_mayReturn_32 : decode cX3_mayReturn 32 = .ok (.sipush 180, 3) := by decide +kernel
theorem dX3_mayReturn_35 : decode cX3_mayReturn 35 = .ok (.if_icmp .gt 27, 3) := by decide +kernel
theorem dX3_mayReturn_38 : decode cX3_mayReturn 38 = .ok (.aload_n 1, 1) := by decide +kernel
theorem dX3_mayReturn_39 : decode cX3_mayReturn 39 = .ok (.getfield 159, 3) := by decide +kernel
theorem dX3_mayReturn_42 : decode cX3_mayReturn 42 = .ok (.aload_n 3, 1) := by decide +kernel
theorem dX3_mayReturn_43 : decode cX3_mayReturn 43 = .ok (.getfield 165, 3) := by decide +kernel
theorem dX3_mayReturn_46 : decode cX3_mayReturn 46 = .ok (.if_icmp .lt 16, 3) := by decide +kernel
theorem dX3_mayReturn_49 : decode cX3_mayReturn 49 = .ok (.aload_n 0, 1) := by decide +kernel
theorem dX3_mayReturn_50 : decode cX3_mayReturn 50 = .ok (.aload_n 3, 1) := by decide +kernel
theorem dX3_mayReturn_51 : decode cX3_mayReturn 51 = .ok (.aload_n 2, 1) := by decide +kernel
theorem dX3_mayReturn_52 : decode cX3_mayReturn 52 = .ok (.invokevirtual 168, 3) := by decide +kernel
theorem dX3_mayReturn_55 : decode cX3_mayReturn 55 = .ok (.ifCond .eq 7, 3) := by decide +kernel
theorem dX3_mayReturn_58 : decode cX3_mayReturn 58 = .ok (.iconst 1, 1) := by decide +kernel
theorem dX3_mayReturn_59 : decode cX3_mayReturn 59 = .ok (.goto 4, 3) := by decide +kernel
theorem dX3_mayReturn_62 : decode cX3_mayReturn 62 = .ok (.iconst 0, 1) := by decide +kernel
theorem dX3_mayReturn_63 : decode cX3_mayReturn 63 = .ok (.ireturn, 1) := by decide +kernel
theorem dX4_init_0 : decode cX4_init 0 = .ok (.aload_n 0, 1) := by decide +kernel
theorem dX4_init_1 : decode cX4_init 1 = .ok (.invokespecial 3, 3) := by decide +kernel
theorem dX4_init_4 : decode cX4_init 4 = .ok (.aload_n 0, 1) := by decide +kernel
theorem dX4_init_5 : decode cX4_init 5 = .ok (.bipush 8, 2) := by decide +kernel
theorem dX4_init_7 : decode cX4_init 7 = .ok (.anewarray 9, 3) := by decide +kernel
theorem dX4_init_10 : decode cX4_init 10 = .ok (.putfield 11, 3) := by decide +kernel
theorem dX4_init_13 : decode cX4_init 13 = .ok (.aload_n 0, 1) := by decide +kernel
theorem dX4_init_14 : decode cX4_init 14 = .ok (.bipush 8, 2) := by decide +kernel
theorem dX4_init_16 : decode cX4_init 16 = .ok (.anewarray 17, 3) := by decide +kernel
theorem dX4_init_19 : decode cX4_init 19 = .ok (.putfield 19, 3) := by decide +kernel
theorem dX4_init_22 : decode cX4_init 22 = .ok (.aload_n 0, 1) := by decide +kernel
theorem dX4_init_23 : decode cX4_init 23 = .ok (.bipush 64, 2) := by decide +kernel
theorem dX4_init_25 : decode cX4_init 25 = .ok (.newarray .int, 2) := by decide +kernel
theorem dX4_init_27 : decode cX4_init 27 = .ok (.putfield 23, 3) := by decide +kernel
theorem dX4_init_30 : decode cX4_init 30 = .ok (.aload_n 0, 1) := by decide +kernel
theorem dX4_init_31 : decode cX4_init 31 = .ok (.sipush 2304, 3) := by decide +kernel
theorem dX4_init_34 : decode cX4_init 34 = .ok (.newarray .int, 2) := by decide +kernel
theorem dX4_init_36 : decode cX4_init 36 = .ok (.putfield 27, 3) := by decide +kernel
theorem dX4_init_39 : decode cX4_init 39 = .ok (.aload_n 0, 1) := by decide +kernel
theorem dX4_init_40 : decode cX4_init 40 = .ok (.bipush 8, 2) := by decide +kernel
theorem dX4_init_42 : decode cX4_init 42 = .ok (.anewarray 17, 3) := by decide +kernel
theorem dX4_init_45 : decode cX4_init 45 = .ok (.putfield 30, 3) := by decide +kernel
theorem dX4_init_48 : decode cX4_init 48 = .ok (.aload_n 0, 1) := by decide +kernel
theorem dX4_init_49 : decode cX4_init 49 = .ok (.aload_n 1, 1) := by decide +kernel
theorem dX4_init_50 : decode cX4_init 50 = .ok (.putfield 33, 3) := by decide +kernel
theorem dX4_init_53 : decode cX4_init 53 = .ok (.return_, 1) := by decide +kernel
theorem dX4_isTold_0 : decode cX4_isTold 0 = .ok (.iconst 0, 1) := by decide +kernel
theorem dX4_isTold_1 : decode cX4_isTold 1 = .ok (.istore_n 2, 1) := by decide +kernel
theorem dX4_isTold_2 : decode cX4_isTold 2 = .ok (.iload_n 2, 1) := by decide +kernel
theorem dX4_isTold_3 : decode cX4_isTold 3 = .ok (.aload_n 0, 1) := by decide +kernel
theorem dX4_isTold_4 : decode cX4_isTold 4 = .ok (.getfield 37, 3) := by decide +kernel
theorem dX4_isTold_7 : decode cX4_isTold 7 = .ok (.if_icmp .ge 20, 3) := by decide +kernel
theorem dX4_isTold_10 : decode cX4_isTold 10 = .ok (.aload_n 0, 1) := by decide +kernel
theorem dX4_isTold_11 : decode cX4_isTold 11 = .ok (.iload_n 2, 1) := by decide +kernel
theorem dX4_isTold_12 : decode cX4_isTold 12 = .ok (.invokevirtual 41, 3) := by decide +kernel
theorem dX4_isTold_15 : decode cX4_isTold 15 = .ok (.aload_n 1, 1) := by decide +kernel
theorem dX4_isTold_16 : decode cX4_isTold 16 = .ok (.if_acmp .ne 5, 3) := by decide +kernel
theorem dX4_isTold_19 : decode cX4_isTold 19 = .ok (.iconst 1, 1) := by decide +kernel
theorem dX4_isTold_20 : decode cX4_isTold 20 = .ok (.ireturn, 1) := by decide +kernel
theorem dX4_isTold_21 : decode cX4_isTold 21 = .ok (.iinc 2 1, 3) := by decide +kernel
theorem dX4_isTold_24 : decode cX4_isTold 24 = .ok (.goto (-22), 3) := by decide +kernel
theorem dX4_isTold_27 : decode cX4_isTold 27 = .ok (.iconst 0, 1) := by decide +kernel
theorem dX4_isTold_28 : decode cX4_isTold 28 = .ok (.ireturn, 1) := by decide +kernel
theorem dX4_addLeaver_0 : decode cX4_addLeaver 0 = .ok (.aload_n 0, 1) := by decide +kernel
theorem dX4_addLeaver_1 : decode cX4_addLeaver 1 = .ok (.getfield 37, 3) := by decide +kernel
theorem dX4_addLeaver_4 : decode cX4_addLeaver 4 = .ok (.bipush 8, 2) := by decide +kernel
theorem dX4_addLeaver_6 : decode cX4_addLeaver 6 = .ok (.if_icmp .ge 23, 3) := by decide +kernel
theorem dX4_addLeaver_9 : decode cX4_addLeaver 9 = .ok (.aload_n 0, 1) := by decide +kernel
theorem dX4_addLeaver_10 : decode cX4_addLeaver 10 = .ok (.getfield 11, 3) := by decide +kernel
theorem dX4_addLeaver_13 : decode cX4_addLeaver 13 = .ok (.aload_n 0, 1) := by decide +kernel
theorem dX4_addLeaver_14 : decode cX4_addLeaver 14 = .ok (.getfield 37, 3) := by decide +kernel
theorem dX4_addLeaver_17 : decode cX4_addLeaver 17 = .ok (.aload_n 1, 1) := by decide +kernel
theorem dX4_addLeaver_18 : decode cX4_addLeaver 18 = .ok (.aastore, 1) := by decide +kernel
theorem dX4_addLeaver_19 : decode cX4_addLeaver 19 = .ok (.aload_n 0, 1) := by decide +kernel
theorem dX4_addLeaver_20 : decode cX4_addLeaver 20 = .ok (.dup, 1) := by decide +kernel
theorem dX4_addLeaver_21 : decode cX4_addLeaver 21 = .ok (.getfield 37, 3) := by decide +kernel
theorem dX4_addLeaver_24 : decode cX4_addLeaver 24 = .ok (.iconst 1, 1) := by decide +kernel
theorem dX4_addLeaver_25 : decode cX4_addLeaver 25 = .ok (.iadd, 1) := by decide +kernel
theorem dX4_addLeaver_26 : decode cX4_addLeaver 26 = .ok (.putfield 37, 3) := by decide +kernel
theorem dX4_addLeaver_29 : decode cX4_addLeaver 29 = .ok (.aload_n 0, 1) := by decide +kernel
theorem dX4_addLeaver_30 : decode cX4_addLeaver 30 = .ok (.getfield 37, 3) := by decide +kernel
theorem dX4_addLeaver_33 : decode cX4_addLeaver 33 = .ok (.ireturn, 1) := by decide +kernel
theorem dX4_leaverAt_0 : decode cX4_leaverAt 0 = .ok (.iload_n 1, 1) := by decide +kernel
theorem dX4_leaverAt_1 : decode cX4_leaverAt 1 = .ok (.ifCond .lt 26, 3) := by decide +kernel
theorem dX4_leaverAt_4 : decode cX4_leaverAt 4 = .ok (.iload_n 1, 1) := by decide +kernel
theorem dX4_leaverAt_5 : decode cX4_leaverAt 5 = .ok (.aload_n 0, 1) := by decide +kernel
theorem dX4_leaverAt_6 : decode cX4_leaverAt 6 = .ok (.getfield 37, 3) := by decide +kernel
theorem dX4_leaverAt_9 : decode cX4_leaverAt 9 = .ok (.if_icmp .ge 18, 3) := by decide +kernel
theorem dX4_leaverAt_12 : decode cX4_leaverAt 12 = .ok (.iload_n 1, 1) := by decide +kernel
theorem dX4_leaverAt_13 : decode cX4_leaverAt 13 = .ok (.bipush 8, 2) := by decide +kernel
theorem dX4_leaverAt_15 : decode cX4_leaverAt 15 = .ok (.if_icmp .ge 12, 3) := by decide +kernel
theorem dX4_leaverAt_18 : decode cX4_leaverAt 18 = .ok (.aload_n 0, 1) := by decide +kernel
theorem dX4_leaverAt_19 : decode cX4_leaverAt 19 = .ok (.getfield 11, 3) := by decide +kernel
theorem dX4_leaverAt_22 : decode cX4_leaverAt 22 = .ok (.iload_n 1, 1) := by decide +kernel
theorem dX4_leaverAt_23 : decode cX4_leaverAt 23 = .ok (.aaload, 1) := by decide +kernel
theorem dX4_leaverAt_24 : decode cX4_leaverAt 24 = .ok (.goto 4, 3) := by decide +kernel
theorem dX4_leaverAt_27 : decode cX4_leaverAt 27 = .ok (.aconst_null, 1) := by decide +kernel
theorem dX4_leaverAt_28 : decode cX4_leaverAt 28 = .ok (.areturn, 1) := by decide +kernel
theorem dX4_vacantAt_0 : decode cX4_vacantAt 0 = .ok (.iload_n 1, 1) := by decide +kernel
theorem dX4_vacantAt_1 : decode cX4_vacantAt 1 = .ok (.ifCond .lt 26, 3) := by decide +kernel
theorem dX4_vacantAt_4 : decode cX4_vacantAt 4 = .ok (.iload_n 1, 1) := by decide +kernel
theorem dX4_vacantAt_5 : decode cX4_vacantAt 5 = .ok (.aload_n 0, 1) := by decide +kernel
theorem dX4_vacantAt_6 : decode cX4_vacantAt 6 = .ok (.getfield 45, 3) := by decide +kernel
theorem dX4_vacantAt_9 : decode cX4_vacantAt 9 = .ok (.if_icmp .ge 18, 3) := by decide +kernel
theorem dX4_vacantAt_12 : decode cX4_vacantAt 12 = .ok (.iload_n 1, 1) := by decide +kernel
theorem dX4_vacantAt_13 : decode cX4_vacantAt 13 = .ok (.bipush 8, 2) := by decide +kernel
theorem dX4_vacantAt_15 : decode cX4_vacantAt 15 = .ok (.if_icmp .ge 12, 3) := by decide +kernel
theorem dX4_vacantAt_18 : decode cX4_vacantAt 18 = .ok (.aload_n 0, 1) := by decide +kernel
theorem dX4_vacantAt_19 : decode cX4_vacantAt 19 = .ok (.getfield 19, 3) := by decide +kernel
theorem dX4_vacantAt_22 : decode cX4_vacantAt 22 = .ok (.iload_n 1, 1) := by decide +kernel
theorem dX4_vacantAt_23 : decode cX4_vacantAt 23 = .ok (.aaload, 1) := by decide +kernel
theorem dX4_vacantAt_24 : decode cX4_vacantAt 24 = .ok (.goto 4, 3) := by decide +kernel
theorem dX4_vacantAt_27 : decode cX4_vacantAt 27 = .ok (.aconst_null, 1) := by decide +kernel
theorem dX4_vacantAt_28 : decode cX4_vacantAt 28 = .ok (.areturn, 1) := by decide +kernel
theorem dX4_settle_0 : decode cX4_settle 0 = .ok (.aload_n 0, 1) := by decide +kernel
theorem dX4_settle_1 : decode cX4_settle 1 = .ok (.invokevirtual 48, 3) := by decide +kernel
theorem dX4_settle_4 : decode cX4_settle 4 = .ok (.iconst 0, 1) := by decide +kernel
theorem dX4_settle_5 : decode cX4_settle 5 = .ok (.istore_n 1, 1) := by decide +kernel
theorem dX4_settle_6 : decode cX4_settle 6 = .ok (.iload_n 1, 1) := by decide +kernel
theorem dX4_settle_7 : decode cX4_settle 7 = .ok (.aload_n 0, 1) := by decide +kernel
theorem dX4_settle_8 : decode cX4_settle 8 = .ok (.getfield 37, 3) := by decide +kernel
theorem dX4_settle_11 : decode cX4_settle 11 = .ok (.if_icmp .ge 14, 3) := by decide +kernel
theorem dX4_settle_14 : decode cX4_settle 14 = .ok (.aload_n 0, 1) := by decide +kernel
theorem dX4_settle_15 : decode cX4_settle 15 = .ok (.iload_n 1, 1) := by decide +kernel
theorem dX4_settle_16 : decode cX4_settle 16 = .ok (.invokevirtual 51, 3) := by decide +kernel
theorem dX4_settle_19 : decode cX4_settle 19 = .ok (.iinc 1 1, 3) := by decide +kernel
theorem dX4_settle_22 : decode cX4_settle 22 = .ok (.goto (-16), 3) := by decide +kernel
theorem dX4_settle_25 : decode cX4_settle 25 = .ok (.aload_n 0, 1) := by decide +kernel
theorem dX4_settle_26 : decode cX4_settle 26 = .ok (.getfield 27, 3) := by decide +kernel
theorem dX4_settle_29 : decode cX4_settle 29 = .ok (.iconst 0, 1) := by decide +kernel
theorem dX4_settle_30 : decode cX4_settle 30 = .ok (.invokestatic 55, 3) := by decide +kernel
theorem dX4_settle_33 : decode cX4_settle 33 = .ok (.aload_n 0, 1) := by decide +kernel
theorem dX4_settle_34 : decode cX4_settle 34 = .ok (.getfield 37, 3) := by decide +kernel
theorem dX4_settle_37 : decode cX4_settle 37 = .ok (.iconst 1, 1) := by decide +kernel
theorem dX4_settle_38 : decode cX4_settle 38 = .ok (.isub, 1) := by decide +kernel
theorem dX4_settle_39 : decode cX4_settle 39 = .ok (.istore_n 1, 1) := by decide +kernel
theorem dX4_settle_40 : decode cX4_settle 40 = .ok (.iload_n 1, 1) := by decide +kernel
theorem dX4_settle_41 : decode cX4_settle 41 = .ok (.ifCond .lt 14, 3) := by decide +kernel
theorem dX4_settle_44 : decode cX4_settle 44 = .ok (.aload_n 0, 1) := by decide +kernel
theorem dX4_settle_45 : decode cX4_settle 45 = .ok (.iload_n 1, 1) := by decide +kernel
theorem dX4_settle_46 : decode cX4_settle 46 = .ok (.invokevirtual 61, 3) := by decide +kernel
theorem dX4_settle_49 : decode cX4_settle 49 = .ok (.iinc 1 (-1), 3) := by decide +kernel
theorem dX4_settle_52 : decode cX4_settle 52 = .ok (.goto (-12), 3) := by decide +kernel
theorem dX4_settle_55 : decode cX4_settle 55 = .ok (.aload_n 0, 1) := by decide +kernel
theorem dX4_settle_56 : decode cX4_settle 56 = .ok (.invokevirtual 64, 3) := by decide +kernel
theorem dX4_settle_59 : decode cX4_settle 59 = .ok (.return_, 1) := by decide +kernel
theorem dX4_gatherVacant_0 : decode cX4_gatherVacant 0 = .ok (.aload_n 0, 1) := by decide +kernel
theorem dX4_gatherVacant_1 : decode cX4_gatherVacant 1 = .ok (.iconst 0, 1) := by decide +kernel
theorem dX4_gatherVacant_2 : decode cX4_gatherVacant 2 = .ok (.putfield 45, 3) := by decide +kernel
theorem dX4_gatherVacant_5 : decode cX4_gatherVacant 5 = .ok (.iconst 0, 1) := by decide +kernel
theorem dX4_gatherVacant_6 : decode cX4_gatherVacant 6 = .ok (.istore_n 1, 1) := by decide +kernel
theorem dX4_gatherVacant_7 : decode cX4_gatherVacant 7 = .ok (.iload_n 1, 1) := by decide +kernel
theorem dX4_gatherVacant_8 : decode cX4_gatherVacant 8 = .ok (.aload_n 0, 1) := by decide +kernel
theorem dX4_gatherVacant_9 : decode cX4_gatherVacant 9 = .ok (.getfield 33, 3) := by decide +kernel
theorem dX4_gatherVacant_12 : decode cX4_gatherVacant 12 = .ok (.getfield 67, 3) := by decide +kernel
theorem dX4_gatherVacant_15 : decode cX4_gatherVacant 15 = .ok (.if_icmp .ge 58, 3) := by decide +kernel
theorem dX4_gatherVacant_18 : decode cX4_gatherVacant 18 = .ok (.aload_n 0, 1) := by decide +kernel
theorem dX4_gatherVacant_19 : decode cX4_gatherVacant 19 = .ok (.getfield 45, 3) := by decide +kernel
theorem dX4_gatherVacant_22 : decode cX4_gatherVacant 22 = .ok (.bipush 8, 2) := by decide +kernel
theorem dX4_gatherVacant_24 : decode cX4_gatherVacant 24 = .ok (.if_icmp .ge 49, 3) := by decide +kernel
theorem dX4_gatherVacant_27 : decode cX4_gatherVacant 27 = .ok (.aload_n 0, 1) := by decide +kernel
theorem dX4_gatherVacant_28 : decode cX4_gatherVacant 28 = .ok (.getfield 33, 3) := by decide +kernel
theorem dX4_gatherVacant_31 : decode cX4_gatherVacant 31 = .ok (.iload_n 1, 1) := by decide +kernel
theorem dX4_gatherVacant_32 : decode cX4_gatherVacant 32 = .ok (.invokevirtual 72, 3) := by decide +kernel
theorem dX4_gatherVacant_35 : decode cX4_gatherVacant 35 = .ok (.astore_n 2, 1) := by decide +kernel
theorem dX4_gatherVacant_36 : decode cX4_gatherVacant 36 = .ok (.aload_n 2, 1) := by decide +kernel
theorem dX4_gatherVacant_37 : decode cX4_gatherVacant 37 = .ok (.ifnull 30, 3) := by decide +kernel
theorem dX4_gatherVacant_40 : decode cX4_gatherVacant 40 = .ok (.aload_n 2, 1) := by decide +kernel
theorem dX4_gatherVacant_41 : decode cX4_gatherVacant 41 = .ok (.invokevirtual 76, 3) := by decide +kernel
theorem dX4_gatherVacant_44 : decode cX4_gatherVacant 44 = .ok (.ifCond .eq 23, 3) := by decide +kernel
theorem dX4_gatherVacant_47 : decode cX4_gatherVacant 47 = .ok (.aload_n 0, 1) := by decide +kernel
theorem dX4_gatherVacant_48 : decode cX4_gatherVacant 48 = .ok (.getfield 19, 3) := by decide +kernel
theorem dX4_gatherVacant_51 : decode cX4_gatherVacant 51 = .ok (.aload_n 0, 1) := by decide +kernel
theorem dX4_gatherVacant_52 : decode cX4_gatherVacant 52 = .ok (.getfield 45, 3) := by decide +kernel
theorem dX4_gatherVacant_55 : decode cX4_gatherVacant 55 = .ok (.aload_n 2, 1) := by decide +kernel
theorem dX4_gatherVacant_56 : decode cX4_gatherVacant 56 = .ok (.aastore, 1) := by decide +kernel
theorem dX4_gatherVacant_57 : decode cX4_gatherVacant 57 = .ok (.aload_n 0, 1) := by decide +kernel
theorem dX4_gatherVacant_58 : decode cX4_gatherVacant 58 = .ok (.dup, 1) := by decide +kernel
theorem dX4_gatherVacant_59 : decode cX4_gatherVacant 59 = .ok (.getfield 45, 3) := by decide +kernel
theorem dX4_gatherVacant_62 : decode cX4_gatherVacant 62 = .ok (.iconst 1, 1) := by decide +kernel
theorem dX4_gatherVacant_63 : decode cX4_gatherVacant 63 = .ok (.iadd, 1) := by decide +kernel
theorem dX4_gatherVacant_64 : decode cX4_gatherVacant 64 = .ok (.putfield 45, 3) := by decide +kernel
theorem dX4_gatherVacant_67 : decode cX4_gatherVacant 67 = .ok (.iinc 1 1, 3) := by decide +kernel
theorem dX4_gatherVacant_70 : decode cX4_gatherVacant 70 = .ok (.goto (-63), 3) := by decide +kernel
theorem dX4_gatherVacant_73 : decode cX4_gatherVacant 73 = .ok (.return_, 1) := by decide +kernel
theorem dX4_gatherWorth_0 : decode cX4_gatherWorth 0 = .ok (.iconst 0, 1) := by decide +kernel
theorem dX4_gatherWorth_1 : decode cX4_gatherWorth 1 = .ok (.istore_n 2, 1) := by decide +kernel
theorem dX4_gatherWorth_2 : decode cX4_gatherWorth 2 = .ok (.iload_n 2, 1) := by decide +kernel
theorem dX4_gatherWorth_3 : decode cX4_gatherWorth 3 = .ok (.bipush 8, 2) := by decide +kernel
theorem dX4_gatherWorth_5 : decode cX4_gatherWorth 5 = .ok (.if_icmp .ge 49, 3) := by decide +kernel
theorem dX4_gatherWorth_8 : decode cX4_gatherWorth 8 = .ok (.iload_n 1, 1) := by decide +kernel
theorem dX4_gatherWorth_9 : decode cX4_gatherWorth 9 = .ok (.bipush 8, 2) := by decide +kernel
theorem dX4_gatherWorth_11 : decode cX4_gatherWorth 11 = .ok (.imul, 1) := by decide +kernel
theorem dX4_gatherWorth_12 : decode cX4_gatherWorth 12 = .ok (.iload_n 2, 1) := by decide +kernel
theorem dX4_gatherWorth_13 : decode cX4_gatherWorth 13 = .ok (.iadd, 1) := by decide +kernel
theorem dX4_gatherWorth_14 : decode cX4_gatherWorth 14 = .ok (.istore_n 3, 1) := by decide +kernel
theorem dX4_gatherWorth_15 : decode cX4_gatherWorth 15 = .ok (.iload_n 3, 1) := by decide +kernel
theorem dX4_gatherWorth_16 : decode cX4_gatherWorth 16 = .ok (.ifCond .lt 32, 3) := by decide +kernel
theorem dX4_gatherWorth_19 : decode cX4_gatherWorth 19 = .ok (.iload_n 3, 1) := by decide +kernel
theorem dX4_gatherWorth_20 : decode cX4_gatherWorth 20 = .ok (.aload_n 0, 1) := by decide +kernel
theorem dX4_gatherWorth_21 : decode cX4_gatherWorth 21 = .ok (.getfield 23, 3) := by decide +kernel
theorem dX4_gatherWorth_24 : decode cX4_gatherWorth 24 = .ok (.arraylength, 1) := by decide +kernel
theorem dX4_gatherWorth_25 : decode cX4_gatherWorth 25 = .ok (.if_icmp .ge 23, 3) := by decide +kernel
theorem dX4_gatherWorth_28 : decode cX4_gatherWorth 28 = .ok (.aload_n 0, 1) := by decide +kernel
theorem dX4_gatherWorth_29 : decode cX4_gatherWorth 29 = .ok (.getfield 23, 3) := by decide +kernel
theorem dX4_gatherWorth_32 : decode cX4_gatherWorth 32 = .ok (.iload_n 3, 1) := by decide +kernel
theorem dX4_gatherWorth_33 : decode cX4_gatherWorth 33 = .ok (.aload_n 0, 1) := by decide +kernel
theorem dX4_gatherWorth_34 : decode cX4_gatherWorth 34 = .ok (.aload_n 0, 1) := by decide +kernel
theorem dX4_gatherWorth_35 : decode cX4_gatherWorth 35 = .ok (.iload_n 1, 1) := by decide +kernel
theorem dX4_gatherWorth_36 : decode cX4_gatherWorth 36 = .ok (.invokevirtual 41, 3) := by decide +kernel
theorem dX4_gatherWorth_39 : decode cX4_gatherWorth 39 = .ok (.aload_n 0, 1) := by decide +kernel
theorem dX4_gatherWorth_40 : decode cX4_gatherWorth 40 = .ok (.iload_n 2, 1) := by decide +kernel
theorem dX4_gatherWorth_41 : decode cX4_gatherWorth 41 = .ok (.invokevirtual 80, 3) := by decide +kernel
theorem dX4_gatherWorth_44 : decode cX4_gatherWorth 44 = .ok (.invokevirtual 83, 3) := by decide +kernel
theorem dX4_gatherWorth_47 : decode cX4_gatherWorth 47 = .ok (.iastore, 1) := by decide +kernel
theorem dX4_gatherWorth_48 : decode cX4_gatherWorth 48 = .ok (.iinc 2 1, 3) := by decide +kernel
theorem dX4_gatherWorth_51 : decode cX4_gatherWorth 51 = .ok (.goto (-49), 3) := by decide +kernel
theorem dX4_gatherWorth_54 : decode cX4_gatherWorth 54 = .ok (.return_, 1) := by decide +kernel
theorem dX4_worthTo_0 : decode cX4_worthTo 0 = .ok (.aload_n 1, 1) := by decide +kernel
theorem dX4_worthTo_1 : decode cX4_worthTo 1 = .ok (.ifnull 14, 3) := by decide +kernel
theorem dX4_worthTo_4 : decode cX4_worthTo 4 = .ok (.aload_n 2, 1) := by decide +kernel
theorem dX4_worthTo_5 : decode cX4_worthTo 5 = .ok (.ifnull 10, 3) := by decide +kernel
theorem dX4_worthTo_8 : decode cX4_worthTo 8 = .ok (.aload_n 1, 1) := by decide +kernel
theorem dX4_worthTo_9 : decode cX4_worthTo 9 = .ok (.invokevirtual 87, 3) := by decide +kernel
theorem dX4_worthTo_12 : decode cX4_worthTo 12 = .ok (.ifCond .ne 5, 3) := by decide +kernel
theorem dX4_worthTo_15 : decode cX4_worthTo 15 = .ok (.iconst 0, 1) := by decide +kernel
theorem dX4_worthTo_16 : decode cX4_worthTo 16 = .ok (.ireturn, 1) := by decide +kernel
theorem dX4_worthTo_17 : decode cX4_worthTo 17 = .ok (.aload_n 0, 1) := by decide +kernel
theorem dX4_worthTo_18 : decode cX4_worthTo 18 = .ok (.getfield 33, 3) := by decide +kernel
theorem dX4_worthTo_21 : decode cX4_worthTo 21 = .ok (.aload_n 1, 1) := by decide +kernel
theorem dX4_worthTo_22 : decode cX4_worthTo 22 = .ok (.aload_n 2, 1) := by decide +kernel
theorem dX4_worthTo_23 : decode cX4_worthTo 23 = .ok (.invokevirtual 90, 3) := by decide +kernel
theorem dX4_worthTo_26 : decode cX4_worthTo 26 = .ok (.istore_n 3, 1) := by decide +kernel
theorem dX4_worthTo_27 : decode cX4_worthTo 27 = .ok (.iload_n 3, 1) := by decide +kernel
theorem dX4_worthTo_28 : decode cX4_worthTo 28 = .ok (.bipush 30, 2) := by decide +kernel
theorem dX4_worthTo_30 : decode cX4_worthTo 30 = .ok (.if_icmp .ge 5, 3) := by decide +kernel
theorem dX4_worthTo_33 : decode cX4_worthTo 33 = .ok (.iconst 0, 1) := by decide +kernel
theorem dX4_worthTo_34 : decode cX4_worthTo 34 = .ok (.ireturn, 1) := by decide +kernel
theorem dX4_worthTo_35 : decode cX4_worthTo 35 = .ok (.iload_n 3, 1) := by decide +kernel
theorem dX4_worthTo_36 : decode cX4_worthTo 36 = .ok (.sipush 1000, 3) := by decide +kernel
theorem dX4_worthTo_39 : decode cX4_worthTo 39 = .ok (.iadd, 1) := by decide +kernel
theorem dX4_worthTo_40 : decode cX4_worthTo 40 = .ok (.aload_n 0, 1) := by decide +kernel
theorem dX4_worthTo_41 : decode cX4_worthTo 41 = .ok (.getfield 33, 3) := by decide +kernel
theorem dX4_worthTo_44 : decode cX4_worthTo 44 = .ok (.aload_n 1, 1) := by decide +kernel
theorem dX4_worthTo_45 : decode cX4_worthTo 45 = .ok (.invokevirtual 93, 3) := by decide +kernel
theorem dX4_worthTo_48 : decode cX4_worthTo 48 = .ok (.ifCond .eq 8, 3) := by decide +kernel
theorem dX4_worthTo_51 : decode cX4_worthTo 51 = .ok (.ldc 97, 2) := by decide +kernel
theorem dX4_worthTo_53 : decode cX4_worthTo 53 = .ok (.goto 4, 3) := by decide +kernel
theorem dX4_worthTo_56 : decode cX4_worthTo 56 = .ok (.iconst 0, 1) := by decide +kernel
theorem dX4_worthTo_57 : decode cX4_worthTo 57 = .ok (.iadd, 1) := by decide +kernel
theorem dX4_worthTo_58 : decode cX4_worthTo 58 = .ok (.ireturn, 1) := by decide +kernel
theorem dX4_bestFrom_0 : decode cX4_bestFrom 0 = .ok (.iload_n 1, 1) := by decide +kernel
theorem dX4_bestFrom_1 : decode cX4_bestFrom 1 = .ok (.sipush 256, 3) := by decide +kernel
theorem dX4_bestFrom_4 : decode cX4_bestFrom 4 = .ok (.imul, 1) := by decide +kernel
theorem dX4_bestFrom_5 : decode cX4_bestFrom 5 = .ok (.iload_n 2, 1) := by decide +kernel
theorem dX4_bestFrom_6 : decode cX4_bestFrom 6 = .ok (.iadd, 1) := by decide +kernel
theorem dX4_bestFrom_7 : decode cX4_bestFrom 7 = .ok (.istore_n 3, 1) := by decide +kernel
theorem dX4_bestFrom_8 : decode cX4_bestFrom 8 = .ok (.iload_n 3, 1) := by decide +kernel
theorem dX4_bestFrom_9 : decode cX4_bestFrom 9 = .ok (.ifCond .lt 21, 3) := by decide +kernel
theorem dX4_bestFrom_12 : decode cX4_bestFrom 12 = .ok (.iload_n 3, 1) := by decide +kernel
theorem dX4_bestFrom_13 : decode cX4_bestFrom 13 = .ok (.aload_n 0, 1) := by decide +kernel
theorem dX4_bestFrom_14 : decode cX4_bestFrom 14 = .ok (.getfield 27, 3) := by decide +kernel
theorem dX4_bestFrom_17 : decode cX4_bestFrom 17 = .ok (.arraylength, 1) := by decide +kernel
theorem dX4_bestFrom_18 : decode cX4_bestFrom 18 = .ok (.if_icmp .ge 12, 3) := by decide +kernel
theorem dX4_bestFrom_21 : decode cX4_bestFrom 21 = .ok (.aload_n 0, 1) := by decide +kernel
theorem dX4_bestFrom_22 : decode cX4_bestFrom 22 = .ok (.getfield 27, 3) := by decide +kernel
theorem dX4_bestFrom_25 : decode cX4_bestFrom 25 = .ok (.iload_n 3, 1) := by decide +kernel
theorem dX4_bestFrom_26 : decode cX4_bestFrom 26 = .ok (.iaload, 1) := by decide +kernel
theorem dX4_bestFrom_27 : decode cX4_bestFrom 27 = .ok (.goto 4, 3) := by decide +kernel
theorem dX4_bestFrom_30 : decode cX4_bestFrom 30 = .ok (.iconst 0, 1) := by decide +kernel
theorem dX4_bestFrom_31 : decode cX4_bestFrom 31 = .ok (.ireturn, 1) := by decide +kernel
theorem dX4_bestWith_0 : decode cX4_bestWith 0 = .ok (.iload_n 1, 1) := by decide +kernel
theorem dX4_bestWith_1 : decode cX4_bestWith 1 = .ok (.bipush 8, 2) := by decide +kernel
theorem dX4_bestWith_3 : decode cX4_bestWith 3 = .ok (.imul, 1) := by decide +kernel
theorem dX4_bestWith_4 : decode cX4_bestWith 4 = .ok (.iload_n 2, 1) := by decide +kernel
theorem dX4_bestWith_5 : decode cX4_bestWith 5 = .ok (.iadd, 1) := by decide +kernel
theorem dX4_bestWith_6 : decode cX4_bestWith 6 = .ok (.istore 4, 2) := by decide +kernel
theorem dX4_bestWith_8 : decode cX4_bestWith 8 = .ok (.iload 4, 2) := by decide +kernel
theorem dX4_bestWith_10 : decode cX4_bestWith 10 = .ok (.ifCond .lt 32, 3) := by decide +kernel
theorem dX4_bestWith_13 : decode cX4_bestWith 13 = .ok (.iload 4, 2) := by decide +kernel
theorem dX4_bestWith_15 : decode cX4_bestWith 15 = .ok (.aload_n 0, 1) := by decide +kernel
theorem dX4_bestWith_16 : decode cX4_bestWith 16 = .ok (.getfield 23, 3) := by decide +kernel
theorem dX4_bestWith_19 : decode cX4_bestWith 19 = .ok (.arraylength, 1) := by decide +kernel
theorem dX4_bestWith_20 : decode cX4_bestWith 20 = .ok (.if_icmp .ge 22, 3) := by decide +kernel
theorem dX4_bestWith_23 : decode cX4_bestWith 23 = .ok (.aload_n 0, 1) := by decide +kernel
theorem dX4_bestWith_24 : decode cX4_bestWith 24 = .ok (.getfield 23, 3) := by decide +kernel
theorem dX4_bestWith_27 : decode cX4_bestWith 27 = .ok (.iload 4, 2) := by decide +kernel
theorem dX4_bestWith_29 : decode cX4_bestWith 29 = .ok (.iaload, 1) := by decide +kernel
theorem dX4_bestWith_30 : decode cX4_bestWith 30 = .ok (.ifCond .eq 12, 3) := by decide +kernel
theorem dX4_bestWith_33 : decode cX4_bestWith 33 = .ok (.iload_n 3, 1) := by decide +kernel
theorem dX4_bestWith_34 : decode cX4_bestWith 34 = .ok (.iload_n 2, 1) := by decide +kernel
theorem dX4_bestWith_35 : decode cX4_bestWith 35 = .ok (.ishr, 1) := by decide +kernel
theorem dX4_bestWith_36 : decode cX4_bestWith 36 = .ok (.iconst 1, 1) := by decide +kernel
theorem dX4_bestWith_37 : decode cX4_bestWith 37 = .ok (.iand, 1) := by decide +kernel
theorem dX4_bestWith_38 : decode cX4_bestWith 38 = .ok (.iconst 1, 1) := by decide +kernel
theorem dX4_bestWith_39 : decode cX4_bestWith 39 = .ok (.if_icmp .ne 5, 3) := by decide +kernel
theorem dX4_bestWith_42 : decode cX4_bestWith 42 = .ok (.iconst (-1), 1) := by decide +kernel
theorem dX4_bestWith_43 : decode cX4_bestWith 43 = .ok (.ireturn, 1) := by decide +kernel
theorem dX4_bestWith_44 : decode cX4_bestWith 44 = .ok (.aload_n 0, 1) := by decide +kernel
theorem dX4_bestWith_45 : decode cX4_bestWith 45 = .ok (.getfield 23, 3) := by decide +kernel
theorem dX4_bestWith_48 : decode cX4_bestWith 48 = .ok (.iload 4, 2) := by decide +kernel
theorem dX4_bestWith_50 : decode cX4_bestWith 50 = .ok (.iaload, 1) := by decide +kernel
theorem dX4_bestWith_51 : decode cX4_bestWith 51 = .ok (.aload_n 0, 1) := by decide +kernel
theorem dX4_bestWith_52 : decode cX4_bestWith 52 = .ok (.iload_n 1, 1) := by decide +kernel
theorem dX4_bestWith_53 : decode cX4_bestWith 53 = .ok (.iconst 1, 1) := by decide +kernel
theorem dX4_bestWith_54 : decode cX4_bestWith 54 = .ok (.iadd, 1) := by decide +kernel
theorem dX4_bestWith_55 : decode cX4_bestWith 55 = .ok (.iload_n 3, 1) := by decide +kernel
theorem dX4_bestWith_56 : decode cX4_bestWith 56 = .ok (.iconst 1, 1) := by decide +kernel
theorem dX4_bestWith_57 : decode cX4_bestWith 57 = .ok (.iload_n 2, 1) := by decide +kernel
theorem dX4_bestWith_58 : decode cX4_bestWith 58 = .ok (.ishl, 1) := by decide +kernel
theorem dX4_bestWith_59 : decode cX4_bestWith 59 = .ok (.ior, 1) := by decide +kernel
theorem dX4_bestWith_60 : decode cX4_bestWith 60 = .ok (.invokevirtual 98, 3) := by decide +kernel
theorem dX4_bestWith_63 : decode cX4_bestWith 63 = .ok (.iadd, 1) := by decide +kernel
theorem dX4_bestWith_64 : decode cX4_bestWith 64 = .ok (.ireturn, 1) := by decide +kernel
theorem dX4_fillRow_0 : decode cX4_fillRow 0 = .ok (.iconst 0, 1) := by decide +kernel
theorem dX4_fillRow_1 : decode cX4_fillRow 1 = .ok (.istore_n 2, 1) := by decide +kernel
theorem dX4_fillRow_2 : decode cX4_fillRow 2 = .ok (.iload_n 2, 1) := by decide +kernel
theorem dX4_fillRow_3 : decode cX4_fillRow 3 = .ok (.iconst 1, 1) := by decide +kernel
theorem dX4_fillRow_4 : decode cX4_fillRow 4 = .ok (.aload_n 0, 1) := by decide +kernel
theorem dX4_fillRow_5 : decode cX4_fillRow 5 = .ok (.getfield 45, 3) := by decide +kernel
theorem dX4_fillRow_8 : decode cX4_fillRow 8 = .ok (.ishl, 1) := by decide +kernel
theorem dX4_fillRow_9 : decode cX4_fillRow 9 = .ok (.if_icmp .ge 23, 3) := by decide +kernel
theorem dX4_fillRow_12 : decode cX4_fillRow 12 = .ok (.iload_n 2, 1) := by decide +kernel
theorem dX4_fillRow_13 : decode cX4_fillRow 13 = .ok (.invokestatic 102, 3) := by decide +kernel
theorem dX4_fillRow_16 : decode cX4_fillRow 16 = .ok (.iload_n 1, 1) := by decide +kernel
theorem dX4_fillRow_17 : decode cX4_fillRow 17 = .ok (.if_icmp .gt 9, 3) := by decide +kernel
theorem dX4_fillRow_20 : decode cX4_fillRow 20 = .ok (.aload_n 0, 1) := by decide +kernel
theorem dX4_fillRow_21 : decode cX4_fillRow 21 = .ok (.iload_n 1, 1) := by decide +kernel
theorem dX4_fillRow_22 : decode cX4_fillRow 22 = .ok (.iload_n 2, 1) := by decide +kernel
theorem dX4_fillRow_23 : decode cX4_fillRow 23 = .ok (.invokevirtual 108, 3) := by decide +kernel
theorem dX4_fillRow_26 : decode cX4_fillRow 26 = .ok (.iinc 2 1, 3) := by decide +kernel
theorem dX4_fillRow_29 : decode cX4_fillRow 29 = .ok (.goto (-27), 3) := by decide +kernel
theorem dX4_fillRow_32 : decode cX4_fillRow 32 = .ok (.return_, 1) := by decide +kernel
theorem dX4_fillBest_0 : decode cX4_fillBest 0 = .ok (.aload_n 0, 1) := by decide +kernel
theorem dX4_fillBest_1 : decode cX4_fillBest 1 = .ok (.iload_n 1, 1) := by decide +kernel
theorem dX4_fillBest_2 : decode cX4_fillBest 2 = .ok (.iconst 1, 1) := by decide +kernel
theorem dX4_fillBest_3 : decode cX4_fillBest 3 = .ok (.iadd, 1) := by decide +kernel
theorem dX4_fillBest_4 : decode cX4_fillBest 4 = .ok (.iload_n 2, 1) := by decide +kernel
theorem dX4_fillBest_5 : decode cX4_fillBest 5 = .ok (.invokevirtual 98, 3) := by decide +kernel
theorem dX4_fillBest_8 : decode cX4_fillBest 8 = .ok (.istore_n 3, 1) := by decide +kernel
theorem dX4_fillBest_9 : decode cX4_fillBest 9 = .ok (.iconst 0, 1) := by decide +kernel
theorem dX4_fillBest_10 : decode cX4_fillBest 10 = .ok (.istore 4, 2) := by decide +kernel
theorem dX4_fillBest_12 : decode cX4_fillBest 12 = .ok (.iload 4, 2) := by decide +kernel
theorem dX4_fillBest_14 : decode cX4_fillBest 14 = .ok (.aload_n 0, 1) := by decide +kernel
theorem dX4_fillBest_15 : decode cX4_fillBest 15 = .ok (.getfield 45, 3) := by decide +kernel
theorem dX4_fillBest_18 : decode cX4_fillBest 18 = .ok (.if_icmp .ge 22, 3) := by decide +kernel
theorem dX4_fillBest_21 : decode cX4_fillBest 21 = .ok (.iload_n 3, 1) := by decide +kernel
theorem dX4_fillBest_22 : decode cX4_fillBest 22 = .ok (.aload_n 0, 1) := by decide +kernel
theorem dX4_fillBest_23 : decode cX4_fillBest 23 = .ok (.iload_n 1, 1) := by decide +kernel
theorem dX4_fillBest_24 : decode cX4_fillBest 24 = .ok (.iload 4, 2) := by decide +kernel
theorem dX4_fillBest_26 : decode cX4_fillBest 26 = .ok (.iload_n 2, 1) := by decide +kernel
theorem dX4_fillBest_27 : decode cX4_fillBest 27 = .ok (.invokevirtual 112, 3) := by decide +kernel
theorem dX4_fillBest_30 : decode cX4_fillBest 30 = .ok (.invokestatic 116, 3) := by decide +kernel
theorem dX4_fillBest_33 : decode cX4_fillBest 33 = .ok (.istore_n 3, 1) := by decide +kernel
theorem dX4_fillBest_34 : decode cX4_fillBest 34 = .ok (.iinc 4 1, 3) := by decide +kernel
theorem dX4_fillBest_37 : decode cX4_fillBest 37 = .ok (.goto (-25), 3) := by decide +kernel
theorem dX4_fillBest_40 : decode cX4_fillBest 40 = .ok (.iload_n 1, 1) := by decide +kernel
theorem dX4_fillBest_41 : decode cX4_fillBest 41 = .ok (.sipush 256, 3) := by decide +kernel
theorem dX4_fillBest_44 : decode cX4_fillBest 44 = .ok (.imul, 1) := by decide +kernel
theorem dX4_fillBest_45 : decode cX4_fillBest 45 = .ok (.iload_n 2, 1) := by decide +kernel
theorem dX4_fillBest_46 : decode cX4_fillBest 46 = .ok (.iadd, 1) := by decide +kernel
theorem dX4_fillBest_47 : decode cX4_fillBest 47 = .ok (.istore 4, 2) := by decide +kernel
theorem dX4_fillBest_49 : decode cX4_fillBest 49 = .ok (.iload 4, 2) := by decide +kernel
theorem dX4_fillBest_51 : decode cX4_fillBest 51 = .ok (.ifCond .lt 21, 3) := by decide +kernel
theorem dX4_fillBest_54 : decode cX4_fillBest 54 = .ok (.iload 4, 2) := by decide +kernel
theorem dX4_fillBest_56 : decode cX4_fillBest 56 = .ok (.aload_n 0, 1) := by decide +kernel
theorem dX4_fillBest_57 : decode cX4_fillBest 57 = .ok (.getfield 27, 3) := by decide +kernel
theorem dX4_fillBest_60 : decode cX4_fillBest 60 = .ok (.arraylength, 1) := by decide +kernel
theorem dX4_fillBest_61 : decode cX4_fillBest 61 = .ok (.if_icmp .ge 11, 3) := by decide +kernel
theorem dX4_fillBest_64 : decode cX4_fillBest 64 = .ok (.aload_n 0, 1) := by decide +kernel
theorem dX4_fillBest_65 : decode cX4_fillBest 65 = .ok (.getfield 27, 3) := by decide +kernel
theorem dX4_fillBest_68 : decode cX4_fillBest 68 = .ok (.iload 4, 2) := by decide +kernel
theorem dX4_fillBest_70 : decode cX4_fillBest 70 = .ok (.iload_n 3, 1) := by decide +kernel
theorem dX4_fillBest_71 : decode cX4_fillBest 71 = .ok (.iastore, 1) := by decide +kernel
theorem dX4_fillBest_72 : decode cX4_fillBest 72 = .ok (.return_, 1) := by decide +kernel
theorem dX4_pickOffers_0 : decode cX4_pickOffers 0 = .ok (.iconst 0, 1) := by decide +kernel
theorem dX4_pickOffers_1 : decode cX4_pickOffers 1 = .ok (.istore_n 1, 1) := by decide +kernel
theorem dX4_pickOffers_2 : decode cX4_pickOffers 2 = .ok (.iconst 0, 1) := by decide +kernel
theorem dX4_pickOffers_3 : decode cX4_pickOffers 3 = .ok (.istore_n 2, 1) := by decide +kernel
theorem dX4_pickOffers_4 : decode cX4_pickOffers 4 = .ok (.iload_n 2, 1) := by decide +kernel
theorem dX4_pickOffers_5 : decode cX4_pickOffers 5 = .ok (.aload_n 0, 1) := by decide +kernel
theorem dX4_pickOffers_6 : decode cX4_pickOffers 6 = .ok (.getfield 37, 3) := by decide +kernel
theorem dX4_pickOffers_9 : decode cX4_pickOffers 9 = .ok (.if_icmp .ge 43, 3) := by decide +kernel
theorem dX4_pickOffers_12 : decode cX4_pickOffers 12 = .ok (.iload_n 2, 1) := by decide +kernel
theorem dX4_pickOffers_13 : decode cX4_pickOffers 13 = .ok (.bipush 8, 2) := by decide +kernel
theorem dX4_pickOffers_15 : decode cX4_pickOffers 15 = .ok (.if_icmp .ge 37, 3) := by decide +kernel
theorem dX4_pickOffers_18 : decode cX4_pickOffers 18 = .ok (.aload_n 0, 1) := by decide +kernel
theorem dX4_pickOffers_19 : decode cX4_pickOffers 19 = .ok (.iload_n 2, 1) := by decide +kernel
theorem dX4_pickOffers_20 : decode cX4_pickOffers 20 = .ok (.iload_n 1, 1) := by decide +kernel
theorem dX4_pickOffers_21 : decode cX4_pickOffers 21 = .ok (.invokevirtual 121, 3) := by decide +kernel
theorem dX4_pickOffers_24 : decode cX4_pickOffers 24 = .ok (.istore_n 3, 1) := by decide +kernel
theorem dX4_pickOffers_25 : decode cX4_pickOffers 25 = .ok (.aload_n 0, 1) := by decide +kernel
theorem dX4_pickOffers_26 : decode cX4_pickOffers 26 = .ok (.getfield 30, 3) := by decide +kernel
theorem dX4_pickOffers_29 : decode cX4_pickOffers 29 = .ok (.iload_n 2, 1) := by decide +kernel
theorem dX4_pickOffers_30 : decode cX4_pickOffers 30 = .ok (.aload_n 0, 1) := by decide +kernel
theorem dX4_pickOffers_31 : decode cX4_pickOffers 31 = .ok (.iload_n 3, 1) := by decide +kernel
theorem dX4_pickOffers_32 : decode cX4_pickOffers 32 = .ok (.invokevirtual 80, 3) := by decide +kernel
theorem dX4_pickOffers_35 : decode cX4_pickOffers 35 = .ok (.aastore, 1) := by decide +kernel
theorem dX4_pickOffers_36 : decode cX4_pickOffers 36 = .ok (.iload_n 3, 1) := by decide +kernel
theorem dX4_pickOffers_37 : decode cX4_pickOffers 37 = .ok (.ifCond .lt 9, 3) := by decide +kernel
theorem dX4_pickOffers_40 : decode cX4_pickOffers 40 = .ok (.iload_n 1, 1) := by decide +kernel
theorem dX4_pickOffers_41 : decode cX4_pickOffers 41 = .ok (.iconst 1, 1) := by decide +kernel
theorem dX4_pickOffers_42 : decode cX4_pickOffers 42 = .ok (.iload_n 3, 1) := by decide +kernel
theorem dX4_pickOffers_43 : decode cX4_pickOffers 43 = .ok (.ishl, 1) := by decide +kernel
theorem dX4_pickOffers_44 : decode cX4_pickOffers 44 = .ok (.ior, 1) := by decide +kernel
theorem dX4_pickOffers_45 : decode cX4_pickOffers 45 = .ok (.istore_n 1, 1) := by decide +kernel
theorem dX4_pickOffers_46 : decode cX4_pickOffers 46 = .ok (.iinc 2 1, 3) := by decide +kernel
theorem dX4_pickOffers_49 : decode cX4_pickOffers 49 = .ok (.goto (-45), 3) := by decide +kernel
theorem dX4_pickOffers_52 : decode cX4_pickOffers 52 = .ok (.return_, 1) := by decide +kernel
theorem dX4_leastPick_0 : decode cX4_leastPick 0 = .ok (.aload_n 0, 1) := by decide +kernel
theorem dX4_leastPick_1 : decode cX4_leastPick 1 = .ok (.iload_n 1, 1) := by decide +kernel
theorem dX4_leastPick_2 : decode cX4_leastPick 2 = .ok (.iload_n 2, 1) := by decide +kernel
theorem dX4_leastPick_3 : decode cX4_leastPick 3 = .ok (.invokevirtual 98, 3) := by decide +kernel
theorem dX4_leastPick_6 : decode cX4_leastPick 6 = .ok (.istore_n 3, 1) := by decide +kernel
theorem dX4_leastPick_7 : decode cX4_leastPick 7 = .ok (.iconst 0, 1) := by decide +kernel
theorem dX4_leastPick_8 : decode cX4_leastPick 8 = .ok (.istore 4, 2) := by decide +kernel
theorem dX4_leastPick_10 : decode cX4_leastPick 10 = .ok (.iload 4, 2) := by decide +kernel
theorem dX4_leastPick_12 : decode cX4_leastPick 12 = .ok (.aload_n 0, 1) := by decide +kernel
theorem dX4_leastPick_13 : decode cX4_leastPick 13 = .ok (.getfield 45, 3) := by decide +kernel
theorem dX4_leastPick_16 : decode cX4_leastPick 16 = .ok (.if_icmp .ge 24, 3) := by decide +kernel
theorem dX4_leastPick_19 : decode cX4_leastPick 19 = .ok (.aload_n 0, 1) := by decide +kernel
theorem dX4_leastPick_20 : decode cX4_leastPick 20 = .ok (.iload_n 1, 1) := by decide +kernel
theorem dX4_leastPick_21 : decode cX4_leastPick 21 = .ok (.iload 4, 2) := by decide +kernel
theorem dX4_leastPick_23 : decode cX4_leastPick 23 = .ok (.iload_n 2, 1) := by decide +kernel
theorem dX4_leastPick_24 : decode cX4_leastPick 24 = .ok (.invokevirtual 112, 3) := by decide +kernel
theorem dX4_leastPick_27 : decode cX4_leastPick 27 = .ok (.iload_n 3, 1) := by decide +kernel
theorem dX4_leastPick_28 : decode cX4_leastPick 28 = .ok (.if_icmp .ne 6, 3) := by decide +kernel
theorem dX4_leastPick_31 : decode cX4_leastPick 31 = .ok (.iload 4, 2) := by decide +kernel
theorem dX4_leastPick_33 : decode cX4_leastPick 33 = .ok (.ireturn, 1) := by decide +kernel
theorem dX4_leastPick_34 : decode cX4_leastPick 34 = .ok (.iinc 4 1, 3) := by decide +kernel
theorem dX4_leastPick_37 : decode cX4_leastPick 37 = .ok (.goto (-27), 3) := by decide +kernel
theorem dX4_leastPick_40 : decode cX4_leastPick 40 = .ok (.iconst (-1), 1) := by decide +kernel
theorem dX4_leastPick_41 : decode cX4_leastPick 41 = .ok (.ireturn, 1) := by decide +kernel
theorem dX4_postFor_0 : decode cX4_postFor 0 = .ok (.iload_n 1, 1) := by decide +kernel
theorem dX4_postFor_1 : decode cX4_postFor 1 = .ok (.ifCond .lt 26, 3) := by decide +kernel
theorem dX4_postFor_4 : decode cX4_postFor 4 = .ok (.iload_n 1, 1) := by decide +kernel
theorem dX4_postFor_5 : decode cX4_postFor 5 = .ok (.aload_n 0, 1) := by decide +kernel
theorem dX4_postFor_6 : decode cX4_postFor 6 = .ok (.getfield 37, 3) := by decide +kernel
theorem dX4_postFor_9 : decode cX4_postFor 9 = .ok (.if_icmp .ge 18, 3) := by decide +kernel
theorem dX4_postFor_12 : decode cX4_postFor 12 = .ok (.iload_n 1, 1) := by decide +kernel
theorem dX4_postFor_13 : decode cX4_postFor 13 = .ok (.bipush 8, 2) := by decide +kernel
theorem dX4_postFor_15 : decode cX4_postFor 15 = .ok (.if_icmp .ge 12, 3) := by decide +kernel
theorem dX4_postFor_18 : decode cX4_postFor 18 = .ok (.aload_n 0, 1) := by decide +kernel
theorem dX4_postFor_19 : decode cX4_postFor 19 = .ok (.getfield 30, 3) := by decide +kernel
theorem dX4_postFor_22 : decode cX4_postFor 22 = .ok (.iload_n 1, 1) := by decide +kernel
theorem dX4_postFor_23 : decode cX4_postFor 23 = .ok (.aaload, 1) := by decide +kernel
theorem dX4_postFor_24 : decode cX4_postFor 24 = .ok (.goto 4, 3) := by decide +kernel
theorem dX4_postFor_27 : decode cX4_postFor 27 = .ok (.aconst_null, 1) := by decide +kernel
theorem dX4_postFor_28 : decode cX4_postFor 28 = .ok (.astore_n 2, 1) := by decide +kernel
theorem dX4_postFor_29 : decode cX4_postFor 29 = .ok (.aload_n 2, 1) := by decide +kernel
theorem dX4_postFor_30 : decode cX4_postFor 30 = .ok (.ifnonnull 8, 3) := by decide +kernel
theorem dX4_postFor_33 : decode cX4_postFor 33 = .ok (.bipush (-9), 2) := by decide +kernel
theorem dX4_postFor_35 : decode cX4_postFor 35 = .ok (.goto 7, 3) := by decide +kernel
theorem dX4_postFor_38 : decode cX4_postFor 38 = .ok (.aload_n 2, 1) := by decide +kernel
theorem dX4_postFor_39 : decode cX4_postFor 39 = .ok (.getfield 124, 3) := by decide +kernel
theorem dX4_postFor_42 : decode cX4_postFor 42 = .ok (.ireturn, 1) := by decide +kernel
theorem dX4_total_0 : decode cX4_total 0 = .ok (.aload_n 0, 1) := by decide +kernel
theorem dX4_total_1 : decode cX4_total 1 = .ok (.iconst 0, 1) := by decide +kernel
theorem dX4_total_2 : decode cX4_total 2 = .ok (.iconst 0, 1) := by decide +kernel
theorem dX4_total_3 : decode cX4_total 3 = .ok (.invokevirtual 98, 3) := by decide +kernel
theorem dX4_total_6 : decode cX4_total 6 = .ok (.istore_n 2, 1) := by decide +kernel
theorem dX4_total_7 : decode cX4_total 7 = .ok (.iload_n 1, 1) := by decide +kernel
theorem dX4_total_8 : decode cX4_total 8 = .ok (.lookupswitch 42 #[(0, 28), (1, 33)], 28) := by decide +kernel
theorem dX4_total_36 : decode cX4_total 36 = .ok (.iload_n 2, 1) := by decide +kernel
theorem dX4_total_37 : decode cX4_total 37 = .ok (.ldc 97, 2) := by decide +kernel
theorem dX4_total_39 : decode cX4_total 39 = .ok (.idiv, 1) := by decide +kernel
theorem dX4_total_40 : decode cX4_total 40 = .ok (.ireturn, 1) := by decide +kernel
theorem dX4_total_41 : decode cX4_total 41 = .ok (.iload_n 2, 1) := by decide +kernel
theorem dX4_total_42 : decode cX4_total 42 = .ok (.ldc 97, 2) := by decide +kernel
theorem dX4_total_44 : decode cX4_total 44 = .ok (.irem, 1) := by decide +kernel
theorem dX4_total_45 : decode cX4_total 45 = .ok (.sipush 1000, 3) := by decide +kernel
theorem dX4_total_48 : decode cX4_total 48 = .ok (.idiv, 1) := by decide +kernel
theorem dX4_total_49 : decode cX4_total 49 = .ok (.ireturn, 1) := by decide +kernel
theorem dX4_total_50 : decode cX4_total 50 = .ok (.iload_n 2, 1) := by decide +kernel
theorem dX4_total_51 : decode cX4_total 51 = .ok (.sipush 1000, 3) := by decide +kernel
theorem dX4_total_54 : decode cX4_total 54 = .ok (.irem, 1) := by decide +kernel
theorem dX4_total_55 : decode cX4_total 55 = .ok (.ireturn, 1) := by decide +kernel
theorem dX5_init_0 : decode cX5_init 0 = .ok (.aload_n 0, 1) := by decide +kernel
theorem dX5_init_1 : decode cX5_init 1 = .ok (.invokespecial 3, 3) := by decide +kernel
theorem dX5_init_4 : decode cX5_init 4 = .ok (.aload_n 0, 1) := by decide +kernel
theorem dX5_init_5 : decode cX5_init 5 = .ok (.iconst (-1), 1) := by decide +kernel
theorem dX5_init_6 : decode cX5_init 6 = .ok (.putfield 9, 3) := by decide +kernel
theorem dX5_init_9 : decode cX5_init 9 = .ok (.aload_n 0, 1) := by decide +kernel
theorem dX5_init_10 : decode cX5_init 10 = .ok (.iconst (-1), 1) := by decide +kernel
theorem dX5_init_11 : decode cX5_init 11 = .ok (.putfield 15, 3) := by decide +kernel
theorem dX5_init_14 : decode cX5_init 14 = .ok (.aload_n 0, 1) := by decide +kernel
theorem dX5_init_15 : decode cX5_init 15 = .ok (.iconst (-1), 1) := by decide +kernel
theorem dX5_init_16 : decode cX5_init 16 = .ok (.putfield 18, 3) := by decide +kernel
theorem dX5_init_19 : decode cX5_init 19 = .ok (.aload_n 0, 1) := by decide +kernel
theorem dX5_init_20 : decode cX5_init 20 = .ok (.iload_n 1, 1) := by decide +kernel
theorem dX5_init_21 : decode cX5_init 21 = .ok (.putfield 21, 3) := by decide +kernel
theorem dX5_init_24 : decode cX5_init 24 = .ok (.aload_n 0, 1) := by decide +kernel
theorem dX5_init_25 : decode cX5_init 25 = .ok (.iload_n 2, 1) := by decide +kernel
theorem dX5_init_26 : decode cX5_init 26 = .ok (.putfield 24, 3) := by decide +kernel
theorem dX5_init_29 : decode cX5_init 29 = .ok (.aload_n 0, 1) := by decide +kernel
theorem dX5_init_30 : decode cX5_init 30 = .ok (.iload_n 3, 1) := by decide +kernel
theorem dX5_init_31 : decode cX5_init 31 = .ok (.putfield 27, 3) := by decide +kernel
theorem dX5_init_34 : decode cX5_init 34 = .ok (.aload_n 0, 1) := by decide +kernel
theorem dX5_init_35 : decode cX5_init 35 = .ok (.iload 4, 2) := by decide +kernel
theorem dX5_init_37 : decode cX5_init 37 = .ok (.putfield 30, 3) := by decide +kernel
theorem dX5_init_40 : decode cX5_init 40 = .ok (.return_, 1) := by decide +kernel
theorem dX5_isHere_0 : decode cX5_isHere 0 = .ok (.aload_n 0, 1) := by decide +kernel
theorem dX5_isHere_1 : decode cX5_isHere 1 = .ok (.getfield 9, 3) := by decide +kernel
theorem dX5_isHere_4 : decode cX5_isHere 4 = .ok (.ifCond .ge 7, 3) := by decide +kernel
theorem dX5_isHere_7 : decode cX5_isHere 7 = .ok (.iconst 1, 1) := by decide +kernel
theorem dX5_isHere_8 : decode cX5_isHere 8 = .ok (.goto 4, 3) := by decide +kernel
theorem dX5_isHere_11 : decode cX5_isHere 11 = .ok (.iconst 0, 1) := by decide +kernel
theorem dX5_isHere_12 : decode cX5_isHere 12 = .ok (.ireturn, 1) := by decide +kernel
theorem dX5_isVolunteer_0 : decode cX5_isVolunteer 0 = .ok (.aload_n 0, 1) := by decide +kernel
theorem dX5_isVolunteer_1 : decode cX5_isVolunteer 1 = .ok (.getfield 18, 3) := by decide +kernel
theorem dX5_isVolunteer_4 : decode cX5_isVolunteer 4 = .ok (.ifCond .lt 7, 3) := by decide +kernel
theorem dX5_isVolunteer_7 : decode cX5_isVolunteer 7 = .ok (.iconst 1, 1) := by decide +kernel
theorem dX5_isVolunteer_8 : decode cX5_isVolunteer 8 = .ok (.goto 4, 3) := by decide +kernel
theorem dX5_isVolunteer_11 : decode cX5_isVolunteer 11 = .ok (.iconst 0, 1) := by decide +kernel
theorem dX5_isVolunteer_12 : decode cX5_isVolunteer 12 = .ok (.ireturn, 1) := by decide +kernel
theorem dX5_hold_0 : decode cX5_hold 0 = .ok (.aload_n 0, 1) := by decide +kernel
theorem dX5_hold_1 : decode cX5_hold 1 = .ok (.getfield 33, 3) := by decide +kernel
theorem dX5_hold_4 : decode cX5_hold 4 = .ok (.astore_n 2, 1) := by decide +kernel
theorem dX5_hold_5 : decode cX5_hold 5 = .ok (.aload_n 2, 1) := by decide +kernel
theorem dX5_hold_6 : decode cX5_hold 6 = .ok (.ifnull 8, 3) := by decide +kernel
theorem dX5_hold_9 : decode cX5_hold 9 = .ok (.aload_n 2, 1) := by decide +kernel
theorem dX5_hold_10 : decode cX5_hold 10 = .ok (.aconst_null, 1) := by decide +kernel
theorem dX5_hold_11 : decode cX5_hold 11 = .ok (.putfield 37, 3) := by decide +kernel
theorem dX5_hold_14 : decode cX5_hold 14 = .ok (.aload_n 0, 1) := by decide +kernel
theorem dX5_hold_15 : decode cX5_hold 15 = .ok (.aload_n 1, 1) := by decide +kernel
theorem dX5_hold_16 : decode cX5_hold 16 = .ok (.putfield 33, 3) := by decide +kernel
theorem dX5_hold_19 : decode cX5_hold 19 = .ok (.aload_n 1, 1) := by decide +kernel
theorem dX5_hold_20 : decode cX5_hold 20 = .ok (.ifnull 13, 3) := by decide +kernel
theorem dX5_hold_23 : decode cX5_hold 23 = .ok (.aload_n 1, 1) := by decide +kernel
theorem dX5_hold_24 : decode cX5_hold 24 = .ok (.aload_n 0, 1) := by decide +kernel
theorem dX5_hold_25 : decode cX5_hold 25 = .ok (.putfield 37, 3) := by decide +kernel
theorem dX5_hold_28 : decode cX5_hold 28 = .ok (.aload_n 0, 1) := by decide +kernel
theorem dX5_hold_29 : decode cX5_hold 29 = .ok (.aload_n 1, 1) := by decide +kernel
theorem dX5_hold_30 : decode cX5_hold 30 = .ok (.putfield 43, 3) := by decide +kernel
theorem dX5_hold_33 : decode cX5_hold 33 = .ok (.return_, 1) := by decide +kernel
theorem dX5_lastTold_0 : decode cX5_lastTold 0 = .ok (.iload_n 1, 1) := by decide +kernel
theorem dX5_lastTold_1 : decode cX5_lastTold 1 = .ok (.ifCond .ne 10, 3) := by decide +kernel
theorem dX5_lastTold_4 : decode cX5_lastTold 4 = .ok (.aload_n 0, 1) := by decide +kernel
theorem dX5_lastTold_5 : decode cX5_lastTold 5 = .ok (.getfield 46, 3) := by decide +kernel
theorem dX5_lastTold_8 : decode cX5_lastTold 8 = .ok (.goto 7, 3) := by decide +kernel
theorem dX5_lastTold_11 : decode cX5_lastTold 11 = .ok (.aload_n 0, 1) := by decide +kernel
theorem dX5_lastTold_12 : decode cX5_lastTold 12 = .ok (.getfield 50, 3) := by decide +kernel
theorem dX5_lastTold_15 : decode cX5_lastTold 15 = .ok (.areturn, 1) := by decide +kernel
theorem dX5_add_0 : decode cX5_add 0 = .ok (.aload_n 1, 1) := by decide +kernel
theorem dX5_add_1 : decode cX5_add 1 = .ok (.getfield 53, 3) := by decide +kernel
theorem dX5_add_4 : decode cX5_add 4 = .ok (.ifCond .ne 11, 3) := by decide +kernel
theorem dX5_add_7 : decode cX5_add 7 = .ok (.aload_n 0, 1) := by decide +kernel
theorem dX5_add_8 : decode cX5_add 8 = .ok (.aload_n 1, 1) := by decide +kernel
theorem dX5_add_9 : decode cX5_add 9 = .ok (.putfield 46, 3) := by decide +kernel
theorem dX5_add_12 : decode cX5_add 12 = .ok (.goto 8, 3) := by decide +kernel
theorem dX5_add_15 : decode cX5_add 15 = .ok (.aload_n 0, 1) := by decide +kernel
theorem dX5_add_16 : decode cX5_add 16 = .ok (.aload_n 1, 1) := by decide +kernel
theorem dX5_add_17 : decode cX5_add 17 = .ok (.putfield 50, 3) := by decide +kernel
theorem dX5_add_20 : decode cX5_add 20 = .ok (.return_, 1) := by decide +kernel
theorem dX5_toldAsOf_0 : decode cX5_toldAsOf 0 = .ok (.aload_n 0, 1) := by decide +kernel
theorem dX5_toldAsOf_1 : decode cX5_toldAsOf 1 = .ok (.iload_n 1, 1) := by decide +kernel
theorem dX5_toldAsOf_2 : decode cX5_toldAsOf 2 = .ok (.invokevirtual 58, 3) := by decide +kernel
theorem dX5_toldAsOf_5 : decode cX5_toldAsOf 5 = .ok (.astore_n 3, 1) := by decide +kernel
theorem dX5_toldAsOf_6 : decode cX5_toldAsOf 6 = .ok (.aload_n 3, 1) := by decide +kernel
theorem dX5_toldAsOf_7 : decode cX5_toldAsOf 7 = .ok (.ifnull 25, 3) := by decide +kernel
theorem dX5_toldAsOf_10 : decode cX5_toldAsOf 10 = .ok (.aload_n 3, 1) := by decide +kernel
theorem dX5_toldAsOf_11 : decode cX5_toldAsOf 11 = .ok (.getfield 62, 3) := by decide +kernel
theorem dX5_toldAsOf_14 : decode cX5_toldAsOf 14 = .ok (.iload_n 2, 1) := by decide +kernel
theorem dX5_toldAsOf_15 : decode cX5_toldAsOf 15 = .ok (.if_icmp .gt 9, 3) := by decide +kernel
theorem dX5_toldAsOf_18 : decode cX5_toldAsOf 18 = .ok (.aload_n 3, 1) := by decide +kernel
theorem dX5_toldAsOf_19 : decode cX5_toldAsOf 19 = .ok (.iload_n 2, 1) := by decide +kernel
theorem dX5_toldAsOf_20 : decode cX5_toldAsOf 20 = .ok (.invokevirtual 65, 3) := by decide +kernel
theorem dX5_toldAsOf_23 : decode cX5_toldAsOf 23 = .ok (.ireturn, 1) := by decide +kernel
theorem dX5_toldAsOf_24 : decode cX5_toldAsOf 24 = .ok (.aload_n 3, 1) := by decide +kernel
theorem dX5_toldAsOf_25 : decode cX5_toldAsOf 25 = .ok (.getfield 69, 3) := by decide +kernel
theorem dX5_toldAsOf_28 : decode cX5_toldAsOf 28 = .ok (.astore_n 3, 1) := by decide +kernel
theorem dX5_toldAsOf_29 : decode cX5_toldAsOf 29 = .ok (.goto (-23), 3) := by decide +kernel
theorem dX5_toldAsOf_32 : decode cX5_toldAsOf 32 = .ok (.iload_n 1, 1) := by decide +kernel
theorem dX5_toldAsOf_33 : decode cX5_toldAsOf 33 = .ok (.ifCond .ne 8, 3) := by decide +kernel
theorem dX5_toldAsOf_36 : decode cX5_toldAsOf 36 = .ok (.bipush 50, 2) := by decide +kernel
theorem dX5_toldAsOf_38 : decode cX5_toldAsOf 38 = .ok (.goto 4, 3) := by decide +kernel
theorem dX5_toldAsOf_41 : decode cX5_toldAsOf 41 = .ok (.iconst 0, 1) := by decide +kernel
theorem dX5_toldAsOf_42 : decode cX5_toldAsOf 42 = .ok (.ireturn, 1) := by decide +kernel
theorem dX6_init_0 : decode cX6_init 0 = .ok (.aload_n 0, 1) := by decide +kernel
theorem dX6_init_1 : decode cX6_init 1 = .ok (.invokespecial 3, 3) := by decide +kernel
theorem dX6_init_4 : decode cX6_init 4 = .ok (.aload_n 0, 1) := by decide +kernel
theorem dX6_init_5 : decode cX6_init 5 = .ok (.bipush 40, 2) := by decide +kernel
theorem dX6_init_7 : decode cX6_init 7 = .ok (.newarray .int, 2) := by decide +kernel
theorem dX6_init_9 : decode cX6_init 9 = .ok (.putfield 9, 3) := by decide +kernel
theorem dX6_init_12 : decode cX6_init 12 = .ok (.aload_n 0, 1) := by decide +kernel
theorem dX6_init_13 : decode cX6_init 13 = .ok (.bipush 40, 2) := by decide +kernel
theorem dX6_init_15 : decode cX6_init 15 = .ok (.anewarray 15, 3) := by decide +kernel
theorem dX6_init_18 : decode cX6_init 18 = .ok (.putfield 17, 3) := by decide +kernel
theorem dX6_init_21 : decode cX6_init 21 = .ok (.aload_n 0, 1) := by decide +kernel
theorem dX6_init_22 : decode cX6_init 22 = .ok (.bipush 40, 2) := by decide +kernel
theorem dX6_init_24 : decode cX6_init 24 = .ok (.anewarray 21, 3) := by decide +kernel
theorem dX6_init_27 : decode cX6_init 27 = .ok (.putfield 23, 3) := by decide +kernel
theorem dX6_init_30 : decode cX6_init 30 = .ok (.aload_n 0, 1) := by decide +kernel
theorem dX6_init_31 : decode cX6_init 31 = .ok (.aload_n 1, 1) := by decide +kernel
theorem dX6_init_32 : decode cX6_init 32 = .ok (.putfield 27, 3) := by decide +kernel
theorem dX6_init_35 : decode cX6_init 35 = .ok (.return_, 1) := by decide +kernel
theorem dX6_join_0 : decode cX6_join 0 = .ok (.aload_n 0, 1) := by decide +kernel
theorem dX6_join_1 : decode cX6_join 1 = .ok (.getfield 9, 3) := by decide +kernel
theorem dX6_join_4 : decode cX6_join 4 = .ok (.iconst (-1), 1) := by decide +kernel
theorem dX6_join_5 : decode cX6_join 5 = .ok (.invokestatic 31, 3) := by decide +kernel
theorem dX6_join_8 : decode cX6_join 8 = .ok (.aload_n 0, 1) := by decide +kernel
theorem dX6_join_9 : decode cX6_join 9 = .ok (.iconst 0, 1) := by decide +kernel
theorem dX6_join_10 : decode cX6_join 10 = .ok (.putfield 37, 3) := by decide +kernel
theorem dX6_join_13 : decode cX6_join 13 = .ok (.iconst 0, 1) := by decide +kernel
theorem dX6_join_14 : decode cX6_join 14 = .ok (.istore_n 2, 1) := by decide +kernel
theorem dX6_join_15 : decode cX6_join 15 = .ok (.iload_n 2, 1) := by decide +kernel
theorem dX6_join_16 : decode cX6_join 16 = .ok (.aload_n 0, 1) := by decide +kernel
theorem dX6_join_17 : decode cX6_join 17 = .ok (.getfield 27, 3) := by decide +kernel
theorem dX6_join_20 : decode cX6_join 20 = .ok (.getfield 41, 3) := by decide +kernel
theorem dX6_join_23 : decode cX6_join 23 = .ok (.if_icmp .ge 47, 3) := by decide +kernel
theorem dX6_join_26 : decode cX6_join 26 = .ok (.aload_n 0, 1) := by decide +kernel
theorem dX6_join_27 : decode cX6_join 27 = .ok (.getfield 27, 3) := by decide +kernel
theorem dX6_join_30 : decode cX6_join 30 = .ok (.iload_n 2, 1) := by decide +kernel
theorem dX6_join_31 : decode cX6_join 31 = .ok (.invokevirtual 46, 3) := by decide +kernel
theorem dX6_join_34 : decode cX6_join 34 = .ok (.astore_n 3, 1) := by decide +kernel
theorem dX6_join_35 : decode cX6_join 35 = .ok (.aload_n 3, 1) := by decide +kernel
theorem dX6_join_36 : decode cX6_join 36 = .ok (.ifnull 28, 3) := by decide +kernel
theorem dX6_join_39 : decode cX6_join 39 = .ok (.aload_n 0, 1) := by decide +kernel
theorem dX6_join_40 : decode cX6_join 40 = .ok (.aload_n 3, 1) := by decide +kernel
theorem dX6_join_41 : decode cX6_join 41 = .ok (.iload_n 1, 1) := by decide +kernel
theorem dX6_join_42 : decode cX6_join 42 = .ok (.invokevirtual 50, 3) := by decide +kernel
theorem dX6_join_45 : decode cX6_join 45 = .ok (.ifCond .eq 19, 3) := by decide +kernel
theorem dX6_join_48 : decode cX6_join 48 = .ok (.aload_n 0, 1) := by decide +kernel
theorem dX6_join_49 : decode cX6_join 49 = .ok (.aload_n 3, 1) := by decide +kernel
theorem dX6_join_50 : decode cX6_join 50 = .ok (.iload_n 1, 1) := by decide +kernel
theorem dX6_join_51 : decode cX6_join 51 = .ok (.invokevirtual 54, 3) := by decide +kernel
theorem dX6_join_54 : decode cX6_join 54 = .ok (.aload_n 0, 1) := by decide +kernel
theorem dX6_join_55 : decode cX6_join 55 = .ok (.dup, 1) := by decide +kernel
theorem dX6_join_56 : decode cX6_join 56 = .ok (.getfield 37, 3) := by decide +kernel
theorem dX6_join_59 : decode cX6_join 59 = .ok (.iconst 1, 1) := by decide +kernel
theorem dX6_join_60 : decode cX6_join 60 = .ok (.iadd, 1) := by decide +kernel
theorem dX6_join_61 : decode cX6_join 61 = .ok (.putfield 37, 3) := by decide +kernel
theorem dX6_join_64 : decode cX6_join 64 = .ok (.iinc 2 1, 3) := by decide +kernel
theorem dX6_join_67 : decode cX6_join 67 = .ok (.goto (-52), 3) := by decide +kernel
theorem dX6_join_70 : decode cX6_join 70 = .ok (.return_, 1) := by decide +kernel
theorem dX6_isFree_0 : decode cX6_isFree 0 = .ok (.aload_n 0, 1) := by decide +kernel
theorem dX6_isFree_1 : decode cX6_isFree 1 = .ok (.aload_n 1, 1) := by decide +kernel
theorem dX6_isFree_2 : decode cX6_isFree 2 = .ok (.invokevirtual 58, 3) := by decide +kernel
theorem dX6_isFree_5 : decode cX6_isFree 5 = .ok (.ifCond .ge 19, 3) := by decide +kernel
theorem dX6_isFree_8 : decode cX6_isFree 8 = .ok (.aload_n 0, 1) := by decide +kernel
theorem dX6_isFree_9 : decode cX6_isFree 9 = .ok (.getfield 27, 3) := by decide +kernel
theorem dX6_isFree_12 : decode cX6_isFree 12 = .ok (.aload_n 1, 1) := by decide +kernel
theorem dX6_isFree_13 : decode cX6_isFree 13 = .ok (.iload_n 2, 1) := by decide +kernel
theorem dX6_isFree_14 : decode cX6_isFree 14 = .ok (.invokevirtual 62, 3) := by decide +kernel
theorem dX6_isFree_17 : decode cX6_isFree 17 = .ok (.ifCond .eq 7, 3) := by decide +kernel
theorem dX6_isFree_20 : decode cX6_isFree 20 = .ok (.iconst 1, 1) := by decide +kernel
theorem dX6_isFree_21 : decode cX6_isFree 21 = .ok (.goto 4, 3) := by decide +kernel
theorem dX6_isFree_24 : decode cX6_isFree 24 = .ok (.iconst 0, 1) := by decide +kernel
theorem dX6_isFree_25 : decode cX6_isFree 25 = .ok (.ireturn, 1) := by decide +kernel
theorem dX6_joinedAs_0 : decode cX6_joinedAs 0 = .ok (.aload_n 1, 1) := by decide +kernel
theorem dX6_joinedAs_1 : decode cX6_joinedAs 1 = .ok (.getfield 65, 3) := by decide +kernel
theorem dX6_joinedAs_4 : decode cX6_joinedAs 4 = .ok (.istore_n 2, 1) := by decide +kernel
theorem dX6_joinedAs_5 : decode cX6_joinedAs 5 = .ok (.iload_n 2, 1) := by decide +kernel
theorem dX6_joinedAs_6 : decode cX6_joinedAs 6 = .ok (.ifCond .lt 18, 3) := by decide +kernel
theorem dX6_joinedAs_9 : decode cX6_joinedAs 9 = .ok (.iload_n 2, 1) := by decide +kernel
theorem dX6_joinedAs_10 : decode cX6_joinedAs 10 = .ok (.bipush 40, 2) := by decide +kernel
theorem dX6_joinedAs_12 : decode cX6_joinedAs 12 = .ok (.if_icmp .ge 12, 3) := by decide +kernel
theorem dX6_joinedAs_15 : decode cX6_joinedAs 15 = .ok (.aload_n 0, 1) := by decide +kernel
theorem dX6_joinedAs_16 : decode cX6_joinedAs 16 = .ok (.getfield 9, 3) := by decide +kernel
theorem dX6_joinedAs_19 : decode cX6_joinedAs 19 = .ok (.iload_n 2, 1) := by decide +kernel
theorem dX6_joinedAs_20 : decode cX6_joinedAs 20 = .ok (.iaload, 1) := by decide +kernel
theorem dX6_joinedAs_21 : decode cX6_joinedAs 21 = .ok (.goto 4, 3) := by decide +kernel
theorem dX6_joinedAs_24 : decode cX6_joinedAs 24 = .ok (.iconst (-1), 1) := by decide +kernel
theorem dX6_joinedAs_25 : decode cX6_joinedAs 25 = .ok (.ireturn, 1) := by decide +kernel
theorem dX6_spread_0 : decode cX6_spread 0 = .ok (.aload_n 0, 1) := by decide +kernel
theorem dX6_spread_1 : decode cX6_spread 1 = .ok (.aload_n 1, 1) := by decide +kernel
theorem dX6_spread_2 : decode cX6_spread 2 = .ok (.iconst 0, 1) := by decide +kernel
theorem dX6_spread_3 : decode cX6_spread 3 = .ok (.invokevirtual 68, 3) := by decide +kernel
theorem dX6_spread_6 : decode cX6_spread 6 = .ok (.istore_n 3, 1) := by decide +kernel
theorem dX6_spread_7 : decode cX6_spread 7 = .ok (.iconst 0, 1) := by decide +kernel
theorem dX6_spread_8 : decode cX6_spread 8 = .ok (.istore 4, 2) := by decide +kernel
theorem dX6_spread_10 : decode cX6_spread 10 = .ok (.iload 4, 2) := by decide +kernel
theorem dX6_spread_12 : decode cX6_spread 12 = .ok (.iload_n 3, 1) := by decide +kernel
theorem dX6_spread_13 : decode cX6_spread 13 = .ok (.if_icmp .ge 99, 3) := by decide +kernel
theorem dX6_spread_16 : decode cX6_spread 16 = .ok (.iload 4, 2) := by decide +kernel
theorem dX6_spread_18 : decode cX6_spread 18 = .ok (.bipush 40, 2) := by decide +kernel
theorem dX6_spread_20 : decode cX6_spread 20 = .ok (.if_icmp .ge 92, 3) := by decide +kernel
theorem dX6_spread_23 : decode cX6_spread 23 = .ok (.aload_n 0, 1) := by decide +kernel
theorem dX6_spread_24 : decode cX6_spread 24 = .ok (.getfield 17, 3) := by decide +kernel
theorem dX6_spread_27 : decode cX6_spread 27 = .ok (.iload 4, 2) := by decide +kernel
theorem dX6_spread_29 : decode cX6_spread 29 = .ok (.aaload, 1) := by decide +kernel
theorem dX6_spread_30 : decode cX6_spread 30 = .ok (.astore 5, 2) := by decide +kernel
theorem dX6_spread_32 : decode cX6_spread 32 = .ok (.iconst 0, 1) := by decide +kernel
theorem dX6_spread_33 : decode cX6_spread 33 = .ok (.istore 6, 2) := by decide +kernel
theorem dX6_spread_35 : decode cX6_spread 35 = .ok (.iload 6, 2) := by decide +kernel
theorem dX6_spread_37 : decode cX6_spread 37 = .ok (.aload_n 0, 1) := by decide +kernel
theorem dX6_spread_38 : decode cX6_spread 38 = .ok (.getfield 27, 3) := by decide +kernel
theorem dX6_spread_41 : decode cX6_spread 41 = .ok (.getfield 41, 3) := by decide +kernel
theorem dX6_spread_44 : decode cX6_spread 44 = .ok (.if_icmp .ge 62, 3) := by decide +kernel
theorem dX6_spread_47 : decode cX6_spread 47 = .ok (.aload_n 0, 1) := by decide +kernel
theorem dX6_spread_48 : decode cX6_spread 48 = .ok (.getfield 27, 3) := by decide +kernel
theorem dX6_spread_51 : decode cX6_spread 51 = .ok (.iload 6, 2) := by decide +kernel
theorem dX6_spread_53 : decode cX6_spread 53 = .ok (.invokevirtual 46, 3) := by decide +kernel
theorem dX6_spread_56 : decode cX6_spread 56 = .ok (.astore 7, 2) := by decide +kernel
theorem dX6_spread_58 : decode cX6_spread 58 = .ok (.aload 5, 2) := by decide +kernel
theorem dX6_spread_60 : decode cX6_spread 60 = .ok (.ifnull 40, 3) := by decide +kernel
theorem dX6_spread_63 : decode cX6_spread 63 = .ok (.aload 7, 2) := by decide +kernel
theorem dX6_spread_65 : decode cX6_spread 65 = .ok (.ifnull 35, 3) := by decide +kernel
theorem dX6_spread_68 : decode cX6_spread 68 = .ok (.aload_n 0, 1) := by decide +kernel
theorem dX6_spread_69 : decode cX6_spread 69 = .ok (.aload 7, 2) := by decide +kernel
theorem dX6_spread_71 : decode cX6_spread 71 = .ok (.iload_n 2, 1) := by decide +kernel
theorem dX6_spread_72 : decode cX6_spread 72 = .ok (.invokevirtual 50, 3) := by decide +kernel
theorem dX6_spread_75 : decode cX6_spread 75 = .ok (.ifCond .eq 25, 3) := by decide +kernel
theorem dX6_spread_78 : decode cX6_spread 78 = .ok (.aload_n 0, 1) := by decide +kernel
theorem dX6_spread_79 : decode cX6_spread 79 = .ok (.getfield 27, 3) := by decide +kernel
theorem dX6_spread_82 : decode cX6_spread 82 = .ok (.aload 5, 2) := by decide +kernel
theorem dX6_spread_84 : decode cX6_spread 84 = .ok (.aload 7, 2) := by decide +kernel
theorem dX6_spread_86 : decode cX6_spread 86 = .ok (.invokevirtual 72, 3) := by decide +kernel
theorem dX6_spread_89 : decode cX6_spread 89 = .ok (.ifCond .eq 11, 3) := by decide +kernel
theorem dX6_spread_92 : decode cX6_spread 92 = .ok (.aload_n 0, 1) := by decide +kernel
theorem dX6_spread_93 : decode cX6_spread 93 = .ok (.aload 7, 2) := by decide +kernel
theorem dX6_spread_95 : decode cX6_spread 95 = .ok (.iload_n 3, 1) := by decide +kernel
theorem dX6_spread_96 : decode cX6_spread 96 = .ok (.invokevirtual 68, 3) := by decide +kernel
theorem dX6_spread_99 : decode cX6_spread 99 = .ok (.istore_n 3, 1) := by decide +kernel
theorem dX6_spread_100 : decode cX6_spread 100 = .ok (.iinc 6 1, 3) := by decide +kernel
theorem dX6_spread_103 : decode cX6_spread 103 = .ok (.goto (-68), 3) := by decide +kernel
theorem dX6_spread_106 : decode cX6_spread 106 = .ok (.iinc 4 1, 3) := by decide +kernel
theorem dX6_spread_109 : decode cX6_spread 109 = .ok (.goto (-99), 3) := by decide +kernel
theorem dX6_spread_112 : decode cX6_spread 112 = .ok (.return_, 1) := by decide +kernel
theorem dX6_reach_0 : decode cX6_reach 0 = .ok (.aload_n 1, 1) := by decide +kernel
theorem dX6_reach_1 : decode cX6_reach 1 = .ok (.getfield 65, 3) := by decide +kernel
theorem dX6_reach_4 : decode cX6_reach 4 = .ok (.istore_n 3, 1) := by decide +kernel
theorem dX6_reach_5 : decode cX6_reach 5 = .ok (.iload_n 3, 1) := by decide +kernel
theorem dX6_reach_6 : decode cX6_reach 6 = .ok (.ifCond .lt 19, 3) := by decide +kernel
theorem dX6_reach_9 : decode cX6_reach 9 = .ok (.iload_n 3, 1) := by decide +kernel
theorem dX6_reach_10 : decode cX6_reach 10 = .ok (.bipush 40, 2) := by decide +kernel
theorem dX6_reach_12 : decode cX6_reach 12 = .ok (.if_icmp .ge 13, 3) := by decide +kernel
theorem dX6_reach_15 : decode cX6_reach 15 = .ok (.iload_n 2, 1) := by decide +kernel
theorem dX6_reach_16 : decode cX6_reach 16 = .ok (.ifCond .lt 9, 3) := by decide +kernel
theorem dX6_reach_19 : decode cX6_reach 19 = .ok (.iload_n 2, 1) := by decide +kernel
theorem dX6_reach_20 : decode cX6_reach 20 = .ok (.bipush 40, 2) := by decide +kernel
theorem dX6_reach_22 : decode cX6_reach 22 = .ok (.if_icmp .lt 5, 3) := by decide +kernel
theorem dX6_reach_25 : decode cX6_reach 25 = .ok (.iload_n 2, 1) := by decide +kernel
theorem dX6_reach_26 : decode cX6_reach 26 = .ok (.ireturn, 1) := by decide +kernel
theorem dX6_reach_27 : decode cX6_reach 27 = .ok (.aload_n 0, 1) := by decide +kernel
theorem dX6_reach_28 : decode cX6_reach 28 = .ok (.getfield 9, 3) := by decide +kernel
theorem dX6_reach_31 : decode cX6_reach 31 = .ok (.iload_n 3, 1) := by decide +kernel
theorem dX6_reach_32 : decode cX6_reach 32 = .ok (.aload_n 0, 1) := by decide +kernel
theorem dX6_reach_33 : decode cX6_reach 33 = .ok (.getfield 37, 3) := by decide +kernel
theorem dX6_reach_36 : decode cX6_reach 36 = .ok (.iastore, 1) := by decide +kernel
theorem dX6_reach_37 : decode cX6_reach 37 = .ok (.aload_n 0, 1) := by decide +kernel
theorem dX6_reach_38 : decode cX6_reach 38 = .ok (.getfield 17, 3) := by decide +kernel
theorem dX6_reach_41 : decode cX6_reach 41 = .ok (.iload_n 2, 1) := by decide +kernel
theorem dX6_reach_42 : decode cX6_reach 42 = .ok (.aload_n 1, 1) := by decide +kernel
theorem dX6_reach_43 : decode cX6_reach 43 = .ok (.aastore, 1) := by decide +kernel
theorem dX6_reach_44 : decode cX6_reach 44 = .ok (.iload_n 2, 1) := by decide +kernel
theorem dX6_reach_45 : decode cX6_reach 45 = .ok (.iconst 1, 1) := by decide +kernel
theorem dX6_reach_46 : decode cX6_reach 46 = .ok (.iadd, 1) := by decide +kernel
theorem dX6_reach_47 : decode cX6_reach 47 = .ok (.ireturn, 1) := by decide +kernel
theorem dX6_take_0 : decode cX6_take 0 = .ok (.aload_n 0, 1) := by decide +kernel
theorem dX6_take_1 : decode cX6_take 1 = .ok (.getfield 27, 3) := by decide +kernel
theorem dX6_take_4 : decode cX6_take 4 = .ok (.iload_n 1, 1) := by decide +kernel
theorem dX6_take_5 : decode cX6_take 5 = .ok (.invokevirtual 76, 3) := by decide +kernel
theorem dX6_take_8 : decode cX6_take 8 = .ok (.ifCond .ne 5, 3) := by decide +kernel
theorem dX6_take_11 : decode cX6_take 11 = .ok (.iconst 0, 1) := by decide +kernel
theorem dX6_take_12 : decode cX6_take 12 = .ok (.ireturn, 1) := by decide +kernel
theorem dX6_take_13 : decode cX6_take 13 = .ok (.aload_n 0, 1) := by decide +kernel
theorem dX6_take_14 : decode cX6_take 14 = .ok (.iload_n 1, 1) := by decide +kernel
theorem dX6_take_15 : decode cX6_take 15 = .ok (.invokevirtual 80, 3) := by decide +kernel
theorem dX6_take_18 : decode cX6_take 18 = .ok (.iload_n 2, 1) := by decide +kernel
theorem dX6_take_19 : decode cX6_take 19 = .ok (.ifCond .lt 11, 3) := by decide +kernel
theorem dX6_take_22 : decode cX6_take 22 = .ok (.iload_n 2, 1) := by decide +kernel
theorem dX6_take_23 : decode cX6_take 23 = .ok (.aload_n 0, 1) := by decide +kernel
theorem dX6_take_24 : decode cX6_take 24 = .ok (.getfield 37, 3) := by decide +kernel
theorem dX6_take_27 : decode cX6_take 27 = .ok (.if_icmp .lt 5, 3) := by decide +kernel
theorem dX6_take_30 : decode cX6_take 30 = .ok (.iconst 0, 1) := by decide +kernel
theorem dX6_take_31 : decode cX6_take 31 = .ok (.ireturn, 1) := by decide +kernel
theorem dX6_take_32 : decode cX6_take 32 = .ok (.aload_n 0, 1) := by decide +kernel
theorem dX6_take_33 : decode cX6_take 33 = .ok (.iload_n 2, 1) := by decide +kernel
theorem dX6_take_34 : decode cX6_take 34 = .ok (.putfield 84, 3) := by decide +kernel
theorem dX6_take_37 : decode cX6_take 37 = .ok (.aload_n 0, 1) := by decide +kernel
theorem dX6_take_38 : decode cX6_take 38 = .ok (.invokevirtual 87, 3) := by decide +kernel
theorem dX6_take_41 : decode cX6_take 41 = .ok (.iconst 1, 1) := by decide +kernel
theorem dX6_take_42 : decode cX6_take 42 = .ok (.ireturn, 1) := by decide +kernel
theorem dX6_gatherMembers_0 : decode cX6_gatherMembers 0 = .ok (.aload_n 0, 1) := by decide +kernel
theorem dX6_gatherMembers_1 : decode cX6_gatherMembers 1 = .ok (.iconst 0, 1) := by decide +kernel
theorem dX6_gatherMembers_2 : decode cX6_gatherMembers 2 = .ok (.putfield 90, 3) := by decide +kernel
theorem dX6_gatherMembers_5 : decode cX6_gatherMembers 5 = .ok (.iconst 0, 1) := by decide +kernel
theorem dX6_gatherMembers_6 : decode cX6_gatherMembers 6 = .ok (.istore_n 1, 1) := by decide +kernel
theorem dX6_gatherMembers_7 : decode cX6_gatherMembers 7 = .ok (.iload_n 1, 1) := by decide +kernel
theorem dX6_gatherMembers_8 : decode cX6_gatherMembers 8 = .ok (.aload_n 0, 1) := by decide +kernel
theorem dX6_gatherMembers_9 : decode cX6_gatherMembers 9 = .ok (.getfield 27, 3) := by decide +kernel
theorem dX6_gatherMembers_12 : decode cX6_gatherMembers 12 = .ok (.getfield 93, 3) := by decide +kernel
theorem dX6_gatherMembers_15 : decode cX6_gatherMembers 15 = .ok (.if_icmp .ge 59, 3) := by decide +kernel
theorem dX6_gatherMembers_18 : decode cX6_gatherMembers 18 = .ok (.aload_n 0, 1) := by decide +kernel
theorem dX6_gatherMembers_19 : decode cX6_gatherMembers 19 = .ok (.getfield 27, 3) := by decide +kernel
theorem dX6_gatherMembers_22 : decode cX6_gatherMembers 22 = .ok (.iload_n 1, 1) := by decide +kernel
theorem dX6_gatherMembers_23 : decode cX6_gatherMembers 23 = .ok (.invokevirtual 96, 3) := by decide +kernel
theorem dX6_gatherMembers_26 : decode cX6_gatherMembers 26 = .ok (.astore_n 2, 1) := by decide +kernel
theorem dX6_gatherMembers_27 : decode cX6_gatherMembers 27 = .ok (.aload_n 2, 1) := by decide +kernel
theorem dX6_gatherMembers_28 : decode cX6_gatherMembers 28 = .ok (.ifnull 40, 3) := by decide +kernel
theorem dX6_gatherMembers_31 : decode cX6_gatherMembers 31 = .ok (.aload_n 0, 1) := by decide +kernel
theorem dX6_gatherMembers_32 : decode cX6_gatherMembers 32 = .ok (.getfield 90, 3) := by decide +kernel
theorem dX6_gatherMembers_35 : decode cX6_gatherMembers 35 = .ok (.bipush 40, 2) := by decide +kernel
theorem dX6_gatherMembers_37 : decode cX6_gatherMembers 37 = .ok (.if_icmp .ge 31, 3) := by decide +kernel
theorem dX6_gatherMembers_40 : decode cX6_gatherMembers 40 = .ok (.aload_n 0, 1) := by decide +kernel
theorem dX6_gatherMembers_41 : decode cX6_gatherMembers 41 = .ok (.aload_n 2, 1) := by decide +kernel
theorem dX6_gatherMembers_42 : decode cX6_gatherMembers 42 = .ok (.invokevirtual 100, 3) := by decide +kernel
theorem dX6_gatherMembers_45 : decode cX6_gatherMembers 45 = .ok (.ifCond .eq 23, 3) := by decide +kernel
theorem dX6_gatherMembers_48 : decode cX6_gatherMembers 48 = .ok (.aload_n 0, 1) := by decide +kernel
theorem dX6_gatherMembers_49 : decode cX6_gatherMembers 49 = .ok (.getfield 23, 3) := by decide +kernel
theorem dX6_gatherMembers_52 : decode cX6_gatherMembers 52 = .ok (.aload_n 0, 1) := by decide +kernel
theorem dX6_gatherMembers_53 : decode cX6_gatherMembers 53 = .ok (.getfield 90, 3) := by decide +kernel
theorem dX6_gatherMembers_56 : decode cX6_gatherMembers 56 = .ok (.aload_n 2, 1) := by decide +kernel
theorem dX6_gatherMembers_57 : decode cX6_gatherMembers 57 = .ok (.aastore, 1) := by decide +kernel
theorem dX6_gatherMembers_58 : decode cX6_gatherMembers 58 = .ok (.aload_n 0, 1) := by decide +kernel
theorem dX6_gatherMembers_59 : decode cX6_gatherMembers 59 = .ok (.dup, 1) := by decide +kernel
theorem dX6_gatherMembers_60 : decode cX6_gatherMembers 60 = .ok (.getfield 90, 3) := by decide +kernel
theorem dX6_gatherMembers_63 : decode cX6_gatherMembers 63 = .ok (.iconst 1, 1) := by decide +kernel
theorem dX6_gatherMembers_64 : decode cX6_gatherMembers 64 = .ok (.iadd, 1) := by decide +kernel
theorem dX6_gatherMembers_65 : decode cX6_gatherMembers 65 = .ok (.putfield 90, 3) := by decide +kernel
theorem dX6_gatherMembers_68 : decode cX6_gatherMembers 68 = .ok (.iinc 1 1, 3) := by decide +kernel
theorem dX6_gatherMembers_71 : decode cX6_gatherMembers 71 = .ok (.goto (-64), 3) := by decide +kernel
theorem dX6_gatherMembers_74 : decode cX6_gatherMembers 74 = .ok (.return_, 1) := by decide +kernel
theorem dX6_holdsHere_0 : decode cX6_holdsHere 0 = .ok (.aload_n 1, 1) := by decide +kernel
theorem dX6_holdsHere_1 : decode cX6_holdsHere 1 = .ok (.getfield 104, 3) := by decide +kernel
theorem dX6_holdsHere_4 : decode cX6_holdsHere 4 = .ok (.astore_n 2, 1) := by decide +kernel
theorem dX6_holdsHere_5 : decode cX6_holdsHere 5 = .ok (.aload_n 2, 1) := by decide +kernel
theorem dX6_holdsHere_6 : decode cX6_holdsHere 6 = .ok (.ifnull 19, 3) := by decide +kernel
theorem dX6_holdsHere_9 : decode cX6_holdsHere 9 = .ok (.aload_n 0, 1) := by decide +kernel
theorem dX6_holdsHere_10 : decode cX6_holdsHere 10 = .ok (.aload_n 2, 1) := by decide +kernel
theorem dX6_holdsHere_11 : decode cX6_holdsHere 11 = .ok (.invokevirtual 58, 3) := by decide +kernel
theorem dX6_holdsHere_14 : decode cX6_holdsHere 14 = .ok (.aload_n 0, 1) := by decide +kernel
theorem dX6_holdsHere_15 : decode cX6_holdsHere 15 = .ok (.getfield 84, 3) := by decide +kernel
theorem dX6_holdsHere_18 : decode cX6_holdsHere 18 = .ok (.if_icmp .ne 7, 3) := by decide +kernel
theorem dX6_holdsHere_21 : decode cX6_holdsHere 21 = .ok (.iconst 1, 1) := by decide +kernel
theorem dX6_holdsHere_22 : decode cX6_holdsHere 22 = .ok (.goto 4, 3) := by decide +kernel
theorem dX6_holdsHere_25 : decode cX6_holdsHere 25 = .ok (.iconst 0, 1) := by decide +kernel
theorem dX6_holdsHere_26 : decode cX6_holdsHere 26 = .ok (.ireturn, 1) := by decide +kernel
theorem dX6_memberAt_0 : decode cX6_memberAt 0 = .ok (.iload_n 1, 1) := by decide +kernel
theorem dX6_memberAt_1 : decode cX6_memberAt 1 = .ok (.ifCond .lt 20, 3) := by decide +kernel
theorem dX6_memberAt_4 : decode cX6_memberAt 4 = .ok (.iload_n 1, 1) := by decide +kernel
theorem dX6_memberAt_5 : decode cX6_memberAt 5 = .ok (.aload_n 0, 1) := by decide +kernel
theorem dX6_memberAt_6 : decode cX6_memberAt 6 = .ok (.getfield 90, 3) := by decide +kernel
theorem dX6_memberAt_9 : decode cX6_memberAt 9 = .ok (.if_icmp .ge 12, 3) := by decide +kernel
theorem dX6_memberAt_12 : decode cX6_memberAt 12 = .ok (.aload_n 0, 1) := by decide +kernel
theorem dX6_memberAt_13 : decode cX6_memberAt 13 = .ok (.getfield 23, 3) := by decide +kernel
theorem dX6_memberAt_16 : decode cX6_memberAt 16 = .ok (.iload_n 1, 1) := by decide +kernel
theorem dX6_memberAt_17 : decode cX6_memberAt 17 = .ok (.aaload, 1) := by decide +kernel
theorem dX6_memberAt_18 : decode cX6_memberAt 18 = .ok (.goto 4, 3) := by decide +kernel
theorem dX6_memberAt_21 : decode cX6_memberAt 21 = .ok (.aconst_null, 1) := by decide +kernel
theorem dX6_memberAt_22 : decode cX6_memberAt 22 = .ok (.areturn, 1) := by decide +kernel
theorem dX6_placeOf_0 : decode cX6_placeOf 0 = .ok (.iconst 0, 1) := by decide +kernel
theorem dX6_placeOf_1 : decode cX6_placeOf 1 = .ok (.istore_n 2, 1) := by decide +kernel
theorem dX6_placeOf_2 : decode cX6_placeOf 2 = .ok (.iload_n 2, 1) := by decide +kernel
theorem dX6_placeOf_3 : decode cX6_placeOf 3 = .ok (.aload_n 0, 1) := by decide +kernel
theorem dX6_placeOf_4 : decode cX6_placeOf 4 = .ok (.getfield 90, 3) := by decide +kernel
theorem dX6_placeOf_7 : decode cX6_placeOf 7 = .ok (.if_icmp .ge 20, 3) := by decide +kernel
theorem dX6_placeOf_10 : decode cX6_placeOf 10 = .ok (.aload_n 0, 1) := by decide +kernel
theorem dX6_placeOf_11 : decode cX6_placeOf 11 = .ok (.iload_n 2, 1) := by decide +kernel
theorem dX6_placeOf_12 : decode cX6_placeOf 12 = .ok (.invokevirtual 108, 3) := by decide +kernel
theorem dX6_placeOf_15 : decode cX6_placeOf 15 = .ok (.aload_n 1, 1) := by decide +kernel
theorem dX6_placeOf_16 : decode cX6_placeOf 16 = .ok (.if_acmp .ne 5, 3) := by decide +kernel
theorem dX6_placeOf_19 : decode cX6_placeOf 19 = .ok (.iload_n 2, 1) := by decide +kernel
theorem dX6_placeOf_20 : decode cX6_placeOf 20 = .ok (.ireturn, 1) := by decide +kernel
theorem dX6_placeOf_21 : decode cX6_placeOf 21 = .ok (.iinc 2 1, 3) := by decide +kernel
theorem dX6_placeOf_24 : decode cX6_placeOf 24 = .ok (.goto (-22), 3) := by decide +kernel
theorem dX6_placeOf_27 : decode cX6_placeOf 27 = .ok (.iconst (-1), 1) := by decide +kernel
theorem dX6_placeOf_28 : decode cX6_placeOf 28 = .ok (.ireturn, 1) := by decide +kernel
theorem dX6_wanted_0 : decode cX6_wanted 0 = .ok (.iconst 0, 1) := by decide +kernel
theorem dX6_wanted_1 : decode cX6_wanted 1 = .ok (.istore_n 1, 1) := by decide +kernel
theorem dX6_wanted_2 : decode cX6_wanted 2 = .ok (.iconst 0, 1) := by decide +kernel
theorem dX6_wanted_3 : decode cX6_wanted 3 = .ok (.istore_n 2, 1) := by decide +kernel
theorem dX6_wanted_4 : decode cX6_wanted 4 = .ok (.iload_n 2, 1) := by decide +kernel
theorem dX6_wanted_5 : decode cX6_wanted 5 = .ok (.aload_n 0, 1) := by decide +kernel
theorem dX6_wanted_6 : decode cX6_wanted 6 = .ok (.getfield 27, 3) := by decide +kernel
theorem dX6_wanted_9 : decode cX6_wanted 9 = .ok (.getfield 41, 3) := by decide +kernel
theorem dX6_wanted_12 : decode cX6_wanted 12 = .ok (.if_icmp .ge 41, 3) := by decide +kernel
theorem dX6_wanted_15 : decode cX6_wanted 15 = .ok (.aload_n 0, 1) := by decide +kernel
theorem dX6_wanted_16 : decode cX6_wanted 16 = .ok (.getfield 27, 3) := by decide +kernel
theorem dX6_wanted_19 : decode cX6_wanted 19 = .ok (.iload_n 2, 1) := by decide +kernel
theorem dX6_wanted_20 : decode cX6_wanted 20 = .ok (.invokevirtual 46, 3) := by decide +kernel
theorem dX6_wanted_23 : decode cX6_wanted 23 = .ok (.astore_n 3, 1) := by decide +kernel
theorem dX6_wanted_24 : decode cX6_wanted 24 = .ok (.aload_n 3, 1) := by decide +kernel
theorem dX6_wanted_25 : decode cX6_wanted 25 = .ok (.ifnull 22, 3) := by decide +kernel
theorem dX6_wanted_28 : decode cX6_wanted 28 = .ok (.aload_n 0, 1) := by decide +kernel
theorem dX6_wanted_29 : decode cX6_wanted 29 = .ok (.aload_n 3, 1) := by decide +kernel
theorem dX6_wanted_30 : decode cX6_wanted 30 = .ok (.invokevirtual 58, 3) := by decide +kernel
theorem dX6_wanted_33 : decode cX6_wanted 33 = .ok (.aload_n 0, 1) := by decide +kernel
theorem dX6_wanted_34 : decode cX6_wanted 34 = .ok (.getfield 84, 3) := by decide +kernel
theorem dX6_wanted_37 : decode cX6_wanted 37 = .ok (.if_icmp .ne 10, 3) := by decide +kernel
theorem dX6_wanted_40 : decode cX6_wanted 40 = .ok (.iload_n 1, 1) := by decide +kernel
theorem dX6_wanted_41 : decode cX6_wanted 41 = .ok (.aload_n 3, 1) := by decide +kernel
theorem dX6_wanted_42 : decode cX6_wanted 42 = .ok (.getfield 111, 3) := by decide +kernel
theorem dX6_wanted_45 : decode cX6_wanted 45 = .ok (.ior, 1) := by decide +kernel
theorem dX6_wanted_46 : decode cX6_wanted 46 = .ok (.istore_n 1, 1) := by decide +kernel
theorem dX6_wanted_47 : decode cX6_wanted 47 = .ok (.iinc 2 1, 3) := by decide +kernel
theorem dX6_wanted_50 : decode cX6_wanted 50 = .ok (.goto (-46), 3) := by decide +kernel
theorem dX6_wanted_53 : decode cX6_wanted 53 = .ok (.iload_n 1, 1) := by decide +kernel
theorem dX6_wanted_54 : decode cX6_wanted 54 = .ok (.ireturn, 1) := by decide +kernel
theorem dX7_init_0 : decode cX7_init 0 = .ok (.aload_n 0, 1) := by decide +kernel
theorem dX7_init_1 : decode cX7_init 1 = .ok (.invokespecial 1, 3) := by decide +kernel
theorem dX7_init_4 : decode cX7_init 4 = .ok (.aload_n 0, 1) := by decide +kernel
theorem dX7_init_5 : decode cX7_init 5 = .ok (.iconst (-1), 1) := by decide +kernel
theorem dX7_init_6 : decode cX7_init 6 = .ok (.putfield 7, 3) := by decide +kernel
theorem dX7_init_9 : decode cX7_init 9 = .ok (.aload_n 0, 1) := by decide +kernel
theorem dX7_init_10 : decode cX7_init 10 = .ok (.iload_n 1, 1) := by decide +kernel
theorem dX7_init_11 : decode cX7_init 11 = .ok (.putfield 13, 3) := by decide +kernel
theorem dX7_init_14 : decode cX7_init 14 = .ok (.aload_n 0, 1) := by decide +kernel
theorem dX7_init_15 : decode cX7_init 15 = .ok (.iload_n 2, 1) := by decide +kernel
theorem dX7_init_16 : decode cX7_init 16 = .ok (.putfield 16, 3) := by decide +kernel
theorem dX7_init_19 : decode cX7_init 19 = .ok (.aload_n 0, 1) := by decide +kernel
theorem dX7_init_20 : decode cX7_init 20 = .ok (.iload_n 3, 1) := by decide +kernel
theorem dX7_init_21 : decode cX7_init 21 = .ok (.putfield 19, 3) := by decide +kernel
theorem dX7_init_24 : decode cX7_init 24 = .ok (.aload_n 0, 1) := by decide +kernel
theorem dX7_init_25 : decode cX7_init 25 = .ok (.iload 4, 2) := by decide +kernel
theorem dX7_init_27 : decode cX7_init 27 = .ok (.putfield 22, 3) := by decide +kernel
theorem dX7_init_30 : decode cX7_init 30 = .ok (.aload_n 0, 1) := by decide +kernel
theorem dX7_init_31 : decode cX7_init 31 = .ok (.iload 5, 2) := by decide +kernel
theorem dX7_init_33 : decode cX7_init 33 = .ok (.putfield 25, 3) := by decide +kernel
theorem dX7_init_36 : decode cX7_init 36 = .ok (.aload_n 0, 1) := by decide +kernel
theorem dX7_init_37 : decode cX7_init 37 = .ok (.iload 6, 2) := by decide +kernel
theorem dX7_init_39 : decode cX7_init 39 = .ok (.putfield 28, 3) := by decide +kernel
theorem dX7_init_42 : decode cX7_init 42 = .ok (.return_, 1) := by decide +kernel
theorem dX7_isOpen_0 : decode cX7_isOpen 0 = .ok (.aload_n 0, 1) := by decide +kernel
theorem dX7_isOpen_1 : decode cX7_isOpen 1 = .ok (.getfield 7, 3) := by decide +kernel
theorem dX7_isOpen_4 : decode cX7_isOpen 4 = .ok (.ifCond .ge 7, 3) := by decide +kernel
theorem dX7_isOpen_7 : decode cX7_isOpen 7 = .ok (.iconst 1, 1) := by decide +kernel
theorem dX7_isOpen_8 : decode cX7_isOpen 8 = .ok (.goto 4, 3) := by decide +kernel
theorem dX7_isOpen_11 : decode cX7_isOpen 11 = .ok (.iconst 0, 1) := by decide +kernel
theorem dX7_isOpen_12 : decode cX7_isOpen 12 = .ok (.ireturn, 1) := by decide +kernel
theorem dX7_isVacant_0 : decode cX7_isVacant 0 = .ok (.aload_n 0, 1) := by decide +kernel
theorem dX7_isVacant_1 : decode cX7_isVacant 1 = .ok (.invokevirtual 31, 3) := by decide +kernel
theorem dX7_isVacant_4 : decode cX7_isVacant 4 = .ok (.ifCond .eq 14, 3) := by decide +kernel
theorem dX7_isVacant_7 : decode cX7_isVacant 7 = .ok (.aload_n 0, 1) := by decide +kernel
theorem dX7_isVacant_8 : decode cX7_isVacant 8 = .ok (.getfield 35, 3) := by decide +kernel
theorem dX7_isVacant_11 : decode cX7_isVacant 11 = .ok (.ifnonnull 7, 3) := by decide +kernel
theorem dX7_isVacant_14 : decode cX7_isVacant 14 = .ok (.iconst 1, 1) := by decide +kernel
theorem dX7_isVacant_15 : decode cX7_isVacant 15 = .ok (.goto 4, 3) := by decide +kernel
theorem dX7_isVacant_18 : decode cX7_isVacant 18 = .ok (.iconst 0, 1) := by decide +kernel
theorem dX7_isVacant_19 : decode cX7_isVacant 19 = .ok (.ireturn, 1) := by decide +kernel
theorem dX7_mayBeHeldBy_0 : decode cX7_mayBeHeldBy 0 = .ok (.aload_n 0, 1) := by decide +kernel
theorem dX7_mayBeHeldBy_1 : decode cX7_mayBeHeldBy 1 = .ok (.invokevirtual 31, 3) := by decide +kernel
theorem dX7_mayBeHeldBy_4 : decode cX7_mayBeHeldBy 4 = .ok (.ifCond .eq 22, 3) := by decide +kernel
theorem dX7_mayBeHeldBy_7 : decode cX7_mayBeHeldBy 7 = .ok (.aload_n 0, 1) := by decide +kernel
theorem dX7_mayBeHeldBy_8 : decode cX7_mayBeHeldBy 8 = .ok (.getfield 35, 3) := by decide +kernel
theorem dX7_mayBeHeldBy_11 : decode cX7_mayBeHeldBy 11 = .ok (.ifnull 11, 3) := by decide +kernel
theorem dX7_mayBeHeldBy_14 : decode cX7_mayBeHeldBy 14 = .ok (.aload_n 0, 1) := by decide +kernel
theorem dX7_mayBeHeldBy_15 : decode cX7_mayBeHeldBy 15 = .ok (.getfield 35, 3) := by decide +kernel
theorem dX7_mayBeHeldBy_18 : decode cX7_mayBeHeldBy 18 = .ok (.aload_n 1, 1) := by decide +kernel
theorem dX7_mayBeHeldBy_19 : decode cX7_mayBeHeldBy 19 = .ok (.if_acmp .ne 7, 3) := by decide +kernel
theorem dX7_mayBeHeldBy_22 : decode cX7_mayBeHeldBy 22 = .ok (.iconst 1, 1) := by decide +kernel
theorem dX7_mayBeHeldBy_23 : decode cX7_mayBeHeldBy 23 = .ok (.goto 4, 3) := by decide +kernel
theorem dX7_mayBeHeldBy_26 : decode cX7_mayBeHeldBy 26 = .ok (.iconst 0, 1) := by decide +kernel
theorem dX7_mayBeHeldBy_27 : decode cX7_mayBeHeldBy 27 = .ok (.ireturn, 1) := by decide +kernel
theorem dX7_finish_0 : decode cX7_finish 0 = .ok (.aload_n 0, 1) := by decide +kernel
theorem dX7_finish_1 : decode cX7_finish 1 = .ok (.getfield 35, 3) := by decide +kernel
theorem dX7_finish_4 : decode cX7_finish 4 = .ok (.astore_n 2, 1) := by decide +kernel
theorem dX7_finish_5 : decode cX7_finish 5 = .ok (.aload_n 2, 1) := by decide +kernel
theorem dX7_finish_6 : decode cX7_finish 6 = .ok (.ifnull 8, 3) := by decide +kernel
theorem dX7_finish_9 : decode cX7_finish 9 = .ok (.aload_n 2, 1) := by decide +kernel
theorem dX7_finish_10 : decode cX7_finish 10 = .ok (.aconst_null, 1) := by decide +kernel
theorem dX7_finish_11 : decode cX7_finish 11 = .ok (.invokevirtual 39, 3) := by decide +kernel
theorem dX7_finish_14 : decode cX7_finish 14 = .ok (.aload_n 0, 1) := by decide +kernel
theorem dX7_finish_15 : decode cX7_finish 15 = .ok (.iload_n 1, 1) := by decide +kernel
theorem dX7_finish_16 : decode cX7_finish 16 = .ok (.putfield 7, 3) := by decide +kernel
theorem dX7_finish_19 : decode cX7_finish 19 = .ok (.return_, 1) := by decide +kernel
theorem dX8_init_0 : decode cX8_init 0 = .ok (.aload_n 0, 1) := by decide +kernel
theorem dX8_init_1 : decode cX8_init 1 = .ok (.invokespecial 3, 3) := by decide +kernel
theorem dX8_init_4 : decode cX8_init 4 = .ok (.aload_n 0, 1) := by decide +kernel
theorem dX8_init_5 : decode cX8_init 5 = .ok (.bipush 40, 2) := by decide +kernel
theorem dX8_init_7 : decode cX8_init 7 = .ok (.anewarray 9, 3) := by decide +kernel
theorem dX8_init_10 : decode cX8_init 10 = .ok (.putfield 11, 3) := by decide +kernel
theorem dX8_init_13 : decode cX8_init 13 = .ok (.aload_n 0, 1) := by decide +kernel
theorem dX8_init_14 : decode cX8_init 14 = .ok (.bipush 40, 2) := by decide +kernel
theorem dX8_init_16 : decode cX8_init 16 = .ok (.newarray .int, 2) := by decide +kernel
theorem dX8_init_18 : decode cX8_init 18 = .ok (.putfield 17, 3) := by decide +kernel
theorem dX8_init_21 : decode cX8_init 21 = .ok (.aload_n 0, 1) := by decide +kernel
theorem dX8_init_22 : decode cX8_init 22 = .ok (.bipush 40, 2) := by decide +kernel
theorem dX8_init_24 : decode cX8_init 24 = .ok (.newarray .int, 2) := by decide +kernel
theorem dX8_init_26 : decode cX8_init 26 = .ok (.putfield 21, 3) := by decide +kernel
theorem dX8_init_29 : decode cX8_init 29 = .ok (.aload_n 0, 1) := by decide +kernel
theorem dX8_init_30 : decode cX8_init 30 = .ok (.bipush 40, 2) := by decide +kernel
theorem dX8_init_32 : decode cX8_init 32 = .ok (.newarray .int, 2) := by decide +kernel
theorem dX8_init_34 : decode cX8_init 34 = .ok (.putfield 24, 3) := by decide +kernel
theorem dX8_init_37 : decode cX8_init 37 = .ok (.aload_n 0, 1) := by decide +kernel
theorem dX8_init_38 : decode cX8_init 38 = .ok (.aload_n 1, 1) := by decide +kernel
theorem dX8_init_39 : decode cX8_init 39 = .ok (.putfield 27, 3) := by decide +kernel
theorem dX8_init_42 : decode cX8_init 42 = .ok (.return_, 1) := by decide +kernel
theorem dX8_gather_0 : decode cX8_gather 0 = .ok (.aload_n 0, 1) := by decide +kernel
theorem dX8_gather_1 : decode cX8_gather 1 = .ok (.iconst 0, 1) := by decide +kernel
theorem dX8_gather_2 : decode cX8_gather 2 = .ok (.putfield 31, 3) := by decide +kernel
theorem dX8_gather_5 : decode cX8_gather 5 = .ok (.iconst 0, 1) := by decide +kernel
theorem dX8_gather_6 : decode cX8_gather 6 = .ok (.istore_n 2, 1) := by decide +kernel
theorem dX8_gather_7 : decode cX8_gather 7 = .ok (.iload_n 2, 1) := by decide +kernel
theorem dX8_gather_8 : decode cX8_gather 8 = .ok (.aload_n 1, 1) := by decide +kernel
theorem dX8_gather_9 : decode cX8_gather 9 = .ok (.getfield 35, 3) := by decide +kernel
theorem dX8_gather_12 : decode cX8_gather 12 = .ok (.if_icmp .ge 83, 3) := by decide +kernel
theorem dX8_gather_15 : decode cX8_gather 15 = .ok (.aload_n 1, 1) := by decide +kernel
theorem dX8_gather_16 : decode cX8_gather 16 = .ok (.iload_n 2, 1) := by decide +kernel
theorem dX8_gather_17 : decode cX8_gather 17 = .ok (.invokevirtual 40, 3) := by decide +kernel
theorem dX8_gather_20 : decode cX8_gather 20 = .ok (.astore_n 3, 1) := by decide +kernel
theorem dX8_gather_21 : decode cX8_gather 21 = .ok (.aload_n 3, 1) := by decide +kernel
theorem dX8_gather_22 : decode cX8_gather 22 = .ok (.ifnull 67, 3) := by decide +kernel
theorem dX8_gather_25 : decode cX8_gather 25 = .ok (.aload_n 0, 1) := by decide +kernel
theorem dX8_gather_26 : decode cX8_gather 26 = .ok (.getfield 31, 3) := by decide +kernel
theorem dX8_gather_29 : decode cX8_gather 29 = .ok (.bipush 40, 2) := by decide +kernel
theorem dX8_gather_31 : decode cX8_gather 31 = .ok (.if_icmp .ge 58, 3) := by decide +kernel
theorem dX8_gather_34 : decode cX8_gather 34 = .ok (.aload_n 0, 1) := by decide +kernel
theorem dX8_gather_35 : decode cX8_gather 35 = .ok (.getfield 27, 3) := by decide +kernel
theorem dX8_gather_38 : decode cX8_gather 38 = .ok (.aload_n 3, 1) := by decide +kernel
theorem dX8_gather_39 : decode cX8_gather 39 = .ok (.invokevirtual 44, 3) := by decide +kernel
theorem dX8_gather_42 : decode cX8_gather 42 = .ok (.ifCond .ne 47, 3) := by decide +kernel
theorem dX8_gather_45 : decode cX8_gather 45 = .ok (.aload_n 0, 1) := by decide +kernel
theorem dX8_gather_46 : decode cX8_gather 46 = .ok (.getfield 11, 3) := by decide +kernel
theorem dX8_gather_49 : decode cX8_gather 49 = .ok (.aload_n 0, 1) := by decide +kernel
theorem dX8_gather_50 : decode cX8_gather 50 = .ok (.getfield 31, 3) := by decide +kernel
theorem dX8_gather_53 : decode cX8_gather 53 = .ok (.aload_n 3, 1) := by decide +kernel
theorem dX8_gather_54 : decode cX8_gather 54 = .ok (.aastore, 1) := by decide +kernel
theorem dX8_gather_55 : decode cX8_gather 55 = .ok (.aload_n 0, 1) := by decide +kernel
theorem dX8_gather_56 : decode cX8_gather 56 = .ok (.getfield 17, 3) := by decide +kernel
theorem dX8_gather_59 : decode cX8_gather 59 = .ok (.aload_n 0, 1) := by decide +kernel
theorem dX8_gather_60 : decode cX8_gather 60 = .ok (.getfield 31, 3) := by decide +kernel
theorem dX8_gather_63 : decode cX8_gather 63 = .ok (.aload_n 0, 1) := by decide +kernel
theorem dX8_gather_64 : decode cX8_gather 64 = .ok (.getfield 27, 3) := by decide +kernel
theorem dX8_gather_67 : decode cX8_gather 67 = .ok (.aload_n 3, 1) := by decide +kernel
theorem dX8_gather_68 : decode cX8_gather 68 = .ok (.aload_n 0, 1) := by decide +kernel
theorem dX8_gather_69 : decode cX8_gather 69 = .ok (.getfield 27, 3) := by decide +kernel
theorem dX8_gather_72 : decode cX8_gather 72 = .ok (.getfield 50, 3) := by decide +kernel
theorem dX8_gather_75 : decode cX8_gather 75 = .ok (.invokevirtual 53, 3) := by decide +kernel
theorem dX8_gather_78 : decode cX8_gather 78 = .ok (.iastore, 1) := by decide +kernel
theorem dX8_gather_79 : decode cX8_gather 79 = .ok (.aload_n 0, 1) := by decide +kernel
theorem dX8_gather_80 : decode cX8_gather 80 = .ok (.dup, 1) := by decide +kernel
theorem dX8_gather_81 : decode cX8_gather 81 = .ok (.getfield 31, 3) := by decide +kernel
theorem dX8_gather_84 : decode cX8_gather 84 = .ok (.iconst 1, 1) := by decide +kernel
theorem dX8_gather_85 : decode cX8_gather 85 = .ok (.iadd, 1) := by decide +kernel
theorem dX8_gather_86 : decode cX8_gather 86 = .ok (.putfield 31, 3) := by decide +kernel
theorem dX8_gather_89 : decode cX8_gather 89 = .ok (.iinc 2 1, 3) := by decide +kernel
theorem dX8_gather_92 : decode cX8_gather 92 = .ok (.goto (-85), 3) := by decide +kernel
theorem dX8_gather_95 : decode cX8_gather 95 = .ok (.return_, 1) := by decide +kernel
theorem dX8_placeOf_0 : decode cX8_placeOf 0 = .ok (.iconst 0, 1) := by decide +kernel
theorem dX8_placeOf_1 : decode cX8_placeOf 1 = .ok (.istore_n 2, 1) := by decide +kernel
theorem dX8_placeOf_2 : decode cX8_placeOf 2 = .ok (.iload_n 2, 1) := by decide +kernel
theorem dX8_placeOf_3 : decode cX8_placeOf 3 = .ok (.aload_n 0, 1) := by decide +kernel
theorem dX8_placeOf_4 : decode cX8_placeOf 4 = .ok (.getfield 31, 3) := by decide +kernel
theorem dX8_placeOf_7 : decode cX8_placeOf 7 = .ok (.if_icmp .ge 21, 3) := by decide +kernel
theorem dX8_placeOf_10 : decode cX8_placeOf 10 = .ok (.aload_n 0, 1) := by decide +kernel
theorem dX8_placeOf_11 : decode cX8_placeOf 11 = .ok (.getfield 11, 3) := by decide +kernel
theorem dX8_placeOf_14 : decode cX8_placeOf 14 = .ok (.iload_n 2, 1) := by decide +kernel
theorem dX8_placeOf_15 : decode cX8_placeOf 15 = .ok (.aaload, 1) := by decide +kernel
theorem dX8_placeOf_16 : decode cX8_placeOf 16 = .ok (.aload_n 1, 1) := by decide +kernel
theorem dX8_placeOf_17 : decode cX8_placeOf 17 = .ok (.if_acmp .ne 5, 3) := by decide +kernel
theorem dX8_placeOf_20 : decode cX8_placeOf 20 = .ok (.iload_n 2, 1) := by decide +kernel
theorem dX8_placeOf_21 : decode cX8_placeOf 21 = .ok (.ireturn, 1) := by decide +kernel
theorem dX8_placeOf_22 : decode cX8_placeOf 22 = .ok (.iinc 2 1, 3) := by decide +kernel
theorem dX8_placeOf_25 : decode cX8_placeOf 25 = .ok (.goto (-23), 3) := by decide +kernel
theorem dX8_placeOf_28 : decode cX8_placeOf 28 = .ok (.iconst (-1), 1) := by decide +kernel
theorem dX8_placeOf_29 : decode cX8_placeOf 29 = .ok (.ireturn, 1) := by decide +kernel
theorem dX8_ahead_0 : decode cX8_ahead 0 = .ok (.aload_n 0, 1) := by decide +kernel
theorem dX8_ahead_1 : decode cX8_ahead 1 = .ok (.getfield 11, 3) := by decide +kernel
theorem dX8_ahead_4 : decode cX8_ahead 4 = .ok (.iload_n 2, 1) := by decide +kernel
theorem dX8_ahead_5 : decode cX8_ahead 5 = .ok (.aaload, 1) := by decide +kernel
theorem dX8_ahead_6 : decode cX8_ahead 6 = .ok (.astore_n 3, 1) := by decide +kernel
theorem dX8_ahead_7 : decode cX8_ahead 7 = .ok (.iconst 0, 1) := by decide +kernel
theorem dX8_ahead_8 : decode cX8_ahead 8 = .ok (.istore 4, 2) := by decide +kernel
theorem dX8_ahead_10 : decode cX8_ahead 10 = .ok (.iconst 0, 1) := by decide +kernel
theorem dX8_ahead_11 : decode cX8_ahead 11 = .ok (.istore 5, 2) := by decide +kernel
theorem dX8_ahead_13 : decode cX8_ahead 13 = .ok (.iload 5, 2) := by decide +kernel
theorem dX8_ahead_15 : decode cX8_ahead 15 = .ok (.aload_n 0, 1) := by decide +kernel
theorem dX8_ahead_16 : decode cX8_ahead 16 = .ok (.getfield 31, 3) := by decide +kernel
theorem dX8_ahead_19 : decode cX8_ahead 19 = .ok (.if_icmp .ge 59, 3) := by decide +kernel
theorem dX8_ahead_22 : decode cX8_ahead 22 = .ok (.aload_n 0, 1) := by decide +kernel
theorem dX8_ahead_23 : decode cX8_ahead 23 = .ok (.getfield 11, 3) := by decide +kernel
theorem dX8_ahead_26 : decode cX8_ahead 26 = .ok (.iload 5, 2) := by decide +kernel
theorem dX8_ahead_28 : decode cX8_ahead 28 = .ok (.aaload, 1) := by decide +kernel
theorem dX8_ahead_29 : decode cX8_ahead 29 = .ok (.astore 6, 2) := by decide +kernel
theorem dX8_ahead_31 : decode cX8_ahead 31 = .ok (.aload_n 3, 1) := by decide +kernel
theorem dX8_ahead_32 : decode cX8_ahead 32 = .ok (.ifnull 40, 3) := by decide +kernel
theorem dX8_ahead_35 : decode cX8_ahead 35 = .ok (.aload 6, 2) := by decide +kernel
theorem dX8_ahead_37 : decode cX8_ahead 37 = .ok (.ifnull 35, 3) := by decide +kernel
theorem dX8_ahead_40 : decode cX8_ahead 40 = .ok (.aload_n 1, 1) := by decide +kernel
theorem dX8_ahead_41 : decode cX8_ahead 41 = .ok (.iload 5, 2) := by decide +kernel
theorem dX8_ahead_43 : decode cX8_ahead 43 = .ok (.iaload, 1) := by decide +kernel
theorem dX8_ahead_44 : decode cX8_ahead 44 = .ok (.aload_n 1, 1) := by decide +kernel
theorem dX8_ahead_45 : decode cX8_ahead 45 = .ok (.iload_n 2, 1) := by decide +kernel
theorem dX8_ahead_46 : decode cX8_ahead 46 = .ok (.iaload, 1) := by decide +kernel
theorem dX8_ahead_47 : decode cX8_ahead 47 = .ok (.if_icmp .lt 22, 3) := by decide +kernel
theorem dX8_ahead_50 : decode cX8_ahead 50 = .ok (.aload_n 1, 1) := by decide +kernel
theorem dX8_ahead_51 : decode cX8_ahead 51 = .ok (.iload 5, 2) := by decide +kernel
theorem dX8_ahead_53 : decode cX8_ahead 53 = .ok (.iaload, 1) := by decide +kernel
theorem dX8_ahead_54 : decode cX8_ahead 54 = .ok (.aload_n 1, 1) := by decide +kernel
theorem dX8_ahead_55 : decode cX8_ahead 55 = .ok (.iload_n 2, 1) := by decide +kernel
theorem dX8_ahead_56 : decode cX8_ahead 56 = .ok (.iaload, 1) := by decide +kernel
theorem dX8_ahead_57 : decode cX8_ahead 57 = .ok (.if_icmp .ne 15, 3) := by decide +kernel
theorem dX8_ahead_60 : decode cX8_ahead 60 = .ok (.aload 6, 2) := by decide +kernel
theorem dX8_ahead_62 : decode cX8_ahead 62 = .ok (.aload_n 3, 1) := by decide +kernel
theorem dX8_ahead_63 : decode cX8_ahead 63 = .ok (.invokestatic 57, 3) := by decide +kernel
theorem dX8_ahead_66 : decode cX8_ahead 66 = .ok (.ifCond .eq 6, 3) := by decide +kernel
theorem dX8_ahead_69 : decode cX8_ahead 69 = .ok (.iinc 4 1, 3) := by decide +kernel
theorem dX8_ahead_72 : decode cX8_ahead 72 = .ok (.iinc 5 1, 3) := by decide +kernel
theorem dX8_ahead_75 : decode cX8_ahead 75 = .ok (.goto (-62), 3) := by decide +kernel
theorem dX8_ahead_78 : decode cX8_ahead 78 = .ok (.iload 4, 2) := by decide +kernel
theorem dX8_ahead_80 : decode cX8_ahead 80 = .ok (.ireturn, 1) := by decide +kernel
theorem dX8_goesFirst_0 : decode cX8_goesFirst 0 = .ok (.aload_n 0, 1) := by decide +kernel
theorem dX8_goesFirst_1 : decode cX8_goesFirst 1 = .ok (.getfield 61, 3) := by decide +kernel
theorem dX8_goesFirst_4 : decode cX8_goesFirst 4 = .ok (.aload_n 1, 1) := by decide +kernel
theorem dX8_goesFirst_5 : decode cX8_goesFirst 5 = .ok (.getfield 61, 3) := by decide +kernel
theorem dX8_goesFirst_8 : decode cX8_goesFirst 8 = .ok (.if_icmp .eq 20, 3) := by decide +kernel
theorem dX8_goesFirst_11 : decode cX8_goesFirst 11 = .ok (.aload_n 0, 1) := by decide +kernel
theorem dX8_goesFirst_12 : decode cX8_goesFirst 12 = .ok (.getfield 61, 3) := by decide +kernel
theorem dX8_goesFirst_15 : decode cX8_goesFirst 15 = .ok (.aload_n 1, 1) := by decide +kernel
theorem dX8_goesFirst_16 : decode cX8_goesFirst 16 = .ok (.getfield 61, 3) := by decide +kernel
theorem dX8_goesFirst_19 : decode cX8_goesFirst 19 = .ok (.if_icmp .le 7, 3) := by decide +kernel
theorem dX8_goesFirst_22 : decode cX8_goesFirst 22 = .ok (.iconst 1, 1) := by decide +kernel
theorem dX8_goesFirst_23 : decode cX8_goesFirst 23 = .ok (.goto 4, 3) := by decide +kernel
theorem dX8_goesFirst_26 : decode cX8_goesFirst 26 = .ok (.iconst 0, 1) := by decide +kernel
theorem dX8_goesFirst_27 : decode cX8_goesFirst 27 = .ok (.ireturn, 1) := by decide +kernel
theorem dX8_goesFirst_28 : decode cX8_goesFirst 28 = .ok (.aload_n 0, 1) := by decide +kernel
theorem dX8_goesFirst_29 : decode cX8_goesFirst 29 = .ok (.getfield 64, 3) := by decide +kernel
theorem dX8_goesFirst_32 : decode cX8_goesFirst 32 = .ok (.aload_n 1, 1) := by decide +kernel
theorem dX8_goesFirst_33 : decode cX8_goesFirst 33 = .ok (.getfield 64, 3) := by decide +kernel
theorem dX8_goesFirst_36 : decode cX8_goesFirst 36 = .ok (.if_icmp .le 7, 3) := by decide +kernel
theorem dX8_goesFirst_39 : decode cX8_goesFirst 39 = .ok (.iconst 1, 1) := by decide +kernel
theorem dX8_goesFirst_40 : decode cX8_goesFirst 40 = .ok (.goto 4, 3) := by decide +kernel
theorem dX8_goesFirst_43 : decode cX8_goesFirst 43 = .ok (.iconst 0, 1) := by decide +kernel
theorem dX8_goesFirst_44 : decode cX8_goesFirst 44 = .ok (.ireturn, 1) := by decide +kernel
theorem dX8_goesAt_0 : decode cX8_goesAt 0 = .ok (.iload_n 2, 1) := by decide +kernel
theorem dX8_goesAt_1 : decode cX8_goesAt 1 = .ok (.ifCond .lt 8, 3) := by decide +kernel
theorem dX8_goesAt_4 : decode cX8_goesAt 4 = .ok (.iload_n 2, 1) := by decide +kernel
theorem dX8_goesAt_5 : decode cX8_goesAt 5 = .ok (.iload_n 1, 1) := by decide +kernel
theorem dX8_goesAt_6 : decode cX8_goesAt 6 = .ok (.if_icmp .lt 6, 3) := by decide +kernel
theorem dX8_goesAt_9 : decode cX8_goesAt 9 = .ok (.bipush (-9), 2) := by decide +kernel
theorem dX8_goesAt_11 : decode cX8_goesAt 11 = .ok (.ireturn, 1) := by decide +kernel
theorem dX8_goesAt_12 : decode cX8_goesAt 12 = .ok (.iconst 0, 1) := by decide +kernel
theorem dX8_goesAt_13 : decode cX8_goesAt 13 = .ok (.istore_n 3, 1) := by decide +kernel
theorem dX8_goesAt_14 : decode cX8_goesAt 14 = .ok (.iload_n 3, 1) := by decide +kernel
theorem dX8_goesAt_15 : decode cX8_goesAt 15 = .ok (.aload_n 0, 1) := by decide +kernel
theorem dX8_goesAt_16 : decode cX8_goesAt 16 = .ok (.getfield 31, 3) := by decide +kernel
theorem dX8_goesAt_19 : decode cX8_goesAt 19 = .ok (.if_icmp .ge 41, 3) := by decide +kernel
theorem dX8_goesAt_22 : decode cX8_goesAt 22 = .ok (.aload_n 0, 1) := by decide +kernel
theorem dX8_goesAt_23 : decode cX8_goesAt 23 = .ok (.getfield 11, 3) := by decide +kernel
theorem dX8_goesAt_26 : decode cX8_goesAt 26 = .ok (.iload_n 3, 1) := by decide +kernel
theorem dX8_goesAt_27 : decode cX8_goesAt 27 = .ok (.aaload, 1) := by decide +kernel
theorem dX8_goesAt_28 : decode cX8_goesAt 28 = .ok (.astore 4, 2) := by decide +kernel
theorem dX8_goesAt_30 : decode cX8_goesAt 30 = .ok (.aload 4, 2) := by decide +kernel
theorem dX8_goesAt_32 : decode cX8_goesAt 32 = .ok (.ifnull 22, 3) := by decide +kernel
theorem dX8_goesAt_35 : decode cX8_goesAt 35 = .ok (.aload_n 0, 1) := by decide +kernel
theorem dX8_goesAt_36 : decode cX8_goesAt 36 = .ok (.aload_n 0, 1) := by decide +kernel
theorem dX8_goesAt_37 : decode cX8_goesAt 37 = .ok (.getfield 17, 3) := by decide +kernel
theorem dX8_goesAt_40 : decode cX8_goesAt 40 = .ok (.iload_n 3, 1) := by decide +kernel
theorem dX8_goesAt_41 : decode cX8_goesAt 41 = .ok (.invokevirtual 67, 3) := by decide +kernel
theorem dX8_goesAt_44 : decode cX8_goesAt 44 = .ok (.iload_n 2, 1) := by decide +kernel
theorem dX8_goesAt_45 : decode cX8_goesAt 45 = .ok (.if_icmp .ne 9, 3) := by decide +kernel
theorem dX8_goesAt_48 : decode cX8_goesAt 48 = .ok (.aload 4, 2) := by decide +kernel
theorem dX8_goesAt_50 : decode cX8_goesAt 50 = .ok (.getfield 64, 3) := by decide +kernel
theorem dX8_goesAt_53 : decode cX8_goesAt 53 = .ok (.ireturn, 1) := by decide +kernel
theorem dX8_goesAt_54 : decode cX8_goesAt 54 = .ok (.iinc 3 1, 3) := by decide +kernel
theorem dX8_goesAt_57 : decode cX8_goesAt 57 = .ok (.goto (-43), 3) := by decide +kernel
theorem dX8_goesAt_60 : decode cX8_goesAt 60 = .ok (.bipush (-9), 2) := by decide +kernel
theorem dX8_goesAt_62 : decode cX8_goesAt 62 = .ok (.ireturn, 1) := by decide +kernel
theorem dX8_turnedBy_0 : decode cX8_turnedBy 0 = .ok (.iload_n 1, 1) := by decide +kernel
theorem dX8_turnedBy_1 : decode cX8_turnedBy 1 = .ok (.ifCond .lt 20, 3) := by decide +kernel
theorem dX8_turnedBy_4 : decode cX8_turnedBy 4 = .ok (.iload_n 1, 1) := by decide +kernel
theorem dX8_turnedBy_5 : decode cX8_turnedBy 5 = .ok (.aload_n 0, 1) := by decide +kernel
theorem dX8_turnedBy_6 : decode cX8_turnedBy 6 = .ok (.getfield 31, 3) := by decide +kernel
theorem dX8_turnedBy_9 : decode cX8_turnedBy 9 = .ok (.if_icmp .ge 12, 3) := by decide +kernel
theorem dX8_turnedBy_12 : decode cX8_turnedBy 12 = .ok (.iload_n 3, 1) := by decide +kernel
theorem dX8_turnedBy_13 : decode cX8_turnedBy 13 = .ok (.ifCond .lt 8, 3) := by decide +kernel
theorem dX8_turnedBy_16 : decode cX8_turnedBy 16 = .ok (.iload_n 3, 1) := by decide +kernel
theorem dX8_turnedBy_17 : decode cX8_turnedBy 17 = .ok (.iconst 4, 1) := by decide +kernel
theorem dX8_turnedBy_18 : decode cX8_turnedBy 18 = .ok (.if_icmp .lt 6, 3) := by decide +kernel
theorem dX8_turnedBy_21 : decode cX8_turnedBy 21 = .ok (.bipush (-9), 2) := by decide +kernel
theorem dX8_turnedBy_23 : decode cX8_turnedBy 23 = .ok (.ireturn, 1) := by decide +kernel
theorem dX8_turnedBy_24 : decode cX8_turnedBy 24 = .ok (.aload_n 0, 1) := by decide +kernel
theorem dX8_turnedBy_25 : decode cX8_turnedBy 25 = .ok (.iload_n 3, 1) := by decide +kernel
theorem dX8_turnedBy_26 : decode cX8_turnedBy 26 = .ok (.invokevirtual 71, 3) := by decide +kernel
theorem dX8_turnedBy_29 : decode cX8_turnedBy 29 = .ok (.aload_n 0, 1) := by decide +kernel
theorem dX8_turnedBy_30 : decode cX8_turnedBy 30 = .ok (.getfield 27, 3) := by decide +kernel
theorem dX8_turnedBy_33 : decode cX8_turnedBy 33 = .ok (.getfield 75, 3) := by decide +kernel
theorem dX8_turnedBy_36 : decode cX8_turnedBy 36 = .ok (.iload_n 3, 1) := by decide +kernel
theorem dX8_turnedBy_37 : decode cX8_turnedBy 37 = .ok (.iaload, 1) := by decide +kernel
theorem dX8_turnedBy_38 : decode cX8_turnedBy 38 = .ok (.istore 4, 2) := by decide +kernel
theorem dX8_turnedBy_40 : decode cX8_turnedBy 40 = .ok (.aload_n 0, 1) := by decide +kernel
theorem dX8_turnedBy_41 : decode cX8_turnedBy 41 = .ok (.aload_n 0, 1) := by decide +kernel
theorem dX8_turnedBy_42 : decode cX8_turnedBy 42 = .ok (.getfield 17, 3) := by decide +kernel
theorem dX8_turnedBy_45 : decode cX8_turnedBy 45 = .ok (.iload_n 1, 1) := by decide +kernel
theorem dX8_turnedBy_46 : decode cX8_turnedBy 46 = .ok (.invokevirtual 67, 3) := by decide +kernel
theorem dX8_turnedBy_49 : decode cX8_turnedBy 49 = .ok (.iload_n 2, 1) := by decide +kernel
theorem dX8_turnedBy_50 : decode cX8_turnedBy 50 = .ok (.if_icmp .ge 7, 3) := by decide +kernel
theorem dX8_turnedBy_53 : decode cX8_turnedBy 53 = .ok (.iconst 1, 1) := by decide +kernel
theorem dX8_turnedBy_54 : decode cX8_turnedBy 54 = .ok (.goto 4, 3) := by decide +kernel
theorem dX8_turnedBy_57 : decode cX8_turnedBy 57 = .ok (.iconst 0, 1) := by decide +kernel
theorem dX8_turnedBy_58 : decode cX8_turnedBy 58 = .ok (.istore 5, 2) := by decide +kernel
theorem dX8_turnedBy_60 : decode cX8_turnedBy 60 = .ok (.iconst 1, 1) := by decide +kernel
theorem dX8_turnedBy_61 : decode cX8_turnedBy 61 = .ok (.istore 6, 2) := by decide +kernel
theorem dX8_turnedBy_63 : decode cX8_turnedBy 63 = .ok (.iload 6, 2) := by decide +kernel
theorem dX8_turnedBy_65 : decode cX8_turnedBy 65 = .ok (.bipush 60, 2) := by decide +kernel
theorem dX8_turnedBy_67 : decode cX8_turnedBy 67 = .ok (.if_icmp .gt 64, 3) := by decide +kernel
theorem dX8_turnedBy_70 : decode cX8_turnedBy 70 = .ok (.iload 4, 2) := by decide +kernel
theorem dX8_turnedBy_72 : decode cX8_turnedBy 72 = .ok (.iload 6, 2) := by decide +kernel
theorem dX8_turnedBy_74 : decode cX8_turnedBy 74 = .ok (.iadd, 1) := by decide +kernel
theorem dX8_turnedBy_75 : decode cX8_turnedBy 75 = .ok (.bipush 60, 2) := by decide +kernel
theorem dX8_turnedBy_77 : decode cX8_turnedBy 77 = .ok (.if_icmp .gt 19, 3) := by decide +kernel
theorem dX8_turnedBy_80 : decode cX8_turnedBy 80 = .ok (.aload_n 0, 1) := by decide +kernel
theorem dX8_turnedBy_81 : decode cX8_turnedBy 81 = .ok (.iload 6, 2) := by decide +kernel
theorem dX8_turnedBy_83 : decode cX8_turnedBy 83 = .ok (.iload_n 1, 1) := by decide +kernel
theorem dX8_turnedBy_84 : decode cX8_turnedBy 84 = .ok (.iload_n 2, 1) := by decide +kernel
theorem dX8_turnedBy_85 : decode cX8_turnedBy 85 = .ok (.invokevirtual 78, 3) := by decide +kernel
theorem dX8_turnedBy_88 : decode cX8_turnedBy 88 = .ok (.iload 5, 2) := by decide +kernel
theorem dX8_turnedBy_90 : decode cX8_turnedBy 90 = .ok (.if_icmp .eq 6, 3) := by decide +kernel
theorem dX8_turnedBy_93 : decode cX8_turnedBy 93 = .ok (.iload 6, 2) := by decide +kernel
theorem dX8_turnedBy_95 : decode cX8_turnedBy 95 = .ok (.ireturn, 1) := by decide +kernel
theorem dX8_turnedBy_96 : decode cX8_turnedBy 96 = .ok (.iload 4, 2) := by decide +kernel
theorem dX8_turnedBy_98 : decode cX8_turnedBy 98 = .ok (.iload 6, 2) := by decide +kernel
theorem dX8_turnedBy_100 : decode cX8_turnedBy 100 = .ok (.isub, 1) := by decide +kernel
theorem dX8_turnedBy_101 : decode cX8_turnedBy 101 = .ok (.ifCond .lt 24, 3) := by decide +kernel
theorem dX8_turnedBy_104 : decode cX8_turnedBy 104 = .ok (.aload_n 0, 1) := by decide +kernel
theorem dX8_turnedBy_105 : decode cX8_turnedBy 105 = .ok (.iload 6, 2) := by decide +kernel
theorem dX8_turnedBy_107 : decode cX8_turnedBy 107 = .ok (.ineg, 1) := by decide +kernel
theorem dX8_turnedBy_108 : decode cX8_turnedBy 108 = .ok (.iload_n 1, 1) := by decide +kernel
theorem dX8_turnedBy_109 : decode cX8_turnedBy 109 = .ok (.iload_n 2, 1) := by decide +kernel
theorem dX8_turnedBy_110 : decode cX8_turnedBy 110 = .ok (.invokevirtual 78, 3) := by decide +kernel
theorem dX8_turnedBy_113 : decode cX8_turnedBy 113 = .ok (.iload 5, 2) := by decide +kernel
theorem dX8_turnedBy_115 : decode cX8_turnedBy 115 = .ok (.if_icmp .eq 10, 3) := by decide +kernel
theorem dX8_turnedBy_118 : decode cX8_turnedBy 118 = .ok (.sipush 1000, 3) := by decide +kernel
theorem dX8_turnedBy_121 : decode cX8_turnedBy 121 = .ok (.iload 6, 2) := by decide +kernel
theorem dX8_turnedBy_123 : decode cX8_turnedBy 123 = .ok (.iadd, 1) := by decide +kernel
theorem dX8_turnedBy_124 : decode cX8_turnedBy 124 = .ok (.ireturn, 1) := by decide +kernel
theorem dX8_turnedBy_125 : decode cX8_turnedBy 125 = .ok (.iinc 6 1, 3) := by decide +kernel
theorem dX8_turnedBy_128 : decode cX8_turnedBy 128 = .ok (.goto (-65), 3) := by decide +kernel
theorem dX8_turnedBy_131 : decode cX8_turnedBy 131 = .ok (.bipush (-9), 2) := by decide +kernel
theorem dX8_turnedBy_133 : decode cX8_turnedBy 133 = .ok (.ireturn, 1) := by decide +kernel
theorem dX8_gatherGrowth_0 : decode cX8_gatherGrowth 0 = .ok (.iconst 0, 1) := by decide +kernel
theorem dX8_gatherGrowth_1 : decode cX8_gatherGrowth 1 = .ok (.istore_n 2, 1) := by decide +kernel
theorem dX8_gatherGrowth_2 : decode cX8_gatherGrowth 2 = .ok (.iload_n 2, 1) := by decide +kernel
theorem dX8_gatherGrowth_3 : decode cX8_gatherGrowth 3 = .ok (.aload_n 0, 1) := by decide +kernel
theorem dX8_gatherGrowth_4 : decode cX8_gatherGrowth 4 = .ok (.getfield 31, 3) := by decide +kernel
theorem dX8_gatherGrowth_7 : decode cX8_gatherGrowth 7 = .ok (.if_icmp .ge 46, 3) := by decide +kernel
theorem dX8_gatherGrowth_10 : decode cX8_gatherGrowth 10 = .ok (.aload_n 0, 1) := by decide +kernel
theorem dX8_gatherGrowth_11 : decode cX8_gatherGrowth 11 = .ok (.getfield 11, 3) := by decide +kernel
theorem dX8_gatherGrowth_14 : decode cX8_gatherGrowth 14 = .ok (.iload_n 2, 1) := by decide +kernel
theorem dX8_gatherGrowth_15 : decode cX8_gatherGrowth 15 = .ok (.aaload, 1) := by decide +kernel
theorem dX8_gatherGrowth_16 : decode cX8_gatherGrowth 16 = .ok (.astore_n 3, 1) := by decide +kernel
theorem dX8_gatherGrowth_17 : decode cX8_gatherGrowth 17 = .ok (.aload_n 0, 1) := by decide +kernel
theorem dX8_gatherGrowth_18 : decode cX8_gatherGrowth 18 = .ok (.getfield 24, 3) := by decide +kernel
theorem dX8_gatherGrowth_21 : decode cX8_gatherGrowth 21 = .ok (.iload_n 2, 1) := by decide +kernel
theorem dX8_gatherGrowth_22 : decode cX8_gatherGrowth 22 = .ok (.aload_n 3, 1) := by decide +kernel
theorem dX8_gatherGrowth_23 : decode cX8_gatherGrowth 23 = .ok (.ifnonnull 7, 3) := by decide +kernel
theorem dX8_gatherGrowth_26 : decode cX8_gatherGrowth 26 = .ok (.iconst 0, 1) := by decide +kernel
theorem dX8_gatherGrowth_27 : decode cX8_gatherGrowth 27 = .ok (.goto 19, 3) := by decide +kernel
theorem dX8_gatherGrowth_30 : decode cX8_gatherGrowth 30 = .ok (.aload_n 0, 1) := by decide +kernel
theorem dX8_gatherGrowth_31 : decode cX8_gatherGrowth 31 = .ok (.getfield 27, 3) := by decide +kernel
theorem dX8_gatherGrowth_34 : decode cX8_gatherGrowth 34 = .ok (.aload_n 3, 1) := by decide +kernel
theorem dX8_gatherGrowth_35 : decode cX8_gatherGrowth 35 = .ok (.iload_n 1, 1) := by decide +kernel
theorem dX8_gatherGrowth_36 : decode cX8_gatherGrowth 36 = .ok (.aload_n 0, 1) := by decide +kernel
theorem dX8_gatherGrowth_37 : decode cX8_gatherGrowth 37 = .ok (.getfield 27, 3) := by decide +kernel
theorem dX8_gatherGrowth_40 : decode cX8_gatherGrowth 40 = .ok (.getfield 50, 3) := by decide +kernel
theorem dX8_gatherGrowth_43 : decode cX8_gatherGrowth 43 = .ok (.invokevirtual 82, 3) := by decide +kernel
theorem dX8_gatherGrowth_46 : decode cX8_gatherGrowth 46 = .ok (.iastore, 1) := by decide +kernel
theorem dX8_gatherGrowth_47 : decode cX8_gatherGrowth 47 = .ok (.iinc 2 1, 3) := by decide +kernel
theorem dX8_gatherGrowth_50 : decode cX8_gatherGrowth 50 = .ok (.goto (-48), 3) := by decide +kernel
theorem dX8_gatherGrowth_53 : decode cX8_gatherGrowth 53 = .ok (.return_, 1) := by decide +kernel
theorem dX8_goesWith_0 : decode cX8_goesWith 0 = .ok (.iconst 0, 1) := by decide +kernel
theorem dX8_goesWith_1 : decode cX8_goesWith 1 = .ok (.istore 4, 2) := by decide +kernel
theorem dX8_goesWith_3 : decode cX8_goesWith 3 = .ok (.iload 4, 2) := by decide +kernel
theorem dX8_goesWith_5 : decode cX8_goesWith 5 = .ok (.aload_n 0, 1) := by decide +kernel
theorem dX8_goesWith_6 : decode cX8_goesWith 6 = .ok (.getfield 31, 3) := by decide +kernel
theorem dX8_goesWith_9 : decode cX8_goesWith 9 = .ok (.if_icmp .ge 33, 3) := by decide +kernel
theorem dX8_goesWith_12 : decode cX8_goesWith 12 = .ok (.aload_n 0, 1) := by decide +kernel
theorem dX8_goesWith_13 : decode cX8_goesWith 13 = .ok (.getfield 21, 3) := by decide +kernel
theorem dX8_goesWith_16 : decode cX8_goesWith 16 = .ok (.iload 4, 2) := by decide +kernel
theorem dX8_goesWith_18 : decode cX8_goesWith 18 = .ok (.aload_n 0, 1) := by decide +kernel
theorem dX8_goesWith_19 : decode cX8_goesWith 19 = .ok (.getfield 17, 3) := by decide +kernel
theorem dX8_goesWith_22 : decode cX8_goesWith 22 = .ok (.iload 4, 2) := by decide +kernel
theorem dX8_goesWith_24 : decode cX8_goesWith 24 = .ok (.iaload, 1) := by decide +kernel
theorem dX8_goesWith_25 : decode cX8_goesWith 25 = .ok (.iload_n 1, 1) := by decide +kernel
theorem dX8_goesWith_26 : decode cX8_goesWith 26 = .ok (.aload_n 0, 1) := by decide +kernel
theorem dX8_goesWith_27 : decode cX8_goesWith 27 = .ok (.getfield 24, 3) := by decide +kernel
theorem dX8_goesWith_30 : decode cX8_goesWith 30 = .ok (.iload 4, 2) := by decide +kernel
theorem dX8_goesWith_32 : decode cX8_goesWith 32 = .ok (.iaload, 1) := by decide +kernel
theorem dX8_goesWith_33 : decode cX8_goesWith 33 = .ok (.imul, 1) := by decide +kernel
theorem dX8_goesWith_34 : decode cX8_goesWith 34 = .ok (.iadd, 1) := by decide +kernel
theorem dX8_goesWith_35 : decode cX8_goesWith 35 = .ok (.iastore, 1) := by decide +kernel
theorem dX8_goesWith_36 : decode cX8_goesWith 36 = .ok (.iinc 4 1, 3) := by decide +kernel
theorem dX8_goesWith_39 : decode cX8_goesWith 39 = .ok (.goto (-36), 3) := by decide +kernel
theorem dX8_goesWith_42 : decode cX8_goesWith 42 = .ok (.aload_n 0, 1) := by decide +kernel
theorem dX8_goesWith_43 : decode cX8_goesWith 43 = .ok (.aload_n 0, 1) := by decide +kernel
theorem dX8_goesWith_44 : decode cX8_goesWith 44 = .ok (.getfield 21, 3) := by decide +kernel
theorem dX8_goesWith_47 : decode cX8_goesWith 47 = .ok (.iload_n 2, 1) := by decide +kernel
theorem dX8_goesWith_48 : decode cX8_goesWith 48 = .ok (.invokevirtual 67, 3) := by decide +kernel
theorem dX8_goesWith_51 : decode cX8_goesWith 51 = .ok (.iload_n 3, 1) := by decide +kernel
theorem dX8_goesWith_52 : decode cX8_goesWith 52 = .ok (.if_icmp .ge 7, 3) := by decide +kernel
theorem dX8_goesWith_55 : decode cX8_goesWith 55 = .ok (.iconst 1, 1) := by decide +kernel
theorem dX8_goesWith_56 : decode cX8_goesWith 56 = .ok (.goto 4, 3) := by decide +kernel
theorem dX8_goesWith_59 : decode cX8_goesWith 59 = .ok (.iconst 0, 1) := by decide +kernel
theorem dX8_goesWith_60 : decode cX8_goesWith 60 = .ok (.ireturn, 1) := by decide +kernel
theorem dX8_movedBy_0 : decode cX8_movedBy 0 = .ok (.iconst 0, 1) := by decide +kernel
theorem dX8_movedBy_1 : decode cX8_movedBy 1 = .ok (.istore 4, 2) := by decide +kernel
theorem dX8_movedBy_3 : decode cX8_movedBy 3 = .ok (.iload 4, 2) := by decide +kernel
theorem dX8_movedBy_5 : decode cX8_movedBy 5 = .ok (.aload_n 0, 1) := by decide +kernel
theorem dX8_movedBy_6 : decode cX8_movedBy 6 = .ok (.getfield 31, 3) := by decide +kernel
theorem dX8_movedBy_9 : decode cX8_movedBy 9 = .ok (.if_icmp .ge 23, 3) := by decide +kernel
theorem dX8_movedBy_12 : decode cX8_movedBy 12 = .ok (.aload_n 0, 1) := by decide +kernel
theorem dX8_movedBy_13 : decode cX8_movedBy 13 = .ok (.getfield 21, 3) := by decide +kernel
theorem dX8_movedBy_16 : decode cX8_movedBy 16 = .ok (.iload 4, 2) := by decide +kernel
theorem dX8_movedBy_18 : decode cX8_movedBy 18 = .ok (.aload_n 0, 1) := by decide +kernel
theorem dX8_movedBy_19 : decode cX8_movedBy 19 = .ok (.getfield 17, 3) := by decide +kernel
theorem dX8_movedBy_22 : decode cX8_movedBy 22 = .ok (.iload 4, 2) := by decide +kernel
theorem dX8_movedBy_24 : decode cX8_movedBy 24 = .ok (.iaload, 1) := by decide +kernel
theorem dX8_movedBy_25 : decode cX8_movedBy 25 = .ok (.iastore, 1) := by decide +kernel
theorem dX8_movedBy_26 : decode cX8_movedBy 26 = .ok (.iinc 4 1, 3) := by decide +kernel
theorem dX8_movedBy_29 : decode cX8_movedBy 29 = .ok (.goto (-26), 3) := by decide +kernel
theorem dX8_movedBy_32 : decode cX8_movedBy 32 = .ok (.aload_n 0, 1) := by decide +kernel
theorem dX8_movedBy_33 : decode cX8_movedBy 33 = .ok (.aload_n 2, 1) := by decide +kernel
theorem dX8_movedBy_34 : decode cX8_movedBy 34 = .ok (.getfield 86, 3) := by decide +kernel
theorem dX8_movedBy_37 : decode cX8_movedBy 37 = .ok (.invokevirtual 92, 3) := by decide +kernel
theorem dX8_movedBy_40 : decode cX8_movedBy 40 = .ok (.istore 4, 2) := by decide +kernel
theorem dX8_movedBy_42 : decode cX8_movedBy 42 = .ok (.iload 4, 2) := by decide +kernel
theorem dX8_movedBy_44 : decode cX8_movedBy 44 = .ok (.ifCond .lt 19, 3) := by decide +kernel
theorem dX8_movedBy_47 : decode cX8_movedBy 47 = .ok (.aload_n 0, 1) := by decide +kernel
theorem dX8_movedBy_48 : decode cX8_movedBy 48 = .ok (.getfield 21, 3) := by decide +kernel
theorem dX8_movedBy_51 : decode cX8_movedBy 51 = .ok (.iload 4, 2) := by decide +kernel
theorem dX8_movedBy_53 : decode cX8_movedBy 53 = .ok (.dup2, 1) := by decide +kernel
theorem dX8_movedBy_54 : decode cX8_movedBy 54 = .ok (.iaload, 1) := by decide +kernel
theorem dX8_movedBy_55 : decode cX8_movedBy 55 = .ok (.aload_n 0, 1) := by decide +kernel
theorem dX8_movedBy_56 : decode cX8_movedBy 56 = .ok (.aload_n 2, 1) := by decide +kernel
theorem dX8_movedBy_57 : decode cX8_movedBy 57 = .ok (.iload_n 3, 1) := by decide +kernel
theorem dX8_movedBy_58 : decode cX8_movedBy 58 = .ok (.invokevirtual 96, 3) := by decide +kernel
theorem dX8_movedBy_61 : decode cX8_movedBy 61 = .ok (.iadd, 1) := by decide +kernel
theorem dX8_movedBy_62 : decode cX8_movedBy 62 = .ok (.iastore, 1) := by decide +kernel
theorem dX8_movedBy_63 : decode cX8_movedBy 63 = .ok (.aload_n 0, 1) := by decide +kernel
theorem dX8_movedBy_64 : decode cX8_movedBy 64 = .ok (.aload_n 0, 1) := by decide +kernel
theorem dX8_movedBy_65 : decode cX8_movedBy 65 = .ok (.getfield 17, 3) := by decide +kernel
theorem dX8_movedBy_68 : decode cX8_movedBy 68 = .ok (.iload_n 1, 1) := by decide +kernel
theorem dX8_movedBy_69 : decode cX8_movedBy 69 = .ok (.invokevirtual 100, 3) := by decide +kernel
theorem dX8_movedBy_72 : decode cX8_movedBy 72 = .ok (.aload_n 0, 1) := by decide +kernel
theorem dX8_movedBy_73 : decode cX8_movedBy 73 = .ok (.aload_n 0, 1) := by decide +kernel
theorem dX8_movedBy_74 : decode cX8_movedBy 74 = .ok (.getfield 21, 3) := by decide +kernel
theorem dX8_movedBy_77 : decode cX8_movedBy 77 = .ok (.iload_n 1, 1) := by decide +kernel
theorem dX8_movedBy_78 : decode cX8_movedBy 78 = .ok (.invokevirtual 100, 3) := by decide +kernel
theorem dX8_movedBy_81 : decode cX8_movedBy 81 = .ok (.lxor, 1) := by decide +kernel
theorem dX8_movedBy_82 : decode cX8_movedBy 82 = .ok (.invokestatic 104, 3) := by decide +kernel
theorem dX8_movedBy_85 : decode cX8_movedBy 85 = .ok (.ireturn, 1) := by decide +kernel
theorem dX8_gainOf_0 : decode cX8_gainOf 0 = .ok (.aload_n 1, 1) := by decide +kernel
theorem dX8_gainOf_1 : decode cX8_gainOf 1 = .ok (.getfield 86, 3) := by decide +kernel
theorem dX8_gainOf_4 : decode cX8_gainOf 4 = .ok (.aload_n 1, 1) := by decide +kernel
theorem dX8_gainOf_5 : decode cX8_gainOf 5 = .ok (.getfield 110, 3) := by decide +kernel
theorem dX8_gainOf_8 : decode cX8_gainOf 8 = .ok (.invokevirtual 113, 3) := by decide +kernel
theorem dX8_gainOf_11 : decode cX8_gainOf 11 = .ok (.aload_n 1, 1) := by decide +kernel
theorem dX8_gainOf_12 : decode cX8_gainOf 12 = .ok (.if_acmp .eq 5, 3) := by decide +kernel
theorem dX8_gainOf_15 : decode cX8_gainOf 15 = .ok (.iconst 0, 1) := by decide +kernel
theorem dX8_gainOf_16 : decode cX8_gainOf 16 = .ok (.ireturn, 1) := by decide +kernel
theorem dX8_gainOf_17 : decode cX8_gainOf 17 = .ok (.aload_n 1, 1) := by decide +kernel
theorem dX8_gainOf_18 : decode cX8_gainOf 18 = .ok (.aload_n 0, 1) := by decide +kernel
theorem dX8_gainOf_19 : decode cX8_gainOf 19 = .ok (.getfield 27, 3) := by decide +kernel
theorem dX8_gainOf_22 : decode cX8_gainOf 22 = .ok (.getfield 50, 3) := by decide +kernel
theorem dX8_gainOf_25 : decode cX8_gainOf 25 = .ok (.invokevirtual 117, 3) := by decide +kernel
theorem dX8_gainOf_28 : decode cX8_gainOf 28 = .ok (.istore_n 3, 1) := by decide +kernel
theorem dX8_gainOf_29 : decode cX8_gainOf 29 = .ok (.aload_n 1, 1) := by decide +kernel
theorem dX8_gainOf_30 : decode cX8_gainOf 30 = .ok (.getfield 110, 3) := by decide +kernel
theorem dX8_gainOf_33 : decode cX8_gainOf 33 = .ok (.ifCond .ne 17, 3) := by decide +kernel
theorem dX8_gainOf_36 : decode cX8_gainOf 36 = .ok (.aload_n 0, 1) := by decide +kernel
theorem dX8_gainOf_37 : decode cX8_gainOf 37 = .ok (.getfield 27, 3) := by decide +kernel
theorem dX8_gainOf_40 : decode cX8_gainOf 40 = .ok (.getfield 75, 3) := by decide +kernel
theorem dX8_gainOf_43 : decode cX8_gainOf 43 = .ok (.iconst 0, 1) := by decide +kernel
theorem dX8_gainOf_44 : decode cX8_gainOf 44 = .ok (.iaload, 1) := by decide +kernel
theorem dX8_gainOf_45 : decode cX8_gainOf 45 = .ok (.iload_n 2, 1) := by decide +kernel
theorem dX8_gainOf_46 : decode cX8_gainOf 46 = .ok (.iload_n 3, 1) := by decide +kernel
theorem dX8_gainOf_47 : decode cX8_gainOf 47 = .ok (.isub, 1) := by decide +kernel
theorem dX8_gainOf_48 : decode cX8_gainOf 48 = .ok (.imul, 1) := by decide +kernel
theorem dX8_gainOf_49 : decode cX8_gainOf 49 = .ok (.ireturn, 1) := by decide +kernel
theorem dX8_gainOf_50 : decode cX8_gainOf 50 = .ok (.aload_n 0, 1) := by decide +kernel
theorem dX8_gainOf_51 : decode cX8_gainOf 51 = .ok (.getfield 27, 3) := by decide +kernel
theorem dX8_gainOf_54 : decode cX8_gainOf 54 = .ok (.getfield 75, 3) := by decide +kernel
theorem dX8_gainOf_57 : decode cX8_gainOf 57 = .ok (.iconst 2, 1) := by decide +kernel
theorem dX8_gainOf_58 : decode cX8_gainOf 58 = .ok (.iaload, 1) := by decide +kernel
theorem dX8_gainOf_59 : decode cX8_gainOf 59 = .ok (.aload_n 0, 1) := by decide +kernel
theorem dX8_gainOf_60 : decode cX8_gainOf 60 = .ok (.getfield 27, 3) := by decide +kernel
theorem dX8_gainOf_63 : decode cX8_gainOf 63 = .ok (.iload_n 2, 1) := by decide +kernel
theorem dX8_gainOf_64 : decode cX8_gainOf 64 = .ok (.invokevirtual 121, 3) := by decide +kernel
theorem dX8_gainOf_67 : decode cX8_gainOf 67 = .ok (.aload_n 0, 1) := by decide +kernel
theorem dX8_gainOf_68 : decode cX8_gainOf 68 = .ok (.getfield 27, 3) := by decide +kernel
theorem dX8_gainOf_71 : decode cX8_gainOf 71 = .ok (.iload_n 3, 1) := by decide +kernel
theorem dX8_gainOf_72 : decode cX8_gainOf 72 = .ok (.invokevirtual 121, 3) := by decide +kernel
theorem dX8_gainOf_75 : decode cX8_gainOf 75 = .ok (.isub, 1) := by decide +kernel
theorem dX8_gainOf_76 : decode cX8_gainOf 76 = .ok (.imul, 1) := by decide +kernel
theorem dX8_gainOf_77 : decode cX8_gainOf 77 = .ok (.ireturn, 1) := by decide +kernel
theorem dX8_goers_0 : decode cX8_goers 0 = .ok (.lconst 0, 1) := by decide +kernel
theorem dX8_goers_1 : decode cX8_goers 1 = .ok (.lstore_n 3, 1) := by decide +kernel
theorem dX8_goers_2 : decode cX8_goers 2 = .ok (.iconst 0, 1) := by decide +kernel
theorem dX8_goers_3 : decode cX8_goers 3 = .ok (.istore 5, 2) := by decide +kernel
theorem dX8_goers_5 : decode cX8_goers 5 = .ok (.iload 5, 2) := by decide +kernel
theorem dX8_goers_7 : decode cX8_goers 7 = .ok (.aload_n 0, 1) := by decide +kernel
theorem dX8_goers_8 : decode cX8_goers 8 = .ok (.getfield 31, 3) := by decide +kernel
theorem dX8_goers_11 : decode cX8_goers 11 = .ok (.if_icmp .ge 27, 3) := by decide +kernel
theorem dX8_goers_14 : decode cX8_goers 14 = .ok (.aload_n 0, 1) := by decide +kernel
theorem dX8_goers_15 : decode cX8_goers 15 = .ok (.aload_n 1, 1) := by decide +kernel
theorem dX8_goers_16 : decode cX8_goers 16 = .ok (.iload 5, 2) := by decide +kernel
theorem dX8_goers_18 : decode cX8_goers 18 = .ok (.invokevirtual 67, 3) := by decide +kernel
theorem dX8_goers_21 : decode cX8_goers 21 = .ok (.iload_n 2, 1) := by decide +kernel
theorem dX8_goers_22 : decode cX8_goers 22 = .ok (.if_icmp .ge 10, 3) := by decide +kernel
theorem dX8_goers_25 : decode cX8_goers 25 = .ok (.lload_n 3, 1) := by decide +kernel
theorem dX8_goers_26 : decode cX8_goers 26 = .ok (.lconst 1, 1) := by decide +kernel
theorem dX8_goers_27 : decode cX8_goers 27 = .ok (.iload 5, 2) := by decide +kernel
theorem dX8_goers_29 : decode cX8_goers 29 = .ok (.lshl, 1) := by decide +kernel
theorem dX8_goers_30 : decode cX8_goers 30 = .ok (.lor, 1) := by decide +kernel
theorem dX8_goers_31 : decode cX8_goers 31 = .ok (.lstore_n 3, 1) := by decide +kernel
theorem dX8_goers_32 : decode cX8_goers 32 = .ok (.iinc 5 1, 3) := by decide +kernel
theorem dX8_goers_35 : decode cX8_goers 35 = .ok (.goto (-30), 3) := by decide +kernel
theorem dX8_goers_38 : decode cX8_goers 38 = .ok (.lload_n 3, 1) := by decide +kernel
theorem dX8_goers_39 : decode cX8_goers 39 = .ok (.lreturn, 1) := by decide +kernel
theorem dX9_init_0 : decode cX9_init 0 = .ok (.aload_n 0, 1) := by decide +kernel
theorem dX9_init_1 : decode cX9_init 1 = .ok (.invokespecial 1, 3) := by decide +kernel
theorem dX9_init_4 : decode cX9_init 4 = .ok (.aload_n 0, 1) := by decide +kernel
theorem dX9_init_5 : decode cX9_init 5 = .ok (.iload_n 1, 1) := by decide +kernel
theorem dX9_init_6 : decode cX9_init 6 = .ok (.putfield 7, 3) := by decide +kernel
theorem dX9_init_9 : decode cX9_init 9 = .ok (.aload_n 0, 1) := by decide +kernel
theorem dX9_init_10 : decode cX9_init 10 = .ok (.iload_n 2, 1) := by decide +kernel
theorem dX9_init_11 : decode cX9_init 11 = .ok (.putfield 13, 3) := by decide +kernel
theorem dX9_init_14 : decode cX9_init 14 = .ok (.aload_n 0, 1) := by decide +kernel
theorem dX9_init_15 : decode cX9_init 15 = .ok (.aload_n 3, 1) := by decide +kernel
theorem dX9_init_16 : decode cX9_init 16 = .ok (.putfield 16, 3) := by decide +kernel
theorem dX9_init_19 : decode cX9_init 19 = .ok (.return_, 1) := by decide +kernel
theorem dX10_init_0 : decode cX10_init 0 = .ok (.aload_n 0, 1) := by decide +kernel
theorem dX10_init_1 : decode cX10_init 1 = .ok (.invokespecial 1, 3) := by decide +kernel
theorem dX10_init_4 : decode cX10_init 4 = .ok (.aload_n 0, 1) := by decide +kernel
theorem dX10_init_5 : decode cX10_init 5 = .ok (.aload_n 1, 1) := by decide +kernel
theorem dX10_init_6 : decode cX10_init 6 = .ok (.putfield 7, 3) := by decide +kernel
theorem dX10_init_9 : decode cX10_init 9 = .ok (.aload_n 0, 1) := by decide +kernel
theorem dX10_init_10 : decode cX10_init 10 = .ok (.iload_n 2, 1) := by decide +kernel
theorem dX10_init_11 : decode cX10_init 11 = .ok (.putfield 13, 3) := by decide +kernel
theorem dX10_init_14 : decode cX10_init 14 = .ok (.aload_n 0, 1) := by decide +kernel
theorem dX10_init_15 : decode cX10_init 15 = .ok (.iload_n 3, 1) := by decide +kernel
theorem dX10_init_16 : decode cX10_init 16 = .ok (.putfield 17, 3) := by decide +kernel
theorem dX10_init_19 : decode cX10_init 19 = .ok (.aload_n 0, 1) := by decide +kernel
theorem dX10_init_20 : decode cX10_init 20 = .ok (.iload 4, 2) := by decide +kernel
theorem dX10_init_22 : decode cX10_init 22 = .ok (.putfield 20, 3) := by decide +kernel
theorem dX10_init_25 : decode cX10_init 25 = .ok (.aload_n 0, 1) := by decide +kernel
theorem dX10_init_26 : decode cX10_init 26 = .ok (.aload 5, 2) := by decide +kernel
theorem dX10_init_28 : decode cX10_init 28 = .ok (.putfield 23, 3) := by decide +kernel
theorem dX10_init_31 : decode cX10_init 31 = .ok (.return_, 1) := by decide +kernel
theorem dX10_putRight_0 : decode cX10_putRight 0 = .ok (.aload_n 0, 1) := by decide +kernel
theorem dX10_putRight_1 : decode cX10_putRight 1 = .ok (.new 27, 3) := by decide +kernel
theorem dX10_putRight_4 : decode cX10_putRight 4 = .ok (.dup, 1) := by decide +kernel
theorem dX10_putRight_5 : decode cX10_putRight 5 = .ok (.iload_n 1, 1) := by decide +kernel
theorem dX10_putRight_6 : decode cX10_putRight 6 = .ok (.iload_n 2, 1) := by decide +kernel
theorem dX10_putRight_7 : decode cX10_putRight 7 = .ok (.aload_n 0, 1) := by decide +kernel
theorem dX10_putRight_8 : decode cX10_putRight 8 = .ok (.getfield 29, 3) := by decide +kernel
theorem dX10_putRight_11 : decode cX10_putRight 11 = .ok (.invokespecial 33, 3) := by decide +kernel
theorem dX10_putRight_14 : decode cX10_putRight 14 = .ok (.putfield 29, 3) := by decide +kernel
theorem dX10_putRight_17 : decode cX10_putRight 17 = .ok (.aload_n 0, 1) := by decide +kernel
theorem dX10_putRight_18 : decode cX10_putRight 18 = .ok (.dup, 1) := by decide +kernel
theorem dX10_putRight_19 : decode cX10_putRight 19 = .ok (.getfield 36, 3) := by decide +kernel
theorem dX10_putRight_22 : decode cX10_putRight 22 = .ok (.iconst 1, 1) := by decide +kernel
theorem dX10_putRight_23 : decode cX10_putRight 23 = .ok (.iadd, 1) := by decide +kernel
theorem dX10_putRight_24 : decode cX10_putRight 24 = .ok (.putfield 36, 3) := by decide +kernel
theorem dX10_putRight_27 : decode cX10_putRight 27 = .ok (.aload_n 0, 1) := by decide +kernel
theorem dX10_putRight_28 : decode cX10_putRight 28 = .ok (.getfield 36, 3) := by decide +kernel
theorem dX10_putRight_31 : decode cX10_putRight 31 = .ok (.ireturn, 1) := by decide +kernel
theorem dX10_asOf_0 : decode cX10_asOf 0 = .ok (.aload_n 0, 1) := by decide +kernel
theorem dX10_asOf_1 : decode cX10_asOf 1 = .ok (.getfield 29, 3) := by decide +kernel
theorem dX10_asOf_4 : decode cX10_asOf 4 = .ok (.astore_n 2, 1) := by decide +kernel
theorem dX10_asOf_5 : decode cX10_asOf 5 = .ok (.aload_n 2, 1) := by decide +kernel
theorem dX10_asOf_6 : decode cX10_asOf 6 = .ok (.ifnull 24, 3) := by decide +kernel
theorem dX10_asOf_9 : decode cX10_asOf 9 = .ok (.aload_n 2, 1) := by decide +kernel
theorem dX10_asOf_10 : decode cX10_asOf 10 = .ok (.getfield 39, 3) := by decide +kernel
theorem dX10_asOf_13 : decode cX10_asOf 13 = .ok (.iload_n 1, 1) := by decide +kernel
theorem dX10_asOf_14 : decode cX10_asOf 14 = .ok (.if_icmp .gt 8, 3) := by decide +kernel
theorem dX10_asOf_17 : decode cX10_asOf 17 = .ok (.aload_n 2, 1) := by decide +kernel
theorem dX10_asOf_18 : decode cX10_asOf 18 = .ok (.getfield 40, 3) := by decide +kernel
theorem dX10_asOf_21 : decode cX10_asOf 21 = .ok (.ireturn, 1) := by decide +kernel
theorem dX10_asOf_22 : decode cX10_asOf 22 = .ok (.aload_n 2, 1) := by decide +kernel
theorem dX10_asOf_23 : decode cX10_asOf 23 = .ok (.getfield 41, 3) := by decide +kernel
theorem dX10_asOf_26 : decode cX10_asOf 26 = .ok (.astore_n 2, 1) := by decide +kernel
theorem dX10_asOf_27 : decode cX10_asOf 27 = .ok (.goto (-22), 3) := by decide +kernel
theorem dX10_asOf_30 : decode cX10_asOf 30 = .ok (.aload_n 0, 1) := by decide +kernel
theorem dX10_asOf_31 : decode cX10_asOf 31 = .ok (.getfield 20, 3) := by decide +kernel
theorem dX10_asOf_34 : decode cX10_asOf 34 = .ok (.ireturn, 1) := by decide +kernel
