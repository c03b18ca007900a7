theorem dX11_init_0 : decode cX11_init 0 = .ok (.aload_n 0, 1) := by decide +kernel
theorem dX11_init_1 : decode cX11_init 1 = .ok (.invokespecial 1, 3) := by decide +kernel
theorem dX11_init_4 : decode cX11_init 4 = .ok (.aload_n 0, 1) := by decide +kernel
theorem dX11_init_5 : decode cX11_init 5 = .ok (.new 7, 3) := by decide +kernel
theorem dX11_init_8 : decode cX11_init 8 = .ok (.dup, 1) := by decide +kernel
theorem dX11_init_9 : decode cX11_init 9 = .ok (.invokespecial 9, 3) := by decide +kernel
theorem dX11_init_12 : decode cX11_init 12 = .ok (.putfield 10, 3) := by decide +kernel
theorem dX11_init_15 : decode cX11_init 15 = .ok (.aload_n 0, 1) := by decide +kernel
theorem dX11_init_16 : decode cX11_init 16 = .ok (.new 16, 3) := by decide +kernel
theorem dX11_init_19 : decode cX11_init 19 = .ok (.dup, 1) := by decide +kernel
theorem dX11_init_20 : decode cX11_init 20 = .ok (.aload_n 0, 1) := by decide +kernel
theorem dX11_init_21 : decode cX11_init 21 = .ok (.getfield 10, 3) := by decide +kernel
theorem dX11_init_24 : decode cX11_init 24 = .ok (.invokespecial 18, 3) := by decide +kernel
theorem dX11_init_27 : decode cX11_init 27 = .ok (.putfield 21, 3) := by decide +kernel
theorem dX11_init_30 : decode cX11_init 30 = .ok (.aload_n 0, 1) := by decide +kernel
theorem dX11_init_31 : decode cX11_init 31 = .ok (.new 25, 3) := by decide +kernel
theorem dX11_init_34 : decode cX11_init 34 = .ok (.dup, 1) := by decide +kernel
theorem dX11_init_35 : decode cX11_init 35 = .ok (.aload_n 0, 1) := by decide +kernel
theorem dX11_init_36 : decode cX11_init 36 = .ok (.getfield 10, 3) := by decide +kernel
theorem dX11_init_39 : decode cX11_init 39 = .ok (.invokespecial 27, 3) := by decide +kernel
theorem dX11_init_42 : decode cX11_init 42 = .ok (.putfield 28, 3) := by decide +kernel
theorem dX11_init_45 : decode cX11_init 45 = .ok (.aload_n 0, 1) := by decide +kernel
theorem dX11_init_46 : decode cX11_init 46 = .ok (.new 32, 3) := by decide +kernel
theorem dX11_init_49 : decode cX11_init 49 = .ok (.dup, 1) := by decide +kernel
theorem dX11_init_50 : decode cX11_init 50 = .ok (.aload_n 0, 1) := by decide +kernel
theorem dX11_init_51 : decode cX11_init 51 = .ok (.getfield 10, 3) := by decide +kernel
theorem dX11_init_54 : decode cX11_init 54 = .ok (.invokespecial 34, 3) := by decide +kernel
theorem dX11_init_57 : decode cX11_init 57 = .ok (.putfield 35, 3) := by decide +kernel
theorem dX11_init_60 : decode cX11_init 60 = .ok (.aload_n 0, 1) := by decide +kernel
theorem dX11_init_61 : decode cX11_init 61 = .ok (.new 39, 3) := by decide +kernel
theorem dX11_init_64 : decode cX11_init 64 = .ok (.dup, 1) := by decide +kernel
theorem dX11_init_65 : decode cX11_init 65 = .ok (.aload_n 0, 1) := by decide +kernel
theorem dX11_init_66 : decode cX11_init 66 = .ok (.getfield 10, 3) := by decide +kernel
theorem dX11_init_69 : decode cX11_init 69 = .ok (.invokespecial 41, 3) := by decide +kernel
theorem dX11_init_72 : decode cX11_init 72 = .ok (.putfield 42, 3) := by decide +kernel
theorem dX11_init_75 : decode cX11_init 75 = .ok (.aload_n 0, 1) := by decide +kernel
theorem dX11_init_76 : decode cX11_init 76 = .ok (.new 46, 3) := by decide +kernel
theorem dX11_init_79 : decode cX11_init 79 = .ok (.dup, 1) := by decide +kernel
theorem dX11_init_80 : decode cX11_init 80 = .ok (.aload_n 0, 1) := by decide +kernel
theorem dX11_init_81 : decode cX11_init 81 = .ok (.getfield 10, 3) := by decide +kernel
theorem dX11_init_84 : decode cX11_init 84 = .ok (.invokespecial 48, 3) := by decide +kernel
theorem dX11_init_87 : decode cX11_init 87 = .ok (.putfield 49, 3) := by decide +kernel
theorem dX11_init_90 : decode cX11_init 90 = .ok (.aload_n 0, 1) := by decide +kernel
theorem dX11_init_91 : decode cX11_init 91 = .ok (.new 53, 3) := by decide +kernel
theorem dX11_init_94 : decode cX11_init 94 = .ok (.dup, 1) := by decide +kernel
theorem dX11_init_95 : decode cX11_init 95 = .ok (.invokespecial 55, 3) := by decide +kernel
theorem dX11_init_98 : decode cX11_init 98 = .ok (.putfield 56, 3) := by decide +kernel
theorem dX11_init_101 : decode cX11_init 101 = .ok (.aload_n 0, 1) := by decide +kernel
theorem dX11_init_102 : decode cX11_init 102 = .ok (.bipush 7, 2) := by decide +kernel
theorem dX11_init_104 : decode cX11_init 104 = .ok (.newarray .int, 2) := by decide +kernel
theorem dX11_init_106 : decode cX11_init 106 = .ok (.putfield 60, 3) := by decide +kernel
theorem dX11_init_109 : decode cX11_init 109 = .ok (.return_, 1) := by decide +kernel
theorem dX11_days_0 : decode cX11_days 0 = .ok (.iload_n 1, 1) := by decide +kernel
theorem dX11_days_1 : decode cX11_days 1 = .ok (.iconst 1, 1) := by decide +kernel
theorem dX11_days_2 : decode cX11_days 2 = .ok (.if_icmp .ge 10, 3) := by decide +kernel
theorem dX11_days_5 : decode cX11_days 5 = .ok (.aload_n 0, 1) := by decide +kernel
theorem dX11_days_6 : decode cX11_days 6 = .ok (.bipush (-4), 2) := by decide +kernel
theorem dX11_days_8 : decode cX11_days 8 = .ok (.invokevirtual 64, 3) := by decide +kernel
theorem dX11_days_11 : decode cX11_days 11 = .ok (.ireturn, 1) := by decide +kernel
theorem dX11_days_12 : decode cX11_days 12 = .ok (.iload_n 1, 1) := by decide +kernel
theorem dX11_days_13 : decode cX11_days 13 = .ok (.sipush 3000, 3) := by decide +kernel
theorem dX11_days_16 : decode cX11_days 16 = .ok (.aload_n 0, 1) := by decide +kernel
theorem dX11_days_17 : decode cX11_days 17 = .ok (.getfield 10, 3) := by decide +kernel
theorem dX11_days_20 : decode cX11_days 20 = .ok (.getfield 68, 3) := by decide +kernel
theorem dX11_days_23 : decode cX11_days 23 = .ok (.isub, 1) := by decide +kernel
theorem dX11_days_24 : decode cX11_days 24 = .ok (.if_icmp .le 10, 3) := by decide +kernel
theorem dX11_days_27 : decode cX11_days 27 = .ok (.aload_n 0, 1) := by decide +kernel
theorem dX11_days_28 : decode cX11_days 28 = .ok (.bipush (-6), 2) := by decide +kernel
theorem dX11_days_30 : decode cX11_days 30 = .ok (.invokevirtual 64, 3) := by decide +kernel
theorem dX11_days_33 : decode cX11_days 33 = .ok (.ireturn, 1) := by decide +kernel
theorem dX11_days_34 : decode cX11_days 34 = .ok (.aload_n 0, 1) := by decide +kernel
theorem dX11_days_35 : decode cX11_days 35 = .ok (.getfield 10, 3) := by decide +kernel
theorem dX11_days_38 : decode cX11_days 38 = .ok (.dup, 1) := by decide +kernel
theorem dX11_days_39 : decode cX11_days 39 = .ok (.getfield 68, 3) := by decide +kernel
theorem dX11_days_42 : decode cX11_days 42 = .ok (.iload_n 1, 1) := by decide +kernel
theorem dX11_days_43 : decode cX11_days 43 = .ok (.iadd, 1) := by decide +kernel
theorem dX11_days_44 : decode cX11_days 44 = .ok (.putfield 68, 3) := by decide +kernel
theorem dX11_days_47 : decode cX11_days 47 = .ok (.aload_n 0, 1) := by decide +kernel
theorem dX11_days_48 : decode cX11_days 48 = .ok (.getfield 10, 3) := by decide +kernel
theorem dX11_days_51 : decode cX11_days 51 = .ok (.getfield 68, 3) := by decide +kernel
theorem dX11_days_54 : decode cX11_days 54 = .ok (.ireturn, 1) := by decide +kernel
theorem dX11_unit_0 : decode cX11_unit 0 = .ok (.iload_n 2, 1) := by decide +kernel
theorem dX11_unit_1 : decode cX11_unit 1 = .ok (.iconst (-1), 1) := by decide +kernel
theorem dX11_unit_2 : decode cX11_unit 2 = .ok (.if_icmp .eq 20, 3) := by decide +kernel
theorem dX11_unit_5 : decode cX11_unit 5 = .ok (.aload_n 0, 1) := by decide +kernel
theorem dX11_unit_6 : decode cX11_unit 6 = .ok (.getfield 10, 3) := by decide +kernel
theorem dX11_unit_9 : decode cX11_unit 9 = .ok (.iload_n 2, 1) := by decide +kernel
theorem dX11_unit_10 : decode cX11_unit 10 = .ok (.invokevirtual 72, 3) := by decide +kernel
theorem dX11_unit_13 : decode cX11_unit 13 = .ok (.ifCond .ne 9, 3) := by decide +kernel
theorem dX11_unit_16 : decode cX11_unit 16 = .ok (.aload_n 0, 1) := by decide +kernel
theorem dX11_unit_17 : decode cX11_unit 17 = .ok (.iconst (-1), 1) := by decide +kernel
theorem dX11_unit_18 : decode cX11_unit 18 = .ok (.invokevirtual 64, 3) := by decide +kernel
theorem dX11_unit_21 : decode cX11_unit 21 = .ok (.ireturn, 1) := by decide +kernel
theorem dX11_unit_22 : decode cX11_unit 22 = .ok (.iload_n 1, 1) := by decide +kernel
theorem dX11_unit_23 : decode cX11_unit 23 = .ok (.ifCond .ge 10, 3) := by decide +kernel
theorem dX11_unit_26 : decode cX11_unit 26 = .ok (.aload_n 0, 1) := by decide +kernel
theorem dX11_unit_27 : decode cX11_unit 27 = .ok (.bipush (-4), 2) := by decide +kernel
theorem dX11_unit_29 : decode cX11_unit 29 = .ok (.invokevirtual 64, 3) := by decide +kernel
theorem dX11_unit_32 : decode cX11_unit 32 = .ok (.ireturn, 1) := by decide +kernel
theorem dX11_unit_33 : decode cX11_unit 33 = .ok (.iload_n 1, 1) := by decide +kernel
theorem dX11_unit_34 : decode cX11_unit 34 = .ok (.iconst 4, 1) := by decide +kernel
theorem dX11_unit_35 : decode cX11_unit 35 = .ok (.if_icmp .ge 15, 3) := by decide +kernel
theorem dX11_unit_38 : decode cX11_unit 38 = .ok (.aload_n 0, 1) := by decide +kernel
theorem dX11_unit_39 : decode cX11_unit 39 = .ok (.getfield 10, 3) := by decide +kernel
theorem dX11_unit_42 : decode cX11_unit 42 = .ok (.getfield 76, 3) := by decide +kernel
theorem dX11_unit_45 : decode cX11_unit 45 = .ok (.bipush 12, 2) := by decide +kernel
theorem dX11_unit_47 : decode cX11_unit 47 = .ok (.if_icmp .lt 10, 3) := by decide +kernel
theorem dX11_unit_50 : decode cX11_unit 50 = .ok (.aload_n 0, 1) := by decide +kernel
theorem dX11_unit_51 : decode cX11_unit 51 = .ok (.bipush (-6), 2) := by decide +kernel
theorem dX11_unit_53 : decode cX11_unit 53 = .ok (.invokevirtual 64, 3) := by decide +kernel
theorem dX11_unit_56 : decode cX11_unit 56 = .ok (.ireturn, 1) := by decide +kernel
theorem dX11_unit_57 : decode cX11_unit 57 = .ok (.aload_n 0, 1) := by decide +kernel
theorem dX11_unit_58 : decode cX11_unit 58 = .ok (.getfield 10, 3) := by decide +kernel
theorem dX11_unit_61 : decode cX11_unit 61 = .ok (.iload_n 2, 1) := by decide +kernel
theorem dX11_unit_62 : decode cX11_unit 62 = .ok (.invokevirtual 79, 3) := by decide +kernel
theorem dX11_unit_65 : decode cX11_unit 65 = .ok (.ireturn, 1) := by decide +kernel
theorem dX11_post_0 : decode cX11_post 0 = .ok (.aload_n 0, 1) := by decide +kernel
theorem dX11_post_1 : decode cX11_post 1 = .ok (.getfield 10, 3) := by decide +kernel
theorem dX11_post_4 : decode cX11_post 4 = .ok (.iload_n 1, 1) := by decide +kernel
theorem dX11_post_5 : decode cX11_post 5 = .ok (.invokevirtual 72, 3) := by decide +kernel
theorem dX11_post_8 : decode cX11_post 8 = .ok (.ifCond .ne 9, 3) := by decide +kernel
theorem dX11_post_11 : decode cX11_post 11 = .ok (.aload_n 0, 1) := by decide +kernel
theorem dX11_post_12 : decode cX11_post 12 = .ok (.iconst (-1), 1) := by decide +kernel
theorem dX11_post_13 : decode cX11_post 13 = .ok (.invokevirtual 64, 3) := by decide +kernel
theorem dX11_post_16 : decode cX11_post 16 = .ok (.ireturn, 1) := by decide +kernel
theorem dX11_post_17 : decode cX11_post 17 = .ok (.iload_n 2, 1) := by decide +kernel
theorem dX11_post_18 : decode cX11_post 18 = .ok (.ifCond .lt 19, 3) := by decide +kernel
theorem dX11_post_21 : decode cX11_post 21 = .ok (.iload_n 3, 1) := by decide +kernel
theorem dX11_post_22 : decode cX11_post 22 = .ok (.iconst 1, 1) := by decide +kernel
theorem dX11_post_23 : decode cX11_post 23 = .ok (.if_icmp .lt 14, 3) := by decide +kernel
theorem dX11_post_26 : decode cX11_post 26 = .ok (.iload 4, 2) := by decide +kernel
theorem dX11_post_28 : decode cX11_post 28 = .ok (.iconst 1, 1) := by decide +kernel
theorem dX11_post_29 : decode cX11_post 29 = .ok (.if_icmp .lt 8, 3) := by decide +kernel
theorem dX11_post_32 : decode cX11_post 32 = .ok (.iload 5, 2) := by decide +kernel
theorem dX11_post_34 : decode cX11_post 34 = .ok (.ifCond .ge 10, 3) := by decide +kernel
theorem dX11_post_37 : decode cX11_post 37 = .ok (.aload_n 0, 1) := by decide +kernel
theorem dX11_post_38 : decode cX11_post 38 = .ok (.bipush (-4), 2) := by decide +kernel
theorem dX11_post_40 : decode cX11_post 40 = .ok (.invokevirtual 64, 3) := by decide +kernel
theorem dX11_post_43 : decode cX11_post 43 = .ok (.ireturn, 1) := by decide +kernel
theorem dX11_post_44 : decode cX11_post 44 = .ok (.iload_n 2, 1) := by decide +kernel
theorem dX11_post_45 : decode cX11_post 45 = .ok (.bipush 7, 2) := by decide +kernel
theorem dX11_post_47 : decode cX11_post 47 = .ok (.if_icmp .gt 36, 3) := by decide +kernel
theorem dX11_post_50 : decode cX11_post 50 = .ok (.iload_n 3, 1) := by decide +kernel
theorem dX11_post_51 : decode cX11_post 51 = .ok (.bipush 9, 2) := by decide +kernel
theorem dX11_post_53 : decode cX11_post 53 = .ok (.if_icmp .gt 30, 3) := by decide +kernel
theorem dX11_post_56 : decode cX11_post 56 = .ok (.iload 4, 2) := by decide +kernel
theorem dX11_post_58 : decode cX11_post 58 = .ok (.bipush 40, 2) := by decide +kernel
theorem dX11_post_60 : decode cX11_post 60 = .ok (.if_icmp .gt 23, 3) := by decide +kernel
theorem dX11_post_63 : decode cX11_post 63 = .ok (.iload 5, 2) := by decide +kernel
theorem dX11_post_65 : decode cX11_post 65 = .ok (.sipush 1023, 3) := by decide +kernel
theorem dX11_post_68 : decode cX11_post 68 = .ok (.if_icmp .gt 15, 3) := by decide +kernel
theorem dX11_post_71 : decode cX11_post 71 = .ok (.aload_n 0, 1) := by decide +kernel
theorem dX11_post_72 : decode cX11_post 72 = .ok (.getfield 10, 3) := by decide +kernel
theorem dX11_post_75 : decode cX11_post 75 = .ok (.getfield 82, 3) := by decide +kernel
theorem dX11_post_78 : decode cX11_post 78 = .ok (.bipush 40, 2) := by decide +kernel
theorem dX11_post_80 : decode cX11_post 80 = .ok (.if_icmp .lt 10, 3) := by decide +kernel
theorem dX11_post_83 : decode cX11_post 83 = .ok (.aload_n 0, 1) := by decide +kernel
theorem dX11_post_84 : decode cX11_post 84 = .ok (.bipush (-6), 2) := by decide +kernel
theorem dX11_post_86 : decode cX11_post 86 = .ok (.invokevirtual 64, 3) := by decide +kernel
theorem dX11_post_89 : decode cX11_post 89 = .ok (.ireturn, 1) := by decide +kernel
theorem dX11_post_90 : decode cX11_post 90 = .ok (.aload_n 0, 1) := by decide +kernel
theorem dX11_post_91 : decode cX11_post 91 = .ok (.getfield 10, 3) := by decide +kernel
theorem dX11_post_94 : decode cX11_post 94 = .ok (.new 85, 3) := by decide +kernel
theorem dX11_post_97 : decode cX11_post 97 = .ok (.dup, 1) := by decide +kernel
theorem dX11_post_98 : decode cX11_post 98 = .ok (.aload_n 0, 1) := by decide +kernel
theorem dX11_post_99 : decode cX11_post 99 = .ok (.getfield 10, 3) := by decide +kernel
theorem dX11_post_102 : decode cX11_post 102 = .ok (.getfield 82, 3) := by decide +kernel
theorem dX11_post_105 : decode cX11_post 105 = .ok (.iload_n 1, 1) := by decide +kernel
theorem dX11_post_106 : decode cX11_post 106 = .ok (.iload_n 2, 1) := by decide +kernel
theorem dX11_post_107 : decode cX11_post 107 = .ok (.iload_n 3, 1) := by decide +kernel
theorem dX11_post_108 : decode cX11_post 108 = .ok (.iload 4, 2) := by decide +kernel
theorem dX11_post_110 : decode cX11_post 110 = .ok (.iload 5, 2) := by decide +kernel
theorem dX11_post_112 : decode cX11_post 112 = .ok (.invokespecial 87, 3) := by decide +kernel
theorem dX11_post_115 : decode cX11_post 115 = .ok (.invokevirtual 90, 3) := by decide +kernel
theorem dX11_post_118 : decode cX11_post 118 = .ok (.ireturn, 1) := by decide +kernel
theorem dX11_end_0 : decode cX11_end 0 = .ok (.aload_n 0, 1) := by decide +kernel
theorem dX11_end_1 : decode cX11_end 1 = .ok (.getfield 10, 3) := by decide +kernel
theorem dX11_end_4 : decode cX11_end 4 = .ok (.iload_n 1, 1) := by decide +kernel
theorem dX11_end_5 : decode cX11_end 5 = .ok (.invokevirtual 94, 3) := by decide +kernel
theorem dX11_end_8 : decode cX11_end 8 = .ok (.astore_n 2, 1) := by decide +kernel
theorem dX11_end_9 : decode cX11_end 9 = .ok (.aload_n 2, 1) := by decide +kernel
theorem dX11_end_10 : decode cX11_end 10 = .ok (.ifnonnull 9, 3) := by decide +kernel
theorem dX11_end_13 : decode cX11_end 13 = .ok (.aload_n 0, 1) := by decide +kernel
theorem dX11_end_14 : decode cX11_end 14 = .ok (.iconst (-1), 1) := by decide +kernel
theorem dX11_end_15 : decode cX11_end 15 = .ok (.invokevirtual 64, 3) := by decide +kernel
theorem dX11_end_18 : decode cX11_end 18 = .ok (.ireturn, 1) := by decide +kernel
theorem dX11_end_19 : decode cX11_end 19 = .ok (.aload_n 2, 1) := by decide +kernel
theorem dX11_end_20 : decode cX11_end 20 = .ok (.invokevirtual 98, 3) := by decide +kernel
theorem dX11_end_23 : decode cX11_end 23 = .ok (.ifCond .ne 10, 3) := by decide +kernel
theorem dX11_end_26 : decode cX11_end 26 = .ok (.aload_n 0, 1) := by decide +kernel
theorem dX11_end_27 : decode cX11_end 27 = .ok (.bipush (-3), 2) := by decide +kernel
theorem dX11_end_29 : decode cX11_end 29 = .ok (.invokevirtual 64, 3) := by decide +kernel
theorem dX11_end_32 : decode cX11_end 32 = .ok (.ireturn, 1) := by decide +kernel
theorem dX11_end_33 : decode cX11_end 33 = .ok (.aload_n 2, 1) := by decide +kernel
theorem dX11_end_34 : decode cX11_end 34 = .ok (.aload_n 0, 1) := by decide +kernel
theorem dX11_end_35 : decode cX11_end 35 = .ok (.getfield 10, 3) := by decide +kernel
theorem dX11_end_38 : decode cX11_end 38 = .ok (.getfield 68, 3) := by decide +kernel
theorem dX11_end_41 : decode cX11_end 41 = .ok (.invokevirtual 102, 3) := by decide +kernel
theorem dX11_end_44 : decode cX11_end 44 = .ok (.iconst 1, 1) := by decide +kernel
theorem dX11_end_45 : decode cX11_end 45 = .ok (.ireturn, 1) := by decide +kernel
theorem dX11_set_0 : decode cX11_set 0 = .ok (.iload_n 1, 1) := by decide +kernel
theorem dX11_set_1 : decode cX11_set 1 = .ok (.ifCond .lt 8, 3) := by decide +kernel
theorem dX11_set_4 : decode cX11_set 4 = .ok (.iload_n 1, 1) := by decide +kernel
theorem dX11_set_5 : decode cX11_set 5 = .ok (.iconst 2, 1) := by decide +kernel
theorem dX11_set_6 : decode cX11_set 6 = .ok (.if_icmp .le 10, 3) := by decide +kernel
theorem dX11_set_9 : decode cX11_set 9 = .ok (.aload_n 0, 1) := by decide +kernel
theorem dX11_set_10 : decode cX11_set 10 = .ok (.bipush (-2), 2) := by decide +kernel
theorem dX11_set_12 : decode cX11_set 12 = .ok (.invokevirtual 64, 3) := by decide +kernel
theorem dX11_set_15 : decode cX11_set 15 = .ok (.ireturn, 1) := by decide +kernel
theorem dX11_set_16 : decode cX11_set 16 = .ok (.iload_n 2, 1) := by decide +kernel
theorem dX11_set_17 : decode cX11_set 17 = .ok (.getstatic 106, 3) := by decide +kernel
theorem dX11_set_20 : decode cX11_set 20 = .ok (.iload_n 1, 1) := by decide +kernel
theorem dX11_set_21 : decode cX11_set 21 = .ok (.iaload, 1) := by decide +kernel
theorem dX11_set_22 : decode cX11_set 22 = .ok (.if_icmp .ge 10, 3) := by decide +kernel
theorem dX11_set_25 : decode cX11_set 25 = .ok (.aload_n 0, 1) := by decide +kernel
theorem dX11_set_26 : decode cX11_set 26 = .ok (.bipush (-4), 2) := by decide +kernel
theorem dX11_set_28 : decode cX11_set 28 = .ok (.invokevirtual 64, 3) := by decide +kernel
theorem dX11_set_31 : decode cX11_set 31 = .ok (.ireturn, 1) := by decide +kernel
theorem dX11_set_32 : decode cX11_set 32 = .ok (.iload_n 2, 1) := by decide +kernel
theorem dX11_set_33 : decode cX11_set 33 = .ok (.getstatic 109, 3) := by decide +kernel
theorem dX11_set_36 : decode cX11_set 36 = .ok (.iload_n 1, 1) := by decide +kernel
theorem dX11_set_37 : decode cX11_set 37 = .ok (.iaload, 1) := by decide +kernel
theorem dX11_set_38 : decode cX11_set 38 = .ok (.if_icmp .le 10, 3) := by decide +kernel
theorem dX11_set_41 : decode cX11_set 41 = .ok (.aload_n 0, 1) := by decide +kernel
theorem dX11_set_42 : decode cX11_set 42 = .ok (.bipush (-6), 2) := by decide +kernel
theorem dX11_set_44 : decode cX11_set 44 = .ok (.invokevirtual 64, 3) := by decide +kernel
theorem dX11_set_47 : decode cX11_set 47 = .ok (.ireturn, 1) := by decide +kernel
theorem dX11_set_48 : decode cX11_set 48 = .ok (.aload_n 0, 1) := by decide +kernel
theorem dX11_set_49 : decode cX11_set 49 = .ok (.getfield 10, 3) := by decide +kernel
theorem dX11_set_52 : decode cX11_set 52 = .ok (.getfield 112, 3) := by decide +kernel
theorem dX11_set_55 : decode cX11_set 55 = .ok (.iload_n 1, 1) := by decide +kernel
theorem dX11_set_56 : decode cX11_set 56 = .ok (.iaload, 1) := by decide +kernel
theorem dX11_set_57 : decode cX11_set 57 = .ok (.istore_n 3, 1) := by decide +kernel
theorem dX11_set_58 : decode cX11_set 58 = .ok (.aload_n 0, 1) := by decide +kernel
theorem dX11_set_59 : decode cX11_set 59 = .ok (.getfield 10, 3) := by decide +kernel
theorem dX11_set_62 : decode cX11_set 62 = .ok (.getfield 112, 3) := by decide +kernel
theorem dX11_set_65 : decode cX11_set 65 = .ok (.iload_n 1, 1) := by decide +kernel
theorem dX11_set_66 : decode cX11_set 66 = .ok (.iload_n 2, 1) := by decide +kernel
theorem dX11_set_67 : decode cX11_set 67 = .ok (.iastore, 1) := by decide +kernel
theorem dX11_set_68 : decode cX11_set 68 = .ok (.iload_n 3, 1) := by decide +kernel
theorem dX11_set_69 : decode cX11_set 69 = .ok (.ireturn, 1) := by decide +kernel
theorem dX11_person_0 : decode cX11_person 0 = .ok (.aload_n 0, 1) := by decide +kernel
theorem dX11_person_1 : decode cX11_person 1 = .ok (.getfield 10, 3) := by decide +kernel
theorem dX11_person_4 : decode cX11_person 4 = .ok (.iload_n 1, 1) := by decide +kernel
theorem dX11_person_5 : decode cX11_person 5 = .ok (.invokevirtual 94, 3) := by decide +kernel
theorem dX11_person_8 : decode cX11_person 8 = .ok (.astore 5, 2) := by decide +kernel
theorem dX11_person_10 : decode cX11_person 10 = .ok (.iload_n 1, 1) := by decide +kernel
theorem dX11_person_11 : decode cX11_person 11 = .ok (.iconst (-1), 1) := by decide +kernel
theorem dX11_person_12 : decode cX11_person 12 = .ok (.if_icmp .eq 14, 3) := by decide +kernel
theorem dX11_person_15 : decode cX11_person 15 = .ok (.aload 5, 2) := by decide +kernel
theorem dX11_person_17 : decode cX11_person 17 = .ok (.ifnonnull 9, 3) := by decide +kernel
theorem dX11_person_20 : decode cX11_person 20 = .ok (.aload_n 0, 1) := by decide +kernel
theorem dX11_person_21 : decode cX11_person 21 = .ok (.iconst (-1), 1) := by decide +kernel
theorem dX11_person_22 : decode cX11_person 22 = .ok (.invokevirtual 64, 3) := by decide +kernel
theorem dX11_person_25 : decode cX11_person 25 = .ok (.ireturn, 1) := by decide +kernel
theorem dX11_person_26 : decode cX11_person 26 = .ok (.aload 5, 2) := by decide +kernel
theorem dX11_person_28 : decode cX11_person 28 = .ok (.ifnull 18, 3) := by decide +kernel
theorem dX11_person_31 : decode cX11_person 31 = .ok (.aload 5, 2) := by decide +kernel
theorem dX11_person_33 : decode cX11_person 33 = .ok (.invokevirtual 115, 3) := by decide +kernel
theorem dX11_person_36 : decode cX11_person 36 = .ok (.ifCond .ne 10, 3) := by decide +kernel
theorem dX11_person_39 : decode cX11_person 39 = .ok (.aload_n 0, 1) := by decide +kernel
theorem dX11_person_40 : decode cX11_person 40 = .ok (.bipush (-3), 2) := by decide +kernel
theorem dX11_person_42 : decode cX11_person 42 = .ok (.invokevirtual 64, 3) := by decide +kernel
theorem dX11_person_45 : decode cX11_person 45 = .ok (.ireturn, 1) := by decide +kernel
theorem dX11_person_46 : decode cX11_person 46 = .ok (.iload_n 2, 1) := by decide +kernel
theorem dX11_person_47 : decode cX11_person 47 = .ok (.ifCond .lt 17, 3) := by decide +kernel
theorem dX11_person_50 : decode cX11_person 50 = .ok (.iload_n 3, 1) := by decide +kernel
theorem dX11_person_51 : decode cX11_person 51 = .ok (.sipush (-20000), 3) := by decide +kernel
theorem dX11_person_54 : decode cX11_person 54 = .ok (.if_icmp .lt 10, 3) := by decide +kernel
theorem dX11_person_57 : decode cX11_person 57 = .ok (.iload 4, 2) := by decide +kernel
theorem dX11_person_59 : decode cX11_person 59 = .ok (.bipush 100, 2) := by decide +kernel
theorem dX11_person_61 : decode cX11_person 61 = .ok (.if_icmp .ge 10, 3) := by decide +kernel
theorem dX11_person_64 : decode cX11_person 64 = .ok (.aload_n 0, 1) := by decide +kernel
theorem dX11_person_65 : decode cX11_person 65 = .ok (.bipush (-4), 2) := by decide +kernel
theorem dX11_person_67 : decode cX11_person 67 = .ok (.invokevirtual 64, 3) := by decide +kernel
theorem dX11_person_70 : decode cX11_person 70 = .ok (.ireturn, 1) := by decide +kernel
theorem dX11_person_71 : decode cX11_person 71 = .ok (.iload_n 2, 1) := by decide +kernel
theorem dX11_person_72 : decode cX11_person 72 = .ok (.sipush 1023, 3) := by decide +kernel
theorem dX11_person_75 : decode cX11_person 75 = .ok (.if_icmp .gt 34, 3) := by decide +kernel
theorem dX11_person_78 : decode cX11_person 78 = .ok (.iload_n 3, 1) := by decide +kernel
theorem dX11_person_79 : decode cX11_person 79 = .ok (.aload_n 0, 1) := by decide +kernel
theorem dX11_person_80 : decode cX11_person 80 = .ok (.getfield 10, 3) := by decide +kernel
theorem dX11_person_83 : decode cX11_person 83 = .ok (.getfield 68, 3) := by decide +kernel
theorem dX11_person_86 : decode cX11_person 86 = .ok (.if_icmp .gt 23, 3) := by decide +kernel
theorem dX11_person_89 : decode cX11_person 89 = .ok (.iload 4, 2) := by decide +kernel
theorem dX11_person_91 : decode cX11_person 91 = .ok (.sipush 9999, 3) := by decide +kernel
theorem dX11_person_94 : decode cX11_person 94 = .ok (.if_icmp .gt 15, 3) := by decide +kernel
theorem dX11_person_97 : decode cX11_person 97 = .ok (.aload_n 0, 1) := by decide +kernel
theorem dX11_person_98 : decode cX11_person 98 = .ok (.getfield 10, 3) := by decide +kernel
theorem dX11_person_101 : decode cX11_person 101 = .ok (.getfield 118, 3) := by decide +kernel
theorem dX11_person_104 : decode cX11_person 104 = .ok (.bipush 40, 2) := by decide +kernel
theorem dX11_person_106 : decode cX11_person 106 = .ok (.if_icmp .lt 10, 3) := by decide +kernel
theorem dX11_person_109 : decode cX11_person 109 = .ok (.aload_n 0, 1) := by decide +kernel
theorem dX11_person_110 : decode cX11_person 110 = .ok (.bipush (-6), 2) := by decide +kernel
theorem dX11_person_112 : decode cX11_person 112 = .ok (.invokevirtual 64, 3) := by decide +kernel
theorem dX11_person_115 : decode cX11_person 115 = .ok (.ireturn, 1) := by decide +kernel
theorem dX11_person_116 : decode cX11_person 116 = .ok (.new 121, 3) := by decide +kernel
theorem dX11_person_119 : decode cX11_person 119 = .ok (.dup, 1) := by decide +kernel
theorem dX11_person_120 : decode cX11_person 120 = .ok (.aload_n 0, 1) := by decide +kernel
theorem dX11_person_121 : decode cX11_person 121 = .ok (.getfield 10, 3) := by decide +kernel
theorem dX11_person_124 : decode cX11_person 124 = .ok (.getfield 118, 3) := by decide +kernel
theorem dX11_person_127 : decode cX11_person 127 = .ok (.iload_n 2, 1) := by decide +kernel
theorem dX11_person_128 : decode cX11_person 128 = .ok (.iload_n 3, 1) := by decide +kernel
theorem dX11_person_129 : decode cX11_person 129 = .ok (.iload 4, 2) := by decide +kernel
theorem dX11_person_131 : decode cX11_person 131 = .ok (.invokespecial 123, 3) := by decide +kernel
theorem dX11_person_134 : decode cX11_person 134 = .ok (.astore 6, 2) := by decide +kernel
theorem dX11_person_136 : decode cX11_person 136 = .ok (.aload 6, 2) := by decide +kernel
theorem dX11_person_138 : decode cX11_person 138 = .ok (.aload 5, 2) := by decide +kernel
theorem dX11_person_140 : decode cX11_person 140 = .ok (.invokevirtual 126, 3) := by decide +kernel
theorem dX11_person_143 : decode cX11_person 143 = .ok (.aload_n 0, 1) := by decide +kernel
theorem dX11_person_144 : decode cX11_person 144 = .ok (.getfield 10, 3) := by decide +kernel
theorem dX11_person_147 : decode cX11_person 147 = .ok (.aload 6, 2) := by decide +kernel
theorem dX11_person_149 : decode cX11_person 149 = .ok (.invokevirtual 130, 3) := by decide +kernel
theorem dX11_person_152 : decode cX11_person 152 = .ok (.ireturn, 1) := by decide +kernel
theorem dX11_protect_0 : decode cX11_protect 0 = .ok (.aload_n 0, 1) := by decide +kernel
theorem dX11_protect_1 : decode cX11_protect 1 = .ok (.getfield 10, 3) := by decide +kernel
theorem dX11_protect_4 : decode cX11_protect 4 = .ok (.iload_n 1, 1) := by decide +kernel
theorem dX11_protect_5 : decode cX11_protect 5 = .ok (.invokevirtual 134, 3) := by decide +kernel
theorem dX11_protect_8 : decode cX11_protect 8 = .ok (.astore_n 3, 1) := by decide +kernel
theorem dX11_protect_9 : decode cX11_protect 9 = .ok (.aload_n 3, 1) := by decide +kernel
theorem dX11_protect_10 : decode cX11_protect 10 = .ok (.ifnonnull 9, 3) := by decide +kernel
theorem dX11_protect_13 : decode cX11_protect 13 = .ok (.aload_n 0, 1) := by decide +kernel
theorem dX11_protect_14 : decode cX11_protect 14 = .ok (.iconst (-1), 1) := by decide +kernel
theorem dX11_protect_15 : decode cX11_protect 15 = .ok (.invokevirtual 138, 3) := by decide +kernel
theorem dX11_protect_18 : decode cX11_protect 18 = .ok (.ireturn, 1) := by decide +kernel
theorem dX11_protect_19 : decode cX11_protect 19 = .ok (.iload_n 2, 1) := by decide +kernel
theorem dX11_protect_20 : decode cX11_protect 20 = .ok (.iconst (-1), 1) := by decide +kernel
theorem dX11_protect_21 : decode cX11_protect 21 = .ok (.if_icmp .ge 10, 3) := by decide +kernel
theorem dX11_protect_24 : decode cX11_protect 24 = .ok (.aload_n 0, 1) := by decide +kernel
theorem dX11_protect_25 : decode cX11_protect 25 = .ok (.bipush (-4), 2) := by decide +kernel
theorem dX11_protect_27 : decode cX11_protect 27 = .ok (.invokevirtual 138, 3) := by decide +kernel
theorem dX11_protect_30 : decode cX11_protect 30 = .ok (.ireturn, 1) := by decide +kernel
theorem dX11_protect_31 : decode cX11_protect 31 = .ok (.iload_n 2, 1) := by decide +kernel
theorem dX11_protect_32 : decode cX11_protect 32 = .ok (.sipush 9000, 3) := by decide +kernel
theorem dX11_protect_35 : decode cX11_protect 35 = .ok (.if_icmp .le 10, 3) := by decide +kernel
theorem dX11_protect_38 : decode cX11_protect 38 = .ok (.aload_n 0, 1) := by decide +kernel
theorem dX11_protect_39 : decode cX11_protect 39 = .ok (.bipush (-6), 2) := by decide +kernel
theorem dX11_protect_41 : decode cX11_protect 41 = .ok (.invokevirtual 138, 3) := by decide +kernel
theorem dX11_protect_44 : decode cX11_protect 44 = .ok (.ireturn, 1) := by decide +kernel
theorem dX11_protect_45 : decode cX11_protect 45 = .ok (.aload_n 3, 1) := by decide +kernel
theorem dX11_protect_46 : decode cX11_protect 46 = .ok (.getfield 141, 3) := by decide +kernel
theorem dX11_protect_49 : decode cX11_protect 49 = .ok (.istore 4, 2) := by decide +kernel
theorem dX11_protect_51 : decode cX11_protect 51 = .ok (.aload_n 3, 1) := by decide +kernel
theorem dX11_protect_52 : decode cX11_protect 52 = .ok (.iload_n 2, 1) := by decide +kernel
theorem dX11_protect_53 : decode cX11_protect 53 = .ok (.putfield 141, 3) := by decide +kernel
theorem dX11_protect_56 : decode cX11_protect 56 = .ok (.iload 4, 2) := by decide +kernel
theorem dX11_protect_58 : decode cX11_protect 58 = .ok (.ireturn, 1) := by decide +kernel
theorem dX11_move_0 : decode cX11_move 0 = .ok (.aload_n 0, 1) := by decide +kernel
theorem dX11_move_1 : decode cX11_move 1 = .ok (.getfield 10, 3) := by decide +kernel
theorem dX11_move_4 : decode cX11_move 4 = .ok (.iload_n 1, 1) := by decide +kernel
theorem dX11_move_5 : decode cX11_move 5 = .ok (.invokevirtual 134, 3) := by decide +kernel
theorem dX11_move_8 : decode cX11_move 8 = .ok (.astore_n 3, 1) := by decide +kernel
theorem dX11_move_9 : decode cX11_move 9 = .ok (.aload_n 0, 1) := by decide +kernel
theorem dX11_move_10 : decode cX11_move 10 = .ok (.getfield 10, 3) := by decide +kernel
theorem dX11_move_13 : decode cX11_move 13 = .ok (.iload_n 2, 1) := by decide +kernel
theorem dX11_move_14 : decode cX11_move 14 = .ok (.invokevirtual 94, 3) := by decide +kernel
theorem dX11_move_17 : decode cX11_move 17 = .ok (.astore 4, 2) := by decide +kernel
theorem dX11_move_19 : decode cX11_move 19 = .ok (.aload_n 3, 1) := by decide +kernel
theorem dX11_move_20 : decode cX11_move 20 = .ok (.ifnull 13, 3) := by decide +kernel
theorem dX11_move_23 : decode cX11_move 23 = .ok (.iload_n 2, 1) := by decide +kernel
theorem dX11_move_24 : decode cX11_move 24 = .ok (.iconst (-1), 1) := by decide +kernel
theorem dX11_move_25 : decode cX11_move 25 = .ok (.if_icmp .eq 14, 3) := by decide +kernel
theorem dX11_move_28 : decode cX11_move 28 = .ok (.aload 4, 2) := by decide +kernel
theorem dX11_move_30 : decode cX11_move 30 = .ok (.ifnonnull 9, 3) := by decide +kernel
theorem dX11_move_33 : decode cX11_move 33 = .ok (.aload_n 0, 1) := by decide +kernel
theorem dX11_move_34 : decode cX11_move 34 = .ok (.iconst (-1), 1) := by decide +kernel
theorem dX11_move_35 : decode cX11_move 35 = .ok (.invokevirtual 138, 3) := by decide +kernel
theorem dX11_move_38 : decode cX11_move 38 = .ok (.ireturn, 1) := by decide +kernel
theorem dX11_move_39 : decode cX11_move 39 = .ok (.aload_n 3, 1) := by decide +kernel
theorem dX11_move_40 : decode cX11_move 40 = .ok (.invokevirtual 144, 3) := by decide +kernel
theorem dX11_move_43 : decode cX11_move 43 = .ok (.ifCond .eq 17, 3) := by decide +kernel
theorem dX11_move_46 : decode cX11_move 46 = .ok (.aload 4, 2) := by decide +kernel
theorem dX11_move_48 : decode cX11_move 48 = .ok (.ifnull 19, 3) := by decide +kernel
theorem dX11_move_51 : decode cX11_move 51 = .ok (.aload 4, 2) := by decide +kernel
theorem dX11_move_53 : decode cX11_move 53 = .ok (.aload_n 3, 1) := by decide +kernel
theorem dX11_move_54 : decode cX11_move 54 = .ok (.invokevirtual 147, 3) := by decide +kernel
theorem dX11_move_57 : decode cX11_move 57 = .ok (.ifCond .ne 10, 3) := by decide +kernel
theorem dX11_move_60 : decode cX11_move 60 = .ok (.aload_n 0, 1) := by decide +kernel
theorem dX11_move_61 : decode cX11_move 61 = .ok (.bipush (-3), 2) := by decide +kernel
theorem dX11_move_63 : decode cX11_move 63 = .ok (.invokevirtual 138, 3) := by decide +kernel
theorem dX11_move_66 : decode cX11_move 66 = .ok (.ireturn, 1) := by decide +kernel
theorem dX11_move_67 : decode cX11_move 67 = .ok (.aload_n 3, 1) := by decide +kernel
theorem dX11_move_68 : decode cX11_move 68 = .ok (.getfield 151, 3) := by decide +kernel
theorem dX11_move_71 : decode cX11_move 71 = .ok (.astore 5, 2) := by decide +kernel
theorem dX11_move_73 : decode cX11_move 73 = .ok (.aload_n 3, 1) := by decide +kernel
theorem dX11_move_74 : decode cX11_move 74 = .ok (.aload 4, 2) := by decide +kernel
theorem dX11_move_76 : decode cX11_move 76 = .ok (.invokevirtual 126, 3) := by decide +kernel
theorem dX11_move_79 : decode cX11_move 79 = .ok (.aload 5, 2) := by decide +kernel
theorem dX11_move_81 : decode cX11_move 81 = .ok (.ifnonnull 7, 3) := by decide +kernel
theorem dX11_move_84 : decode cX11_move 84 = .ok (.iconst (-1), 1) := by decide +kernel
theorem dX11_move_85 : decode cX11_move 85 = .ok (.goto 8, 3) := by decide +kernel
theorem dX11_move_88 : decode cX11_move 88 = .ok (.aload 5, 2) := by decide +kernel
theorem dX11_move_90 : decode cX11_move 90 = .ok (.getfield 155, 3) := by decide +kernel
theorem dX11_move_93 : decode cX11_move 93 = .ok (.ireturn, 1) := by decide +kernel
theorem dX11_leave_0 : decode cX11_leave 0 = .ok (.aload_n 0, 1) := by decide +kernel
theorem dX11_leave_1 : decode cX11_leave 1 = .ok (.getfield 10, 3) := by decide +kernel
theorem dX11_leave_4 : decode cX11_leave 4 = .ok (.iload_n 1, 1) := by decide +kernel
theorem dX11_leave_5 : decode cX11_leave 5 = .ok (.invokevirtual 134, 3) := by decide +kernel
theorem dX11_leave_8 : decode cX11_leave 8 = .ok (.astore_n 2, 1) := by decide +kernel
theorem dX11_leave_9 : decode cX11_leave 9 = .ok (.aload_n 2, 1) := by decide +kernel
theorem dX11_leave_10 : decode cX11_leave 10 = .ok (.ifnonnull 9, 3) := by decide +kernel
theorem dX11_leave_13 : decode cX11_leave 13 = .ok (.aload_n 0, 1) := by decide +kernel
theorem dX11_leave_14 : decode cX11_leave 14 = .ok (.iconst (-1), 1) := by decide +kernel
theorem dX11_leave_15 : decode cX11_leave 15 = .ok (.invokevirtual 64, 3) := by decide +kernel
theorem dX11_leave_18 : decode cX11_leave 18 = .ok (.ireturn, 1) := by decide +kernel
theorem dX11_leave_19 : decode cX11_leave 19 = .ok (.aload_n 2, 1) := by decide +kernel
theorem dX11_leave_20 : decode cX11_leave 20 = .ok (.invokevirtual 144, 3) := by decide +kernel
theorem dX11_leave_23 : decode cX11_leave 23 = .ok (.ifCond .ne 10, 3) := by decide +kernel
theorem dX11_leave_26 : decode cX11_leave 26 = .ok (.aload_n 0, 1) := by decide +kernel
theorem dX11_leave_27 : decode cX11_leave 27 = .ok (.bipush (-3), 2) := by decide +kernel
theorem dX11_leave_29 : decode cX11_leave 29 = .ok (.invokevirtual 64, 3) := by decide +kernel
theorem dX11_leave_32 : decode cX11_leave 32 = .ok (.ireturn, 1) := by decide +kernel
theorem dX11_leave_33 : decode cX11_leave 33 = .ok (.aload_n 2, 1) := by decide +kernel
theorem dX11_leave_34 : decode cX11_leave 34 = .ok (.aconst_null, 1) := by decide +kernel
theorem dX11_leave_35 : decode cX11_leave 35 = .ok (.invokevirtual 126, 3) := by decide +kernel
theorem dX11_leave_38 : decode cX11_leave 38 = .ok (.aload_n 2, 1) := by decide +kernel
theorem dX11_leave_39 : decode cX11_leave 39 = .ok (.aload_n 0, 1) := by decide +kernel
theorem dX11_leave_40 : decode cX11_leave 40 = .ok (.getfield 10, 3) := by decide +kernel
theorem dX11_leave_43 : decode cX11_leave 43 = .ok (.getfield 68, 3) := by decide +kernel
theorem dX11_leave_46 : decode cX11_leave 46 = .ok (.putfield 158, 3) := by decide +kernel
theorem dX11_leave_49 : decode cX11_leave 49 = .ok (.iconst 1, 1) := by decide +kernel
theorem dX11_leave_50 : decode cX11_leave 50 = .ok (.ireturn, 1) := by decide +kernel
theorem dX11_weight_0 : decode cX11_weight 0 = .ok (.iload_n 1, 1) := by decide +kernel
theorem dX11_weight_1 : decode cX11_weight 1 = .ok (.ifCond .lt 8, 3) := by decide +kernel
theorem dX11_weight_4 : decode cX11_weight 4 = .ok (.iload_n 1, 1) := by decide +kernel
theorem dX11_weight_5 : decode cX11_weight 5 = .ok (.iconst 4, 1) := by decide +kernel
theorem dX11_weight_6 : decode cX11_weight 6 = .ok (.if_icmp .lt 10, 3) := by decide +kernel
theorem dX11_weight_9 : decode cX11_weight 9 = .ok (.aload_n 0, 1) := by decide +kernel
theorem dX11_weight_10 : decode cX11_weight 10 = .ok (.bipush (-2), 2) := by decide +kernel
theorem dX11_weight_12 : decode cX11_weight 12 = .ok (.invokevirtual 64, 3) := by decide +kernel
theorem dX11_weight_15 : decode cX11_weight 15 = .ok (.ireturn, 1) := by decide +kernel
theorem dX11_weight_16 : decode cX11_weight 16 = .ok (.iload_n 2, 1) := by decide +kernel
theorem dX11_weight_17 : decode cX11_weight 17 = .ok (.ifCond .ge 10, 3) := by decide +kernel
theorem dX11_weight_20 : decode cX11_weight 20 = .ok (.aload_n 0, 1) := by decide +kernel
theorem dX11_weight_21 : decode cX11_weight 21 = .ok (.bipush (-4), 2) := by decide +kernel
theorem dX11_weight_23 : decode cX11_weight 23 = .ok (.invokevirtual 64, 3) := by decide +kernel
theorem dX11_weight_26 : decode cX11_weight 26 = .ok (.ireturn, 1) := by decide +kernel
theorem dX11_weight_27 : decode cX11_weight 27 = .ok (.iload_n 2, 1) := by decide +kernel
theorem dX11_weight_28 : decode cX11_weight 28 = .ok (.bipush 20, 2) := by decide +kernel
theorem dX11_weight_30 : decode cX11_weight 30 = .ok (.if_icmp .le 10, 3) := by decide +kernel
theorem dX11_weight_33 : decode cX11_weight 33 = .ok (.aload_n 0, 1) := by decide +kernel
theorem dX11_weight_34 : decode cX11_weight 34 = .ok (.bipush (-6), 2) := by decide +kernel
theorem dX11_weight_36 : decode cX11_weight 36 = .ok (.invokevirtual 64, 3) := by decide +kernel
theorem dX11_weight_39 : decode cX11_weight 39 = .ok (.ireturn, 1) := by decide +kernel
theorem dX11_weight_40 : decode cX11_weight 40 = .ok (.aload_n 0, 1) := by decide +kernel
theorem dX11_weight_41 : decode cX11_weight 41 = .ok (.getfield 10, 3) := by decide +kernel
theorem dX11_weight_44 : decode cX11_weight 44 = .ok (.getfield 161, 3) := by decide +kernel
theorem dX11_weight_47 : decode cX11_weight 47 = .ok (.iload_n 1, 1) := by decide +kernel
theorem dX11_weight_48 : decode cX11_weight 48 = .ok (.iaload, 1) := by decide +kernel
theorem dX11_weight_49 : decode cX11_weight 49 = .ok (.istore_n 3, 1) := by decide +kernel
theorem dX11_weight_50 : decode cX11_weight 50 = .ok (.aload_n 0, 1) := by decide +kernel
theorem dX11_weight_51 : decode cX11_weight 51 = .ok (.getfield 10, 3) := by decide +kernel
theorem dX11_weight_54 : decode cX11_weight 54 = .ok (.getfield 161, 3) := by decide +kernel
theorem dX11_weight_57 : decode cX11_weight 57 = .ok (.iload_n 1, 1) := by decide +kernel
theorem dX11_weight_58 : decode cX11_weight 58 = .ok (.iload_n 2, 1) := by decide +kernel
theorem dX11_weight_59 : decode cX11_weight 59 = .ok (.iastore, 1) := by decide +kernel
theorem dX11_weight_60 : decode cX11_weight 60 = .ok (.iload_n 3, 1) := by decide +kernel
theorem dX11_weight_61 : decode cX11_weight 61 = .ok (.ireturn, 1) := by decide +kernel
theorem dX11_tell_0 : decode cX11_tell 0 = .ok (.aload_n 0, 1) := by decide +kernel
theorem dX11_tell_1 : decode cX11_tell 1 = .ok (.getfield 10, 3) := by decide +kernel
theorem dX11_tell_4 : decode cX11_tell 4 = .ok (.iload_n 1, 1) := by decide +kernel
theorem dX11_tell_5 : decode cX11_tell 5 = .ok (.invokevirtual 134, 3) := by decide +kernel
theorem dX11_tell_8 : decode cX11_tell 8 = .ok (.astore 4, 2) := by decide +kernel
theorem dX11_tell_10 : decode cX11_tell 10 = .ok (.aload 4, 2) := by decide +kernel
theorem dX11_tell_12 : decode cX11_tell 12 = .ok (.ifnonnull 9, 3) := by decide +kernel
theorem dX11_tell_15 : decode cX11_tell 15 = .ok (.aload_n 0, 1) := by decide +kernel
theorem dX11_tell_16 : decode cX11_tell 16 = .ok (.iconst (-1), 1) := by decide +kernel
theorem dX11_tell_17 : decode cX11_tell 17 = .ok (.invokevirtual 64, 3) := by decide +kernel
theorem dX11_tell_20 : decode cX11_tell 20 = .ok (.ireturn, 1) := by decide +kernel
theorem dX11_tell_21 : decode cX11_tell 21 = .ok (.iload_n 2, 1) := by decide +kernel
theorem dX11_tell_22 : decode cX11_tell 22 = .ok (.ifCond .eq 15, 3) := by decide +kernel
theorem dX11_tell_25 : decode cX11_tell 25 = .ok (.iload_n 2, 1) := by decide +kernel
theorem dX11_tell_26 : decode cX11_tell 26 = .ok (.iconst 1, 1) := by decide +kernel
theorem dX11_tell_27 : decode cX11_tell 27 = .ok (.if_icmp .eq 10, 3) := by decide +kernel
theorem dX11_tell_30 : decode cX11_tell 30 = .ok (.aload_n 0, 1) := by decide +kernel
theorem dX11_tell_31 : decode cX11_tell 31 = .ok (.bipush (-2), 2) := by decide +kernel
theorem dX11_tell_33 : decode cX11_tell 33 = .ok (.invokevirtual 64, 3) := by decide +kernel
theorem dX11_tell_36 : decode cX11_tell 36 = .ok (.ireturn, 1) := by decide +kernel
theorem dX11_tell_37 : decode cX11_tell 37 = .ok (.iload_n 3, 1) := by decide +kernel
theorem dX11_tell_38 : decode cX11_tell 38 = .ok (.ifCond .ge 10, 3) := by decide +kernel
theorem dX11_tell_41 : decode cX11_tell 41 = .ok (.aload_n 0, 1) := by decide +kernel
theorem dX11_tell_42 : decode cX11_tell 42 = .ok (.bipush (-4), 2) := by decide +kernel
theorem dX11_tell_44 : decode cX11_tell 44 = .ok (.invokevirtual 64, 3) := by decide +kernel
theorem dX11_tell_47 : decode cX11_tell 47 = .ok (.ireturn, 1) := by decide +kernel
theorem dX11_tell_48 : decode cX11_tell 48 = .ok (.iload_n 3, 1) := by decide +kernel
theorem dX11_tell_49 : decode cX11_tell 49 = .ok (.iload_n 2, 1) := by decide +kernel
theorem dX11_tell_50 : decode cX11_tell 50 = .ok (.invokestatic 164, 3) := by decide +kernel
theorem dX11_tell_53 : decode cX11_tell 53 = .ok (.if_icmp .gt 15, 3) := by decide +kernel
theorem dX11_tell_56 : decode cX11_tell 56 = .ok (.aload_n 0, 1) := by decide +kernel
theorem dX11_tell_57 : decode cX11_tell 57 = .ok (.getfield 10, 3) := by decide +kernel
theorem dX11_tell_60 : decode cX11_tell 60 = .ok (.getfield 167, 3) := by decide +kernel
theorem dX11_tell_63 : decode cX11_tell 63 = .ok (.bipush 120, 2) := by decide +kernel
theorem dX11_tell_65 : decode cX11_tell 65 = .ok (.if_icmp .lt 10, 3) := by decide +kernel
theorem dX11_tell_68 : decode cX11_tell 68 = .ok (.aload_n 0, 1) := by decide +kernel
theorem dX11_tell_69 : decode cX11_tell 69 = .ok (.bipush (-6), 2) := by decide +kernel
theorem dX11_tell_71 : decode cX11_tell 71 = .ok (.invokevirtual 64, 3) := by decide +kernel
theorem dX11_tell_74 : decode cX11_tell 74 = .ok (.ireturn, 1) := by decide +kernel
theorem dX11_tell_75 : decode cX11_tell 75 = .ok (.aload_n 0, 1) := by decide +kernel
theorem dX11_tell_76 : decode cX11_tell 76 = .ok (.getfield 10, 3) := by decide +kernel
theorem dX11_tell_79 : decode cX11_tell 79 = .ok (.aload 4, 2) := by decide +kernel
theorem dX11_tell_81 : decode cX11_tell 81 = .ok (.iload_n 2, 1) := by decide +kernel
theorem dX11_tell_82 : decode cX11_tell 82 = .ok (.iload_n 3, 1) := by decide +kernel
theorem dX11_tell_83 : decode cX11_tell 83 = .ok (.invokevirtual 170, 3) := by decide +kernel
theorem dX11_tell_86 : decode cX11_tell 86 = .ok (.ireturn, 1) := by decide +kernel
theorem dX11_right_0 : decode cX11_right 0 = .ok (.aload_n 0, 1) := by decide +kernel
theorem dX11_right_1 : decode cX11_right 1 = .ok (.getfield 10, 3) := by decide +kernel
theorem dX11_right_4 : decode cX11_right 4 = .ok (.iload_n 1, 1) := by decide +kernel
theorem dX11_right_5 : decode cX11_right 5 = .ok (.invokevirtual 174, 3) := by decide +kernel
theorem dX11_right_8 : decode cX11_right 8 = .ok (.astore_n 3, 1) := by decide +kernel
theorem dX11_right_9 : decode cX11_right 9 = .ok (.aload_n 3, 1) := by decide +kernel
theorem dX11_right_10 : decode cX11_right 10 = .ok (.ifnonnull 9, 3) := by decide +kernel
theorem dX11_right_13 : decode cX11_right 13 = .ok (.aload_n 0, 1) := by decide +kernel
theorem dX11_right_14 : decode cX11_right 14 = .ok (.iconst (-1), 1) := by decide +kernel
theorem dX11_right_15 : decode cX11_right 15 = .ok (.invokevirtual 64, 3) := by decide +kernel
theorem dX11_right_18 : decode cX11_right 18 = .ok (.ireturn, 1) := by decide +kernel
theorem dX11_right_19 : decode cX11_right 19 = .ok (.iload_n 2, 1) := by decide +kernel
theorem dX11_right_20 : decode cX11_right 20 = .ok (.ifCond .ge 10, 3) := by decide +kernel
theorem dX11_right_23 : decode cX11_right 23 = .ok (.aload_n 0, 1) := by decide +kernel
theorem dX11_right_24 : decode cX11_right 24 = .ok (.bipush (-4), 2) := by decide +kernel
theorem dX11_right_26 : decode cX11_right 26 = .ok (.invokevirtual 64, 3) := by decide +kernel
theorem dX11_right_29 : decode cX11_right 29 = .ok (.ireturn, 1) := by decide +kernel
theorem dX11_right_30 : decode cX11_right 30 = .ok (.iload_n 2, 1) := by decide +kernel
theorem dX11_right_31 : decode cX11_right 31 = .ok (.aload_n 3, 1) := by decide +kernel
theorem dX11_right_32 : decode cX11_right 32 = .ok (.getfield 178, 3) := by decide +kernel
theorem dX11_right_35 : decode cX11_right 35 = .ok (.invokestatic 164, 3) := by decide +kernel
theorem dX11_right_38 : decode cX11_right 38 = .ok (.if_icmp .gt 15, 3) := by decide +kernel
theorem dX11_right_41 : decode cX11_right 41 = .ok (.aload_n 0, 1) := by decide +kernel
theorem dX11_right_42 : decode cX11_right 42 = .ok (.getfield 10, 3) := by decide +kernel
theorem dX11_right_45 : decode cX11_right 45 = .ok (.getfield 183, 3) := by decide +kernel
theorem dX11_right_48 : decode cX11_right 48 = .ok (.bipush 60, 2) := by decide +kernel
theorem dX11_right_50 : decode cX11_right 50 = .ok (.if_icmp .lt 10, 3) := by decide +kernel
theorem dX11_right_53 : decode cX11_right 53 = .ok (.aload_n 0, 1) := by decide +kernel
theorem dX11_right_54 : decode cX11_right 54 = .ok (.bipush (-6), 2) := by decide +kernel
theorem dX11_right_56 : decode cX11_right 56 = .ok (.invokevirtual 64, 3) := by decide +kernel
theorem dX11_right_59 : decode cX11_right 59 = .ok (.ireturn, 1) := by decide +kernel
theorem dX11_right_60 : decode cX11_right 60 = .ok (.aload_n 0, 1) := by decide +kernel
theorem dX11_right_61 : decode cX11_right 61 = .ok (.getfield 10, 3) := by decide +kernel
theorem dX11_right_64 : decode cX11_right 64 = .ok (.dup, 1) := by decide +kernel
theorem dX11_right_65 : decode cX11_right 65 = .ok (.getfield 183, 3) := by decide +kernel
theorem dX11_right_68 : decode cX11_right 68 = .ok (.iconst 1, 1) := by decide +kernel
theorem dX11_right_69 : decode cX11_right 69 = .ok (.iadd, 1) := by decide +kernel
theorem dX11_right_70 : decode cX11_right 70 = .ok (.putfield 183, 3) := by decide +kernel
theorem dX11_right_73 : decode cX11_right 73 = .ok (.aload_n 3, 1) := by decide +kernel
theorem dX11_right_74 : decode cX11_right 74 = .ok (.aload_n 0, 1) := by decide +kernel
theorem dX11_right_75 : decode cX11_right 75 = .ok (.getfield 10, 3) := by decide +kernel
theorem dX11_right_78 : decode cX11_right 78 = .ok (.getfield 68, 3) := by decide +kernel
theorem dX11_right_81 : decode cX11_right 81 = .ok (.iload_n 2, 1) := by decide +kernel
theorem dX11_right_82 : decode cX11_right 82 = .ok (.invokevirtual 186, 3) := by decide +kernel
theorem dX11_right_85 : decode cX11_right 85 = .ok (.ireturn, 1) := by decide +kernel
theorem dX11_mark_0 : decode cX11_mark 0 = .ok (.aload_n 0, 1) := by decide +kernel
theorem dX11_mark_1 : decode cX11_mark 1 = .ok (.getfield 10, 3) := by decide +kernel
theorem dX11_mark_4 : decode cX11_mark 4 = .ok (.iload_n 1, 1) := by decide +kernel
theorem dX11_mark_5 : decode cX11_mark 5 = .ok (.invokevirtual 134, 3) := by decide +kernel
theorem dX11_mark_8 : decode cX11_mark 8 = .ok (.astore 4, 2) := by decide +kernel
theorem dX11_mark_10 : decode cX11_mark 10 = .ok (.aload 4, 2) := by decide +kernel
theorem dX11_mark_12 : decode cX11_mark 12 = .ok (.ifnonnull 9, 3) := by decide +kernel
theorem dX11_mark_15 : decode cX11_mark 15 = .ok (.aload_n 0, 1) := by decide +kernel
theorem dX11_mark_16 : decode cX11_mark 16 = .ok (.iconst (-1), 1) := by decide +kernel
theorem dX11_mark_17 : decode cX11_mark 17 = .ok (.invokevirtual 64, 3) := by decide +kernel
theorem dX11_mark_20 : decode cX11_mark 20 = .ok (.ireturn, 1) := by decide +kernel
theorem dX11_mark_21 : decode cX11_mark 21 = .ok (.iload_n 3, 1) := by decide +kernel
theorem dX11_mark_22 : decode cX11_mark 22 = .ok (.ifCond .lt 8, 3) := by decide +kernel
theorem dX11_mark_25 : decode cX11_mark 25 = .ok (.iload_n 3, 1) := by decide +kernel
theorem dX11_mark_26 : decode cX11_mark 26 = .ok (.iconst 4, 1) := by decide +kernel
theorem dX11_mark_27 : decode cX11_mark 27 = .ok (.if_icmp .le 10, 3) := by decide +kernel
theorem dX11_mark_30 : decode cX11_mark 30 = .ok (.aload_n 0, 1) := by decide +kernel
theorem dX11_mark_31 : decode cX11_mark 31 = .ok (.bipush (-2), 2) := by decide +kernel
theorem dX11_mark_33 : decode cX11_mark 33 = .ok (.invokevirtual 64, 3) := by decide +kernel
theorem dX11_mark_36 : decode cX11_mark 36 = .ok (.ireturn, 1) := by decide +kernel
theorem dX11_mark_37 : decode cX11_mark 37 = .ok (.iload_n 2, 1) := by decide +kernel
theorem dX11_mark_38 : decode cX11_mark 38 = .ok (.ifCond .ge 10, 3) := by decide +kernel
theorem dX11_mark_41 : decode cX11_mark 41 = .ok (.aload_n 0, 1) := by decide +kernel
theorem dX11_mark_42 : decode cX11_mark 42 = .ok (.bipush (-4), 2) := by decide +kernel
theorem dX11_mark_44 : decode cX11_mark 44 = .ok (.invokevirtual 64, 3) := by decide +kernel
theorem dX11_mark_47 : decode cX11_mark 47 = .ok (.ireturn, 1) := by decide +kernel
theorem dX11_mark_48 : decode cX11_mark 48 = .ok (.iload_n 2, 1) := by decide +kernel
theorem dX11_mark_49 : decode cX11_mark 49 = .ok (.sipush 3000, 3) := by decide +kernel
theorem dX11_mark_52 : decode cX11_mark 52 = .ok (.if_icmp .le 10, 3) := by decide +kernel
theorem dX11_mark_55 : decode cX11_mark 55 = .ok (.aload_n 0, 1) := by decide +kernel
theorem dX11_mark_56 : decode cX11_mark 56 = .ok (.bipush (-6), 2) := by decide +kernel
theorem dX11_mark_58 : decode cX11_mark 58 = .ok (.invokevirtual 64, 3) := by decide +kernel
theorem dX11_mark_61 : decode cX11_mark 61 = .ok (.ireturn, 1) := by decide +kernel
theorem dX11_mark_62 : decode cX11_mark 62 = .ok (.iload_n 3, 1) := by decide +kernel
theorem dX11_mark_63 : decode cX11_mark 63 = .ok (.iconst 4, 1) := by decide +kernel
theorem dX11_mark_64 : decode cX11_mark 64 = .ok (.if_icmp .ne 16, 3) := by decide +kernel
theorem dX11_mark_67 : decode cX11_mark 67 = .ok (.aload_n 0, 1) := by decide +kernel
theorem dX11_mark_68 : decode cX11_mark 68 = .ok (.getfield 10, 3) := by decide +kernel
theorem dX11_mark_71 : decode cX11_mark 71 = .ok (.aload 4, 2) := by decide +kernel
theorem dX11_mark_73 : decode cX11_mark 73 = .ok (.iload_n 2, 1) := by decide +kernel
theorem dX11_mark_74 : decode cX11_mark 74 = .ok (.invokevirtual 190, 3) := by decide +kernel
theorem dX11_mark_77 : decode cX11_mark 77 = .ok (.goto 14, 3) := by decide +kernel
theorem dX11_mark_80 : decode cX11_mark 80 = .ok (.aload_n 0, 1) := by decide +kernel
theorem dX11_mark_81 : decode cX11_mark 81 = .ok (.getfield 10, 3) := by decide +kernel
theorem dX11_mark_84 : decode cX11_mark 84 = .ok (.aload 4, 2) := by decide +kernel
theorem dX11_mark_86 : decode cX11_mark 86 = .ok (.iload_n 3, 1) := by decide +kernel
theorem dX11_mark_87 : decode cX11_mark 87 = .ok (.iload_n 2, 1) := by decide +kernel
theorem dX11_mark_88 : decode cX11_mark 88 = .ok (.invokevirtual 194, 3) := by decide +kernel
theorem dX11_mark_91 : decode cX11_mark 91 = .ok (.ireturn, 1) := by decide +kernel
theorem dX11_pools_0 : decode cX11_pools 0 = .ok (.aload_n 0, 1) := by decide +kernel
theorem dX11_pools_1 : decode cX11_pools 1 = .ok (.getfield 10, 3) := by decide +kernel
theorem dX11_pools_4 : decode cX11_pools 4 = .ok (.iload_n 1, 1) := by decide +kernel
theorem dX11_pools_5 : decode cX11_pools 5 = .ok (.invokevirtual 72, 3) := by decide +kernel
theorem dX11_pools_8 : decode cX11_pools 8 = .ok (.ifCond .ne 9, 3) := by decide +kernel
theorem dX11_pools_11 : decode cX11_pools 11 = .ok (.aload_n 0, 1) := by decide +kernel
theorem dX11_pools_12 : decode cX11_pools 12 = .ok (.iconst (-1), 1) := by decide +kernel
theorem dX11_pools_13 : decode cX11_pools 13 = .ok (.invokevirtual 64, 3) := by decide +kernel
theorem dX11_pools_16 : decode cX11_pools 16 = .ok (.ireturn, 1) := by decide +kernel
theorem dX11_pools_17 : decode cX11_pools 17 = .ok (.aload_n 0, 1) := by decide +kernel
theorem dX11_pools_18 : decode cX11_pools 18 = .ok (.getfield 21, 3) := by decide +kernel
theorem dX11_pools_21 : decode cX11_pools 21 = .ok (.iload_n 1, 1) := by decide +kernel
theorem dX11_pools_22 : decode cX11_pools 22 = .ok (.invokevirtual 197, 3) := by decide +kernel
theorem dX11_pools_25 : decode cX11_pools 25 = .ok (.aload_n 0, 1) := by decide +kernel
theorem dX11_pools_26 : decode cX11_pools 26 = .ok (.getfield 21, 3) := by decide +kernel
theorem dX11_pools_29 : decode cX11_pools 29 = .ok (.getfield 200, 3) := by decide +kernel
theorem dX11_pools_32 : decode cX11_pools 32 = .ok (.ireturn, 1) := by decide +kernel
theorem dX11_poolOf_0 : decode cX11_poolOf 0 = .ok (.aload_n 0, 1) := by decide +kernel
theorem dX11_poolOf_1 : decode cX11_poolOf 1 = .ok (.getfield 10, 3) := by decide +kernel
theorem dX11_poolOf_4 : decode cX11_poolOf 4 = .ok (.iload_n 2, 1) := by decide +kernel
theorem dX11_poolOf_5 : decode cX11_poolOf 5 = .ok (.invokevirtual 94, 3) := by decide +kernel
theorem dX11_poolOf_8 : decode cX11_poolOf 8 = .ok (.astore_n 3, 1) := by decide +kernel
theorem dX11_poolOf_9 : decode cX11_poolOf 9 = .ok (.aload_n 3, 1) := by decide +kernel
theorem dX11_poolOf_10 : decode cX11_poolOf 10 = .ok (.ifnull 14, 3) := by decide +kernel
theorem dX11_poolOf_13 : decode cX11_poolOf 13 = .ok (.aload_n 0, 1) := by decide +kernel
theorem dX11_poolOf_14 : decode cX11_poolOf 14 = .ok (.getfield 10, 3) := by decide +kernel
theorem dX11_poolOf_17 : decode cX11_poolOf 17 = .ok (.iload_n 1, 1) := by decide +kernel
theorem dX11_poolOf_18 : decode cX11_poolOf 18 = .ok (.invokevirtual 72, 3) := by decide +kernel
theorem dX11_poolOf_21 : decode cX11_poolOf 21 = .ok (.ifCond .ne 9, 3) := by decide +kernel
theorem dX11_poolOf_24 : decode cX11_poolOf 24 = .ok (.aload_n 0, 1) := by decide +kernel
theorem dX11_poolOf_25 : decode cX11_poolOf 25 = .ok (.iconst (-1), 1) := by decide +kernel
theorem dX11_poolOf_26 : decode cX11_poolOf 26 = .ok (.invokevirtual 64, 3) := by decide +kernel
theorem dX11_poolOf_29 : decode cX11_poolOf 29 = .ok (.ireturn, 1) := by decide +kernel
theorem dX11_poolOf_30 : decode cX11_poolOf 30 = .ok (.aload_n 0, 1) := by decide +kernel
theorem dX11_poolOf_31 : decode cX11_poolOf 31 = .ok (.getfield 21, 3) := by decide +kernel
theorem dX11_poolOf_34 : decode cX11_poolOf 34 = .ok (.iload_n 1, 1) := by decide +kernel
theorem dX11_poolOf_35 : decode cX11_poolOf 35 = .ok (.invokevirtual 197, 3) := by decide +kernel
theorem dX11_poolOf_38 : decode cX11_poolOf 38 = .ok (.aload_n 0, 1) := by decide +kernel
theorem dX11_poolOf_39 : decode cX11_poolOf 39 = .ok (.getfield 21, 3) := by decide +kernel
theorem dX11_poolOf_42 : decode cX11_poolOf 42 = .ok (.aload_n 3, 1) := by decide +kernel
theorem dX11_poolOf_43 : decode cX11_poolOf 43 = .ok (.invokevirtual 203, 3) := by decide +kernel
theorem dX11_poolOf_46 : decode cX11_poolOf 46 = .ok (.istore 4, 2) := by decide +kernel
theorem dX11_poolOf_48 : decode cX11_poolOf 48 = .ok (.iload 4, 2) := by decide +kernel
theorem dX11_poolOf_50 : decode cX11_poolOf 50 = .ok (.ifCond .ge 8, 3) := by decide +kernel
theorem dX11_poolOf_53 : decode cX11_poolOf 53 = .ok (.bipush (-9), 2) := by decide +kernel
theorem dX11_poolOf_55 : decode cX11_poolOf 55 = .ok (.goto 5, 3) := by decide +kernel
theorem dX11_poolOf_58 : decode cX11_poolOf 58 = .ok (.iload 4, 2) := by decide +kernel
theorem dX11_poolOf_60 : decode cX11_poolOf 60 = .ok (.ireturn, 1) := by decide +kernel
theorem dX11_cut_0 : decode cX11_cut 0 = .ok (.aload_n 0, 1) := by decide +kernel
theorem dX11_cut_1 : decode cX11_cut 1 = .ok (.getfield 21, 3) := by decide +kernel
theorem dX11_cut_4 : decode cX11_cut 4 = .ok (.iload_n 1, 1) := by decide +kernel
theorem dX11_cut_5 : decode cX11_cut 5 = .ok (.iload_n 2, 1) := by decide +kernel
theorem dX11_cut_6 : decode cX11_cut 6 = .ok (.invokevirtual 206, 3) := by decide +kernel
theorem dX11_cut_9 : decode cX11_cut 9 = .ok (.ifCond .ne 9, 3) := by decide +kernel
theorem dX11_cut_12 : decode cX11_cut 12 = .ok (.aload_n 0, 1) := by decide +kernel
theorem dX11_cut_13 : decode cX11_cut 13 = .ok (.iconst (-1), 1) := by decide +kernel
theorem dX11_cut_14 : decode cX11_cut 14 = .ok (.invokevirtual 64, 3) := by decide +kernel
theorem dX11_cut_17 : decode cX11_cut 17 = .ok (.ireturn, 1) := by decide +kernel
theorem dX11_cut_18 : decode cX11_cut 18 = .ok (.iload_n 3, 1) := by decide +kernel
theorem dX11_cut_19 : decode cX11_cut 19 = .ok (.invokestatic 210, 3) := by decide +kernel
theorem dX11_cut_22 : decode cX11_cut 22 = .ok (.istore 5, 2) := by decide +kernel
theorem dX11_cut_24 : decode cX11_cut 24 = .ok (.iload 5, 2) := by decide +kernel
theorem dX11_cut_26 : decode cX11_cut 26 = .ok (.ifCond .eq 10, 3) := by decide +kernel
theorem dX11_cut_29 : decode cX11_cut 29 = .ok (.aload_n 0, 1) := by decide +kernel
theorem dX11_cut_30 : decode cX11_cut 30 = .ok (.iload 5, 2) := by decide +kernel
theorem dX11_cut_32 : decode cX11_cut 32 = .ok (.invokevirtual 64, 3) := by decide +kernel
theorem dX11_cut_35 : decode cX11_cut 35 = .ok (.ireturn, 1) := by decide +kernel
theorem dX11_cut_36 : decode cX11_cut 36 = .ok (.aload_n 0, 1) := by decide +kernel
theorem dX11_cut_37 : decode cX11_cut 37 = .ok (.getfield 28, 3) := by decide +kernel
theorem dX11_cut_40 : decode cX11_cut 40 = .ok (.aload_n 0, 1) := by decide +kernel
theorem dX11_cut_41 : decode cX11_cut 41 = .ok (.getfield 21, 3) := by decide +kernel
theorem dX11_cut_44 : decode cX11_cut 44 = .ok (.invokevirtual 213, 3) := by decide +kernel
theorem dX11_cut_47 : decode cX11_cut 47 = .ok (.aload_n 0, 1) := by decide +kernel
theorem dX11_cut_48 : decode cX11_cut 48 = .ok (.getfield 28, 3) := by decide +kernel
theorem dX11_cut_51 : decode cX11_cut 51 = .ok (.iload_n 3, 1) := by decide +kernel
theorem dX11_cut_52 : decode cX11_cut 52 = .ok (.iload 4, 2) := by decide +kernel
theorem dX11_cut_54 : decode cX11_cut 54 = .ok (.invokevirtual 217, 3) := by decide +kernel
theorem dX11_cut_57 : decode cX11_cut 57 = .ok (.ireturn, 1) := by decide +kernel
theorem dX11_volunteer_0 : decode cX11_volunteer 0 = .ok (.aload_n 0, 1) := by decide +kernel
theorem dX11_volunteer_1 : decode cX11_volunteer 1 = .ok (.getfield 10, 3) := by decide +kernel
theorem dX11_volunteer_4 : decode cX11_volunteer 4 = .ok (.iload_n 1, 1) := by decide +kernel
theorem dX11_volunteer_5 : decode cX11_volunteer 5 = .ok (.invokevirtual 134, 3) := by decide +kernel
theorem dX11_volunteer_8 : decode cX11_volunteer 8 = .ok (.astore_n 3, 1) := by decide +kernel
theorem dX11_volunteer_9 : decode cX11_volunteer 9 = .ok (.aload_n 3, 1) := by decide +kernel
theorem dX11_volunteer_10 : decode cX11_volunteer 10 = .ok (.ifnonnull 9, 3) := by decide +kernel
theorem dX11_volunteer_13 : decode cX11_volunteer 13 = .ok (.aload_n 0, 1) := by decide +kernel
theorem dX11_volunteer_14 : decode cX11_volunteer 14 = .ok (.iconst (-1), 1) := by decide +kernel
theorem dX11_volunteer_15 : decode cX11_volunteer 15 = .ok (.invokevirtual 138, 3) := by decide +kernel
theorem dX11_volunteer_18 : decode cX11_volunteer 18 = .ok (.ireturn, 1) := by decide +kernel
theorem dX11_volunteer_19 : decode cX11_volunteer 19 = .ok (.aload_n 3, 1) := by decide +kernel
theorem dX11_volunteer_20 : decode cX11_volunteer 20 = .ok (.invokevirtual 144, 3) := by decide +kernel
theorem dX11_volunteer_23 : decode cX11_volunteer 23 = .ok (.ifCond .ne 10, 3) := by decide +kernel
theorem dX11_volunteer_26 : decode cX11_volunteer 26 = .ok (.aload_n 0, 1) := by decide +kernel
theorem dX11_volunteer_27 : decode cX11_volunteer 27 = .ok (.bipush (-3), 2) := by decide +kernel
theorem dX11_volunteer_29 : decode cX11_volunteer 29 = .ok (.invokevirtual 138, 3) := by decide +kernel
theorem dX11_volunteer_32 : decode cX11_volunteer 32 = .ok (.ireturn, 1) := by decide +kernel
theorem dX11_volunteer_33 : decode cX11_volunteer 33 = .ok (.iload_n 2, 1) := by decide +kernel
theorem dX11_volunteer_34 : decode cX11_volunteer 34 = .ok (.iconst (-1), 1) := by decide +kernel
theorem dX11_volunteer_35 : decode cX11_volunteer 35 = .ok (.if_icmp .ge 10, 3) := by decide +kernel
theorem dX11_volunteer_38 : decode cX11_volunteer 38 = .ok (.aload_n 0, 1) := by decide +kernel
theorem dX11_volunteer_39 : decode cX11_volunteer 39 = .ok (.bipush (-4), 2) := by decide +kernel
theorem dX11_volunteer_41 : decode cX11_volunteer 41 = .ok (.invokevirtual 138, 3) := by decide +kernel
theorem dX11_volunteer_44 : decode cX11_volunteer 44 = .ok (.ireturn, 1) := by decide +kernel
theorem dX11_volunteer_45 : decode cX11_volunteer 45 = .ok (.iload_n 2, 1) := by decide +kernel
theorem dX11_volunteer_46 : decode cX11_volunteer 46 = .ok (.ldc 220, 2) := by decide +kernel
theorem dX11_volunteer_48 : decode cX11_volunteer 48 = .ok (.if_icmp .le 10, 3) := by decide +kernel
theorem dX11_volunteer_51 : decode cX11_volunteer 51 = .ok (.aload_n 0, 1) := by decide +kernel
theorem dX11_volunteer_52 : decode cX11_volunteer 52 = .ok (.bipush (-6), 2) := by decide +kernel
theorem dX11_volunteer_54 : decode cX11_volunteer 54 = .ok (.invokevirtual 138, 3) := by decide +kernel
theorem dX11_volunteer_57 : decode cX11_volunteer 57 = .ok (.ireturn, 1) := by decide +kernel
theorem dX11_volunteer_58 : decode cX11_volunteer 58 = .ok (.aload_n 3, 1) := by decide +kernel
theorem dX11_volunteer_59 : decode cX11_volunteer 59 = .ok (.getfield 221, 3) := by decide +kernel
theorem dX11_volunteer_62 : decode cX11_volunteer 62 = .ok (.istore 4, 2) := by decide +kernel
theorem dX11_volunteer_64 : decode cX11_volunteer 64 = .ok (.aload_n 3, 1) := by decide +kernel
theorem dX11_volunteer_65 : decode cX11_volunteer 65 = .ok (.iload_n 2, 1) := by decide +kernel
theorem dX11_volunteer_66 : decode cX11_volunteer 66 = .ok (.putfield 221, 3) := by decide +kernel
theorem dX11_volunteer_69 : decode cX11_volunteer 69 = .ok (.iload 4, 2) := by decide +kernel
theorem dX11_volunteer_71 : decode cX11_volunteer 71 = .ok (.ireturn, 1) := by decide +kernel
theorem dX11_severance_0 : decode cX11_severance 0 = .ok (.aload_n 0, 1) := by decide +kernel
theorem dX11_severance_1 : decode cX11_severance 1 = .ok (.getfield 10, 3) := by decide +kernel
theorem dX11_severance_4 : decode cX11_severance 4 = .ok (.iload_n 1, 1) := by decide +kernel
theorem dX11_severance_5 : decode cX11_severance 5 = .ok (.invokevirtual 134, 3) := by decide +kernel
theorem dX11_severance_8 : decode cX11_severance 8 = .ok (.astore_n 2, 1) := by decide +kernel
theorem dX11_severance_9 : decode cX11_severance 9 = .ok (.aload_n 2, 1) := by decide +kernel
theorem dX11_severance_10 : decode cX11_severance 10 = .ok (.ifnonnull 11, 3) := by decide +kernel
theorem dX11_severance_13 : decode cX11_severance 13 = .ok (.aload_n 0, 1) := by decide +kernel
theorem dX11_severance_14 : decode cX11_severance 14 = .ok (.iconst (-1), 1) := by decide +kernel
theorem dX11_severance_15 : decode cX11_severance 15 = .ok (.invokevirtual 64, 3) := by decide +kernel
theorem dX11_severance_18 : decode cX11_severance 18 = .ok (.goto 11, 3) := by decide +kernel
theorem dX11_severance_21 : decode cX11_severance 21 = .ok (.aload_n 0, 1) := by decide +kernel
theorem dX11_severance_22 : decode cX11_severance 22 = .ok (.getfield 10, 3) := by decide +kernel
theorem dX11_severance_25 : decode cX11_severance 25 = .ok (.aload_n 2, 1) := by decide +kernel
theorem dX11_severance_26 : decode cX11_severance 26 = .ok (.invokevirtual 224, 3) := by decide +kernel
theorem dX11_severance_29 : decode cX11_severance 29 = .ok (.ireturn, 1) := by decide +kernel
theorem dX11_choice_0 : decode cX11_choice 0 = .ok (.aload_n 0, 1) := by decide +kernel
theorem dX11_choice_1 : decode cX11_choice 1 = .ok (.getfield 21, 3) := by decide +kernel
theorem dX11_choice_4 : decode cX11_choice 4 = .ok (.iload_n 1, 1) := by decide +kernel
theorem dX11_choice_5 : decode cX11_choice 5 = .ok (.iload_n 2, 1) := by decide +kernel
theorem dX11_choice_6 : decode cX11_choice 6 = .ok (.invokevirtual 206, 3) := by decide +kernel
theorem dX11_choice_9 : decode cX11_choice 9 = .ok (.ifCond .ne 9, 3) := by decide +kernel
theorem dX11_choice_12 : decode cX11_choice 12 = .ok (.aload_n 0, 1) := by decide +kernel
theorem dX11_choice_13 : decode cX11_choice 13 = .ok (.iconst (-1), 1) := by decide +kernel
theorem dX11_choice_14 : decode cX11_choice 14 = .ok (.invokevirtual 64, 3) := by decide +kernel
theorem dX11_choice_17 : decode cX11_choice 17 = .ok (.ireturn, 1) := by decide +kernel
theorem dX11_choice_18 : decode cX11_choice 18 = .ok (.iload 4, 2) := by decide +kernel
theorem dX11_choice_20 : decode cX11_choice 20 = .ok (.ifCond .eq 16, 3) := by decide +kernel
theorem dX11_choice_23 : decode cX11_choice 23 = .ok (.iload 4, 2) := by decide +kernel
theorem dX11_choice_25 : decode cX11_choice 25 = .ok (.iconst 1, 1) := by decide +kernel
theorem dX11_choice_26 : decode cX11_choice 26 = .ok (.if_icmp .eq 10, 3) := by decide +kernel
theorem dX11_choice_29 : decode cX11_choice 29 = .ok (.aload_n 0, 1) := by decide +kernel
theorem dX11_choice_30 : decode cX11_choice 30 = .ok (.bipush (-2), 2) := by decide +kernel
theorem dX11_choice_32 : decode cX11_choice 32 = .ok (.invokevirtual 64, 3) := by decide +kernel
theorem dX11_choice_35 : decode cX11_choice 35 = .ok (.ireturn, 1) := by decide +kernel
theorem dX11_choice_36 : decode cX11_choice 36 = .ok (.aload_n 0, 1) := by decide +kernel
theorem dX11_choice_37 : decode cX11_choice 37 = .ok (.iload_n 3, 1) := by decide +kernel
theorem dX11_choice_38 : decode cX11_choice 38 = .ok (.invokevirtual 227, 3) := by decide +kernel
theorem dX11_choice_41 : decode cX11_choice 41 = .ok (.istore 5, 2) := by decide +kernel
theorem dX11_choice_43 : decode cX11_choice 43 = .ok (.iload 5, 2) := by decide +kernel
theorem dX11_choice_45 : decode cX11_choice 45 = .ok (.ifCond .eq 10, 3) := by decide +kernel
theorem dX11_choice_48 : decode cX11_choice 48 = .ok (.aload_n 0, 1) := by decide +kernel
theorem dX11_choice_49 : decode cX11_choice 49 = .ok (.iload 5, 2) := by decide +kernel
theorem dX11_choice_51 : decode cX11_choice 51 = .ok (.invokevirtual 64, 3) := by decide +kernel
theorem dX11_choice_54 : decode cX11_choice 54 = .ok (.ireturn, 1) := by decide +kernel
theorem dX11_choice_55 : decode cX11_choice 55 = .ok (.aload_n 0, 1) := by decide +kernel
theorem dX11_choice_56 : decode cX11_choice 56 = .ok (.getfield 35, 3) := by decide +kernel
theorem dX11_choice_59 : decode cX11_choice 59 = .ok (.aload_n 0, 1) := by decide +kernel
theorem dX11_choice_60 : decode cX11_choice 60 = .ok (.getfield 21, 3) := by decide +kernel
theorem dX11_choice_63 : decode cX11_choice 63 = .ok (.invokevirtual 230, 3) := by decide +kernel
theorem dX11_choice_66 : decode cX11_choice 66 = .ok (.aload_n 0, 1) := by decide +kernel
theorem dX11_choice_67 : decode cX11_choice 67 = .ok (.getfield 35, 3) := by decide +kernel
theorem dX11_choice_70 : decode cX11_choice 70 = .ok (.iload_n 3, 1) := by decide +kernel
theorem dX11_choice_71 : decode cX11_choice 71 = .ok (.invokevirtual 231, 3) := by decide +kernel
theorem dX11_choice_74 : decode cX11_choice 74 = .ok (.aload_n 0, 1) := by decide +kernel
theorem dX11_choice_75 : decode cX11_choice 75 = .ok (.getfield 35, 3) := by decide +kernel
theorem dX11_choice_78 : decode cX11_choice 78 = .ok (.getfield 234, 3) := by decide +kernel
theorem dX11_choice_81 : decode cX11_choice 81 = .ok (.ifCond .ne 6, 3) := by decide +kernel
theorem dX11_choice_84 : decode cX11_choice 84 = .ok (.bipush (-9), 2) := by decide +kernel
theorem dX11_choice_86 : decode cX11_choice 86 = .ok (.ireturn, 1) := by decide +kernel
theorem dX11_choice_87 : decode cX11_choice 87 = .ok (.iload 4, 2) := by decide +kernel
theorem dX11_choice_89 : decode cX11_choice 89 = .ok (.ifCond .ne 13, 3) := by decide +kernel
theorem dX11_choice_92 : decode cX11_choice 92 = .ok (.aload_n 0, 1) := by decide +kernel
theorem dX11_choice_93 : decode cX11_choice 93 = .ok (.getfield 35, 3) := by decide +kernel
theorem dX11_choice_96 : decode cX11_choice 96 = .ok (.getfield 237, 3) := by decide +kernel
theorem dX11_choice_99 : decode cX11_choice 99 = .ok (.goto 10, 3) := by decide +kernel
theorem dX11_choice_102 : decode cX11_choice 102 = .ok (.aload_n 0, 1) := by decide +kernel
theorem dX11_choice_103 : decode cX11_choice 103 = .ok (.getfield 35, 3) := by decide +kernel
theorem dX11_choice_106 : decode cX11_choice 106 = .ok (.getfield 240, 3) := by decide +kernel
theorem dX11_choice_109 : decode cX11_choice 109 = .ok (.ireturn, 1) := by decide +kernel
theorem dX11_chosen_0 : decode cX11_chosen 0 = .ok (.aload_n 0, 1) := by decide +kernel
theorem dX11_chosen_1 : decode cX11_chosen 1 = .ok (.getfield 10, 3) := by decide +kernel
theorem dX11_chosen_4 : decode cX11_chosen 4 = .ok (.iload 4, 2) := by decide +kernel
theorem dX11_chosen_6 : decode cX11_chosen 6 = .ok (.invokevirtual 134, 3) := by decide +kernel
theorem dX11_chosen_9 : decode cX11_chosen 9 = .ok (.astore 5, 2) := by decide +kernel
theorem dX11_chosen_11 : decode cX11_chosen 11 = .ok (.aload 5, 2) := by decide +kernel
theorem dX11_chosen_13 : decode cX11_chosen 13 = .ok (.ifnull 15, 3) := by decide +kernel
theorem dX11_chosen_16 : decode cX11_chosen 16 = .ok (.aload_n 0, 1) := by decide +kernel
theorem dX11_chosen_17 : decode cX11_chosen 17 = .ok (.getfield 21, 3) := by decide +kernel
theorem dX11_chosen_20 : decode cX11_chosen 20 = .ok (.iload_n 1, 1) := by decide +kernel
theorem dX11_chosen_21 : decode cX11_chosen 21 = .ok (.iload_n 2, 1) := by decide +kernel
theorem dX11_chosen_22 : decode cX11_chosen 22 = .ok (.invokevirtual 206, 3) := by decide +kernel
theorem dX11_chosen_25 : decode cX11_chosen 25 = .ok (.ifCond .ne 9, 3) := by decide +kernel
theorem dX11_chosen_28 : decode cX11_chosen 28 = .ok (.aload_n 0, 1) := by decide +kernel
theorem dX11_chosen_29 : decode cX11_chosen 29 = .ok (.iconst (-1), 1) := by decide +kernel
theorem dX11_chosen_30 : decode cX11_chosen 30 = .ok (.invokevirtual 64, 3) := by decide +kernel
theorem dX11_chosen_33 : decode cX11_chosen 33 = .ok (.ireturn, 1) := by decide +kernel
theorem dX11_chosen_34 : decode cX11_chosen 34 = .ok (.aload_n 0, 1) := by decide +kernel
theorem dX11_chosen_35 : decode cX11_chosen 35 = .ok (.iload_n 3, 1) := by decide +kernel
theorem dX11_chosen_36 : decode cX11_chosen 36 = .ok (.invokevirtual 227, 3) := by decide +kernel
theorem dX11_chosen_39 : decode cX11_chosen 39 = .ok (.istore 6, 2) := by decide +kernel
theorem dX11_chosen_41 : decode cX11_chosen 41 = .ok (.iload 6, 2) := by decide +kernel
theorem dX11_chosen_43 : decode cX11_chosen 43 = .ok (.ifCond .eq 10, 3) := by decide +kernel
theorem dX11_chosen_46 : decode cX11_chosen 46 = .ok (.aload_n 0, 1) := by decide +kernel
theorem dX11_chosen_47 : decode cX11_chosen 47 = .ok (.iload 6, 2) := by decide +kernel
theorem dX11_chosen_49 : decode cX11_chosen 49 = .ok (.invokevirtual 64, 3) := by decide +kernel
theorem dX11_chosen_52 : decode cX11_chosen 52 = .ok (.ireturn, 1) := by decide +kernel
theorem dX11_chosen_53 : decode cX11_chosen 53 = .ok (.aload_n 0, 1) := by decide +kernel
theorem dX11_chosen_54 : decode cX11_chosen 54 = .ok (.getfield 35, 3) := by decide +kernel
theorem dX11_chosen_57 : decode cX11_chosen 57 = .ok (.aload_n 0, 1) := by decide +kernel
theorem dX11_chosen_58 : decode cX11_chosen 58 = .ok (.getfield 21, 3) := by decide +kernel
theorem dX11_chosen_61 : decode cX11_chosen 61 = .ok (.invokevirtual 230, 3) := by decide +kernel
theorem dX11_chosen_64 : decode cX11_chosen 64 = .ok (.aload_n 0, 1) := by decide +kernel
theorem dX11_chosen_65 : decode cX11_chosen 65 = .ok (.getfield 35, 3) := by decide +kernel
theorem dX11_chosen_68 : decode cX11_chosen 68 = .ok (.iload_n 3, 1) := by decide +kernel
theorem dX11_chosen_69 : decode cX11_chosen 69 = .ok (.invokevirtual 231, 3) := by decide +kernel
theorem dX11_chosen_72 : decode cX11_chosen 72 = .ok (.aload_n 0, 1) := by decide +kernel
theorem dX11_chosen_73 : decode cX11_chosen 73 = .ok (.getfield 35, 3) := by decide +kernel
theorem dX11_chosen_76 : decode cX11_chosen 76 = .ok (.aload_n 0, 1) := by decide +kernel
theorem dX11_chosen_77 : decode cX11_chosen 77 = .ok (.getfield 21, 3) := by decide +kernel
theorem dX11_chosen_80 : decode cX11_chosen 80 = .ok (.aload 5, 2) := by decide +kernel
theorem dX11_chosen_82 : decode cX11_chosen 82 = .ok (.invokevirtual 243, 3) := by decide +kernel
theorem dX11_chosen_85 : decode cX11_chosen 85 = .ok (.invokevirtual 246, 3) := by decide +kernel
theorem dX11_chosen_88 : decode cX11_chosen 88 = .ok (.ifCond .eq 7, 3) := by decide +kernel
theorem dX11_chosen_91 : decode cX11_chosen 91 = .ok (.iconst 1, 1) := by decide +kernel
theorem dX11_chosen_92 : decode cX11_chosen 92 = .ok (.goto 4, 3) := by decide +kernel
theorem dX11_chosen_95 : decode cX11_chosen 95 = .ok (.iconst 0, 1) := by decide +kernel
theorem dX11_chosen_96 : decode cX11_chosen 96 = .ok (.ireturn, 1) := by decide +kernel
theorem dX11_chain_0 : decode cX11_chain 0 = .ok (.aload_n 0, 1) := by decide +kernel
theorem dX11_chain_1 : decode cX11_chain 1 = .ok (.getfield 10, 3) := by decide +kernel
theorem dX11_chain_4 : decode cX11_chain 4 = .ok (.iload_n 1, 1) := by decide +kernel
theorem dX11_chain_5 : decode cX11_chain 5 = .ok (.invokevirtual 134, 3) := by decide +kernel
theorem dX11_chain_8 : decode cX11_chain 8 = .ok (.astore_n 2, 1) := by decide +kernel
theorem dX11_chain_9 : decode cX11_chain 9 = .ok (.aload_n 2, 1) := by decide +kernel
theorem dX11_chain_10 : decode cX11_chain 10 = .ok (.ifnonnull 9, 3) := by decide +kernel
theorem dX11_chain_13 : decode cX11_chain 13 = .ok (.aload_n 0, 1) := by decide +kernel
theorem dX11_chain_14 : decode cX11_chain 14 = .ok (.iconst (-1), 1) := by decide +kernel
theorem dX11_chain_15 : decode cX11_chain 15 = .ok (.invokevirtual 64, 3) := by decide +kernel
theorem dX11_chain_18 : decode cX11_chain 18 = .ok (.ireturn, 1) := by decide +kernel
theorem dX11_chain_19 : decode cX11_chain 19 = .ok (.aload_n 2, 1) := by decide +kernel
theorem dX11_chain_20 : decode cX11_chain 20 = .ok (.getfield 151, 3) := by decide +kernel
theorem dX11_chain_23 : decode cX11_chain 23 = .ok (.ifnonnull 10, 3) := by decide +kernel
theorem dX11_chain_26 : decode cX11_chain 26 = .ok (.aload_n 0, 1) := by decide +kernel
theorem dX11_chain_27 : decode cX11_chain 27 = .ok (.bipush (-3), 2) := by decide +kernel
theorem dX11_chain_29 : decode cX11_chain 29 = .ok (.invokevirtual 64, 3) := by decide +kernel
theorem dX11_chain_32 : decode cX11_chain 32 = .ok (.ireturn, 1) := by decide +kernel
theorem dX11_chain_33 : decode cX11_chain 33 = .ok (.aload_n 0, 1) := by decide +kernel
theorem dX11_chain_34 : decode cX11_chain 34 = .ok (.getfield 42, 3) := by decide +kernel
theorem dX11_chain_37 : decode cX11_chain 37 = .ok (.aload_n 2, 1) := by decide +kernel
theorem dX11_chain_38 : decode cX11_chain 38 = .ok (.invokevirtual 249, 3) := by decide +kernel
theorem dX11_chain_41 : decode cX11_chain 41 = .ok (.aload_n 0, 1) := by decide +kernel
theorem dX11_chain_42 : decode cX11_chain 42 = .ok (.getfield 42, 3) := by decide +kernel
theorem dX11_chain_45 : decode cX11_chain 45 = .ok (.getfield 253, 3) := by decide +kernel
theorem dX11_chain_48 : decode cX11_chain 48 = .ok (.ireturn, 1) := by decide +kernel
theorem dX11_chainOf_0 : decode cX11_chainOf 0 = .ok (.aload_n 0, 1) := by decide +kernel
theorem dX11_chainOf_1 : decode cX11_chainOf 1 = .ok (.getfield 10, 3) := by decide +kernel
theorem dX11_chainOf_4 : decode cX11_chainOf 4 = .ok (.iload_n 1, 1) := by decide +kernel
theorem dX11_chainOf_5 : decode cX11_chainOf 5 = .ok (.invokevirtual 134, 3) := by decide +kernel
theorem dX11_chainOf_8 : decode cX11_chainOf 8 = .ok (.astore 4, 2) := by decide +kernel
theorem dX11_chainOf_10 : decode cX11_chainOf 10 = .ok (.aload 4, 2) := by decide +kernel
theorem dX11_chainOf_12 : decode cX11_chainOf 12 = .ok (.ifnonnull 9, 3) := by decide +kernel
theorem dX11_chainOf_15 : decode cX11_chainOf 15 = .ok (.aload_n 0, 1) := by decide +kernel
theorem dX11_chainOf_16 : decode cX11_chainOf 16 = .ok (.iconst (-1), 1) := by decide +kernel
theorem dX11_chainOf_17 : decode cX11_chainOf 17 = .ok (.invokevirtual 64, 3) := by decide +kernel
theorem dX11_chainOf_20 : decode cX11_chainOf 20 = .ok (.ireturn, 1) := by decide +kernel
theorem dX11_chainOf_21 : decode cX11_chainOf 21 = .ok (.iload_n 3, 1) := by decide +kernel
theorem dX11_chainOf_22 : decode cX11_chainOf 22 = .ok (.ifCond .lt 8, 3) := by decide +kernel
theorem dX11_chainOf_25 : decode cX11_chainOf 25 = .ok (.iload_n 3, 1) := by decide +kernel
theorem dX11_chainOf_26 : decode cX11_chainOf 26 = .ok (.iconst 3, 1) := by decide +kernel
theorem dX11_chainOf_27 : decode cX11_chainOf 27 = .ok (.if_icmp .le 10, 3) := by decide +kernel
theorem dX11_chainOf_30 : decode cX11_chainOf 30 = .ok (.aload_n 0, 1) := by decide +kernel
theorem dX11_chainOf_31 : decode cX11_chainOf 31 = .ok (.bipush (-2), 2) := by decide +kernel
theorem dX11_chainOf_33 : decode cX11_chainOf 33 = .ok (.invokevirtual 64, 3) := by decide +kernel
theorem dX11_chainOf_36 : decode cX11_chainOf 36 = .ok (.ireturn, 1) := by decide +kernel
theorem dX11_chainOf_37 : decode cX11_chainOf 37 = .ok (.aload 4, 2) := by decide +kernel
theorem dX11_chainOf_39 : decode cX11_chainOf 39 = .ok (.getfield 151, 3) := by decide +kernel
theorem dX11_chainOf_42 : decode cX11_chainOf 42 = .ok (.ifnonnull 10, 3) := by decide +kernel
theorem dX11_chainOf_45 : decode cX11_chainOf 45 = .ok (.aload_n 0, 1) := by decide +kernel
theorem dX11_chainOf_46 : decode cX11_chainOf 46 = .ok (.bipush (-3), 2) := by decide +kernel
theorem dX11_chainOf_48 : decode cX11_chainOf 48 = .ok (.invokevirtual 64, 3) := by decide +kernel
theorem dX11_chainOf_51 : decode cX11_chainOf 51 = .ok (.ireturn, 1) := by decide +kernel
theorem dX11_chainOf_52 : decode cX11_chainOf 52 = .ok (.aload_n 0, 1) := by decide +kernel
theorem dX11_chainOf_53 : decode cX11_chainOf 53 = .ok (.getfield 42, 3) := by decide +kernel
theorem dX11_chainOf_56 : decode cX11_chainOf 56 = .ok (.aload 4, 2) := by decide +kernel
theorem dX11_chainOf_58 : decode cX11_chainOf 58 = .ok (.invokevirtual 249, 3) := by decide +kernel
theorem dX11_chainOf_61 : decode cX11_chainOf 61 = .ok (.iload_n 3, 1) := by decide +kernel
theorem dX11_chainOf_62 : decode cX11_chainOf 62 = .ok (.iconst 3, 1) := by decide +kernel
theorem dX11_chainOf_63 : decode cX11_chainOf 63 = .ok (.if_icmp .ne 18, 3) := by decide +kernel
theorem dX11_chainOf_66 : decode cX11_chainOf 66 = .ok (.aload_n 0, 1) := by decide +kernel
theorem dX11_chainOf_67 : decode cX11_chainOf 67 = .ok (.getfield 42, 3) := by decide +kernel
theorem dX11_chainOf_70 : decode cX11_chainOf 70 = .ok (.aload_n 0, 1) := by decide +kernel
theorem dX11_chainOf_71 : decode cX11_chainOf 71 = .ok (.getfield 42, 3) := by decide +kernel
theorem dX11_chainOf_74 : decode cX11_chainOf 74 = .ok (.getfield 253, 3) := by decide +kernel
theorem dX11_chainOf_77 : decode cX11_chainOf 77 = .ok (.invokevirtual 256, 3) := by decide +kernel
theorem dX11_chainOf_80 : decode cX11_chainOf 80 = .ok (.ireturn, 1) := by decide +kernel
theorem dX11_chainOf_81 : decode cX11_chainOf 81 = .ok (.iload_n 2, 1) := by decide +kernel
theorem dX11_chainOf_82 : decode cX11_chainOf 82 = .ok (.ifCond .lt 14, 3) := by decide +kernel
theorem dX11_chainOf_85 : decode cX11_chainOf 85 = .ok (.iload_n 2, 1) := by decide +kernel
theorem dX11_chainOf_86 : decode cX11_chainOf 86 = .ok (.aload_n 0, 1) := by decide +kernel
theorem dX11_chainOf_87 : decode cX11_chainOf 87 = .ok (.getfield 42, 3) := by decide +kernel
theorem dX11_chainOf_90 : decode cX11_chainOf 90 = .ok (.getfield 253, 3) := by decide +kernel
theorem dX11_chainOf_93 : decode cX11_chainOf 93 = .ok (.if_icmp .lt 9, 3) := by decide +kernel
theorem dX11_chainOf_96 : decode cX11_chainOf 96 = .ok (.aload_n 0, 1) := by decide +kernel
theorem dX11_chainOf_97 : decode cX11_chainOf 97 = .ok (.iconst (-1), 1) := by decide +kernel
theorem dX11_chainOf_98 : decode cX11_chainOf 98 = .ok (.invokevirtual 64, 3) := by decide +kernel
theorem dX11_chainOf_101 : decode cX11_chainOf 101 = .ok (.ireturn, 1) := by decide +kernel
theorem dX11_chainOf_102 : decode cX11_chainOf 102 = .ok (.iload_n 3, 1) := by decide +kernel
theorem dX11_chainOf_103 : decode cX11_chainOf 103 = .ok (.iconst 1, 1) := by decide +kernel
theorem dX11_chainOf_104 : decode cX11_chainOf 104 = .ok (.if_icmp .ne 12, 3) := by decide +kernel
theorem dX11_chainOf_107 : decode cX11_chainOf 107 = .ok (.aload_n 0, 1) := by decide +kernel
theorem dX11_chainOf_108 : decode cX11_chainOf 108 = .ok (.getfield 42, 3) := by decide +kernel
theorem dX11_chainOf_111 : decode cX11_chainOf 111 = .ok (.iload_n 2, 1) := by decide +kernel
theorem dX11_chainOf_112 : decode cX11_chainOf 112 = .ok (.invokevirtual 259, 3) := by decide +kernel
theorem dX11_chainOf_115 : decode cX11_chainOf 115 = .ok (.ireturn, 1) := by decide +kernel
theorem dX11_chainOf_116 : decode cX11_chainOf 116 = .ok (.aload_n 0, 1) := by decide +kernel
theorem dX11_chainOf_117 : decode cX11_chainOf 117 = .ok (.getfield 42, 3) := by decide +kernel
theorem dX11_chainOf_120 : decode cX11_chainOf 120 = .ok (.iload_n 3, 1) := by decide +kernel
theorem dX11_chainOf_121 : decode cX11_chainOf 121 = .ok (.ifCond .ne 7, 3) := by decide +kernel
theorem dX11_chainOf_124 : decode cX11_chainOf 124 = .ok (.iload_n 2, 1) := by decide +kernel
theorem dX11_chainOf_125 : decode cX11_chainOf 125 = .ok (.goto 6, 3) := by decide +kernel
theorem dX11_chainOf_128 : decode cX11_chainOf 128 = .ok (.iload_n 2, 1) := by decide +kernel
theorem dX11_chainOf_129 : decode cX11_chainOf 129 = .ok (.iconst 1, 1) := by decide +kernel
theorem dX11_chainOf_130 : decode cX11_chainOf 130 = .ok (.iadd, 1) := by decide +kernel
theorem dX11_chainOf_131 : decode cX11_chainOf 131 = .ok (.invokevirtual 256, 3) := by decide +kernel
theorem dX11_chainOf_134 : decode cX11_chainOf 134 = .ok (.ireturn, 1) := by decide +kernel
theorem dX11_leaver_0 : decode cX11_leaver 0 = .ok (.aload_n 0, 1) := by decide +kernel
theorem dX11_leaver_1 : decode cX11_leaver 1 = .ok (.getfield 10, 3) := by decide +kernel
theorem dX11_leaver_4 : decode cX11_leaver 4 = .ok (.iload_n 1, 1) := by decide +kernel
theorem dX11_leaver_5 : decode cX11_leaver 5 = .ok (.invokevirtual 134, 3) := by decide +kernel
theorem dX11_leaver_8 : decode cX11_leaver 8 = .ok (.astore_n 2, 1) := by decide +kernel
theorem dX11_leaver_9 : decode cX11_leaver 9 = .ok (.aload_n 2, 1) := by decide +kernel
theorem dX11_leaver_10 : decode cX11_leaver 10 = .ok (.ifnonnull 9, 3) := by decide +kernel
theorem dX11_leaver_13 : decode cX11_leaver 13 = .ok (.aload_n 0, 1) := by decide +kernel
theorem dX11_leaver_14 : decode cX11_leaver 14 = .ok (.iconst (-1), 1) := by decide +kernel
theorem dX11_leaver_15 : decode cX11_leaver 15 = .ok (.invokevirtual 64, 3) := by decide +kernel
theorem dX11_leaver_18 : decode cX11_leaver 18 = .ok (.ireturn, 1) := by decide +kernel
theorem dX11_leaver_19 : decode cX11_leaver 19 = .ok (.aload_n 2, 1) := by decide +kernel
theorem dX11_leaver_20 : decode cX11_leaver 20 = .ok (.invokevirtual 144, 3) := by decide +kernel
theorem dX11_leaver_23 : decode cX11_leaver 23 = .ok (.ifCond .eq 14, 3) := by decide +kernel
theorem dX11_leaver_26 : decode cX11_leaver 26 = .ok (.aload_n 0, 1) := by decide +kernel
theorem dX11_leaver_27 : decode cX11_leaver 27 = .ok (.getfield 49, 3) := by decide +kernel
theorem dX11_leaver_30 : decode cX11_leaver 30 = .ok (.aload_n 2, 1) := by decide +kernel
theorem dX11_leaver_31 : decode cX11_leaver 31 = .ok (.invokevirtual 262, 3) := by decide +kernel
theorem dX11_leaver_34 : decode cX11_leaver 34 = .ok (.ifCond .eq 10, 3) := by decide +kernel
theorem dX11_leaver_37 : decode cX11_leaver 37 = .ok (.aload_n 0, 1) := by decide +kernel
theorem dX11_leaver_38 : decode cX11_leaver 38 = .ok (.bipush (-3), 2) := by decide +kernel
theorem dX11_leaver_40 : decode cX11_leaver 40 = .ok (.invokevirtual 64, 3) := by decide +kernel
theorem dX11_leaver_43 : decode cX11_leaver 43 = .ok (.ireturn, 1) := by decide +kernel
theorem dX11_leaver_44 : decode cX11_leaver 44 = .ok (.aload_n 0, 1) := by decide +kernel
theorem dX11_leaver_45 : decode cX11_leaver 45 = .ok (.getfield 49, 3) := by decide +kernel
theorem dX11_leaver_48 : decode cX11_leaver 48 = .ok (.getfield 265, 3) := by decide +kernel
theorem dX11_leaver_51 : decode cX11_leaver 51 = .ok (.bipush 8, 2) := by decide +kernel
theorem dX11_leaver_53 : decode cX11_leaver 53 = .ok (.if_icmp .lt 10, 3) := by decide +kernel
theorem dX11_leaver_56 : decode cX11_leaver 56 = .ok (.aload_n 0, 1) := by decide +kernel
theorem dX11_leaver_57 : decode cX11_leaver 57 = .ok (.bipush (-6), 2) := by decide +kernel
theorem dX11_leaver_59 : decode cX11_leaver 59 = .ok (.invokevirtual 64, 3) := by decide +kernel
theorem dX11_leaver_62 : decode cX11_leaver 62 = .ok (.ireturn, 1) := by decide +kernel
theorem dX11_leaver_63 : decode cX11_leaver 63 = .ok (.aload_n 0, 1) := by decide +kernel
theorem dX11_leaver_64 : decode cX11_leaver 64 = .ok (.getfield 49, 3) := by decide +kernel
theorem dX11_leaver_67 : decode cX11_leaver 67 = .ok (.aload_n 2, 1) := by decide +kernel
theorem dX11_leaver_68 : decode cX11_leaver 68 = .ok (.invokevirtual 268, 3) := by decide +kernel
theorem dX11_leaver_71 : decode cX11_leaver 71 = .ok (.ireturn, 1) := by decide +kernel
theorem dX11_clear_0 : decode cX11_clear 0 = .ok (.aload_n 0, 1) := by decide +kernel
theorem dX11_clear_1 : decode cX11_clear 1 = .ok (.getfield 49, 3) := by decide +kernel
theorem dX11_clear_4 : decode cX11_clear 4 = .ok (.getfield 265, 3) := by decide +kernel
theorem dX11_clear_7 : decode cX11_clear 7 = .ok (.istore_n 1, 1) := by decide +kernel
theorem dX11_clear_8 : decode cX11_clear 8 = .ok (.aload_n 0, 1) := by decide +kernel
theorem dX11_clear_9 : decode cX11_clear 9 = .ok (.getfield 49, 3) := by decide +kernel
theorem dX11_clear_12 : decode cX11_clear 12 = .ok (.iconst 0, 1) := by decide +kernel
theorem dX11_clear_13 : decode cX11_clear 13 = .ok (.putfield 265, 3) := by decide +kernel
theorem dX11_clear_16 : decode cX11_clear 16 = .ok (.iload_n 1, 1) := by decide +kernel
theorem dX11_clear_17 : decode cX11_clear 17 = .ok (.ireturn, 1) := by decide +kernel
theorem dX11_fit_0 : decode cX11_fit 0 = .ok (.aload_n 0, 1) := by decide +kernel
theorem dX11_fit_1 : decode cX11_fit 1 = .ok (.getfield 10, 3) := by decide +kernel
theorem dX11_fit_4 : decode cX11_fit 4 = .ok (.iload_n 1, 1) := by decide +kernel
theorem dX11_fit_5 : decode cX11_fit 5 = .ok (.invokevirtual 134, 3) := by decide +kernel
theorem dX11_fit_8 : decode cX11_fit 8 = .ok (.astore_n 3, 1) := by decide +kernel
theorem dX11_fit_9 : decode cX11_fit 9 = .ok (.aload_n 0, 1) := by decide +kernel
theorem dX11_fit_10 : decode cX11_fit 10 = .ok (.getfield 10, 3) := by decide +kernel
theorem dX11_fit_13 : decode cX11_fit 13 = .ok (.iload_n 2, 1) := by decide +kernel
theorem dX11_fit_14 : decode cX11_fit 14 = .ok (.invokevirtual 94, 3) := by decide +kernel
theorem dX11_fit_17 : decode cX11_fit 17 = .ok (.astore 4, 2) := by decide +kernel
theorem dX11_fit_19 : decode cX11_fit 19 = .ok (.aload_n 3, 1) := by decide +kernel
theorem dX11_fit_20 : decode cX11_fit 20 = .ok (.ifnull 8, 3) := by decide +kernel
theorem dX11_fit_23 : decode cX11_fit 23 = .ok (.aload 4, 2) := by decide +kernel
theorem dX11_fit_25 : decode cX11_fit 25 = .ok (.ifnonnull 9, 3) := by decide +kernel
theorem dX11_fit_28 : decode cX11_fit 28 = .ok (.aload_n 0, 1) := by decide +kernel
theorem dX11_fit_29 : decode cX11_fit 29 = .ok (.iconst (-1), 1) := by decide +kernel
theorem dX11_fit_30 : decode cX11_fit 30 = .ok (.invokevirtual 138, 3) := by decide +kernel
theorem dX11_fit_33 : decode cX11_fit 33 = .ok (.ireturn, 1) := by decide +kernel
theorem dX11_fit_34 : decode cX11_fit 34 = .ok (.aload_n 0, 1) := by decide +kernel
theorem dX11_fit_35 : decode cX11_fit 35 = .ok (.getfield 10, 3) := by decide +kernel
theorem dX11_fit_38 : decode cX11_fit 38 = .ok (.aload_n 3, 1) := by decide +kernel
theorem dX11_fit_39 : decode cX11_fit 39 = .ok (.aload 4, 2) := by decide +kernel
theorem dX11_fit_41 : decode cX11_fit 41 = .ok (.invokevirtual 271, 3) := by decide +kernel
theorem dX11_fit_44 : decode cX11_fit 44 = .ok (.ireturn, 1) := by decide +kernel
theorem dX11_offers_0 : decode cX11_offers 0 = .ok (.iload_n 1, 1) := by decide +kernel
theorem dX11_offers_1 : decode cX11_offers 1 = .ok (.ifCond .lt 8, 3) := by decide +kernel
theorem dX11_offers_4 : decode cX11_offers 4 = .ok (.iload_n 1, 1) := by decide +kernel
theorem dX11_offers_5 : decode cX11_offers 5 = .ok (.iconst 2, 1) := by decide +kernel
theorem dX11_offers_6 : decode cX11_offers 6 = .ok (.if_icmp .le 10, 3) := by decide +kernel
theorem dX11_offers_9 : decode cX11_offers 9 = .ok (.aload_n 0, 1) := by decide +kernel
theorem dX11_offers_10 : decode cX11_offers 10 = .ok (.bipush (-2), 2) := by decide +kernel
theorem dX11_offers_12 : decode cX11_offers 12 = .ok (.invokevirtual 64, 3) := by decide +kernel
theorem dX11_offers_15 : decode cX11_offers 15 = .ok (.ireturn, 1) := by decide +kernel
theorem dX11_offers_16 : decode cX11_offers 16 = .ok (.aload_n 0, 1) := by decide +kernel
theorem dX11_offers_17 : decode cX11_offers 17 = .ok (.getfield 49, 3) := by decide +kernel
theorem dX11_offers_20 : decode cX11_offers 20 = .ok (.invokevirtual 275, 3) := by decide +kernel
theorem dX11_offers_23 : decode cX11_offers 23 = .ok (.aload_n 0, 1) := by decide +kernel
theorem dX11_offers_24 : decode cX11_offers 24 = .ok (.getfield 49, 3) := by decide +kernel
theorem dX11_offers_27 : decode cX11_offers 27 = .ok (.iload_n 1, 1) := by decide +kernel
theorem dX11_offers_28 : decode cX11_offers 28 = .ok (.invokevirtual 278, 3) := by decide +kernel
theorem dX11_offers_31 : decode cX11_offers 31 = .ok (.ireturn, 1) := by decide +kernel
theorem dX11_offered_0 : decode cX11_offered 0 = .ok (.iload_n 1, 1) := by decide +kernel
theorem dX11_offered_1 : decode cX11_offered 1 = .ok (.ifCond .lt 14, 3) := by decide +kernel
theorem dX11_offered_4 : decode cX11_offered 4 = .ok (.iload_n 1, 1) := by decide +kernel
theorem dX11_offered_5 : decode cX11_offered 5 = .ok (.aload_n 0, 1) := by decide +kernel
theorem dX11_offered_6 : decode cX11_offered 6 = .ok (.getfield 49, 3) := by decide +kernel
theorem dX11_offered_9 : decode cX11_offered 9 = .ok (.getfield 265, 3) := by decide +kernel
theorem dX11_offered_12 : decode cX11_offered 12 = .ok (.if_icmp .lt 9, 3) := by decide +kernel
theorem dX11_offered_15 : decode cX11_offered 15 = .ok (.aload_n 0, 1) := by decide +kernel
theorem dX11_offered_16 : decode cX11_offered 16 = .ok (.iconst (-1), 1) := by decide +kernel
theorem dX11_offered_17 : decode cX11_offered 17 = .ok (.invokevirtual 64, 3) := by decide +kernel
theorem dX11_offered_20 : decode cX11_offered 20 = .ok (.ireturn, 1) := by decide +kernel
theorem dX11_offered_21 : decode cX11_offered 21 = .ok (.aload_n 0, 1) := by decide +kernel
theorem dX11_offered_22 : decode cX11_offered 22 = .ok (.getfield 49, 3) := by decide +kernel
theorem dX11_offered_25 : decode cX11_offered 25 = .ok (.invokevirtual 275, 3) := by decide +kernel
theorem dX11_offered_28 : decode cX11_offered 28 = .ok (.aload_n 0, 1) := by decide +kernel
theorem dX11_offered_29 : decode cX11_offered 29 = .ok (.getfield 49, 3) := by decide +kernel
theorem dX11_offered_32 : decode cX11_offered 32 = .ok (.iload_n 1, 1) := by decide +kernel
theorem dX11_offered_33 : decode cX11_offered 33 = .ok (.invokevirtual 281, 3) := by decide +kernel
theorem dX11_offered_36 : decode cX11_offered 36 = .ok (.ireturn, 1) := by decide +kernel
theorem dX11_ends_0 : decode cX11_ends 0 = .ok (.iload_n 1, 1) := by decide +kernel
theorem dX11_ends_1 : decode cX11_ends 1 = .ok (.invokestatic 284, 3) := by decide +kernel
theorem dX11_ends_4 : decode cX11_ends 4 = .ok (.ifCond .ne 9, 3) := by decide +kernel
theorem dX11_ends_7 : decode cX11_ends 7 = .ok (.aload_n 0, 1) := by decide +kernel
theorem dX11_ends_8 : decode cX11_ends 8 = .ok (.iconst (-1), 1) := by decide +kernel
theorem dX11_ends_9 : decode cX11_ends 9 = .ok (.invokevirtual 64, 3) := by decide +kernel
theorem dX11_ends_12 : decode cX11_ends 12 = .ok (.ireturn, 1) := by decide +kernel
theorem dX11_ends_13 : decode cX11_ends 13 = .ok (.iload_n 2, 1) := by decide +kernel
theorem dX11_ends_14 : decode cX11_ends 14 = .ok (.ifCond .lt 8, 3) := by decide +kernel
theorem dX11_ends_17 : decode cX11_ends 17 = .ok (.iload_n 3, 1) := by decide +kernel
theorem dX11_ends_18 : decode cX11_ends 18 = .ok (.iconst 1, 1) := by decide +kernel
theorem dX11_ends_19 : decode cX11_ends 19 = .ok (.if_icmp .ge 10, 3) := by decide +kernel
theorem dX11_ends_22 : decode cX11_ends 22 = .ok (.aload_n 0, 1) := by decide +kernel
theorem dX11_ends_23 : decode cX11_ends 23 = .ok (.bipush (-4), 2) := by decide +kernel
theorem dX11_ends_25 : decode cX11_ends 25 = .ok (.invokevirtual 64, 3) := by decide +kernel
theorem dX11_ends_28 : decode cX11_ends 28 = .ok (.ireturn, 1) := by decide +kernel
theorem dX11_ends_29 : decode cX11_ends 29 = .ok (.iload_n 2, 1) := by decide +kernel
theorem dX11_ends_30 : decode cX11_ends 30 = .ok (.sipush 3000, 3) := by decide +kernel
theorem dX11_ends_33 : decode cX11_ends 33 = .ok (.if_icmp .gt 22, 3) := by decide +kernel
theorem dX11_ends_36 : decode cX11_ends 36 = .ok (.iload_n 3, 1) := by decide +kernel
theorem dX11_ends_37 : decode cX11_ends 37 = .ok (.sipush 500, 3) := by decide +kernel
theorem dX11_ends_40 : decode cX11_ends 40 = .ok (.if_icmp .gt 15, 3) := by decide +kernel
theorem dX11_ends_43 : decode cX11_ends 43 = .ok (.aload_n 0, 1) := by decide +kernel
theorem dX11_ends_44 : decode cX11_ends 44 = .ok (.getfield 56, 3) := by decide +kernel
theorem dX11_ends_47 : decode cX11_ends 47 = .ok (.getfield 287, 3) := by decide +kernel
theorem dX11_ends_50 : decode cX11_ends 50 = .ok (.bipush 60, 2) := by decide +kernel
theorem dX11_ends_52 : decode cX11_ends 52 = .ok (.if_icmp .lt 10, 3) := by decide +kernel
theorem dX11_ends_55 : decode cX11_ends 55 = .ok (.aload_n 0, 1) := by decide +kernel
theorem dX11_ends_56 : decode cX11_ends 56 = .ok (.bipush (-6), 2) := by decide +kernel
theorem dX11_ends_58 : decode cX11_ends 58 = .ok (.invokevirtual 64, 3) := by decide +kernel
theorem dX11_ends_61 : decode cX11_ends 61 = .ok (.ireturn, 1) := by decide +kernel
theorem dX11_ends_62 : decode cX11_ends 62 = .ok (.aload_n 0, 1) := by decide +kernel
theorem dX11_ends_63 : decode cX11_ends 63 = .ok (.getfield 56, 3) := by decide +kernel
theorem dX11_ends_66 : decode cX11_ends 66 = .ok (.iload_n 1, 1) := by decide +kernel
theorem dX11_ends_67 : decode cX11_ends 67 = .ok (.iload_n 2, 1) := by decide +kernel
theorem dX11_ends_68 : decode cX11_ends 68 = .ok (.iload_n 3, 1) := by decide +kernel
theorem dX11_ends_69 : decode cX11_ends 69 = .ok (.invokevirtual 290, 3) := by decide +kernel
theorem dX11_ends_72 : decode cX11_ends 72 = .ok (.ireturn, 1) := by decide +kernel
theorem dX11_notice_0 : decode cX11_notice 0 = .ok (.iload_n 1, 1) := by decide +kernel
theorem dX11_notice_1 : decode cX11_notice 1 = .ok (.invokestatic 284, 3) := by decide +kernel
theorem dX11_notice_4 : decode cX11_notice 4 = .ok (.ifCond .ne 9, 3) := by decide +kernel
theorem dX11_notice_7 : decode cX11_notice 7 = .ok (.aload_n 0, 1) := by decide +kernel
theorem dX11_notice_8 : decode cX11_notice 8 = .ok (.iconst (-1), 1) := by decide +kernel
theorem dX11_notice_9 : decode cX11_notice 9 = .ok (.invokevirtual 64, 3) := by decide +kernel
theorem dX11_notice_12 : decode cX11_notice 12 = .ok (.ireturn, 1) := by decide +kernel
theorem dX11_notice_13 : decode cX11_notice 13 = .ok (.iload_n 2, 1) := by decide +kernel
theorem dX11_notice_14 : decode cX11_notice 14 = .ok (.ifCond .ge 10, 3) := by decide +kernel
theorem dX11_notice_17 : decode cX11_notice 17 = .ok (.aload_n 0, 1) := by decide +kernel
theorem dX11_notice_18 : decode cX11_notice 18 = .ok (.bipush (-4), 2) := by decide +kernel
theorem dX11_notice_20 : decode cX11_notice 20 = .ok (.invokevirtual 64, 3) := by decide +kernel
theorem dX11_notice_23 : decode cX11_notice 23 = .ok (.ireturn, 1) := by decide +kernel
theorem dX11_notice_24 : decode cX11_notice 24 = .ok (.iload_n 2, 1) := by decide +kernel
theorem dX11_notice_25 : decode cX11_notice 25 = .ok (.sipush 3000, 3) := by decide +kernel
theorem dX11_notice_28 : decode cX11_notice 28 = .ok (.if_icmp .le 10, 3) := by decide +kernel
theorem dX11_notice_31 : decode cX11_notice 31 = .ok (.aload_n 0, 1) := by decide +kernel
theorem dX11_notice_32 : decode cX11_notice 32 = .ok (.bipush (-6), 2) := by decide +kernel
theorem dX11_notice_34 : decode cX11_notice 34 = .ok (.invokevirtual 64, 3) := by decide +kernel
theorem dX11_notice_37 : decode cX11_notice 37 = .ok (.ireturn, 1) := by decide +kernel
theorem dX11_notice_38 : decode cX11_notice 38 = .ok (.aload_n 0, 1) := by decide +kernel
theorem dX11_notice_39 : decode cX11_notice 39 = .ok (.getfield 56, 3) := by decide +kernel
theorem dX11_notice_42 : decode cX11_notice 42 = .ok (.iload_n 1, 1) := by decide +kernel
theorem dX11_notice_43 : decode cX11_notice 43 = .ok (.iload_n 2, 1) := by decide +kernel
theorem dX11_notice_44 : decode cX11_notice 44 = .ok (.invokevirtual 294, 3) := by decide +kernel
theorem dX11_notice_47 : decode cX11_notice 47 = .ok (.invokestatic 297, 3) := by decide +kernel
theorem dX11_notice_50 : decode cX11_notice 50 = .ok (.invokestatic 300, 3) := by decide +kernel
theorem dX11_notice_53 : decode cX11_notice 53 = .ok (.ireturn, 1) := by decide +kernel
theorem dX11_weeks_0 : decode cX11_weeks 0 = .ok (.iload_n 1, 1) := by decide +kernel
theorem dX11_weeks_1 : decode cX11_weeks 1 = .ok (.invokestatic 284, 3) := by decide +kernel
theorem dX11_weeks_4 : decode cX11_weeks 4 = .ok (.ifCond .ne 9, 3) := by decide +kernel
theorem dX11_weeks_7 : decode cX11_weeks 7 = .ok (.aload_n 0, 1) := by decide +kernel
theorem dX11_weeks_8 : decode cX11_weeks 8 = .ok (.iconst (-1), 1) := by decide +kernel
theorem dX11_weeks_9 : decode cX11_weeks 9 = .ok (.invokevirtual 64, 3) := by decide +kernel
theorem dX11_weeks_12 : decode cX11_weeks 12 = .ok (.ireturn, 1) := by decide +kernel
theorem dX11_weeks_13 : decode cX11_weeks 13 = .ok (.iload_n 2, 1) := by decide +kernel
theorem dX11_weeks_14 : decode cX11_weeks 14 = .ok (.iload_n 3, 1) := by decide +kernel
theorem dX11_weeks_15 : decode cX11_weeks 15 = .ok (.iload 4, 2) := by decide +kernel
theorem dX11_weeks_17 : decode cX11_weeks 17 = .ok (.iload 5, 2) := by decide +kernel
theorem dX11_weeks_19 : decode cX11_weeks 19 = .ok (.invokestatic 303, 3) := by decide +kernel
theorem dX11_weeks_22 : decode cX11_weeks 22 = .ok (.istore 6, 2) := by decide +kernel
theorem dX11_weeks_24 : decode cX11_weeks 24 = .ok (.iload 6, 2) := by decide +kernel
theorem dX11_weeks_26 : decode cX11_weeks 26 = .ok (.ifCond .eq 10, 3) := by decide +kernel
theorem dX11_weeks_29 : decode cX11_weeks 29 = .ok (.aload_n 0, 1) := by decide +kernel
theorem dX11_weeks_30 : decode cX11_weeks 30 = .ok (.iload 6, 2) := by decide +kernel
theorem dX11_weeks_32 : decode cX11_weeks 32 = .ok (.invokevirtual 64, 3) := by decide +kernel
theorem dX11_weeks_35 : decode cX11_weeks 35 = .ok (.ireturn, 1) := by decide +kernel
theorem dX11_weeks_36 : decode cX11_weeks 36 = .ok (.aload_n 0, 1) := by decide +kernel
theorem dX11_weeks_37 : decode cX11_weeks 37 = .ok (.getfield 56, 3) := by decide +kernel
theorem dX11_weeks_40 : decode cX11_weeks 40 = .ok (.iload_n 1, 1) := by decide +kernel
theorem dX11_weeks_41 : decode cX11_weeks 41 = .ok (.aload_n 0, 1) := by decide +kernel
theorem dX11_weeks_42 : decode cX11_weeks 42 = .ok (.getfield 10, 3) := by decide +kernel
theorem dX11_weeks_45 : decode cX11_weeks 45 = .ok (.getfield 68, 3) := by decide +kernel
theorem dX11_weeks_48 : decode cX11_weeks 48 = .ok (.iload_n 2, 1) := by decide +kernel
theorem dX11_weeks_49 : decode cX11_weeks 49 = .ok (.iload_n 3, 1) := by decide +kernel
theorem dX11_weeks_50 : decode cX11_weeks 50 = .ok (.iload 4, 2) := by decide +kernel
theorem dX11_weeks_52 : decode cX11_weeks 52 = .ok (.invokevirtual 307, 3) := by decide +kernel
theorem dX11_weeks_55 : decode cX11_weeks 55 = .ok (.aload_n 0, 1) := by decide +kernel
theorem dX11_weeks_56 : decode cX11_weeks 56 = .ok (.getfield 56, 3) := by decide +kernel
theorem dX11_weeks_59 : decode cX11_weeks 59 = .ok (.invokevirtual 311, 3) := by decide +kernel
theorem dX11_weeks_62 : decode cX11_weeks 62 = .ok (.iload 5, 2) := by decide +kernel
theorem dX11_weeks_64 : decode cX11_weeks 64 = .ok (.imul, 1) := by decide +kernel
theorem dX11_weeks_65 : decode cX11_weeks 65 = .ok (.ireturn, 1) := by decide +kernel
theorem dX11_weekOf_0 : decode cX11_weekOf 0 = .ok (.iload_n 1, 1) := by decide +kernel
theorem dX11_weekOf_1 : decode cX11_weekOf 1 = .ok (.invokestatic 284, 3) := by decide +kernel
theorem dX11_weekOf_4 : decode cX11_weekOf 4 = .ok (.ifCond .eq 14, 3) := by decide +kernel
theorem dX11_weekOf_7 : decode cX11_weekOf 7 = .ok (.iload 6, 2) := by decide +kernel
theorem dX11_weekOf_9 : decode cX11_weekOf 9 = .ok (.ifCond .lt 9, 3) := by decide +kernel
theorem dX11_weekOf_12 : decode cX11_weekOf 12 = .ok (.iload 6, 2) := by decide +kernel
theorem dX11_weekOf_14 : decode cX11_weekOf 14 = .ok (.iload_n 3, 1) := by decide +kernel
theorem dX11_weekOf_15 : decode cX11_weekOf 15 = .ok (.if_icmp .lt 9, 3) := by decide +kernel
theorem dX11_weekOf_18 : decode cX11_weekOf 18 = .ok (.aload_n 0, 1) := by decide +kernel
theorem dX11_weekOf_19 : decode cX11_weekOf 19 = .ok (.iconst (-1), 1) := by decide +kernel
theorem dX11_weekOf_20 : decode cX11_weekOf 20 = .ok (.invokevirtual 64, 3) := by decide +kernel
theorem dX11_weekOf_23 : decode cX11_weekOf 23 = .ok (.ireturn, 1) := by decide +kernel
theorem dX11_weekOf_24 : decode cX11_weekOf 24 = .ok (.iload_n 2, 1) := by decide +kernel
theorem dX11_weekOf_25 : decode cX11_weekOf 25 = .ok (.iload_n 3, 1) := by decide +kernel
theorem dX11_weekOf_26 : decode cX11_weekOf 26 = .ok (.iload 4, 2) := by decide +kernel
theorem dX11_weekOf_28 : decode cX11_weekOf 28 = .ok (.iload 5, 2) := by decide +kernel
theorem dX11_weekOf_30 : decode cX11_weekOf 30 = .ok (.invokestatic 303, 3) := by decide +kernel
theorem dX11_weekOf_33 : decode cX11_weekOf 33 = .ok (.istore 7, 2) := by decide +kernel
theorem dX11_weekOf_35 : decode cX11_weekOf 35 = .ok (.iload 7, 2) := by decide +kernel
theorem dX11_weekOf_37 : decode cX11_weekOf 37 = .ok (.ifCond .eq 10, 3) := by decide +kernel
theorem dX11_weekOf_40 : decode cX11_weekOf 40 = .ok (.aload_n 0, 1) := by decide +kernel
theorem dX11_weekOf_41 : decode cX11_weekOf 41 = .ok (.iload 7, 2) := by decide +kernel
theorem dX11_weekOf_43 : decode cX11_weekOf 43 = .ok (.invokevirtual 64, 3) := by decide +kernel
theorem dX11_weekOf_46 : decode cX11_weekOf 46 = .ok (.ireturn, 1) := by decide +kernel
theorem dX11_weekOf_47 : decode cX11_weekOf 47 = .ok (.aload_n 0, 1) := by decide +kernel
theorem dX11_weekOf_48 : decode cX11_weekOf 48 = .ok (.getfield 56, 3) := by decide +kernel
theorem dX11_weekOf_51 : decode cX11_weekOf 51 = .ok (.iload_n 1, 1) := by decide +kernel
theorem dX11_weekOf_52 : decode cX11_weekOf 52 = .ok (.aload_n 0, 1) := by decide +kernel
theorem dX11_weekOf_53 : decode cX11_weekOf 53 = .ok (.getfield 10, 3) := by decide +kernel
theorem dX11_weekOf_56 : decode cX11_weekOf 56 = .ok (.getfield 68, 3) := by decide +kernel
theorem dX11_weekOf_59 : decode cX11_weekOf 59 = .ok (.iload_n 2, 1) := by decide +kernel
theorem dX11_weekOf_60 : decode cX11_weekOf 60 = .ok (.iload_n 3, 1) := by decide +kernel
theorem dX11_weekOf_61 : decode cX11_weekOf 61 = .ok (.iload 4, 2) := by decide +kernel
theorem dX11_weekOf_63 : decode cX11_weekOf 63 = .ok (.invokevirtual 307, 3) := by decide +kernel
theorem dX11_weekOf_66 : decode cX11_weekOf 66 = .ok (.aload_n 0, 1) := by decide +kernel
theorem dX11_weekOf_67 : decode cX11_weekOf 67 = .ok (.getfield 56, 3) := by decide +kernel
theorem dX11_weekOf_70 : decode cX11_weekOf 70 = .ok (.iload 6, 2) := by decide +kernel
theorem dX11_weekOf_72 : decode cX11_weekOf 72 = .ok (.invokevirtual 315, 3) := by decide +kernel
theorem dX11_weekOf_75 : decode cX11_weekOf 75 = .ok (.ireturn, 1) := by decide +kernel
theorem dX11_turning_0 : decode cX11_turning 0 = .ok (.aload_n 0, 1) := by decide +kernel
theorem dX11_turning_1 : decode cX11_turning 1 = .ok (.getfield 10, 3) := by decide +kernel
theorem dX11_turning_4 : decode cX11_turning 4 = .ok (.iload 4, 2) := by decide +kernel
theorem dX11_turning_6 : decode cX11_turning 6 = .ok (.invokevirtual 134, 3) := by decide +kernel
theorem dX11_turning_9 : decode cX11_turning 9 = .ok (.astore 6, 2) := by decide +kernel
theorem dX11_turning_11 : decode cX11_turning 11 = .ok (.aload 6, 2) := by decide +kernel
theorem dX11_turning_13 : decode cX11_turning 13 = .ok (.ifnull 15, 3) := by decide +kernel
theorem dX11_turning_16 : decode cX11_turning 16 = .ok (.aload_n 0, 1) := by decide +kernel
theorem dX11_turning_17 : decode cX11_turning 17 = .ok (.getfield 21, 3) := by decide +kernel
theorem dX11_turning_20 : decode cX11_turning 20 = .ok (.iload_n 1, 1) := by decide +kernel
theorem dX11_turning_21 : decode cX11_turning 21 = .ok (.iload_n 2, 1) := by decide +kernel
theorem dX11_turning_22 : decode cX11_turning 22 = .ok (.invokevirtual 206, 3) := by decide +kernel
theorem dX11_turning_25 : decode cX11_turning 25 = .ok (.ifCond .ne 9, 3) := by decide +kernel
theorem dX11_turning_28 : decode cX11_turning 28 = .ok (.aload_n 0, 1) := by decide +kernel
theorem dX11_turning_29 : decode cX11_turning 29 = .ok (.iconst (-1), 1) := by decide +kernel
theorem dX11_turning_30 : decode cX11_turning 30 = .ok (.invokevirtual 64, 3) := by decide +kernel
theorem dX11_turning_33 : decode cX11_turning 33 = .ok (.ireturn, 1) := by decide +kernel
theorem dX11_turning_34 : decode cX11_turning 34 = .ok (.aload_n 0, 1) := by decide +kernel
theorem dX11_turning_35 : decode cX11_turning 35 = .ok (.getfield 28, 3) := by decide +kernel
theorem dX11_turning_38 : decode cX11_turning 38 = .ok (.aload_n 0, 1) := by decide +kernel
theorem dX11_turning_39 : decode cX11_turning 39 = .ok (.getfield 21, 3) := by decide +kernel
theorem dX11_turning_42 : decode cX11_turning 42 = .ok (.invokevirtual 213, 3) := by decide +kernel
theorem dX11_turning_45 : decode cX11_turning 45 = .ok (.aload_n 0, 1) := by decide +kernel
theorem dX11_turning_46 : decode cX11_turning 46 = .ok (.getfield 28, 3) := by decide +kernel
theorem dX11_turning_49 : decode cX11_turning 49 = .ok (.aload 6, 2) := by decide +kernel
theorem dX11_turning_51 : decode cX11_turning 51 = .ok (.invokevirtual 318, 3) := by decide +kernel
theorem dX11_turning_54 : decode cX11_turning 54 = .ok (.istore 7, 2) := by decide +kernel
theorem dX11_turning_56 : decode cX11_turning 56 = .ok (.iload 7, 2) := by decide +kernel
theorem dX11_turning_58 : decode cX11_turning 58 = .ok (.ifCond .ge 9, 3) := by decide +kernel
theorem dX11_turning_61 : decode cX11_turning 61 = .ok (.aload_n 0, 1) := by decide +kernel
theorem dX11_turning_62 : decode cX11_turning 62 = .ok (.iconst (-1), 1) := by decide +kernel
theorem dX11_turning_63 : decode cX11_turning 63 = .ok (.invokevirtual 64, 3) := by decide +kernel
theorem dX11_turning_66 : decode cX11_turning 66 = .ok (.ireturn, 1) := by decide +kernel
theorem dX11_turning_67 : decode cX11_turning 67 = .ok (.iload 5, 2) := by decide +kernel
theorem dX11_turning_69 : decode cX11_turning 69 = .ok (.ifCond .lt 9, 3) := by decide +kernel
theorem dX11_turning_72 : decode cX11_turning 72 = .ok (.iload 5, 2) := by decide +kernel
theorem dX11_turning_74 : decode cX11_turning 74 = .ok (.iconst 4, 1) := by decide +kernel
theorem dX11_turning_75 : decode cX11_turning 75 = .ok (.if_icmp .lt 10, 3) := by decide +kernel
theorem dX11_turning_78 : decode cX11_turning 78 = .ok (.aload_n 0, 1) := by decide +kernel
theorem dX11_turning_79 : decode cX11_turning 79 = .ok (.bipush (-2), 2) := by decide +kernel
theorem dX11_turning_81 : decode cX11_turning 81 = .ok (.invokevirtual 64, 3) := by decide +kernel
theorem dX11_turning_84 : decode cX11_turning 84 = .ok (.ireturn, 1) := by decide +kernel
theorem dX11_turning_85 : decode cX11_turning 85 = .ok (.iload_n 3, 1) := by decide +kernel
theorem dX11_turning_86 : decode cX11_turning 86 = .ok (.invokestatic 210, 3) := by decide +kernel
theorem dX11_turning_89 : decode cX11_turning 89 = .ok (.istore 8, 2) := by decide +kernel
theorem dX11_turning_91 : decode cX11_turning 91 = .ok (.iload 8, 2) := by decide +kernel
theorem dX11_turning_93 : decode cX11_turning 93 = .ok (.ifCond .eq 10, 3) := by decide +kernel
theorem dX11_turning_96 : decode cX11_turning 96 = .ok (.aload_n 0, 1) := by decide +kernel
theorem dX11_turning_97 : decode cX11_turning 97 = .ok (.iload 8, 2) := by decide +kernel
theorem dX11_turning_99 : decode cX11_turning 99 = .ok (.invokevirtual 64, 3) := by decide +kernel
theorem dX11_turning_102 : decode cX11_turning 102 = .ok (.ireturn, 1) := by decide +kernel
theorem dX11_turning_103 : decode cX11_turning 103 = .ok (.aload_n 0, 1) := by decide +kernel
theorem dX11_turning_104 : decode cX11_turning 104 = .ok (.getfield 28, 3) := by decide +kernel
theorem dX11_turning_107 : decode cX11_turning 107 = .ok (.iload 7, 2) := by decide +kernel
theorem dX11_turning_109 : decode cX11_turning 109 = .ok (.iload_n 3, 1) := by decide +kernel
theorem dX11_turning_110 : decode cX11_turning 110 = .ok (.iload 5, 2) := by decide +kernel
theorem dX11_turning_112 : decode cX11_turning 112 = .ok (.invokevirtual 319, 3) := by decide +kernel
theorem dX11_turning_115 : decode cX11_turning 115 = .ok (.ireturn, 1) := by decide +kernel
theorem dX11_moved_0 : decode cX11_moved 0 = .ok (.aload_n 0, 1) := by decide +kernel
theorem dX11_moved_1 : decode cX11_moved 1 = .ok (.getfield 10, 3) := by decide +kernel
theorem dX11_moved_4 : decode cX11_moved 4 = .ok (.iload 4, 2) := by decide +kernel
theorem dX11_moved_6 : decode cX11_moved 6 = .ok (.invokevirtual 174, 3) := by decide +kernel
theorem dX11_moved_9 : decode cX11_moved 9 = .ok (.astore 6, 2) := by decide +kernel
theorem dX11_moved_11 : decode cX11_moved 11 = .ok (.aload 6, 2) := by decide +kernel
theorem dX11_moved_13 : decode cX11_moved 13 = .ok (.ifnull 15, 3) := by decide +kernel
theorem dX11_moved_16 : decode cX11_moved 16 = .ok (.aload_n 0, 1) := by decide +kernel
theorem dX11_moved_17 : decode cX11_moved 17 = .ok (.getfield 21, 3) := by decide +kernel
theorem dX11_moved_20 : decode cX11_moved 20 = .ok (.iload_n 1, 1) := by decide +kernel
theorem dX11_moved_21 : decode cX11_moved 21 = .ok (.iload_n 2, 1) := by decide +kernel
theorem dX11_moved_22 : decode cX11_moved 22 = .ok (.invokevirtual 206, 3) := by decide +kernel
theorem dX11_moved_25 : decode cX11_moved 25 = .ok (.ifCond .ne 9, 3) := by decide +kernel
theorem dX11_moved_28 : decode cX11_moved 28 = .ok (.aload_n 0, 1) := by decide +kernel
theorem dX11_moved_29 : decode cX11_moved 29 = .ok (.iconst (-1), 1) := by decide +kernel
theorem dX11_moved_30 : decode cX11_moved 30 = .ok (.invokevirtual 64, 3) := by decide +kernel
theorem dX11_moved_33 : decode cX11_moved 33 = .ok (.ireturn, 1) := by decide +kernel
theorem dX11_moved_34 : decode cX11_moved 34 = .ok (.iload_n 3, 1) := by decide +kernel
theorem dX11_moved_35 : decode cX11_moved 35 = .ok (.ifCond .lt 8, 3) := by decide +kernel
theorem dX11_moved_38 : decode cX11_moved 38 = .ok (.iload 5, 2) := by decide +kernel
theorem dX11_moved_40 : decode cX11_moved 40 = .ok (.ifCond .ge 10, 3) := by decide +kernel
theorem dX11_moved_43 : decode cX11_moved 43 = .ok (.aload_n 0, 1) := by decide +kernel
theorem dX11_moved_44 : decode cX11_moved 44 = .ok (.bipush (-4), 2) := by decide +kernel
theorem dX11_moved_46 : decode cX11_moved 46 = .ok (.invokevirtual 64, 3) := by decide +kernel
theorem dX11_moved_49 : decode cX11_moved 49 = .ok (.ireturn, 1) := by decide +kernel
theorem dX11_moved_50 : decode cX11_moved 50 = .ok (.iload_n 3, 1) := by decide +kernel
theorem dX11_moved_51 : decode cX11_moved 51 = .ok (.bipush 40, 2) := by decide +kernel
theorem dX11_moved_53 : decode cX11_moved 53 = .ok (.if_icmp .gt 16, 3) := by decide +kernel
theorem dX11_moved_56 : decode cX11_moved 56 = .ok (.iload 5, 2) := by decide +kernel
theorem dX11_moved_58 : decode cX11_moved 58 = .ok (.aload 6, 2) := by decide +kernel
theorem dX11_moved_60 : decode cX11_moved 60 = .ok (.getfield 178, 3) := by decide +kernel
theorem dX11_moved_63 : decode cX11_moved 63 = .ok (.invokestatic 164, 3) := by decide +kernel
theorem dX11_moved_66 : decode cX11_moved 66 = .ok (.if_icmp .le 10, 3) := by decide +kernel
theorem dX11_moved_69 : decode cX11_moved 69 = .ok (.aload_n 0, 1) := by decide +kernel
theorem dX11_moved_70 : decode cX11_moved 70 = .ok (.bipush (-6), 2) := by decide +kernel
theorem dX11_moved_72 : decode cX11_moved 72 = .ok (.invokevirtual 64, 3) := by decide +kernel
theorem dX11_moved_75 : decode cX11_moved 75 = .ok (.ireturn, 1) := by decide +kernel
theorem dX11_moved_76 : decode cX11_moved 76 = .ok (.aload_n 0, 1) := by decide +kernel
theorem dX11_moved_77 : decode cX11_moved 77 = .ok (.getfield 28, 3) := by decide +kernel
theorem dX11_moved_80 : decode cX11_moved 80 = .ok (.aload_n 0, 1) := by decide +kernel
theorem dX11_moved_81 : decode cX11_moved 81 = .ok (.getfield 21, 3) := by decide +kernel
theorem dX11_moved_84 : decode cX11_moved 84 = .ok (.invokevirtual 213, 3) := by decide +kernel
theorem dX11_moved_87 : decode cX11_moved 87 = .ok (.aload_n 0, 1) := by decide +kernel
theorem dX11_moved_88 : decode cX11_moved 88 = .ok (.getfield 28, 3) := by decide +kernel
theorem dX11_moved_91 : decode cX11_moved 91 = .ok (.iload_n 3, 1) := by decide +kernel
theorem dX11_moved_92 : decode cX11_moved 92 = .ok (.aload 6, 2) := by decide +kernel
theorem dX11_moved_94 : decode cX11_moved 94 = .ok (.iload 5, 2) := by decide +kernel
theorem dX11_moved_96 : decode cX11_moved 96 = .ok (.invokevirtual 322, 3) := by decide +kernel
theorem dX11_moved_99 : decode cX11_moved 99 = .ok (.ireturn, 1) := by decide +kernel
theorem dX11_back_0 : decode cX11_back 0 = .ok (.aload_n 0, 1) := by decide +kernel
theorem dX11_back_1 : decode cX11_back 1 = .ok (.getfield 10, 3) := by decide +kernel
theorem dX11_back_4 : decode cX11_back 4 = .ok (.iload_n 1, 1) := by decide +kernel
theorem dX11_back_5 : decode cX11_back 5 = .ok (.invokevirtual 94, 3) := by decide +kernel
theorem dX11_back_8 : decode cX11_back 8 = .ok (.astore_n 2, 1) := by decide +kernel
theorem dX11_back_9 : decode cX11_back 9 = .ok (.aload_n 2, 1) := by decide +kernel
theorem dX11_back_10 : decode cX11_back 10 = .ok (.ifnonnull 9, 3) := by decide +kernel
theorem dX11_back_13 : decode cX11_back 13 = .ok (.aload_n 0, 1) := by decide +kernel
theorem dX11_back_14 : decode cX11_back 14 = .ok (.iconst (-1), 1) := by decide +kernel
theorem dX11_back_15 : decode cX11_back 15 = .ok (.invokevirtual 64, 3) := by decide +kernel
theorem dX11_back_18 : decode cX11_back 18 = .ok (.ireturn, 1) := by decide +kernel
theorem dX11_back_19 : decode cX11_back 19 = .ok (.aload_n 2, 1) := by decide +kernel
theorem dX11_back_20 : decode cX11_back 20 = .ok (.invokevirtual 115, 3) := by decide +kernel
theorem dX11_back_23 : decode cX11_back 23 = .ok (.ifCond .ne 10, 3) := by decide +kernel
theorem dX11_back_26 : decode cX11_back 26 = .ok (.aload_n 0, 1) := by decide +kernel
theorem dX11_back_27 : decode cX11_back 27 = .ok (.bipush (-3), 2) := by decide +kernel
theorem dX11_back_29 : decode cX11_back 29 = .ok (.invokevirtual 64, 3) := by decide +kernel
theorem dX11_back_32 : decode cX11_back 32 = .ok (.ireturn, 1) := by decide +kernel
theorem dX11_back_33 : decode cX11_back 33 = .ok (.aload_n 0, 1) := by decide +kernel
theorem dX11_back_34 : decode cX11_back 34 = .ok (.getfield 10, 3) := by decide +kernel
theorem dX11_back_37 : decode cX11_back 37 = .ok (.aload_n 2, 1) := by decide +kernel
theorem dX11_back_38 : decode cX11_back 38 = .ok (.invokevirtual 326, 3) := by decide +kernel
theorem dX11_back_41 : decode cX11_back 41 = .ok (.astore_n 3, 1) := by decide +kernel
theorem dX11_back_42 : decode cX11_back 42 = .ok (.aload_n 3, 1) := by decide +kernel
theorem dX11_back_43 : decode cX11_back 43 = .ok (.ifnonnull 8, 3) := by decide +kernel
theorem dX11_back_46 : decode cX11_back 46 = .ok (.bipush (-9), 2) := by decide +kernel
theorem dX11_back_48 : decode cX11_back 48 = .ok (.goto 7, 3) := by decide +kernel
theorem dX11_back_51 : decode cX11_back 51 = .ok (.aload_n 3, 1) := by decide +kernel
theorem dX11_back_52 : decode cX11_back 52 = .ok (.getfield 330, 3) := by decide +kernel
theorem dX11_back_55 : decode cX11_back 55 = .ok (.ireturn, 1) := by decide +kernel
theorem dX11_count_0 : decode cX11_count 0 = .ok (.iload_n 1, 1) := by decide +kernel
theorem dX11_count_1 : decode cX11_count 1 = .ok (.tableswitch 147 0 10 #[59, 67, 75, 83, 91, 99, 107, 115, 123, 131, 139], 59) := by decide +kernel
theorem dX11_count_60 : decode cX11_count 60 = .ok (.aload_n 0, 1) := by decide +kernel
theorem dX11_count_61 : decode cX11_count 61 = .ok (.getfield 10, 3) := by decide +kernel
theorem dX11_count_64 : decode cX11_count 64 = .ok (.getfield 68, 3) := by decide +kernel
theorem dX11_count_67 : decode cX11_count 67 = .ok (.ireturn, 1) := by decide +kernel
theorem dX11_count_68 : decode cX11_count 68 = .ok (.aload_n 0, 1) := by decide +kernel
theorem dX11_count_69 : decode cX11_count 69 = .ok (.getfield 10, 3) := by decide +kernel
theorem dX11_count_72 : decode cX11_count 72 = .ok (.getfield 76, 3) := by decide +kernel
theorem dX11_count_75 : decode cX11_count 75 = .ok (.ireturn, 1) := by decide +kernel
theorem dX11_count_76 : decode cX11_count 76 = .ok (.aload_n 0, 1) := by decide +kernel
theorem dX11_count_77 : decode cX11_count 77 = .ok (.getfield 10, 3) := by decide +kernel
theorem dX11_count_80 : decode cX11_count 80 = .ok (.getfield 82, 3) := by decide +kernel
theorem dX11_count_83 : decode cX11_count 83 = .ok (.ireturn, 1) := by decide +kernel
theorem dX11_count_84 : decode cX11_count 84 = .ok (.aload_n 0, 1) := by decide +kernel
theorem dX11_count_85 : decode cX11_count 85 = .ok (.getfield 10, 3) := by decide +kernel
theorem dX11_count_88 : decode cX11_count 88 = .ok (.invokevirtual 331, 3) := by decide +kernel
theorem dX11_count_91 : decode cX11_count 91 = .ok (.ireturn, 1) := by decide +kernel
theorem dX11_count_92 : decode cX11_count 92 = .ok (.aload_n 0, 1) := by decide +kernel
theorem dX11_count_93 : decode cX11_count 93 = .ok (.getfield 10, 3) := by decide +kernel
theorem dX11_count_96 : decode cX11_count 96 = .ok (.invokevirtual 334, 3) := by decide +kernel
theorem dX11_count_99 : decode cX11_count 99 = .ok (.ireturn, 1) := by decide +kernel
theorem dX11_count_100 : decode cX11_count 100 = .ok (.aload_n 0, 1) := by decide +kernel
theorem dX11_count_101 : decode cX11_count 101 = .ok (.getfield 10, 3) := by decide +kernel
theorem dX11_count_104 : decode cX11_count 104 = .ok (.getfield 118, 3) := by decide +kernel
theorem dX11_count_107 : decode cX11_count 107 = .ok (.ireturn, 1) := by decide +kernel
theorem dX11_count_108 : decode cX11_count 108 = .ok (.aload_n 0, 1) := by decide +kernel
theorem dX11_count_109 : decode cX11_count 109 = .ok (.getfield 10, 3) := by decide +kernel
theorem dX11_count_112 : decode cX11_count 112 = .ok (.invokevirtual 337, 3) := by decide +kernel
theorem dX11_count_115 : decode cX11_count 115 = .ok (.ireturn, 1) := by decide +kernel
theorem dX11_count_116 : decode cX11_count 116 = .ok (.aload_n 0, 1) := by decide +kernel
theorem dX11_count_117 : decode cX11_count 117 = .ok (.getfield 10, 3) := by decide +kernel
theorem dX11_count_120 : decode cX11_count 120 = .ok (.getfield 167, 3) := by decide +kernel
theorem dX11_count_123 : decode cX11_count 123 = .ok (.ireturn, 1) := by decide +kernel
theorem dX11_count_124 : decode cX11_count 124 = .ok (.aload_n 0, 1) := by decide +kernel
theorem dX11_count_125 : decode cX11_count 125 = .ok (.getfield 10, 3) := by decide +kernel
theorem dX11_count_128 : decode cX11_count 128 = .ok (.getfield 183, 3) := by decide +kernel
theorem dX11_count_131 : decode cX11_count 131 = .ok (.ireturn, 1) := by decide +kernel
theorem dX11_count_132 : decode cX11_count 132 = .ok (.aload_n 0, 1) := by decide +kernel
theorem dX11_count_133 : decode cX11_count 133 = .ok (.getfield 10, 3) := by decide +kernel
theorem dX11_count_136 : decode cX11_count 136 = .ok (.invokevirtual 340, 3) := by decide +kernel
theorem dX11_count_139 : decode cX11_count 139 = .ok (.ireturn, 1) := by decide +kernel
theorem dX11_count_140 : decode cX11_count 140 = .ok (.aload_n 0, 1) := by decide +kernel
theorem dX11_count_141 : decode cX11_count 141 = .ok (.getfield 49, 3) := by decide +kernel
theorem dX11_count_144 : decode cX11_count 144 = .ok (.getfield 265, 3) := by decide +kernel
theorem dX11_count_147 : decode cX11_count 147 = .ok (.ireturn, 1) := by decide +kernel
theorem dX11_count_148 : decode cX11_count 148 = .ok (.aload_n 0, 1) := by decide +kernel
theorem dX11_count_149 : decode cX11_count 149 = .ok (.iload_n 1, 1) := by decide +kernel
theorem dX11_count_150 : decode cX11_count 150 = .ok (.bipush 10, 2) := by decide +kernel
theorem dX11_count_152 : decode cX11_count 152 = .ok (.isub, 1) := by decide +kernel
theorem dX11_count_153 : decode cX11_count 153 = .ok (.invokevirtual 343, 3) := by decide +kernel
theorem dX11_count_156 : decode cX11_count 156 = .ok (.ireturn, 1) := by decide +kernel
theorem dX11_refuse_0 : decode cX11_refuse 0 = .ok (.iload_n 1, 1) := by decide +kernel
theorem dX11_refuse_1 : decode cX11_refuse 1 = .ok (.ineg, 1) := by decide +kernel
theorem dX11_refuse_2 : decode cX11_refuse 2 = .ok (.istore_n 2, 1) := by decide +kernel
theorem dX11_refuse_3 : decode cX11_refuse 3 = .ok (.iload_n 2, 1) := by decide +kernel
theorem dX11_refuse_4 : decode cX11_refuse 4 = .ok (.iconst 1, 1) := by decide +kernel
theorem dX11_refuse_5 : decode cX11_refuse 5 = .ok (.if_icmp .lt 19, 3) := by decide +kernel
theorem dX11_refuse_8 : decode cX11_refuse 8 = .ok (.iload_n 2, 1) := by decide +kernel
theorem dX11_refuse_9 : decode cX11_refuse 9 = .ok (.bipush 6, 2) := by decide +kernel
theorem dX11_refuse_11 : decode cX11_refuse 11 = .ok (.if_icmp .gt 13, 3) := by decide +kernel
theorem dX11_refuse_14 : decode cX11_refuse 14 = .ok (.aload_n 0, 1) := by decide +kernel
theorem dX11_refuse_15 : decode cX11_refuse 15 = .ok (.getfield 60, 3) := by decide +kernel
theorem dX11_refuse_18 : decode cX11_refuse 18 = .ok (.iload_n 2, 1) := by decide +kernel
theorem dX11_refuse_19 : decode cX11_refuse 19 = .ok (.dup2, 1) := by decide +kernel
theorem dX11_refuse_20 : decode cX11_refuse 20 = .ok (.iaload, 1) := by decide +kernel
theorem dX11_refuse_21 : decode cX11_refuse 21 = .ok (.iconst 1, 1) := by decide +kernel
theorem dX11_refuse_22 : decode cX11_refuse 22 = .ok (.iadd, 1) := by decide +kernel
theorem dX11_refuse_23 : decode cX11_refuse 23 = .ok (.iastore, 1) := by decide +kernel
theorem dX11_refuse_24 : decode cX11_refuse 24 = .ok (.iload_n 1, 1) := by decide +kernel
theorem dX11_refuse_25 : decode cX11_refuse 25 = .ok (.ireturn, 1) := by decide +kernel
theorem dX11_refuseFar_0 : decode cX11_refuseFar 0 = .ok (.ldc_w 346, 3) := by decide +kernel
theorem dX11_refuseFar_3 : decode cX11_refuseFar 3 = .ok (.aload_n 0, 1) := by decide +kernel
theorem dX11_refuseFar_4 : decode cX11_refuseFar 4 = .ok (.iload_n 1, 1) := by decide +kernel
theorem dX11_refuseFar_5 : decode cX11_refuseFar 5 = .ok (.invokevirtual 64, 3) := by decide +kernel
theorem dX11_refuseFar_8 : decode cX11_refuseFar 8 = .ok (.isub, 1) := by decide +kernel
theorem dX11_refuseFar_9 : decode cX11_refuseFar 9 = .ok (.ireturn, 1) := by decide +kernel
theorem dX11_refusalsOf_0 : decode cX11_refusalsOf 0 = .ok (.iload_n 1, 1) := by decide +kernel
theorem dX11_refusalsOf_1 : decode cX11_refusalsOf 1 = .ok (.iconst 1, 1) := by decide +kernel
theorem dX11_refusalsOf_2 : decode cX11_refusalsOf 2 = .ok (.if_icmp .lt 18, 3) := by decide +kernel
theorem dX11_refusalsOf_5 : decode cX11_refusalsOf 5 = .ok (.iload_n 1, 1) := by decide +kernel
theorem dX11_refusalsOf_6 : decode cX11_refusalsOf 6 = .ok (.bipush 6, 2) := by decide +kernel
theorem dX11_refusalsOf_8 : decode cX11_refusalsOf 8 = .ok (.if_icmp .gt 12, 3) := by decide +kernel
theorem dX11_refusalsOf_11 : decode cX11_refusalsOf 11 = .ok (.aload_n 0, 1) := by decide +kernel
theorem dX11_refusalsOf_12 : decode cX11_refusalsOf 12 = .ok (.getfield 60, 3) := by decide +kernel
theorem dX11_refusalsOf_15 : decode cX11_refusalsOf 15 = .ok (.iload_n 1, 1) := by decide +kernel
theorem dX11_refusalsOf_16 : decode cX11_refusalsOf 16 = .ok (.iaload, 1) := by decide +kernel
theorem dX11_refusalsOf_17 : decode cX11_refusalsOf 17 = .ok (.goto 5, 3) := by decide +kernel
theorem dX11_refusalsOf_20 : decode cX11_refusalsOf 20 = .ok (.bipush (-9), 2) := by decide +kernel
theorem dX11_refusalsOf_22 : decode cX11_refusalsOf 22 = .ok (.ireturn, 1) := by decide +kernel
theorem dX11_refusalOfNumber_0 : decode cX11_refusalOfNumber 0 = .ok (.iload_n 0, 1) := by decide +kernel
theorem dX11_refusalOfNumber_1 : decode cX11_refusalOfNumber 1 = .ok (.ifCond .ge 6, 3) := by decide +kernel
theorem dX11_refusalOfNumber_4 : decode cX11_refusalOfNumber 4 = .ok (.bipush (-4), 2) := by decide +kernel
theorem dX11_refusalOfNumber_6 : decode cX11_refusalOfNumber 6 = .ok (.ireturn, 1) := by decide +kernel
theorem dX11_refusalOfNumber_7 : decode cX11_refusalOfNumber 7 = .ok (.iload_n 0, 1) := by decide +kernel
theorem dX11_refusalOfNumber_8 : decode cX11_refusalOfNumber 8 = .ok (.bipush 40, 2) := by decide +kernel
theorem dX11_refusalOfNumber_10 : decode cX11_refusalOfNumber 10 = .ok (.if_icmp .le 8, 3) := by decide +kernel
theorem dX11_refusalOfNumber_13 : decode cX11_refusalOfNumber 13 = .ok (.bipush (-6), 2) := by decide +kernel
theorem dX11_refusalOfNumber_15 : decode cX11_refusalOfNumber 15 = .ok (.goto 4, 3) := by decide +kernel
theorem dX11_refusalOfNumber_18 : decode cX11_refusalOfNumber 18 = .ok (.iconst 0, 1) := by decide +kernel
theorem dX11_refusalOfNumber_19 : decode cX11_refusalOfNumber 19 = .ok (.ireturn, 1) := by decide +kernel
theorem dX11_refusalOfChoice_0 : decode cX11_refusalOfChoice 0 = .ok (.iload_n 1, 1) := by decide +kernel
theorem dX11_refusalOfChoice_1 : decode cX11_refusalOfChoice 1 = .ok (.ifCond .ge 6, 3) := by decide +kernel
theorem dX11_refusalOfChoice_4 : decode cX11_refusalOfChoice 4 = .ok (.bipush (-4), 2) := by decide +kernel
theorem dX11_refusalOfChoice_6 : decode cX11_refusalOfChoice 6 = .ok (.ireturn, 1) := by decide +kernel
theorem dX11_refusalOfChoice_7 : decode cX11_refusalOfChoice 7 = .ok (.aload_n 0, 1) := by decide +kernel
theorem dX11_refusalOfChoice_8 : decode cX11_refusalOfChoice 8 = .ok (.getfield 21, 3) := by decide +kernel
theorem dX11_refusalOfChoice_11 : decode cX11_refusalOfChoice 11 = .ok (.getfield 347, 3) := by decide +kernel
theorem dX11_refusalOfChoice_14 : decode cX11_refusalOfChoice 14 = .ok (.bipush 12, 2) := by decide +kernel
theorem dX11_refusalOfChoice_16 : decode cX11_refusalOfChoice 16 = .ok (.if_icmp .gt 14, 3) := by decide +kernel
theorem dX11_refusalOfChoice_19 : decode cX11_refusalOfChoice 19 = .ok (.iload_n 1, 1) := by decide +kernel
theorem dX11_refusalOfChoice_20 : decode cX11_refusalOfChoice 20 = .ok (.aload_n 0, 1) := by decide +kernel
theorem dX11_refusalOfChoice_21 : decode cX11_refusalOfChoice 21 = .ok (.getfield 21, 3) := by decide +kernel
theorem dX11_refusalOfChoice_24 : decode cX11_refusalOfChoice 24 = .ok (.getfield 347, 3) := by decide +kernel
theorem dX11_refusalOfChoice_27 : decode cX11_refusalOfChoice 27 = .ok (.if_icmp .le 8, 3) := by decide +kernel
theorem dX11_refusalOfChoice_30 : decode cX11_refusalOfChoice 30 = .ok (.bipush (-6), 2) := by decide +kernel
theorem dX11_refusalOfChoice_32 : decode cX11_refusalOfChoice 32 = .ok (.goto 4, 3) := by decide +kernel
theorem dX11_refusalOfChoice_35 : decode cX11_refusalOfChoice 35 = .ok (.iconst 0, 1) := by decide +kernel
theorem dX11_refusalOfChoice_36 : decode cX11_refusalOfChoice 36 = .ok (.ireturn, 1) := by decide +kernel
theorem dX11_refusalOfParting_0 : decode cX11_refusalOfParting 0 = .ok (.iload_n 0, 1) := by decide +kernel
theorem dX11_refusalOfParting_1 : decode cX11_refusalOfParting 1 = .ok (.iconst 1, 1) := by decide +kernel
theorem dX11_refusalOfParting_2 : decode cX11_refusalOfParting 2 = .ok (.if_icmp .lt 18, 3) := by decide +kernel
theorem dX11_refusalOfParting_5 : decode cX11_refusalOfParting 5 = .ok (.iload_n 1, 1) := by decide +kernel
theorem dX11_refusalOfParting_6 : decode cX11_refusalOfParting 6 = .ok (.iconst 1, 1) := by decide +kernel
theorem dX11_refusalOfParting_7 : decode cX11_refusalOfParting 7 = .ok (.if_icmp .lt 13, 3) := by decide +kernel
theorem dX11_refusalOfParting_10 : decode cX11_refusalOfParting 10 = .ok (.iload_n 2, 1) := by decide +kernel
theorem dX11_refusalOfParting_11 : decode cX11_refusalOfParting 11 = .ok (.iconst 1, 1) := by decide +kernel
theorem dX11_refusalOfParting_12 : decode cX11_refusalOfParting 12 = .ok (.if_icmp .lt 8, 3) := by decide +kernel
theorem dX11_refusalOfParting_15 : decode cX11_refusalOfParting 15 = .ok (.iload_n 3, 1) := by decide +kernel
theorem dX11_refusalOfParting_16 : decode cX11_refusalOfParting 16 = .ok (.iconst 1, 1) := by decide +kernel
theorem dX11_refusalOfParting_17 : decode cX11_refusalOfParting 17 = .ok (.if_icmp .ge 6, 3) := by decide +kernel
theorem dX11_refusalOfParting_20 : decode cX11_refusalOfParting 20 = .ok (.bipush (-4), 2) := by decide +kernel
theorem dX11_refusalOfParting_22 : decode cX11_refusalOfParting 22 = .ok (.ireturn, 1) := by decide +kernel
theorem dX11_refusalOfParting_23 : decode cX11_refusalOfParting 23 = .ok (.iload_n 0, 1) := by decide +kernel
theorem dX11_refusalOfParting_24 : decode cX11_refusalOfParting 24 = .ok (.sipush 200, 3) := by decide +kernel
theorem dX11_refusalOfParting_27 : decode cX11_refusalOfParting 27 = .ok (.if_icmp .gt 22, 3) := by decide +kernel
theorem dX11_refusalOfParting_30 : decode cX11_refusalOfParting 30 = .ok (.iload_n 1, 1) := by decide +kernel
theorem dX11_refusalOfParting_31 : decode cX11_refusalOfParting 31 = .ok (.bipush 6, 2) := by decide +kernel
theorem dX11_refusalOfParting_33 : decode cX11_refusalOfParting 33 = .ok (.if_icmp .gt 16, 3) := by decide +kernel
theorem dX11_refusalOfParting_36 : decode cX11_refusalOfParting 36 = .ok (.iload_n 2, 1) := by decide +kernel
theorem dX11_refusalOfParting_37 : decode cX11_refusalOfParting 37 = .ok (.bipush 50, 2) := by decide +kernel
theorem dX11_refusalOfParting_39 : decode cX11_refusalOfParting 39 = .ok (.if_icmp .gt 10, 3) := by decide +kernel
theorem dX11_refusalOfParting_42 : decode cX11_refusalOfParting 42 = .ok (.iload_n 3, 1) := by decide +kernel
theorem dX11_refusalOfParting_43 : decode cX11_refusalOfParting 43 = .ok (.sipush 9999, 3) := by decide +kernel
theorem dX11_refusalOfParting_46 : decode cX11_refusalOfParting 46 = .ok (.if_icmp .le 8, 3) := by decide +kernel
theorem dX11_refusalOfParting_49 : decode cX11_refusalOfParting 49 = .ok (.bipush (-6), 2) := by decide +kernel
theorem dX11_refusalOfParting_51 : decode cX11_refusalOfParting 51 = .ok (.goto 4, 3) := by decide +kernel
theorem dX11_refusalOfParting_54 : decode cX11_refusalOfParting 54 = .ok (.iconst 0, 1) := by decide +kernel
theorem dX11_refusalOfParting_55 : decode cX11_refusalOfParting 55 = .ok (.ireturn, 1) := by decide +kernel
theorem dX11_isPlace_0 : decode cX11_isPlace 0 = .ok (.iload_n 0, 1) := by decide +kernel
theorem dX11_isPlace_1 : decode cX11_isPlace 1 = .ok (.ifCond .lt 12, 3) := by decide +kernel
theorem dX11_isPlace_4 : decode cX11_isPlace 4 = .ok (.iload_n 0, 1) := by decide +kernel
theorem dX11_isPlace_5 : decode cX11_isPlace 5 = .ok (.iconst 4, 1) := by decide +kernel
theorem dX11_isPlace_6 : decode cX11_isPlace 6 = .ok (.if_icmp .ge 7, 3) := by decide +kernel
theorem dX11_isPlace_9 : decode cX11_isPlace 9 = .ok (.iconst 1, 1) := by decide +kernel
theorem dX11_isPlace_10 : decode cX11_isPlace 10 = .ok (.goto 4, 3) := by decide +kernel
theorem dX11_isPlace_13 : decode cX11_isPlace 13 = .ok (.iconst 0, 1) := by decide +kernel
theorem dX11_isPlace_14 : decode cX11_isPlace 14 = .ok (.ireturn, 1) := by decide +kernel
theorem dX11_mostTold_0 : decode cX11_mostTold 0 = .ok (.iload_n 0, 1) := by decide +kernel
theorem dX11_mostTold_1 : decode cX11_mostTold 1 = .ok (.ifCond .ne 8, 3) := by decide +kernel
theorem dX11_mostTold_4 : decode cX11_mostTold 4 = .ok (.bipush 100, 2) := by decide +kernel
theorem dX11_mostTold_6 : decode cX11_mostTold 6 = .ok (.goto 5, 3) := by decide +kernel
theorem dX11_mostTold_9 : decode cX11_mostTold 9 = .ok (.bipush 9, 2) := by decide +kernel
theorem dX11_mostTold_11 : decode cX11_mostTold 11 = .ok (.ireturn, 1) := by decide +kernel
theorem dX11_bandOf_0 : decode cX11_bandOf 0 = .ok (.iconst 0, 1) := by decide +kernel
theorem dX11_bandOf_1 : decode cX11_bandOf 1 = .ok (.istore_n 1, 1) := by decide +kernel
theorem dX11_bandOf_2 : decode cX11_bandOf 2 = .ok (.iconst 1, 1) := by decide +kernel
theorem dX11_bandOf_3 : decode cX11_bandOf 3 = .ok (.istore_n 2, 1) := by decide +kernel
theorem dX11_bandOf_4 : decode cX11_bandOf 4 = .ok (.iload_n 2, 1) := by decide +kernel
theorem dX11_bandOf_5 : decode cX11_bandOf 5 = .ok (.iconst 3, 1) := by decide +kernel
theorem dX11_bandOf_6 : decode cX11_bandOf 6 = .ok (.if_icmp .ge 20, 3) := by decide +kernel
theorem dX11_bandOf_9 : decode cX11_bandOf 9 = .ok (.iload_n 0, 1) := by decide +kernel
theorem dX11_bandOf_10 : decode cX11_bandOf 10 = .ok (.getstatic 350, 3) := by decide +kernel
theorem dX11_bandOf_13 : decode cX11_bandOf 13 = .ok (.iload_n 2, 1) := by decide +kernel
theorem dX11_bandOf_14 : decode cX11_bandOf 14 = .ok (.iaload, 1) := by decide +kernel
theorem dX11_bandOf_15 : decode cX11_bandOf 15 = .ok (.if_icmp .lt 5, 3) := by decide +kernel
theorem dX11_bandOf_18 : decode cX11_bandOf 18 = .ok (.iload_n 2, 1) := by decide +kernel
theorem dX11_bandOf_19 : decode cX11_bandOf 19 = .ok (.istore_n 1, 1) := by decide +kernel
theorem dX11_bandOf_20 : decode cX11_bandOf 20 = .ok (.iinc 2 1, 3) := by decide +kernel
theorem dX11_bandOf_23 : decode cX11_bandOf 23 = .ok (.goto (-19), 3) := by decide +kernel
theorem dX11_bandOf_26 : decode cX11_bandOf 26 = .ok (.iload_n 1, 1) := by decide +kernel
theorem dX11_bandOf_27 : decode cX11_bandOf 27 = .ok (.ireturn, 1) := by decide +kernel
theorem dX11_noticeOf_0 : decode cX11_noticeOf 0 = .ok (.iload_n 0, 1) := by decide +kernel
theorem dX11_noticeOf_1 : decode cX11_noticeOf 1 = .ok (.ifCond .lt 16, 3) := by decide +kernel
theorem dX11_noticeOf_4 : decode cX11_noticeOf 4 = .ok (.iload_n 0, 1) := by decide +kernel
theorem dX11_noticeOf_5 : decode cX11_noticeOf 5 = .ok (.iconst 3, 1) := by decide +kernel
theorem dX11_noticeOf_6 : decode cX11_noticeOf 6 = .ok (.if_icmp .ge 11, 3) := by decide +kernel
theorem dX11_noticeOf_9 : decode cX11_noticeOf 9 = .ok (.getstatic 353, 3) := by decide +kernel
theorem dX11_noticeOf_12 : decode cX11_noticeOf 12 = .ok (.iload_n 0, 1) := by decide +kernel
theorem dX11_noticeOf_13 : decode cX11_noticeOf 13 = .ok (.iaload, 1) := by decide +kernel
theorem dX11_noticeOf_14 : decode cX11_noticeOf 14 = .ok (.goto 4, 3) := by decide +kernel
theorem dX11_noticeOf_17 : decode cX11_noticeOf 17 = .ok (.iconst 0, 1) := by decide +kernel
theorem dX11_noticeOf_18 : decode cX11_noticeOf 18 = .ok (.ireturn, 1) := by decide +kernel
theorem dX11_skillFor_0 : decode cX11_skillFor 0 = .ok (.aload_n 1, 1) := by decide +kernel
theorem dX11_skillFor_1 : decode cX11_skillFor 1 = .ok (.getfield 356, 3) := by decide +kernel
theorem dX11_skillFor_4 : decode cX11_skillFor 4 = .ok (.invokestatic 359, 3) := by decide +kernel
theorem dX11_skillFor_7 : decode cX11_skillFor 7 = .ok (.istore_n 2, 1) := by decide +kernel
theorem dX11_skillFor_8 : decode cX11_skillFor 8 = .ok (.iload_n 2, 1) := by decide +kernel
theorem dX11_skillFor_9 : decode cX11_skillFor 9 = .ok (.ifCond .ne 6, 3) := by decide +kernel
theorem dX11_skillFor_12 : decode cX11_skillFor 12 = .ok (.bipush 100, 2) := by decide +kernel
theorem dX11_skillFor_14 : decode cX11_skillFor 14 = .ok (.ireturn, 1) := by decide +kernel
theorem dX11_skillFor_15 : decode cX11_skillFor 15 = .ok (.bipush 100, 2) := by decide +kernel
theorem dX11_skillFor_17 : decode cX11_skillFor 17 = .ok (.aload_n 0, 1) := by decide +kernel
theorem dX11_skillFor_18 : decode cX11_skillFor 18 = .ok (.getfield 364, 3) := by decide +kernel
theorem dX11_skillFor_21 : decode cX11_skillFor 21 = .ok (.aload_n 1, 1) := by decide +kernel
theorem dX11_skillFor_22 : decode cX11_skillFor 22 = .ok (.getfield 356, 3) := by decide +kernel
theorem dX11_skillFor_25 : decode cX11_skillFor 25 = .ok (.iand, 1) := by decide +kernel
theorem dX11_skillFor_26 : decode cX11_skillFor 26 = .ok (.invokestatic 359, 3) := by decide +kernel
theorem dX11_skillFor_29 : decode cX11_skillFor 29 = .ok (.imul, 1) := by decide +kernel
theorem dX11_skillFor_30 : decode cX11_skillFor 30 = .ok (.iload_n 2, 1) := by decide +kernel
theorem dX11_skillFor_31 : decode cX11_skillFor 31 = .ok (.idiv, 1) := by decide +kernel
theorem dX11_skillFor_32 : decode cX11_skillFor 32 = .ok (.ireturn, 1) := by decide +kernel
theorem dJ6_bitCount_0f7a4_0 : decode cJ6_bitCount_0f7a4 0 = .ok (.iload_n 0, 1) := by decide +kernel
theorem dJ6_bitCount_0f7a4_1 : decode cJ6_bitCount_0f7a4 1 = .ok (.iload_n 0, 1) := by decide +kernel
theorem dJ6_bitCount_0f7a4_2 : decode cJ6_bitCount_0f7a4 2 = .ok (.iconst 1, 1) := by decide +kernel
theorem dJ6_bitCount_0f7a4_3 : decode cJ6_bitCount_0f7a4 3 = .ok (.iushr, 1) := by decide +kernel
theorem dJ6_bitCount_0f7a4_4 : decode cJ6_bitCount_0f7a4 4 = .ok (.ldc_w 265, 3) := by decide +kernel
theorem dJ6_bitCount_0f7a4_7 : decode cJ6_bitCount_0f7a4 7 = .ok (.iand, 1) := by decide +kernel
theorem dJ6_bitCount_0f7a4_8 : decode cJ6_bitCount_0f7a4 8 = .ok (.isub, 1) := by decide +kernel
theorem dJ6_bitCount_0f7a4_9 : decode cJ6_bitCount_0f7a4 9 = .ok (.istore_n 0, 1) := by decide +kernel
theorem dJ6_bitCount_0f7a4_10 : decode cJ6_bitCount_0f7a4 10 = .ok (.iload_n 0, 1) := by decide +kernel
theorem dJ6_bitCount_0f7a4_11 : decode cJ6_bitCount_0f7a4 11 = .ok (.ldc_w 266, 3) := by decide +kernel
theorem dJ6_bitCount_0f7a4_14 : decode cJ6_bitCount_0f7a4 14 = .ok (.iand, 1) := by decide +kernel
theorem dJ6_bitCount_0f7a4_15 : decode cJ6_bitCount_0f7a4 15 = .ok (.iload_n 0, 1) := by decide +kernel
theorem dJ6_bitCount_0f7a4_16 : decode cJ6_bitCount_0f7a4 16 = .ok (.iconst 2, 1) := by decide +kernel
theorem dJ6_bitCount_0f7a4_17 : decode cJ6_bitCount_0f7a4 17 = .ok (.iushr, 1) := by decide +kernel
theorem dJ6_bitCount_0f7a4_18 : decode cJ6_bitCount_0f7a4 18 = .ok (.ldc_w 266, 3) := by decide +kernel
theorem dJ6_bitCount_0f7a4_21 : decode cJ6_bitCount_0f7a4 21 = .ok (.iand, 1) := by decide +kernel
theorem dJ6_bitCount_0f7a4_22 : decode cJ6_bitCount_0f7a4 22 = .ok (.iadd, 1) := by decide +kernel
theorem dJ6_bitCount_0f7a4_23 : decode cJ6_bitCount_0f7a4 23 = .ok (.istore_n 0, 1) := by decide +kernel
theorem dJ6_bitCount_0f7a4_24 : decode cJ6_bitCount_0f7a4 24 = .ok (.iload_n 0, 1) := by decide +kernel
theorem dJ6_bitCount_0f7a4_25 : decode cJ6_bitCount_0f7a4 25 = .ok (.iload_n 0, 1) := by decide +kernel
theorem dJ6_bitCount_0f7a4_26 : decode cJ6_bitCount_0f7a4 26 = .ok (.iconst 4, 1) := by decide +kernel
theorem dJ6_bitCount_0f7a4_27 : decode cJ6_bitCount_0f7a4 27 = .ok (.iushr, 1) := by decide +kernel
theorem dJ6_bitCount_0f7a4_28 : decode cJ6_bitCount_0f7a4 28 = .ok (.iadd, 1) := by decide +kernel
theorem dJ6_bitCount_0f7a4_29 : decode cJ6_bitCount_0f7a4 29 = .ok (.ldc_w 267, 3) := by decide +kernel
theorem dJ6_bitCount_0f7a4_32 : decode cJ6_bitCount_0f7a4 32 = .ok (.iand, 1) := by decide +kernel
theorem dJ6_bitCount_0f7a4_33 : decode cJ6_bitCount_0f7a4 33 = .ok (.istore_n 0, 1) := by decide +kernel
theorem dJ6_bitCount_0f7a4_34 : decode cJ6_bitCount_0f7a4 34 = .ok (.iload_n 0, 1) := by decide +kernel
theorem dJ6_bitCount_0f7a4_35 : decode cJ6_bitCount_0f7a4 35 = .ok (.iload_n 0, 1) := by decide +kernel
theorem dJ6_bitCount_0f7a4_36 : decode cJ6_bitCount_0f7a4 36 = .ok (.bipush 8, 2) := by decide +kernel
theorem dJ6_bitCount_0f7a4_38 : decode cJ6_bitCount_0f7a4 38 = .ok (.iushr, 1) := by decide +kernel
theorem dJ6_bitCount_0f7a4_39 : decode cJ6_bitCount_0f7a4 39 = .ok (.iadd, 1) := by decide +kernel
theorem dJ6_bitCount_0f7a4_40 : decode cJ6_bitCount_0f7a4 40 = .ok (.istore_n 0, 1) := by decide +kernel
theorem dJ6_bitCount_0f7a4_41 : decode cJ6_bitCount_0f7a4 41 = .ok (.iload_n 0, 1) := by decide +kernel
theorem dJ6_bitCount_0f7a4_42 : decode cJ6_bitCount_0f7a4 42 = .ok (.iload_n 0, 1) := by decide +kernel
theorem dJ6_bitCount_0f7a4_43 : decode cJ6_bitCount_0f7a4 43 = .ok (.bipush 16, 2) := by decide +kernel
theorem dJ6_bitCount_0f7a4_45 : decode cJ6_bitCount_0f7a4 45 = .ok (.iushr, 1) := by decide +kernel
theorem dJ6_bitCount_0f7a4_46 : decode cJ6_bitCount_0f7a4 46 = .ok (.iadd, 1) := by decide +kernel
theorem dJ6_bitCount_0f7a4_47 : decode cJ6_bitCount_0f7a4 47 = .ok (.istore_n 0, 1) := by decide +kernel
theorem dJ6_bitCount_0f7a4_48 : decode cJ6_bitCount_0f7a4 48 = .ok (.iload_n 0, 1) := by decide +kernel
theorem dJ6_bitCount_0f7a4_49 : decode cJ6_bitCount_0f7a4 49 = .ok (.bipush 63, 2) := by decide +kernel
theorem dJ6_bitCount_0f7a4_51 : decode cJ6_bitCount_0f7a4 51 = .ok (.iand, 1) := by decide +kernel
theorem dJ6_bitCount_0f7a4_52 : decode cJ6_bitCount_0f7a4 52 = .ok (.ireturn, 1) := by decide +kernel
theorem dJ13_bitCount_95d88_0 : decode cJ13_bitCount_95d88 0 = .ok (.lload_n 0, 1) := by decide +kernel
theorem dJ13_bitCount_95d88_1 : decode cJ13_bitCount_95d88 1 = .ok (.lload_n 0, 1) := by decide +kernel
theorem dJ13_bitCount_95d88_2 : decode cJ13_bitCount_95d88 2 = .ok (.iconst 1, 1) := by decide +kernel
theorem dJ13_bitCount_95d88_3 : decode cJ13_bitCount_95d88 3 = .ok (.lushr, 1) := by decide +kernel
theorem dJ13_bitCount_95d88_4 : decode cJ13_bitCount_95d88 4 = .ok (.ldc2_w 314, 3) := by decide +kernel
theorem dJ13_bitCount_95d88_7 : decode cJ13_bitCount_95d88 7 = .ok (.land, 1) := by decide +kernel
theorem dJ13_bitCount_95d88_8 : decode cJ13_bitCount_95d88 8 = .ok (.lsub, 1) := by decide +kernel
theorem dJ13_bitCount_95d88_9 : decode cJ13_bitCount_95d88 9 = .ok (.lstore_n 0, 1) := by decide +kernel
theorem dJ13_bitCount_95d88_10 : decode cJ13_bitCount_95d88 10 = .ok (.lload_n 0, 1) := by decide +kernel
theorem dJ13_bitCount_95d88_11 : decode cJ13_bitCount_95d88 11 = .ok (.ldc2_w 316, 3) := by decide +kernel
theorem dJ13_bitCount_95d88_14 : decode cJ13_bitCount_95d88 14 = .ok (.land, 1) := by decide +kernel
theorem dJ13_bitCount_95d88_15 : decode cJ13_bitCount_95d88 15 = .ok (.lload_n 0, 1) := by decide +kernel
theorem dJ13_bitCount_95d88_16 : decode cJ13_bitCount_95d88 16 = .ok (.iconst 2, 1) := by decide +kernel
theorem dJ13_bitCount_95d88_17 : decode cJ13_bitCount_95d88 17 = .ok (.lushr, 1) := by decide +kernel
theorem dJ13_bitCount_95d88_18 : decode cJ13_bitCount_95d88 18 = .ok (.ldc2_w 316, 3) := by decide +kernel
theorem dJ13_bitCount_95d88_21 : decode cJ13_bitCount_95d88 21 = .ok (.land, 1) := by decide +kernel
theorem dJ13_bitCount_95d88_22 : decode cJ13_bitCount_95d88 22 = .ok (.ladd, 1) := by decide +kernel
theorem dJ13_bitCount_95d88_23 : decode cJ13_bitCount_95d88 23 = .ok (.lstore_n 0, 1) := by decide +kernel
theorem dJ13_bitCount_95d88_24 : decode cJ13_bitCount_95d88 24 = .ok (.lload_n 0, 1) := by decide +kernel
theorem dJ13_bitCount_95d88_25 : decode cJ13_bitCount_95d88 25 = .ok (.lload_n 0, 1) := by decide +kernel
theorem dJ13_bitCount_95d88_26 : decode cJ13_bitCount_95d88 26 = .ok (.iconst 4, 1) := by decide +kernel
theorem dJ13_bitCount_95d88_27 : decode cJ13_bitCount_95d88 27 = .ok (.lushr, 1) := by decide +kernel
theorem dJ13_bitCount_95d88_28 : decode cJ13_bitCount_95d88 28 = .ok (.ladd, 1) := by decide +kernel
theorem dJ13_bitCount_95d88_29 : decode cJ13_bitCount_95d88 29 = .ok (.ldc2_w 318, 3) := by decide +kernel
theorem dJ13_bitCount_95d88_32 : decode cJ13_bitCount_95d88 32 = .ok (.land, 1) := by decide +kernel
theorem dJ13_bitCount_95d88_33 : decode cJ13_bitCount_95d88 33 = .ok (.lstore_n 0, 1) := by decide +kernel
theorem dJ13_bitCount_95d88_34 : decode cJ13_bitCount_95d88 34 = .ok (.lload_n 0, 1) := by decide +kernel
theorem dJ13_bitCount_95d88_35 : decode cJ13_bitCount_95d88 35 = .ok (.lload_n 0, 1) := by decide +kernel
theorem dJ13_bitCount_95d88_36 : decode cJ13_bitCount_95d88 36 = .ok (.bipush 8, 2) := by decide +kernel
theorem dJ13_bitCount_95d88_38 : decode cJ13_bitCount_95d88 38 = .ok (.lushr, 1) := by decide +kernel
theorem dJ13_bitCount_95d88_39 : decode cJ13_bitCount_95d88 39 = .ok (.ladd, 1) := by decide +kernel
theorem dJ13_bitCount_95d88_40 : decode cJ13_bitCount_95d88 40 = .ok (.lstore_n 0, 1) := by decide +kernel
theorem dJ13_bitCount_95d88_41 : decode cJ13_bitCount_95d88 41 = .ok (.lload_n 0, 1) := by decide +kernel
theorem dJ13_bitCount_95d88_42 : decode cJ13_bitCount_95d88 42 = .ok (.lload_n 0, 1) := by decide +kernel
theorem dJ13_bitCount_95d88_43 : decode cJ13_bitCount_95d88 43 = .ok (.bipush 16, 2) := by decide +kernel
theorem dJ13_bitCount_95d88_45 : decode cJ13_bitCount_95d88 45 = .ok (.lushr, 1) := by decide +kernel
theorem dJ13_bitCount_95d88_46 : decode cJ13_bitCount_95d88 46 = .ok (.ladd, 1) := by decide +kernel
theorem dJ13_bitCount_95d88_47 : decode cJ13_bitCount_95d88 47 = .ok (.lstore_n 0, 1) := by decide +kernel
theorem dJ13_bitCount_95d88_48 : decode cJ13_bitCount_95d88 48 = .ok (.lload_n 0, 1) := by decide +kernel
theorem dJ13_bitCount_95d88_49 : decode cJ13_bitCount_95d88 49 = .ok (.lload_n 0, 1) := by decide +kernel
theorem dJ13_bitCount_95d88_50 : decode cJ13_bitCount_95d88 50 = .ok (.bipush 32, 2) := by decide +kernel
theorem dJ13_bitCount_95d88_52 : decode cJ13_bitCount_95d88 52 = .ok (.lushr, 1) := by decide +kernel
theorem dJ13_bitCount_95d88_53 : decode cJ13_bitCount_95d88 53 = .ok (.ladd, 1) := by decide +kernel
theorem dJ13_bitCount_95d88_54 : decode cJ13_bitCount_95d88 54 = .ok (.lstore_n 0, 1) := by decide +kernel
theorem dJ13_bitCount_95d88_55 : decode cJ13_bitCount_95d88 55 = .ok (.lload_n 0, 1) := by decide +kernel
theorem dJ13_bitCount_95d88_56 : decode cJ13_bitCount_95d88 56 = .ok (.l2i, 1) := by decide +kernel
theorem dJ13_bitCount_95d88_57 : decode cJ13_bitCount_95d88 57 = .ok (.bipush 127, 2) := by decide +kernel
theorem dJ13_bitCount_95d88_59 : decode cJ13_bitCount_95d88 59 = .ok (.iand, 1) := by decide +kernel
theorem dJ13_bitCount_95d88_60 : decode cJ13_bitCount_95d88 60 = .ok (.ireturn, 1) := by decide +kernel
theorem dJ9_abs_0f7a4_0 : decode cJ9_abs_0f7a4 0 = .ok (.iload_n 0, 1) := by decide +kernel
theorem dJ9_abs_0f7a4_1 : decode cJ9_abs_0f7a4 1 = .ok (.ifCond .ge 8, 3) := by decide +kernel
theorem dJ9_abs_0f7a4_4 : decode cJ9_abs_0f7a4 4 = .ok (.iload_n 0, 1) := by decide +kernel
theorem dJ9_abs_0f7a4_5 : decode cJ9_abs_0f7a4 5 = .ok (.ineg, 1) := by decide +kernel
theorem dJ9_abs_0f7a4_6 : decode cJ9_abs_0f7a4 6 = .ok (.goto 4, 3) := by decide +kernel
theorem dJ9_abs_0f7a4_9 : decode cJ9_abs_0f7a4 9 = .ok (.iload_n 0, 1) := by decide +kernel
theorem dJ9_abs_0f7a4_10 : decode cJ9_abs_0f7a4 10 = .ok (.ireturn, 1) := by decide +kernel
theorem dJ9_max_7cf53_0 : decode cJ9_max_7cf53 0 = .ok (.iload_n 0, 1) := by decide +kernel
theorem dJ9_max_7cf53_1 : decode cJ9_max_7cf53 1 = .ok (.iload_n 1, 1) := by decide +kernel
theorem dJ9_max_7cf53_2 : decode cJ9_max_7cf53 2 = .ok (.if_icmp .lt 7, 3) := by decide +kernel
theorem dJ9_max_7cf53_5 : decode cJ9_max_7cf53 5 = .ok (.iload_n 0, 1) := by decide +kernel
theorem dJ9_max_7cf53_6 : decode cJ9_max_7cf53 6 = .ok (.goto 4, 3) := by decide +kernel
theorem dJ9_max_7cf53_9 : decode cJ9_max_7cf53 9 = .ok (.iload_n 1, 1) := by decide +kernel
theorem dJ9_max_7cf53_10 : decode cJ9_max_7cf53 10 = .ok (.ireturn, 1) := by decide +kernel
theorem dJ9_min_7cf53_0 : decode cJ9_min_7cf53 0 = .ok (.iload_n 0, 1) := by decide +kernel
theorem dJ9_min_7cf53_1 : decode cJ9_min_7cf53 1 = .ok (.iload_n 1, 1) := by decide +kernel
theorem dJ9_min_7cf53_2 : decode cJ9_min_7cf53 2 = .ok (.if_icmp .gt 7, 3) := by decide +kernel
theorem dJ9_min_7cf53_5 : decode cJ9_min_7cf53 5 = .ok (.iload_n 0, 1) := by decide +kernel
theorem dJ9_min_7cf53_6 : decode cJ9_min_7cf53 6 = .ok (.goto 4, 3) := by decide +kernel
theorem dJ9_min_7cf53_9 : decode cJ9_min_7cf53 9 = .ok (.iload_n 1, 1) := by decide +kernel
theorem dJ9_min_7cf53_10 : decode cJ9_min_7cf53 10 = .ok (.ireturn, 1) := by decide +kernel
theorem dJ7_fill_53178_0 : decode cJ7_fill_53178 0 = .ok (.iconst 0, 1) := by decide +kernel
theorem dJ7_fill_53178_1 : decode cJ7_fill_53178 1 = .ok (.istore_n 2, 1) := by decide +kernel
theorem dJ7_fill_53178_2 : decode cJ7_fill_53178 2 = .ok (.aload_n 0, 1) := by decide +kernel
theorem dJ7_fill_53178_3 : decode cJ7_fill_53178 3 = .ok (.arraylength, 1) := by decide +kernel
theorem dJ7_fill_53178_4 : decode cJ7_fill_53178 4 = .ok (.istore_n 3, 1) := by decide +kernel
theorem dJ7_fill_53178_5 : decode cJ7_fill_53178 5 = .ok (.iload_n 2, 1) := by decide +kernel
theorem dJ7_fill_53178_6 : decode cJ7_fill_53178 6 = .ok (.iload_n 3, 1) := by decide +kernel
theorem dJ7_fill_53178_7 : decode cJ7_fill_53178 7 = .ok (.if_icmp .ge 13, 3) := by decide +kernel
theorem dJ7_fill_53178_10 : decode cJ7_fill_53178 10 = .ok (.aload_n 0, 1) := by decide +kernel
theorem dJ7_fill_53178_11 : decode cJ7_fill_53178 11 = .ok (.iload_n 2, 1) := by decide +kernel
theorem dJ7_fill_53178_12 : decode cJ7_fill_53178 12 = .ok (.iload_n 1, 1) := by decide +kernel
theorem dJ7_fill_53178_13 : decode cJ7_fill_53178 13 = .ok (.iastore, 1) := by decide +kernel
theorem dJ7_fill_53178_14 : decode cJ7_fill_53178 14 = .ok (.iinc 2 1, 3) := by decide +kernel
theorem dJ7_fill_53178_17 : decode cJ7_fill_53178 17 = .ok (.goto (-12), 3) := by decide +kernel
theorem dJ7_fill_53178_20 : decode cJ7_fill_53178 20 = .ok (.return_, 1) := by decide +kernel
