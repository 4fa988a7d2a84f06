theorem dX4_rowUnit_6 : decode cX4_rowUnit 6 = .ok (.getfield 34, 3) := by decide +kernel
theorem dX4_rowUnit_9 : decode cX4_rowUnit 9 = .ok (.if_icmp .ge 18, 3) := by decide +kernel
theorem dX4_rowUnit_12 : decode cX4_rowUnit 12 = .ok (.iload_n 1, 1) := by decide +kernel
theorem dX4_rowUnit_13 : decode cX4_rowUnit 13 = .ok (.bipush 30, 2) := by decide +kernel
theorem dX4_rowUnit_15 : decode cX4_rowUnit 15 = .ok (.if_icmp .ge 12, 3) := by decide +kernel
theorem dX4_rowUnit_18 : decode cX4_rowUnit 18 = .ok (.aload_n 0, 1) := by decide +kernel
theorem dX4_rowUnit_19 : decode cX4_rowUnit 19 = .ok (.getfield 21, 3) := by decide +kernel
theorem dX4_rowUnit_22 : decode cX4_rowUnit 22 = .ok (.iload_n 1, 1) := by decide +kernel
theorem dX4_rowUnit_23 : decode cX4_rowUnit 23 = .ok (.iaload, 1) := by decide +kernel
theorem dX4_rowUnit_24 : decode cX4_rowUnit 24 = .ok (.goto 5, 3) := by decide +kernel
theorem dX4_rowUnit_27 : decode cX4_rowUnit 27 = .ok (.bipush (-101), 2) := by decide +kernel
theorem dX4_rowUnit_29 : decode cX4_rowUnit 29 = .ok (.ireturn, 1) := by decide +kernel
theorem dX5_init_0 : decode cX5_init 0 = .ok (.aload_n 0, 1) := by decide +kernel
theorem dX5_init_1 : decode cX5_init 1 = .ok (.invokespecial 3, 3) := by decide +kernel
theorem dX5_init_4 : decode cX5_init 4 = .ok (.aload_n 0, 1) := by decide +kernel
theorem dX5_init_5 : decode cX5_init 5 = .ok (.bipush 41, 2) := by decide +kernel
theorem dX5_init_7 : decode cX5_init 7 = .ok (.newarray .int, 2) := by decide +kernel
theorem dX5_init_9 : decode cX5_init 9 = .ok (.putfield 9, 3) := by decide +kernel
theorem dX5_init_12 : decode cX5_init 12 = .ok (.aload_n 0, 1) := by decide +kernel
theorem dX5_init_13 : decode cX5_init 13 = .ok (.bipush 41, 2) := by decide +kernel
theorem dX5_init_15 : decode cX5_init 15 = .ok (.newarray .int, 2) := by decide +kernel
theorem dX5_init_17 : decode cX5_init 17 = .ok (.putfield 15, 3) := by decide +kernel
theorem dX5_init_20 : decode cX5_init 20 = .ok (.aload_n 0, 1) := by decide +kernel
theorem dX5_init_21 : decode cX5_init 21 = .ok (.iconst 4, 1) := by decide +kernel
theorem dX5_init_22 : decode cX5_init 22 = .ok (.newarray .int, 2) := by decide +kernel
theorem dX5_init_24 : decode cX5_init 24 = .ok (.putfield 18, 3) := by decide +kernel
theorem dX5_init_27 : decode cX5_init 27 = .ok (.aload_n 0, 1) := by decide +kernel
theorem dX5_init_28 : decode cX5_init 28 = .ok (.aload_n 1, 1) := by decide +kernel
theorem dX5_init_29 : decode cX5_init 29 = .ok (.putfield 21, 3) := by decide +kernel
theorem dX5_init_32 : decode cX5_init 32 = .ok (.return_, 1) := by decide +kernel
theorem dX5_follow_0 : decode cX5_follow 0 = .ok (.aload_n 0, 1) := by decide +kernel
theorem dX5_follow_1 : decode cX5_follow 1 = .ok (.getfield 18, 3) := by decide +kernel
theorem dX5_follow_4 : decode cX5_follow 4 = .ok (.iconst 0, 1) := by decide +kernel
theorem dX5_follow_5 : decode cX5_follow 5 = .ok (.invokestatic 25, 3) := by decide +kernel
theorem dX5_follow_8 : decode cX5_follow 8 = .ok (.aload_n 0, 1) := by decide +kernel
theorem dX5_follow_9 : decode cX5_follow 9 = .ok (.getfield 9, 3) := by decide +kernel
theorem dX5_follow_12 : decode cX5_follow 12 = .ok (.iconst 0, 1) := by decide +kernel
theorem dX5_follow_13 : decode cX5_follow 13 = .ok (.iconst 0, 1) := by decide +kernel
theorem dX5_follow_14 : decode cX5_follow 14 = .ok (.iastore, 1) := by decide +kernel
theorem dX5_follow_15 : decode cX5_follow 15 = .ok (.aload_n 0, 1) := by decide +kernel
theorem dX5_follow_16 : decode cX5_follow 16 = .ok (.getfield 15, 3) := by decide +kernel
theorem dX5_follow_19 : decode cX5_follow 19 = .ok (.iconst 0, 1) := by decide +kernel
theorem dX5_follow_20 : decode cX5_follow 20 = .ok (.iconst 0, 1) := by decide +kernel
theorem dX5_follow_21 : decode cX5_follow 21 = .ok (.iastore, 1) := by decide +kernel
theorem dX5_follow_22 : decode cX5_follow 22 = .ok (.aload_n 0, 1) := by decide +kernel
theorem dX5_follow_23 : decode cX5_follow 23 = .ok (.iconst 0, 1) := by decide +kernel
theorem dX5_follow_24 : decode cX5_follow 24 = .ok (.putfield 31, 3) := by decide +kernel
theorem dX5_follow_27 : decode cX5_follow 27 = .ok (.aload_n 0, 1) := by decide +kernel
theorem dX5_follow_28 : decode cX5_follow 28 = .ok (.iconst 0, 1) := by decide +kernel
theorem dX5_follow_29 : decode cX5_follow 29 = .ok (.putfield 35, 3) := by decide +kernel
theorem dX5_follow_32 : decode cX5_follow 32 = .ok (.iload_n 2, 1) := by decide +kernel
theorem dX5_follow_33 : decode cX5_follow 33 = .ok (.aload_n 1, 1) := by decide +kernel
theorem dX5_follow_34 : decode cX5_follow 34 = .ok (.arraylength, 1) := by decide +kernel
theorem dX5_follow_35 : decode cX5_follow 35 = .ok (.invokestatic 38, 3) := by decide +kernel
theorem dX5_follow_38 : decode cX5_follow 38 = .ok (.bipush 40, 2) := by decide +kernel
theorem dX5_follow_40 : decode cX5_follow 40 = .ok (.invokestatic 38, 3) := by decide +kernel
theorem dX5_follow_43 : decode cX5_follow 43 = .ok (.istore_n 3, 1) := by decide +kernel
theorem dX5_follow_44 : decode cX5_follow 44 = .ok (.iconst 0, 1) := by decide +kernel
theorem dX5_follow_45 : decode cX5_follow 45 = .ok (.istore 4, 2) := by decide +kernel
theorem dX5_follow_47 : decode cX5_follow 47 = .ok (.iload 4, 2) := by decide +kernel
theorem dX5_follow_49 : decode cX5_follow 49 = .ok (.iload_n 3, 1) := by decide +kernel
theorem dX5_follow_50 : decode cX5_follow 50 = .ok (.if_icmp .ge 28, 3) := by decide +kernel
theorem dX5_follow_53 : decode cX5_follow 53 = .ok (.aload_n 0, 1) := by decide +kernel
theorem dX5_follow_54 : decode cX5_follow 54 = .ok (.getfield 35, 3) := by decide +kernel
theorem dX5_follow_57 : decode cX5_follow 57 = .ok (.iload 4, 2) := by decide +kernel
theorem dX5_follow_59 : decode cX5_follow 59 = .ok (.if_icmp .ne 19, 3) := by decide +kernel
theorem dX5_follow_62 : decode cX5_follow 62 = .ok (.aload_n 0, 1) := by decide +kernel
theorem dX5_follow_63 : decode cX5_follow 63 = .ok (.iload 4, 2) := by decide +kernel
theorem dX5_follow_65 : decode cX5_follow 65 = .ok (.aload_n 1, 1) := by decide +kernel
theorem dX5_follow_66 : decode cX5_follow 66 = .ok (.iload 4, 2) := by decide +kernel
theorem dX5_follow_68 : decode cX5_follow 68 = .ok (.iaload, 1) := by decide +kernel
theorem dX5_follow_69 : decode cX5_follow 69 = .ok (.invokevirtual 44, 3) := by decide +kernel
theorem dX5_follow_72 : decode cX5_follow 72 = .ok (.iinc 4 1, 3) := by decide +kernel
theorem dX5_follow_75 : decode cX5_follow 75 = .ok (.goto (-28), 3) := by decide +kernel
theorem dX5_follow_78 : decode cX5_follow 78 = .ok (.aload_n 0, 1) := by decide +kernel
theorem dX5_follow_79 : decode cX5_follow 79 = .ok (.aload_n 0, 1) := by decide +kernel
theorem dX5_follow_80 : decode cX5_follow 80 = .ok (.getfield 35, 3) := by decide +kernel
theorem dX5_follow_83 : decode cX5_follow 83 = .ok (.iload_n 3, 1) := by decide +kernel
theorem dX5_follow_84 : decode cX5_follow 84 = .ok (.if_icmp .ne 7, 3) := by decide +kernel
theorem dX5_follow_87 : decode cX5_follow 87 = .ok (.iconst 1, 1) := by decide +kernel
theorem dX5_follow_88 : decode cX5_follow 88 = .ok (.goto 4, 3) := by decide +kernel
theorem dX5_follow_91 : decode cX5_follow 91 = .ok (.iconst 0, 1) := by decide +kernel
theorem dX5_follow_92 : decode cX5_follow 92 = .ok (.putfield 48, 3) := by decide +kernel
theorem dX5_follow_95 : decode cX5_follow 95 = .ok (.return_, 1) := by decide +kernel
theorem dX5_take_0 : decode cX5_take 0 = .ok (.aload_n 0, 1) := by decide +kernel
theorem dX5_take_1 : decode cX5_take 1 = .ok (.getfield 9, 3) := by decide +kernel
theorem dX5_take_4 : decode cX5_take 4 = .ok (.iload_n 1, 1) := by decide +kernel
theorem dX5_take_5 : decode cX5_take 5 = .ok (.iaload, 1) := by decide +kernel
theorem dX5_take_6 : decode cX5_take 6 = .ok (.istore_n 3, 1) := by decide +kernel
theorem dX5_take_7 : decode cX5_take 7 = .ok (.aload_n 0, 1) := by decide +kernel
theorem dX5_take_8 : decode cX5_take 8 = .ok (.getfield 21, 3) := by decide +kernel
theorem dX5_take_11 : decode cX5_take 11 = .ok (.iload_n 3, 1) := by decide +kernel
theorem dX5_take_12 : decode cX5_take 12 = .ok (.iload_n 2, 1) := by decide +kernel
theorem dX5_take_13 : decode cX5_take 13 = .ok (.invokevirtual 52, 3) := by decide +kernel
theorem dX5_take_16 : decode cX5_take 16 = .ok (.istore 4, 2) := by decide +kernel
theorem dX5_take_18 : decode cX5_take 18 = .ok (.iload 4, 2) := by decide +kernel
theorem dX5_take_20 : decode cX5_take 20 = .ok (.iconst (-1), 1) := by decide +kernel
theorem dX5_take_21 : decode cX5_take 21 = .ok (.if_icmp .ne 4, 3) := by decide +kernel
theorem dX5_take_24 : decode cX5_take 24 = .ok (.return_, 1) := by decide +kernel
theorem dX5_take_25 : decode cX5_take 25 = .ok (.iload_n 3, 1) := by decide +kernel
theorem dX5_take_26 : decode cX5_take 26 = .ok (.iconst 3, 1) := by decide +kernel
theorem dX5_take_27 : decode cX5_take 27 = .ok (.irem, 1) := by decide +kernel
theorem dX5_take_28 : decode cX5_take 28 = .ok (.istore 5, 2) := by decide +kernel
theorem dX5_take_30 : decode cX5_take 30 = .ok (.aload_n 0, 1) := by decide +kernel
theorem dX5_take_31 : decode cX5_take 31 = .ok (.getfield 21, 3) := by decide +kernel
theorem dX5_take_34 : decode cX5_take 34 = .ok (.iload_n 3, 1) := by decide +kernel
theorem dX5_take_35 : decode cX5_take 35 = .ok (.invokestatic 57, 3) := by decide +kernel
theorem dX5_take_38 : decode cX5_take 38 = .ok (.iload_n 2, 1) := by decide +kernel
theorem dX5_take_39 : decode cX5_take 39 = .ok (.invokevirtual 61, 3) := by decide +kernel
theorem dX5_take_42 : decode cX5_take 42 = .ok (.istore 6, 2) := by decide +kernel
theorem dX5_take_44 : decode cX5_take 44 = .ok (.iload 6, 2) := by decide +kernel
theorem dX5_take_46 : decode cX5_take 46 = .ok (.ifCond .eq 21, 3) := by decide +kernel
theorem dX5_take_49 : decode cX5_take 49 = .ok (.aload_n 0, 1) := by decide +kernel
theorem dX5_take_50 : decode cX5_take 50 = .ok (.dup, 1) := by decide +kernel
theorem dX5_take_51 : decode cX5_take 51 = .ok (.getfield 31, 3) := by decide +kernel
theorem dX5_take_54 : decode cX5_take 54 = .ok (.iconst 1, 1) := by decide +kernel
theorem dX5_take_55 : decode cX5_take 55 = .ok (.iadd, 1) := by decide +kernel
theorem dX5_take_56 : decode cX5_take 56 = .ok (.putfield 31, 3) := by decide +kernel
theorem dX5_take_59 : decode cX5_take 59 = .ok (.aload_n 0, 1) := by decide +kernel
theorem dX5_take_60 : decode cX5_take 60 = .ok (.iload 5, 2) := by decide +kernel
theorem dX5_take_62 : decode cX5_take 62 = .ok (.iload 6, 2) := by decide +kernel
theorem dX5_take_64 : decode cX5_take 64 = .ok (.invokevirtual 64, 3) := by decide +kernel
theorem dX5_take_67 : decode cX5_take 67 = .ok (.aload_n 0, 1) := by decide +kernel
theorem dX5_take_68 : decode cX5_take 68 = .ok (.getfield 9, 3) := by decide +kernel
theorem dX5_take_71 : decode cX5_take 71 = .ok (.iload_n 1, 1) := by decide +kernel
theorem dX5_take_72 : decode cX5_take 72 = .ok (.iconst 1, 1) := by decide +kernel
theorem dX5_take_73 : decode cX5_take 73 = .ok (.iadd, 1) := by decide +kernel
theorem dX5_take_74 : decode cX5_take 74 = .ok (.iload 4, 2) := by decide +kernel
theorem dX5_take_76 : decode cX5_take 76 = .ok (.iastore, 1) := by decide +kernel
theorem dX5_take_77 : decode cX5_take 77 = .ok (.aload_n 0, 1) := by decide +kernel
theorem dX5_take_78 : decode cX5_take 78 = .ok (.getfield 15, 3) := by decide +kernel
theorem dX5_take_81 : decode cX5_take 81 = .ok (.iload_n 1, 1) := by decide +kernel
theorem dX5_take_82 : decode cX5_take 82 = .ok (.iconst 1, 1) := by decide +kernel
theorem dX5_take_83 : decode cX5_take 83 = .ok (.iadd, 1) := by decide +kernel
theorem dX5_take_84 : decode cX5_take 84 = .ok (.aload_n 0, 1) := by decide +kernel
theorem dX5_take_85 : decode cX5_take 85 = .ok (.getfield 15, 3) := by decide +kernel
theorem dX5_take_88 : decode cX5_take 88 = .ok (.iload_n 1, 1) := by decide +kernel
theorem dX5_take_89 : decode cX5_take 89 = .ok (.iaload, 1) := by decide +kernel
theorem dX5_take_90 : decode cX5_take 90 = .ok (.aload_n 0, 1) := by decide +kernel
theorem dX5_take_91 : decode cX5_take 91 = .ok (.getfield 21, 3) := by decide +kernel
theorem dX5_take_94 : decode cX5_take 94 = .ok (.iload_n 3, 1) := by decide +kernel
theorem dX5_take_95 : decode cX5_take 95 = .ok (.iload_n 2, 1) := by decide +kernel
theorem dX5_take_96 : decode cX5_take 96 = .ok (.invokevirtual 67, 3) := by decide +kernel
theorem dX5_take_99 : decode cX5_take 99 = .ok (.iadd, 1) := by decide +kernel
theorem dX5_take_100 : decode cX5_take 100 = .ok (.iastore, 1) := by decide +kernel
theorem dX5_take_101 : decode cX5_take 101 = .ok (.aload_n 0, 1) := by decide +kernel
theorem dX5_take_102 : decode cX5_take 102 = .ok (.iload_n 1, 1) := by decide +kernel
theorem dX5_take_103 : decode cX5_take 103 = .ok (.iconst 1, 1) := by decide +kernel
theorem dX5_take_104 : decode cX5_take 104 = .ok (.iadd, 1) := by decide +kernel
theorem dX5_take_105 : decode cX5_take 105 = .ok (.putfield 35, 3) := by decide +kernel
theorem dX5_take_108 : decode cX5_take 108 = .ok (.return_, 1) := by decide +kernel
theorem dX5_countPair_0 : decode cX5_countPair 0 = .ok (.iload_n 1, 1) := by decide +kernel
theorem dX5_countPair_1 : decode cX5_countPair 1 = .ok (.ifCond .eq 26, 3) := by decide +kernel
theorem dX5_countPair_4 : decode cX5_countPair 4 = .ok (.iload_n 1, 1) := by decide +kernel
theorem dX5_countPair_5 : decode cX5_countPair 5 = .ok (.iload_n 2, 1) := by decide +kernel
theorem dX5_countPair_6 : decode cX5_countPair 6 = .ok (.invokestatic 70, 3) := by decide +kernel
theorem dX5_countPair_9 : decode cX5_countPair 9 = .ok (.istore_n 3, 1) := by decide +kernel
theorem dX5_countPair_10 : decode cX5_countPair 10 = .ok (.iload_n 3, 1) := by decide +kernel
theorem dX5_countPair_11 : decode cX5_countPair 11 = .ok (.invokestatic 73, 3) := by decide +kernel
theorem dX5_countPair_14 : decode cX5_countPair 14 = .ok (.ifCond .eq 13, 3) := by decide +kernel
theorem dX5_countPair_17 : decode cX5_countPair 17 = .ok (.aload_n 0, 1) := by decide +kernel
theorem dX5_countPair_18 : decode cX5_countPair 18 = .ok (.getfield 18, 3) := by decide +kernel
theorem dX5_countPair_21 : decode cX5_countPair 21 = .ok (.iload_n 3, 1) := by decide +kernel
theorem dX5_countPair_22 : decode cX5_countPair 22 = .ok (.dup2, 1) := by decide +kernel
theorem dX5_countPair_23 : decode cX5_countPair 23 = .ok (.iaload, 1) := by decide +kernel
theorem dX5_countPair_24 : decode cX5_countPair 24 = .ok (.iconst 1, 1) := by decide +kernel
theorem dX5_countPair_25 : decode cX5_countPair 25 = .ok (.iadd, 1) := by decide +kernel
theorem dX5_countPair_26 : decode cX5_countPair 26 = .ok (.iastore, 1) := by decide +kernel
theorem dX5_countPair_27 : decode cX5_countPair 27 = .ok (.return_, 1) := by decide +kernel
theorem dX5_isAlive_0 : decode cX5_isAlive 0 = .ok (.aload_n 0, 1) := by decide +kernel
theorem dX5_isAlive_1 : decode cX5_isAlive 1 = .ok (.getfield 48, 3) := by decide +kernel
theorem dX5_isAlive_4 : decode cX5_isAlive 4 = .ok (.ireturn, 1) := by decide +kernel
theorem dX5_isValid_0 : decode cX5_isValid 0 = .ok (.aload_n 0, 1) := by decide +kernel
theorem dX5_isValid_1 : decode cX5_isValid 1 = .ok (.getfield 48, 3) := by decide +kernel
theorem dX5_isValid_4 : decode cX5_isValid 4 = .ok (.ifCond .eq 22, 3) := by decide +kernel
theorem dX5_isValid_7 : decode cX5_isValid 7 = .ok (.aload_n 0, 1) := by decide +kernel
theorem dX5_isValid_8 : decode cX5_isValid 8 = .ok (.getfield 9, 3) := by decide +kernel
theorem dX5_isValid_11 : decode cX5_isValid 11 = .ok (.aload_n 0, 1) := by decide +kernel
theorem dX5_isValid_12 : decode cX5_isValid 12 = .ok (.getfield 35, 3) := by decide +kernel
theorem dX5_isValid_15 : decode cX5_isValid 15 = .ok (.iaload, 1) := by decide +kernel
theorem dX5_isValid_16 : decode cX5_isValid 16 = .ok (.invokestatic 57, 3) := by decide +kernel
theorem dX5_isValid_19 : decode cX5_isValid 19 = .ok (.ifCond .ne 7, 3) := by decide +kernel
theorem dX5_isValid_22 : decode cX5_isValid 22 = .ok (.iconst 1, 1) := by decide +kernel
theorem dX5_isValid_23 : decode cX5_isValid 23 = .ok (.goto 4, 3) := by decide +kernel
theorem dX5_isValid_26 : decode cX5_isValid 26 = .ok (.iconst 0, 1) := by decide +kernel
theorem dX5_isValid_27 : decode cX5_isValid 27 = .ok (.ireturn, 1) := by decide +kernel
theorem dX5_group_0 : decode cX5_group 0 = .ok (.aload_n 0, 1) := by decide +kernel
theorem dX5_group_1 : decode cX5_group 1 = .ok (.invokevirtual 77, 3) := by decide +kernel
theorem dX5_group_4 : decode cX5_group 4 = .ok (.ifCond .eq 5, 3) := by decide +kernel
theorem dX5_group_7 : decode cX5_group 7 = .ok (.iconst 0, 1) := by decide +kernel
theorem dX5_group_8 : decode cX5_group 8 = .ok (.ireturn, 1) := by decide +kernel
theorem dX5_group_9 : decode cX5_group 9 = .ok (.aload_n 0, 1) := by decide +kernel
theorem dX5_group_10 : decode cX5_group 10 = .ok (.getfield 48, 3) := by decide +kernel
theorem dX5_group_13 : decode cX5_group 13 = .ok (.ifCond .eq 7, 3) := by decide +kernel
theorem dX5_group_16 : decode cX5_group 16 = .ok (.iconst 1, 1) := by decide +kernel
theorem dX5_group_17 : decode cX5_group 17 = .ok (.goto 4, 3) := by decide +kernel
theorem dX5_group_20 : decode cX5_group 20 = .ok (.iconst 2, 1) := by decide +kernel
theorem dX5_group_21 : decode cX5_group 21 = .ok (.ireturn, 1) := by decide +kernel
theorem dX5_signCount_0 : decode cX5_signCount 0 = .ok (.aload_n 0, 1) := by decide +kernel
theorem dX5_signCount_1 : decode cX5_signCount 1 = .ok (.getfield 31, 3) := by decide +kernel
theorem dX5_signCount_4 : decode cX5_signCount 4 = .ok (.ireturn, 1) := by decide +kernel
theorem dX5_weight_0 : decode cX5_weight 0 = .ok (.aload_n 0, 1) := by decide +kernel
theorem dX5_weight_1 : decode cX5_weight 1 = .ok (.getfield 15, 3) := by decide +kernel
theorem dX5_weight_4 : decode cX5_weight 4 = .ok (.aload_n 0, 1) := by decide +kernel
theorem dX5_weight_5 : decode cX5_weight 5 = .ok (.getfield 35, 3) := by decide +kernel
theorem dX5_weight_8 : decode cX5_weight 8 = .ok (.iaload, 1) := by decide +kernel
theorem dX5_weight_9 : decode cX5_weight 9 = .ok (.ireturn, 1) := by decide +kernel
theorem dX5_allowedUnits_0 : decode cX5_allowedUnits 0 = .ok (.aload_n 0, 1) := by decide +kernel
theorem dX5_allowedUnits_1 : decode cX5_allowedUnits 1 = .ok (.getfield 35, 3) := by decide +kernel
theorem dX5_allowedUnits_4 : decode cX5_allowedUnits 4 = .ok (.ireturn, 1) := by decide +kernel
theorem dX5_pairCount_0 : decode cX5_pairCount 0 = .ok (.iload_n 1, 1) := by decide +kernel
theorem dX5_pairCount_1 : decode cX5_pairCount 1 = .ok (.invokestatic 73, 3) := by decide +kernel
theorem dX5_pairCount_4 : decode cX5_pairCount 4 = .ok (.ifCond .eq 12, 3) := by decide +kernel
theorem dX5_pairCount_7 : decode cX5_pairCount 7 = .ok (.aload_n 0, 1) := by decide +kernel
theorem dX5_pairCount_8 : decode cX5_pairCount 8 = .ok (.getfield 18, 3) := by decide +kernel
theorem dX5_pairCount_11 : decode cX5_pairCount 11 = .ok (.iload_n 1, 1) := by decide +kernel
theorem dX5_pairCount_12 : decode cX5_pairCount 12 = .ok (.iaload, 1) := by decide +kernel
theorem dX5_pairCount_13 : decode cX5_pairCount 13 = .ok (.goto 4, 3) := by decide +kernel
theorem dX5_pairCount_16 : decode cX5_pairCount 16 = .ok (.iconst 0, 1) := by decide +kernel
theorem dX5_pairCount_17 : decode cX5_pairCount 17 = .ok (.ireturn, 1) := by decide +kernel
theorem dX5_stateAt_0 : decode cX5_stateAt 0 = .ok (.iload_n 1, 1) := by decide +kernel
theorem dX5_stateAt_1 : decode cX5_stateAt 1 = .ok (.ifCond .lt 20, 3) := by decide +kernel
theorem dX5_stateAt_4 : decode cX5_stateAt 4 = .ok (.iload_n 1, 1) := by decide +kernel
theorem dX5_stateAt_5 : decode cX5_stateAt 5 = .ok (.aload_n 0, 1) := by decide +kernel
theorem dX5_stateAt_6 : decode cX5_stateAt 6 = .ok (.getfield 35, 3) := by decide +kernel
theorem dX5_stateAt_9 : decode cX5_stateAt 9 = .ok (.if_icmp .gt 12, 3) := by decide +kernel
theorem dX5_stateAt_12 : decode cX5_stateAt 12 = .ok (.aload_n 0, 1) := by decide +kernel
theorem dX5_stateAt_13 : decode cX5_stateAt 13 = .ok (.getfield 9, 3) := by decide +kernel
theorem dX5_stateAt_16 : decode cX5_stateAt 16 = .ok (.iload_n 1, 1) := by decide +kernel
theorem dX5_stateAt_17 : decode cX5_stateAt 17 = .ok (.iaload, 1) := by decide +kernel
theorem dX5_stateAt_18 : decode cX5_stateAt 18 = .ok (.goto 4, 3) := by decide +kernel
theorem dX5_stateAt_21 : decode cX5_stateAt 21 = .ok (.iconst (-1), 1) := by decide +kernel
theorem dX5_stateAt_22 : decode cX5_stateAt 22 = .ok (.ireturn, 1) := by decide +kernel
theorem dX5_weightAt_0 : decode cX5_weightAt 0 = .ok (.iload_n 1, 1) := by decide +kernel
theorem dX5_weightAt_1 : decode cX5_weightAt 1 = .ok (.ifCond .lt 20, 3) := by decide +kernel
theorem dX5_weightAt_4 : decode cX5_weightAt 4 = .ok (.iload_n 1, 1) := by decide +kernel
theorem dX5_weightAt_5 : decode cX5_weightAt 5 = .ok (.aload_n 0, 1) := by decide +kernel
theorem dX5_weightAt_6 : decode cX5_weightAt 6 = .ok (.getfield 35, 3) := by decide +kernel
theorem dX5_weightAt_9 : decode cX5_weightAt 9 = .ok (.if_icmp .gt 12, 3) := by decide +kernel
theorem dX5_weightAt_12 : decode cX5_weightAt 12 = .ok (.aload_n 0, 1) := by decide +kernel
theorem dX5_weightAt_13 : decode cX5_weightAt 13 = .ok (.getfield 15, 3) := by decide +kernel
theorem dX5_weightAt_16 : decode cX5_weightAt 16 = .ok (.iload_n 1, 1) := by decide +kernel
theorem dX5_weightAt_17 : decode cX5_weightAt 17 = .ok (.iaload, 1) := by decide +kernel
theorem dX5_weightAt_18 : decode cX5_weightAt 18 = .ok (.goto 4, 3) := by decide +kernel
theorem dX5_weightAt_21 : decode cX5_weightAt 21 = .ok (.iconst 0, 1) := by decide +kernel
theorem dX5_weightAt_22 : decode cX5_weightAt 22 = .ok (.ireturn, 1) := by decide +kernel
theorem dX6_init_0 : decode cX6_init 0 = .ok (.aload_n 0, 1) := by decide +kernel
theorem dX6_init_1 : decode cX6_init 1 = .ok (.invokespecial 3, 3) := by decide +kernel
theorem dX6_init_4 : decode cX6_init 4 = .ok (.aload_n 0, 1) := by decide +kernel
theorem dX6_init_5 : decode cX6_init 5 = .ok (.bipush 40, 2) := by decide +kernel
theorem dX6_init_7 : decode cX6_init 7 = .ok (.newarray .int, 2) := by decide +kernel
theorem dX6_init_9 : decode cX6_init 9 = .ok (.putfield 9, 3) := by decide +kernel
theorem dX6_init_12 : decode cX6_init 12 = .ok (.aload_n 0, 1) := by decide +kernel
theorem dX6_init_13 : decode cX6_init 13 = .ok (.iconst 0, 1) := by decide +kernel
theorem dX6_init_14 : decode cX6_init 14 = .ok (.putfield 13, 3) := by decide +kernel
theorem dX6_init_17 : decode cX6_init 17 = .ok (.aload_n 0, 1) := by decide +kernel
theorem dX6_init_18 : decode cX6_init 18 = .ok (.bipush 40, 2) := by decide +kernel
theorem dX6_init_20 : decode cX6_init 20 = .ok (.newarray .int, 2) := by decide +kernel
theorem dX6_init_22 : decode cX6_init 22 = .ok (.putfield 17, 3) := by decide +kernel
theorem dX6_init_25 : decode cX6_init 25 = .ok (.aload_n 0, 1) := by decide +kernel
theorem dX6_init_26 : decode cX6_init 26 = .ok (.iconst 0, 1) := by decide +kernel
theorem dX6_init_27 : decode cX6_init 27 = .ok (.putfield 20, 3) := by decide +kernel
theorem dX6_init_30 : decode cX6_init 30 = .ok (.aload_n 0, 1) := by decide +kernel
theorem dX6_init_31 : decode cX6_init 31 = .ok (.bipush 40, 2) := by decide +kernel
theorem dX6_init_33 : decode cX6_init 33 = .ok (.putfield 23, 3) := by decide +kernel
theorem dX6_init_36 : decode cX6_init 36 = .ok (.aload_n 0, 1) := by decide +kernel
theorem dX6_init_37 : decode cX6_init 37 = .ok (.iconst 4, 1) := by decide +kernel
theorem dX6_init_38 : decode cX6_init 38 = .ok (.anewarray 26, 3) := by decide +kernel
theorem dX6_init_41 : decode cX6_init 41 = .ok (.putfield 28, 3) := by decide +kernel
theorem dX6_init_44 : decode cX6_init 44 = .ok (.aload_n 0, 1) := by decide +kernel
theorem dX6_init_45 : decode cX6_init 45 = .ok (.iconst 4, 1) := by decide +kernel
theorem dX6_init_46 : decode cX6_init 46 = .ok (.anewarray 32, 3) := by decide +kernel
theorem dX6_init_49 : decode cX6_init 49 = .ok (.putfield 34, 3) := by decide +kernel
theorem dX6_init_52 : decode cX6_init 52 = .ok (.iconst 0, 1) := by decide +kernel
theorem dX6_init_53 : decode cX6_init 53 = .ok (.istore_n 1, 1) := by decide +kernel
theorem dX6_init_54 : decode cX6_init 54 = .ok (.iload_n 1, 1) := by decide +kernel
theorem dX6_init_55 : decode cX6_init 55 = .ok (.iconst 4, 1) := by decide +kernel
theorem dX6_init_56 : decode cX6_init 56 = .ok (.if_icmp .ge 41, 3) := by decide +kernel
theorem dX6_init_59 : decode cX6_init 59 = .ok (.aload_n 0, 1) := by decide +kernel
theorem dX6_init_60 : decode cX6_init 60 = .ok (.getfield 28, 3) := by decide +kernel
theorem dX6_init_63 : decode cX6_init 63 = .ok (.iload_n 1, 1) := by decide +kernel
theorem dX6_init_64 : decode cX6_init 64 = .ok (.new 26, 3) := by decide +kernel
theorem dX6_init_67 : decode cX6_init 67 = .ok (.dup, 1) := by decide +kernel
theorem dX6_init_68 : decode cX6_init 68 = .ok (.invokespecial 38, 3) := by decide +kernel
theorem dX6_init_71 : decode cX6_init 71 = .ok (.aastore, 1) := by decide +kernel
theorem dX6_init_72 : decode cX6_init 72 = .ok (.aload_n 0, 1) := by decide +kernel
theorem dX6_init_73 : decode cX6_init 73 = .ok (.getfield 34, 3) := by decide +kernel
theorem dX6_init_76 : decode cX6_init 76 = .ok (.iload_n 1, 1) := by decide +kernel
theorem dX6_init_77 : decode cX6_init 77 = .ok (.new 32, 3) := by decide +kernel
theorem dX6_init_80 : decode cX6_init 80 = .ok (.dup, 1) := by decide +kernel
theorem dX6_init_81 : decode cX6_init 81 = .ok (.aload_n 0, 1) := by decide +kernel
theorem dX6_init_82 : decode cX6_init 82 = .ok (.getfield 28, 3) := by decide +kernel
theorem dX6_init_85 : decode cX6_init 85 = .ok (.iload_n 1, 1) := by decide +kernel
theorem dX6_init_86 : decode cX6_init 86 = .ok (.aaload, 1) := by decide +kernel
theorem dX6_init_87 : decode cX6_init 87 = .ok (.invokespecial 39, 3) := by decide +kernel
theorem dX6_init_90 : decode cX6_init 90 = .ok (.aastore, 1) := by decide +kernel
theorem dX6_init_91 : decode cX6_init 91 = .ok (.iinc 1 1, 3) := by decide +kernel
theorem dX6_init_94 : decode cX6_init 94 = .ok (.goto (-40), 3) := by decide +kernel
theorem dX6_init_97 : decode cX6_init 97 = .ok (.aload_n 0, 1) := by decide +kernel
theorem dX6_init_98 : decode cX6_init 98 = .ok (.iconst 0, 1) := by decide +kernel
theorem dX6_init_99 : decode cX6_init 99 = .ok (.putfield 42, 3) := by decide +kernel
theorem dX6_init_102 : decode cX6_init 102 = .ok (.aload_n 0, 1) := by decide +kernel
theorem dX6_init_103 : decode cX6_init 103 = .ok (.iconst 0, 1) := by decide +kernel
theorem dX6_init_104 : decode cX6_init 104 = .ok (.putfield 45, 3) := by decide +kernel
theorem dX6_init_107 : decode cX6_init 107 = .ok (.aload_n 0, 1) := by decide +kernel
theorem dX6_init_108 : decode cX6_init 108 = .ok (.iconst 0, 1) := by decide +kernel
theorem dX6_init_109 : decode cX6_init 109 = .ok (.putfield 48, 3) := by decide +kernel
theorem dX6_init_112 : decode cX6_init 112 = .ok (.aload_n 0, 1) := by decide +kernel
theorem dX6_init_113 : decode cX6_init 113 = .ok (.new 51, 3) := by decide +kernel
theorem dX6_init_116 : decode cX6_init 116 = .ok (.dup, 1) := by decide +kernel
theorem dX6_init_117 : decode cX6_init 117 = .ok (.invokespecial 53, 3) := by decide +kernel
theorem dX6_init_120 : decode cX6_init 120 = .ok (.putfield 54, 3) := by decide +kernel
theorem dX6_init_123 : decode cX6_init 123 = .ok (.aload_n 0, 1) := by decide +kernel
theorem dX6_init_124 : decode cX6_init 124 = .ok (.new 58, 3) := by decide +kernel
theorem dX6_init_127 : decode cX6_init 127 = .ok (.dup, 1) := by decide +kernel
theorem dX6_init_128 : decode cX6_init 128 = .ok (.invokespecial 60, 3) := by decide +kernel
theorem dX6_init_131 : decode cX6_init 131 = .ok (.putfield 61, 3) := by decide +kernel
theorem dX6_init_134 : decode cX6_init 134 = .ok (.aload_n 0, 1) := by decide +kernel
theorem dX6_init_135 : decode cX6_init 135 = .ok (.new 65, 3) := by decide +kernel
theorem dX6_init_138 : decode cX6_init 138 = .ok (.dup, 1) := by decide +kernel
theorem dX6_init_139 : decode cX6_init 139 = .ok (.invokespecial 67, 3) := by decide +kernel
theorem dX6_init_142 : decode cX6_init 142 = .ok (.putfield 68, 3) := by decide +kernel
theorem dX6_init_145 : decode cX6_init 145 = .ok (.return_, 1) := by decide +kernel
theorem dX6_letter_0 : decode cX6_letter 0 = .ok (.iload_n 1, 1) := by decide +kernel
theorem dX6_letter_1 : decode cX6_letter 1 = .ok (.bipush 32, 2) := by decide +kernel
theorem dX6_letter_3 : decode cX6_letter 3 = .ok (.if_icmp .lt 9, 3) := by decide +kernel
theorem dX6_letter_6 : decode cX6_letter 6 = .ok (.iload_n 1, 1) := by decide +kernel
theorem dX6_letter_7 : decode cX6_letter 7 = .ok (.bipush 126, 2) := by decide +kernel
theorem dX6_letter_9 : decode cX6_letter 9 = .ok (.if_icmp .le 6, 3) := by decide +kernel
theorem dX6_letter_12 : decode cX6_letter 12 = .ok (.bipush (-102), 2) := by decide +kernel
theorem dX6_letter_14 : decode cX6_letter 14 = .ok (.ireturn, 1) := by decide +kernel
theorem dX6_letter_15 : decode cX6_letter 15 = .ok (.aload_n 0, 1) := by decide +kernel
theorem dX6_letter_16 : decode cX6_letter 16 = .ok (.getfield 13, 3) := by decide +kernel
theorem dX6_letter_19 : decode cX6_letter 19 = .ok (.bipush 40, 2) := by decide +kernel
theorem dX6_letter_21 : decode cX6_letter 21 = .ok (.if_icmp .lt 6, 3) := by decide +kernel
theorem dX6_letter_24 : decode cX6_letter 24 = .ok (.bipush (-104), 2) := by decide +kernel
theorem dX6_letter_26 : decode cX6_letter 26 = .ok (.ireturn, 1) := by decide +kernel
theorem dX6_letter_27 : decode cX6_letter 27 = .ok (.aload_n 0, 1) := by decide +kernel
theorem dX6_letter_28 : decode cX6_letter 28 = .ok (.getfield 9, 3) := by decide +kernel
theorem dX6_letter_31 : decode cX6_letter 31 = .ok (.aload_n 0, 1) := by decide +kernel
theorem dX6_letter_32 : decode cX6_letter 32 = .ok (.getfield 13, 3) := by decide +kernel
theorem dX6_letter_35 : decode cX6_letter 35 = .ok (.iload_n 1, 1) := by decide +kernel
theorem dX6_letter_36 : decode cX6_letter 36 = .ok (.iastore, 1) := by decide +kernel
theorem dX6_letter_37 : decode cX6_letter 37 = .ok (.aload_n 0, 1) := by decide +kernel
theorem dX6_letter_38 : decode cX6_letter 38 = .ok (.dup, 1) := by decide +kernel
theorem dX6_letter_39 : decode cX6_letter 39 = .ok (.getfield 13, 3) := by decide +kernel
theorem dX6_letter_42 : decode cX6_letter 42 = .ok (.iconst 1, 1) := by decide +kernel
theorem dX6_letter_43 : decode cX6_letter 43 = .ok (.iadd, 1) := by decide +kernel
theorem dX6_letter_44 : decode cX6_letter 44 = .ok (.putfield 13, 3) := by decide +kernel
theorem dX6_letter_47 : decode cX6_letter 47 = .ok (.aload_n 0, 1) := by decide +kernel
theorem dX6_letter_48 : decode cX6_letter 48 = .ok (.getfield 13, 3) := by decide +kernel
theorem dX6_letter_51 : decode cX6_letter 51 = .ok (.ireturn, 1) := by decide +kernel
theorem dX6_blank_0 : decode cX6_blank 0 = .ok (.aload_n 0, 1) := by decide +kernel
theorem dX6_blank_1 : decode cX6_blank 1 = .ok (.getfield 13, 3) := by decide +kernel
theorem dX6_blank_4 : decode cX6_blank 4 = .ok (.istore_n 1, 1) := by decide +kernel
theorem dX6_blank_5 : decode cX6_blank 5 = .ok (.aload_n 0, 1) := by decide +kernel
theorem dX6_blank_6 : decode cX6_blank 6 = .ok (.iconst 0, 1) := by decide +kernel
theorem dX6_blank_7 : decode cX6_blank 7 = .ok (.putfield 13, 3) := by decide +kernel
theorem dX6_blank_10 : decode cX6_blank 10 = .ok (.iload_n 1, 1) := by decide +kernel
theorem dX6_blank_11 : decode cX6_blank 11 = .ok (.ireturn, 1) := by decide +kernel
theorem dX6_fault_0 : decode cX6_fault 0 = .ok (.aload_n 0, 1) := by decide +kernel
theorem dX6_fault_1 : decode cX6_fault 1 = .ok (.getfield 9, 3) := by decide +kernel
theorem dX6_fault_4 : decode cX6_fault 4 = .ok (.aload_n 0, 1) := by decide +kernel
theorem dX6_fault_5 : decode cX6_fault 5 = .ok (.getfield 13, 3) := by decide +kernel
theorem dX6_fault_8 : decode cX6_fault 8 = .ok (.invokestatic 72, 3) := by decide +kernel
theorem dX6_fault_11 : decode cX6_fault 11 = .ok (.ireturn, 1) := by decide +kernel
theorem dX6_code_0 : decode cX6_code 0 = .ok (.aload_n 0, 1) := by decide +kernel
theorem dX6_code_1 : decode cX6_code 1 = .ok (.getfield 9, 3) := by decide +kernel
theorem dX6_code_4 : decode cX6_code 4 = .ok (.aload_n 0, 1) := by decide +kernel
theorem dX6_code_5 : decode cX6_code 5 = .ok (.getfield 13, 3) := by decide +kernel
theorem dX6_code_8 : decode cX6_code 8 = .ok (.invokestatic 78, 3) := by decide +kernel
theorem dX6_code_11 : decode cX6_code 11 = .ok (.ifCond .ne 6, 3) := by decide +kernel
theorem dX6_code_14 : decode cX6_code 14 = .ok (.bipush (-103), 2) := by decide +kernel
theorem dX6_code_16 : decode cX6_code 16 = .ok (.ireturn, 1) := by decide +kernel
theorem dX6_code_17 : decode cX6_code 17 = .ok (.aload_n 0, 1) := by decide +kernel
theorem dX6_code_18 : decode cX6_code 18 = .ok (.getfield 42, 3) := by decide +kernel
theorem dX6_code_21 : decode cX6_code 21 = .ok (.iconst 4, 1) := by decide +kernel
theorem dX6_code_22 : decode cX6_code 22 = .ok (.if_icmp .lt 6, 3) := by decide +kernel
theorem dX6_code_25 : decode cX6_code 25 = .ok (.bipush (-104), 2) := by decide +kernel
theorem dX6_code_27 : decode cX6_code 27 = .ok (.ireturn, 1) := by decide +kernel
theorem dX6_code_28 : decode cX6_code 28 = .ok (.aload_n 0, 1) := by decide +kernel
theorem dX6_code_29 : decode cX6_code 29 = .ok (.getfield 42, 3) := by decide +kernel
theorem dX6_code_32 : decode cX6_code 32 = .ok (.istore_n 1, 1) := by decide +kernel
theorem dX6_code_33 : decode cX6_code 33 = .ok (.aload_n 0, 1) := by decide +kernel
theorem dX6_code_34 : decode cX6_code 34 = .ok (.getfield 28, 3) := by decide +kernel
theorem dX6_code_37 : decode cX6_code 37 = .ok (.iload_n 1, 1) := by decide +kernel
theorem dX6_code_38 : decode cX6_code 38 = .ok (.aaload, 1) := by decide +kernel
theorem dX6_code_39 : decode cX6_code 39 = .ok (.aload_n 0, 1) := by decide +kernel
theorem dX6_code_40 : decode cX6_code 40 = .ok (.getfield 9, 3) := by decide +kernel
theorem dX6_code_43 : decode cX6_code 43 = .ok (.aload_n 0, 1) := by decide +kernel
theorem dX6_code_44 : decode cX6_code 44 = .ok (.getfield 13, 3) := by decide +kernel
theorem dX6_code_47 : decode cX6_code 47 = .ok (.invokevirtual 82, 3) := by decide +kernel
theorem dX6_code_50 : decode cX6_code 50 = .ok (.aload_n 0, 1) := by decide +kernel
theorem dX6_code_51 : decode cX6_code 51 = .ok (.getfield 34, 3) := by decide +kernel
theorem dX6_code_54 : decode cX6_code 54 = .ok (.iload_n 1, 1) := by decide +kernel
theorem dX6_code_55 : decode cX6_code 55 = .ok (.aaload, 1) := by decide +kernel
theorem dX6_code_56 : decode cX6_code 56 = .ok (.aload_n 0, 1) := by decide +kernel
theorem dX6_code_57 : decode cX6_code 57 = .ok (.getfield 17, 3) := by decide +kernel
theorem dX6_code_60 : decode cX6_code 60 = .ok (.aload_n 0, 1) := by decide +kernel
theorem dX6_code_61 : decode cX6_code 61 = .ok (.getfield 20, 3) := by decide +kernel
theorem dX6_code_64 : decode cX6_code 64 = .ok (.invokevirtual 86, 3) := by decide +kernel
theorem dX6_code_67 : decode cX6_code 67 = .ok (.aload_n 0, 1) := by decide +kernel
theorem dX6_code_68 : decode cX6_code 68 = .ok (.dup, 1) := by decide +kernel
theorem dX6_code_69 : decode cX6_code 69 = .ok (.getfield 42, 3) := by decide +kernel
theorem dX6_code_72 : decode cX6_code 72 = .ok (.iconst 1, 1) := by decide +kernel
theorem dX6_code_73 : decode cX6_code 73 = .ok (.iadd, 1) := by decide +kernel
theorem dX6_code_74 : decode cX6_code 74 = .ok (.putfield 42, 3) := by decide +kernel
theorem dX6_code_77 : decode cX6_code 77 = .ok (.aload_n 0, 1) := by decide +kernel
theorem dX6_code_78 : decode cX6_code 78 = .ok (.dup, 1) := by decide +kernel
theorem dX6_code_79 : decode cX6_code 79 = .ok (.getfield 45, 3) := by decide +kernel
theorem dX6_code_82 : decode cX6_code 82 = .ok (.iconst 1, 1) := by decide +kernel
theorem dX6_code_83 : decode cX6_code 83 = .ok (.iadd, 1) := by decide +kernel
theorem dX6_code_84 : decode cX6_code 84 = .ok (.putfield 45, 3) := by decide +kernel
theorem dX6_code_87 : decode cX6_code 87 = .ok (.aload_n 0, 1) := by decide +kernel
theorem dX6_code_88 : decode cX6_code 88 = .ok (.iconst 0, 1) := by decide +kernel
theorem dX6_code_89 : decode cX6_code 89 = .ok (.putfield 13, 3) := by decide +kernel
theorem dX6_code_92 : decode cX6_code 92 = .ok (.iload_n 1, 1) := by decide +kernel
theorem dX6_code_93 : decode cX6_code 93 = .ok (.ireturn, 1) := by decide +kernel
theorem dX6_drop_0 : decode cX6_drop 0 = .ok (.aload_n 0, 1) := by decide +kernel
theorem dX6_drop_1 : decode cX6_drop 1 = .ok (.getfield 42, 3) := by decide +kernel
theorem dX6_drop_4 : decode cX6_drop 4 = .ok (.ifCond .gt 6, 3) := by decide +kernel
theorem dX6_drop_7 : decode cX6_drop 7 = .ok (.bipush (-103), 2) := by decide +kernel
theorem dX6_drop_9 : decode cX6_drop 9 = .ok (.ireturn, 1) := by decide +kernel
theorem dX6_drop_10 : decode cX6_drop 10 = .ok (.aload_n 0, 1) := by decide +kernel
theorem dX6_drop_11 : decode cX6_drop 11 = .ok (.dup, 1) := by decide +kernel
theorem dX6_drop_12 : decode cX6_drop 12 = .ok (.getfield 42, 3) := by decide +kernel
theorem dX6_drop_15 : decode cX6_drop 15 = .ok (.iconst 1, 1) := by decide +kernel
theorem dX6_drop_16 : decode cX6_drop 16 = .ok (.isub, 1) := by decide +kernel
theorem dX6_drop_17 : decode cX6_drop 17 = .ok (.putfield 42, 3) := by decide +kernel
theorem dX6_drop_20 : decode cX6_drop 20 = .ok (.aload_n 0, 1) := by decide +kernel
theorem dX6_drop_21 : decode cX6_drop 21 = .ok (.getfield 42, 3) := by decide +kernel
theorem dX6_drop_24 : decode cX6_drop 24 = .ok (.ireturn, 1) := by decide +kernel
theorem dX6_ink_0 : decode cX6_ink 0 = .ok (.aload_n 0, 1) := by decide +kernel
theorem dX6_ink_1 : decode cX6_ink 1 = .ok (.iload_n 1, 1) := by decide +kernel
theorem dX6_ink_2 : decode cX6_ink 2 = .ok (.invokevirtual 89, 3) := by decide +kernel
theorem dX6_ink_5 : decode cX6_ink 5 = .ok (.ifCond .eq 20, 3) := by decide +kernel
theorem dX6_ink_8 : decode cX6_ink 8 = .ok (.iload_n 2, 1) := by decide +kernel
theorem dX6_ink_9 : decode cX6_ink 9 = .ok (.ifCond .lt 16, 3) := by decide +kernel
theorem dX6_ink_12 : decode cX6_ink 12 = .ok (.iload_n 2, 1) := by decide +kernel
theorem dX6_ink_13 : decode cX6_ink 13 = .ok (.aload_n 0, 1) := by decide +kernel
theorem dX6_ink_14 : decode cX6_ink 14 = .ok (.getfield 28, 3) := by decide +kernel
theorem dX6_ink_17 : decode cX6_ink 17 = .ok (.iload_n 1, 1) := by decide +kernel
theorem dX6_ink_18 : decode cX6_ink 18 = .ok (.aaload, 1) := by decide +kernel
theorem dX6_ink_19 : decode cX6_ink 19 = .ok (.invokevirtual 93, 3) := by decide +kernel
theorem dX6_ink_22 : decode cX6_ink 22 = .ok (.if_icmp .lt 6, 3) := by decide +kernel
theorem dX6_ink_25 : decode cX6_ink 25 = .ok (.bipush (-101), 2) := by decide +kernel
theorem dX6_ink_27 : decode cX6_ink 27 = .ok (.ireturn, 1) := by decide +kernel
theorem dX6_ink_28 : decode cX6_ink 28 = .ok (.aload_n 0, 1) := by decide +kernel
theorem dX6_ink_29 : decode cX6_ink 29 = .ok (.getfield 28, 3) := by decide +kernel
theorem dX6_ink_32 : decode cX6_ink 32 = .ok (.iload_n 1, 1) := by decide +kernel
theorem dX6_ink_33 : decode cX6_ink 33 = .ok (.aaload, 1) := by decide +kernel
theorem dX6_ink_34 : decode cX6_ink 34 = .ok (.iload_n 2, 1) := by decide +kernel
theorem dX6_ink_35 : decode cX6_ink 35 = .ok (.invokevirtual 97, 3) := by decide +kernel
theorem dX6_ink_38 : decode cX6_ink 38 = .ok (.ireturn, 1) := by decide +kernel
theorem dX6_open_0 : decode cX6_open 0 = .ok (.iload_n 1, 1) := by decide +kernel
theorem dX6_open_1 : decode cX6_open 1 = .ok (.iconst 1, 1) := by decide +kernel
theorem dX6_open_2 : decode cX6_open 2 = .ok (.if_icmp .lt 9, 3) := by decide +kernel
theorem dX6_open_5 : decode cX6_open 5 = .ok (.iload_n 1, 1) := by decide +kernel
theorem dX6_open_6 : decode cX6_open 6 = .ok (.bipush 40, 2) := by decide +kernel
theorem dX6_open_8 : decode cX6_open 8 = .ok (.if_icmp .le 6, 3) := by decide +kernel
theorem dX6_open_11 : decode cX6_open 11 = .ok (.bipush (-102), 2) := by decide +kernel
theorem dX6_open_13 : decode cX6_open 13 = .ok (.ireturn, 1) := by decide +kernel
theorem dX6_open_14 : decode cX6_open 14 = .ok (.aload_n 0, 1) := by decide +kernel
theorem dX6_open_15 : decode cX6_open 15 = .ok (.getfield 20, 3) := by decide +kernel
theorem dX6_open_18 : decode cX6_open 18 = .ok (.istore_n 2, 1) := by decide +kernel
theorem dX6_open_19 : decode cX6_open 19 = .ok (.aload_n 0, 1) := by decide +kernel
theorem dX6_open_20 : decode cX6_open 20 = .ok (.iload_n 1, 1) := by decide +kernel
theorem dX6_open_21 : decode cX6_open 21 = .ok (.putfield 23, 3) := by decide +kernel
theorem dX6_open_24 : decode cX6_open 24 = .ok (.aload_n 0, 1) := by decide +kernel
theorem dX6_open_25 : decode cX6_open 25 = .ok (.iconst 0, 1) := by decide +kernel
theorem dX6_open_26 : decode cX6_open 26 = .ok (.putfield 20, 3) := by decide +kernel
theorem dX6_open_29 : decode cX6_open 29 = .ok (.aload_n 0, 1) := by decide +kernel
theorem dX6_open_30 : decode cX6_open 30 = .ok (.invokevirtual 101, 3) := by decide +kernel
theorem dX6_open_33 : decode cX6_open 33 = .ok (.iload_n 2, 1) := by decide +kernel
theorem dX6_open_34 : decode cX6_open 34 = .ok (.ireturn, 1) := by decide +kernel
theorem dX6_feed_0 : decode cX6_feed 0 = .ok (.iload_n 1, 1) := by decide +kernel
theorem dX6_feed_1 : decode cX6_feed 1 = .ok (.invokestatic 104, 3) := by decide +kernel
theorem dX6_feed_4 : decode cX6_feed 4 = .ok (.ifCond .ne 6, 3) := by decide +kernel
theorem dX6_feed_7 : decode cX6_feed 7 = .ok (.bipush (-102), 2) := by decide +kernel
theorem dX6_feed_9 : decode cX6_feed 9 = .ok (.ireturn, 1) := by decide +kernel
theorem dX6_feed_10 : decode cX6_feed 10 = .ok (.aload_n 0, 1) := by decide +kernel
theorem dX6_feed_11 : decode cX6_feed 11 = .ok (.getfield 20, 3) := by decide +kernel
theorem dX6_feed_14 : decode cX6_feed 14 = .ok (.aload_n 0, 1) := by decide +kernel
theorem dX6_feed_15 : decode cX6_feed 15 = .ok (.getfield 23, 3) := by decide +kernel
theorem dX6_feed_18 : decode cX6_feed 18 = .ok (.if_icmp .lt 6, 3) := by decide +kernel
theorem dX6_feed_21 : decode cX6_feed 21 = .ok (.bipush (-104), 2) := by decide +kernel
theorem dX6_feed_23 : decode cX6_feed 23 = .ok (.ireturn, 1) := by decide +kernel
theorem dX6_feed_24 : decode cX6_feed 24 = .ok (.aload_n 0, 1) := by decide +kernel
theorem dX6_feed_25 : decode cX6_feed 25 = .ok (.iload_n 1, 1) := by decide +kernel
theorem dX6_feed_26 : decode cX6_feed 26 = .ok (.invokevirtual 107, 3) := by decide +kernel
theorem dX6_feed_29 : decode cX6_feed 29 = .ok (.aload_n 0, 1) := by decide +kernel
theorem dX6_feed_30 : decode cX6_feed 30 = .ok (.invokevirtual 101, 3) := by decide +kernel
theorem dX6_feed_33 : decode cX6_feed 33 = .ok (.aload_n 0, 1) := by decide +kernel
theorem dX6_feed_34 : decode cX6_feed 34 = .ok (.getfield 20, 3) := by decide +kernel
theorem dX6_feed_37 : decode cX6_feed 37 = .ok (.ireturn, 1) := by decide +kernel
theorem dX6_feeds_0 : decode cX6_feeds 0 = .ok (.iconst 0, 1) := by decide +kernel
theorem dX6_feeds_1 : decode cX6_feeds 1 = .ok (.istore_n 1, 1) := by decide +kernel
theorem dX6_feeds_2 : decode cX6_feeds 2 = .ok (.iload_n 1, 1) := by decide +kernel
theorem dX6_feeds_3 : decode cX6_feeds 3 = .ok (.aload_n 0, 1) := by decide +kernel
theorem dX6_feeds_4 : decode cX6_feeds 4 = .ok (.getfield 13, 3) := by decide +kernel
theorem dX6_feeds_7 : decode cX6_feeds 7 = .ok (.if_icmp .ge 27, 3) := by decide +kernel
theorem dX6_feeds_10 : decode cX6_feeds 10 = .ok (.aload_n 0, 1) := by decide +kernel
theorem dX6_feeds_11 : decode cX6_feeds 11 = .ok (.getfield 9, 3) := by decide +kernel
theorem dX6_feeds_14 : decode cX6_feeds 14 = .ok (.iload_n 1, 1) := by decide +kernel
theorem dX6_feeds_15 : decode cX6_feeds 15 = .ok (.iaload, 1) := by decide +kernel
theorem dX6_feeds_16 : decode cX6_feeds 16 = .ok (.bipush 48, 2) := by decide +kernel
theorem dX6_feeds_18 : decode cX6_feeds 18 = .ok (.isub, 1) := by decide +kernel
theorem dX6_feeds_19 : decode cX6_feeds 19 = .ok (.invokestatic 104, 3) := by decide +kernel
theorem dX6_feeds_22 : decode cX6_feeds 22 = .ok (.ifCond .ne 6, 3) := by decide +kernel
theorem dX6_feeds_25 : decode cX6_feeds 25 = .ok (.bipush (-103), 2) := by decide +kernel
theorem dX6_feeds_27 : decode cX6_feeds 27 = .ok (.ireturn, 1) := by decide +kernel
theorem dX6_feeds_28 : decode cX6_feeds 28 = .ok (.iinc 1 1, 3) := by decide +kernel
theorem dX6_feeds_31 : decode cX6_feeds 31 = .ok (.goto (-29), 3) := by decide +kernel
theorem dX6_feeds_34 : decode cX6_feeds 34 = .ok (.aload_n 0, 1) := by decide +kernel
theorem dX6_feeds_35 : decode cX6_feeds 35 = .ok (.getfield 13, 3) := by decide +kernel
theorem dX6_feeds_38 : decode cX6_feeds 38 = .ok (.aload_n 0, 1) := by decide +kernel
theorem dX6_feeds_39 : decode cX6_feeds 39 = .ok (.getfield 23, 3) := by decide +kernel
theorem dX6_feeds_42 : decode cX6_feeds 42 = .ok (.aload_n 0, 1) := by decide +kernel
theorem dX6_feeds_43 : decode cX6_feeds 43 = .ok (.getfield 20, 3) := by decide +kernel
theorem dX6_feeds_46 : decode cX6_feeds 46 = .ok (.isub, 1) := by decide +kernel
theorem dX6_feeds_47 : decode cX6_feeds 47 = .ok (.if_icmp .le 6, 3) := by decide +kernel
theorem dX6_feeds_50 : decode cX6_feeds 50 = .ok (.bipush (-104), 2) := by decide +kernel
theorem dX6_feeds_52 : decode cX6_feeds 52 = .ok (.ireturn, 1) := by decide +kernel
theorem dX6_feeds_53 : decode cX6_feeds 53 = .ok (.iconst 0, 1) := by decide +kernel
theorem dX6_feeds_54 : decode cX6_feeds 54 = .ok (.istore_n 1, 1) := by decide +kernel
theorem dX6_feeds_55 : decode cX6_feeds 55 = .ok (.iload_n 1, 1) := by decide +kernel
theorem dX6_feeds_56 : decode cX6_feeds 56 = .ok (.aload_n 0, 1) := by decide +kernel
theorem dX6_feeds_57 : decode cX6_feeds 57 = .ok (.getfield 13, 3) := by decide +kernel
theorem dX6_feeds_60 : decode cX6_feeds 60 = .ok (.if_icmp .ge 22, 3) := by decide +kernel
theorem dX6_feeds_63 : decode cX6_feeds 63 = .ok (.aload_n 0, 1) := by decide +kernel
theorem dX6_feeds_64 : decode cX6_feeds 64 = .ok (.aload_n 0, 1) := by decide +kernel
theorem dX6_feeds_65 : decode cX6_feeds 65 = .ok (.getfield 9, 3) := by decide +kernel
theorem dX6_feeds_68 : decode cX6_feeds 68 = .ok (.iload_n 1, 1) := by decide +kernel
theorem dX6_feeds_69 : decode cX6_feeds 69 = .ok (.iaload, 1) := by decide +kernel
theorem dX6_feeds_70 : decode cX6_feeds 70 = .ok (.bipush 48, 2) := by decide +kernel
theorem dX6_feeds_72 : decode cX6_feeds 72 = .ok (.isub, 1) := by decide +kernel
theorem dX6_feeds_73 : decode cX6_feeds 73 = .ok (.invokevirtual 107, 3) := by decide +kernel
theorem dX6_feeds_76 : decode cX6_feeds 76 = .ok (.iinc 1 1, 3) := by decide +kernel
theorem dX6_feeds_79 : decode cX6_feeds 79 = .ok (.goto (-24), 3) := by decide +kernel
theorem dX6_feeds_82 : decode cX6_feeds 82 = .ok (.aload_n 0, 1) := by decide +kernel
theorem dX6_feeds_83 : decode cX6_feeds 83 = .ok (.iconst 0, 1) := by decide +kernel
theorem dX6_feeds_84 : decode cX6_feeds 84 = .ok (.putfield 13, 3) := by decide +kernel
theorem dX6_feeds_87 : decode cX6_feeds 87 = .ok (.aload_n 0, 1) := by decide +kernel
theorem dX6_feeds_88 : decode cX6_feeds 88 = .ok (.invokevirtual 101, 3) := by decide +kernel
theorem dX6_feeds_91 : decode cX6_feeds 91 = .ok (.aload_n 0, 1) := by decide +kernel
theorem dX6_feeds_92 : decode cX6_feeds 92 = .ok (.getfield 20, 3) := by decide +kernel
theorem dX6_feeds_95 : decode cX6_feeds 95 = .ok (.ireturn, 1) := by decide +kernel
theorem dX6_back_0 : decode cX6_back 0 = .ok (.aload_n 0, 1) := by decide +kernel
theorem dX6_back_1 : decode cX6_back 1 = .ok (.getfield 20, 3) := by decide +kernel
theorem dX6_back_4 : decode cX6_back 4 = .ok (.ifCond .gt 6, 3) := by decide +kernel
theorem dX6_back_7 : decode cX6_back 7 = .ok (.bipush (-103), 2) := by decide +kernel
theorem dX6_back_9 : decode cX6_back 9 = .ok (.ireturn, 1) := by decide +kernel
theorem dX6_back_10 : decode cX6_back 10 = .ok (.aload_n 0, 1) := by decide +kernel
theorem dX6_back_11 : decode cX6_back 11 = .ok (.dup, 1) := by decide +kernel
theorem dX6_back_12 : decode cX6_back 12 = .ok (.getfield 20, 3) := by decide +kernel
theorem dX6_back_15 : decode cX6_back 15 = .ok (.iconst 1, 1) := by decide +kernel
theorem dX6_back_16 : decode cX6_back 16 = .ok (.isub, 1) := by decide +kernel
theorem dX6_back_17 : decode cX6_back 17 = .ok (.putfield 20, 3) := by decide +kernel
theorem dX6_back_20 : decode cX6_back 20 = .ok (.aload_n 0, 1) := by decide +kernel
theorem dX6_back_21 : decode cX6_back 21 = .ok (.invokevirtual 101, 3) := by decide +kernel
theorem dX6_back_24 : decode cX6_back 24 = .ok (.aload_n 0, 1) := by decide +kernel
theorem dX6_back_25 : decode cX6_back 25 = .ok (.getfield 20, 3) := by decide +kernel
theorem dX6_back_28 : decode cX6_back 28 = .ok (.ireturn, 1) := by decide +kernel
theorem dX6_unit_0 : decode cX6_unit 0 = .ok (.iload_n 1, 1) := by decide +kernel
theorem dX6_unit_1 : decode cX6_unit 1 = .ok (.ifCond .lt 11, 3) := by decide +kernel
theorem dX6_unit_4 : decode cX6_unit 4 = .ok (.iload_n 1, 1) := by decide +kernel
theorem dX6_unit_5 : decode cX6_unit 5 = .ok (.aload_n 0, 1) := by decide +kernel
theorem dX6_unit_6 : decode cX6_unit 6 = .ok (.getfield 20, 3) := by decide +kernel
theorem dX6_unit_9 : decode cX6_unit 9 = .ok (.if_icmp .lt 6, 3) := by decide +kernel
theorem dX6_unit_12 : decode cX6_unit 12 = .ok (.bipush (-101), 2) := by decide +kernel
theorem dX6_unit_14 : decode cX6_unit 14 = .ok (.ireturn, 1) := by decide +kernel
theorem dX6_unit_15 : decode cX6_unit 15 = .ok (.aload_n 0, 1) := by decide +kernel
theorem dX6_unit_16 : decode cX6_unit 16 = .ok (.getfield 17, 3) := by decide +kernel
theorem dX6_unit_19 : decode cX6_unit 19 = .ok (.iload_n 1, 1) := by decide +kernel
theorem dX6_unit_20 : decode cX6_unit 20 = .ok (.iaload, 1) := by decide +kernel
theorem dX6_unit_21 : decode cX6_unit 21 = .ok (.ireturn, 1) := by decide +kernel
theorem dX6_about_0 : decode cX6_about 0 = .ok (.aload_n 0, 1) := by decide +kernel
theorem dX6_about_1 : decode cX6_about 1 = .ok (.iload_n 1, 1) := by decide +kernel
theorem dX6_about_2 : decode cX6_about 2 = .ok (.invokevirtual 89, 3) := by decide +kernel
theorem dX6_about_5 : decode cX6_about 5 = .ok (.ifCond .ne 6, 3) := by decide +kernel
theorem dX6_about_8 : decode cX6_about 8 = .ok (.bipush (-101), 2) := by decide +kernel
theorem dX6_about_10 : decode cX6_about 10 = .ok (.ireturn, 1) := by decide +kernel
theorem dX6_about_11 : decode cX6_about 11 = .ok (.aload_n 0, 1) := by decide +kernel
theorem dX6_about_12 : decode cX6_about 12 = .ok (.getfield 34, 3) := by decide +kernel
theorem dX6_about_15 : decode cX6_about 15 = .ok (.iload_n 1, 1) := by decide +kernel
theorem dX6_about_16 : decode cX6_about 16 = .ok (.aaload, 1) := by decide +kernel
theorem dX6_about_17 : decode cX6_about 17 = .ok (.astore_n 3, 1) := by decide +kernel
theorem dX6_about_18 : decode cX6_about 18 = .ok (.iload_n 2, 1) := by decide +kernel
theorem dX6_about_19 : decode cX6_about 19 = .ok (.tableswitch 119 0 7 #[45, 55, 68, 81, 86, 91, 107, 113], 45) := by decide +kernel
theorem dX6_about_64 : decode cX6_about 64 = .ok (.aload_n 0, 1) := by decide +kernel
theorem dX6_about_65 : decode cX6_about 65 = .ok (.getfield 28, 3) := by decide +kernel
theorem dX6_about_68 : decode cX6_about 68 = .ok (.iload_n 1, 1) := by decide +kernel
theorem dX6_about_69 : decode cX6_about 69 = .ok (.aaload, 1) := by decide +kernel
theorem dX6_about_70 : decode cX6_about 70 = .ok (.invokevirtual 111, 3) := by decide +kernel
theorem dX6_about_73 : decode cX6_about 73 = .ok (.ireturn, 1) := by decide +kernel
theorem dX6_about_74 : decode cX6_about 74 = .ok (.aload_n 3, 1) := by decide +kernel
theorem dX6_about_75 : decode cX6_about 75 = .ok (.invokevirtual 114, 3) := by decide +kernel
theorem dX6_about_78 : decode cX6_about 78 = .ok (.ifCond .eq 7, 3) := by decide +kernel
theorem dX6_about_81 : decode cX6_about 81 = .ok (.iconst 1, 1) := by decide +kernel
theorem dX6_about_82 : decode cX6_about 82 = .ok (.goto 4, 3) := by decide +kernel
theorem dX6_about_85 : decode cX6_about 85 = .ok (.iconst 0, 1) := by decide +kernel
theorem dX6_about_86 : decode cX6_about 86 = .ok (.ireturn, 1) := by decide +kernel
theorem dX6_about_87 : decode cX6_about 87 = .ok (.aload_n 3, 1) := by decide +kernel
theorem dX6_about_88 : decode cX6_about 88 = .ok (.invokevirtual 118, 3) := by decide +kernel
theorem dX6_about_91 : decode cX6_about 91 = .ok (.ifCond .eq 7, 3) := by decide +kernel
theorem dX6_about_94 : decode cX6_about 94 = .ok (.iconst 1, 1) := by decide +kernel
theorem dX6_about_95 : decode cX6_about 95 = .ok (.goto 4, 3) := by decide +kernel
theorem dX6_about_98 : decode cX6_about 98 = .ok (.iconst 0, 1) := by decide +kernel
theorem dX6_about_99 : decode cX6_about 99 = .ok (.ireturn, 1) := by decide +kernel
theorem dX6_about_100 : decode cX6_about 100 = .ok (.aload_n 3, 1) := by decide +kernel
theorem dX6_about_101 : decode cX6_about 101 = .ok (.invokevirtual 121, 3) := by decide +kernel
theorem dX6_about_104 : decode cX6_about 104 = .ok (.ireturn, 1) := by decide +kernel
theorem dX6_about_105 : decode cX6_about 105 = .ok (.aload_n 3, 1) := by decide +kernel
theorem dX6_about_106 : decode cX6_about 106 = .ok (.invokevirtual 124, 3) := by decide +kernel
theorem dX6_about_109 : decode cX6_about 109 = .ok (.ireturn, 1) := by decide +kernel
theorem dX6_about_110 : decode cX6_about 110 = .ok (.aload_n 3, 1) := by decide +kernel
theorem dX6_about_111 : decode cX6_about 111 = .ok (.invokevirtual 114, 3) := by decide +kernel
theorem dX6_about_114 : decode cX6_about 114 = .ok (.ifCond .eq 7, 3) := by decide +kernel
theorem dX6_about_117 : decode cX6_about 117 = .ok (.iconst (-1), 1) := by decide +kernel
theorem dX6_about_118 : decode cX6_about 118 = .ok (.goto 7, 3) := by decide +kernel
theorem dX6_about_121 : decode cX6_about 121 = .ok (.aload_n 3, 1) := by decide +kernel
theorem dX6_about_122 : decode cX6_about 122 = .ok (.invokevirtual 127, 3) := by decide +kernel
theorem dX6_about_125 : decode cX6_about 125 = .ok (.ireturn, 1) := by decide +kernel
theorem dX6_about_126 : decode cX6_about 126 = .ok (.aload_n 0, 1) := by decide +kernel
theorem dX6_about_127 : decode cX6_about 127 = .ok (.iload_n 1, 1) := by decide +kernel
theorem dX6_about_128 : decode cX6_about 128 = .ok (.invokevirtual 130, 3) := by decide +kernel
theorem dX6_about_131 : decode cX6_about 131 = .ok (.ireturn, 1) := by decide +kernel
theorem dX6_about_132 : decode cX6_about 132 = .ok (.aload_n 0, 1) := by decide +kernel
theorem dX6_about_133 : decode cX6_about 133 = .ok (.iload_n 1, 1) := by decide +kernel
theorem dX6_about_134 : decode cX6_about 134 = .ok (.invokevirtual 133, 3) := by decide +kernel
theorem dX6_about_137 : decode cX6_about 137 = .ok (.ireturn, 1) := by decide +kernel
theorem dX6_about_138 : decode cX6_about 138 = .ok (.bipush (-102), 2) := by decide +kernel
theorem dX6_about_140 : decode cX6_about 140 = .ok (.ireturn, 1) := by decide +kernel
theorem dX6_points_0 : decode cX6_points 0 = .ok (.aload_n 0, 1) := by decide +kernel
theorem dX6_points_1 : decode cX6_points 1 = .ok (.iload_n 1, 1) := by decide +kernel
theorem dX6_points_2 : decode cX6_points 2 = .ok (.invokevirtual 89, 3) := by decide +kernel
theorem dX6_points_5 : decode cX6_points 5 = .ok (.ifCond .ne 6, 3) := by decide +kernel
theorem dX6_points_8 : decode cX6_points 8 = .ok (.bipush (-101), 2) := by decide +kernel
theorem dX6_points_10 : decode cX6_points 10 = .ok (.ireturn, 1) := by decide +kernel
theorem dX6_points_11 : decode cX6_points 11 = .ok (.iload_n 2, 1) := by decide +kernel
theorem dX6_points_12 : decode cX6_points 12 = .ok (.invokestatic 136, 3) := by decide +kernel
theorem dX6_points_15 : decode cX6_points 15 = .ok (.ifCond .ne 6, 3) := by decide +kernel
theorem dX6_points_18 : decode cX6_points 18 = .ok (.bipush (-102), 2) := by decide +kernel
theorem dX6_points_20 : decode cX6_points 20 = .ok (.ireturn, 1) := by decide +kernel
theorem dX6_points_21 : decode cX6_points 21 = .ok (.aload_n 0, 1) := by decide +kernel
theorem dX6_points_22 : decode cX6_points 22 = .ok (.getfield 28, 3) := by decide +kernel
theorem dX6_points_25 : decode cX6_points 25 = .ok (.iload_n 1, 1) := by decide +kernel
theorem dX6_points_26 : decode cX6_points 26 = .ok (.aaload, 1) := by decide +kernel
theorem dX6_points_27 : decode cX6_points 27 = .ok (.iload_n 2, 1) := by decide +kernel
theorem dX6_points_28 : decode cX6_points 28 = .ok (.invokevirtual 139, 3) := by decide +kernel
theorem dX6_points_31 : decode cX6_points 31 = .ok (.ireturn, 1) := by decide +kernel
theorem dX6_pairs_0 : decode cX6_pairs 0 = .ok (.aload_n 0, 1) := by decide +kernel
theorem dX6_pairs_1 : decode cX6_pairs 1 = .ok (.iload_n 1, 1) := by decide +kernel
theorem dX6_pairs_2 : decode cX6_pairs 2 = .ok (.invokevirtual 89, 3) := by decide +kernel
theorem dX6_pairs_5 : decode cX6_pairs 5 = .ok (.ifCond .ne 6, 3) := by decide +kernel
theorem dX6_pairs_8 : decode cX6_pairs 8 = .ok (.bipush (-101), 2) := by decide +kernel
theorem dX6_pairs_10 : decode cX6_pairs 10 = .ok (.ireturn, 1) := by decide +kernel
theorem dX6_pairs_11 : decode cX6_pairs 11 = .ok (.iload_n 2, 1) := by decide +kernel
theorem dX6_pairs_12 : decode cX6_pairs 12 = .ok (.invokestatic 136, 3) := by decide +kernel
theorem dX6_pairs_15 : decode cX6_pairs 15 = .ok (.ifCond .ne 6, 3) := by decide +kernel
theorem dX6_pairs_18 : decode cX6_pairs 18 = .ok (.bipush (-102), 2) := by decide +kernel
theorem dX6_pairs_20 : decode cX6_pairs 20 = .ok (.ireturn, 1) := by decide +kernel
theorem dX6_pairs_21 : decode cX6_pairs 21 = .ok (.aload_n 0, 1) := by decide +kernel
theorem dX6_pairs_22 : decode cX6_pairs 22 = .ok (.getfield 34, 3) := by decide +kernel
theorem dX6_pairs_25 : decode cX6_pairs 25 = .ok (.iload_n 1, 1) := by decide +kernel
theorem dX6_pairs_26 : decode cX6_pairs 26 = .ok (.aaload, 1) := by decide +kernel
theorem dX6_pairs_27 : decode cX6_pairs 27 = .ok (.iload_n 2, 1) := by decide +kernel
theorem dX6_pairs_28 : decode cX6_pairs 28 = .ok (.invokevirtual 142, 3) := by decide +kernel
theorem dX6_pairs_31 : decode cX6_pairs 31 = .ok (.ireturn, 1) := by decide +kernel
theorem dX6_judged_0 : decode cX6_judged 0 = .ok (.aload_n 0, 1) := by decide +kernel
theorem dX6_judged_1 : decode cX6_judged 1 = .ok (.iconst 0, 1) := by decide +kernel
theorem dX6_judged_2 : decode cX6_judged 2 = .ok (.invokevirtual 145, 3) := by decide +kernel
theorem dX6_judged_5 : decode cX6_judged 5 = .ok (.istore_n 1, 1) := by decide +kernel
theorem dX6_judged_6 : decode cX6_judged 6 = .ok (.aload_n 0, 1) := by decide +kernel
theorem dX6_judged_7 : decode cX6_judged 7 = .ok (.iload_n 1, 1) := by decide +kernel
theorem dX6_judged_8 : decode cX6_judged 8 = .ok (.invokevirtual 89, 3) := by decide +kernel
theorem dX6_judged_11 : decode cX6_judged 11 = .ok (.ifCond .eq 19, 3) := by decide +kernel
theorem dX6_judged_14 : decode cX6_judged 14 = .ok (.aload_n 0, 1) := by decide +kernel
theorem dX6_judged_15 : decode cX6_judged 15 = .ok (.getfield 34, 3) := by decide +kernel
theorem dX6_judged_18 : decode cX6_judged 18 = .ok (.iload_n 1, 1) := by decide +kernel
theorem dX6_judged_19 : decode cX6_judged 19 = .ok (.aaload, 1) := by decide +kernel
theorem dX6_judged_20 : decode cX6_judged 20 = .ok (.invokevirtual 118, 3) := by decide +kernel
theorem dX6_judged_23 : decode cX6_judged 23 = .ok (.ifCond .eq 7, 3) := by decide +kernel
theorem dX6_judged_26 : decode cX6_judged 26 = .ok (.iload_n 1, 1) := by decide +kernel
theorem dX6_judged_27 : decode cX6_judged 27 = .ok (.goto 4, 3) := by decide +kernel
theorem dX6_judged_30 : decode cX6_judged 30 = .ok (.iconst (-1), 1) := by decide +kernel
theorem dX6_judged_31 : decode cX6_judged 31 = .ok (.ireturn, 1) := by decide +kernel
theorem dX6_rank_0 : decode cX6_rank 0 = .ok (.iconst 0, 1) := by decide +kernel
theorem dX6_rank_1 : decode cX6_rank 1 = .ok (.istore_n 2, 1) := by decide +kernel
theorem dX6_rank_2 : decode cX6_rank 2 = .ok (.iload_n 2, 1) := by decide +kernel
theorem dX6_rank_3 : decode cX6_rank 3 = .ok (.aload_n 0, 1) := by decide +kernel
theorem dX6_rank_4 : decode cX6_rank 4 = .ok (.getfield 42, 3) := by decide +kernel
theorem dX6_rank_7 : decode cX6_rank 7 = .ok (.if_icmp .ge 20, 3) := by decide +kernel
theorem dX6_rank_10 : decode cX6_rank 10 = .ok (.aload_n 0, 1) := by decide +kernel
theorem dX6_rank_11 : decode cX6_rank 11 = .ok (.iload_n 2, 1) := by decide +kernel
theorem dX6_rank_12 : decode cX6_rank 12 = .ok (.invokevirtual 133, 3) := by decide +kernel
theorem dX6_rank_15 : decode cX6_rank 15 = .ok (.iload_n 1, 1) := by decide +kernel
theorem dX6_rank_16 : decode cX6_rank 16 = .ok (.if_icmp .ne 5, 3) := by decide +kernel
theorem dX6_rank_19 : decode cX6_rank 19 = .ok (.iload_n 2, 1) := by decide +kernel
theorem dX6_rank_20 : decode cX6_rank 20 = .ok (.ireturn, 1) := by decide +kernel
theorem dX6_rank_21 : decode cX6_rank 21 = .ok (.iinc 2 1, 3) := by decide +kernel
theorem dX6_rank_24 : decode cX6_rank 24 = .ok (.goto (-22), 3) := by decide +kernel
theorem dX6_rank_27 : decode cX6_rank 27 = .ok (.bipush (-101), 2) := by decide +kernel
theorem dX6_rank_29 : decode cX6_rank 29 = .ok (.ireturn, 1) := by decide +kernel
theorem dX6_rows_0 : decode cX6_rows 0 = .ok (.aload_n 0, 1) := by decide +kernel
theorem dX6_rows_1 : decode cX6_rows 1 = .ok (.iload_n 1, 1) := by decide +kernel
theorem dX6_rows_2 : decode cX6_rows 2 = .ok (.invokevirtual 89, 3) := by decide +kernel
theorem dX6_rows_5 : decode cX6_rows 5 = .ok (.ifCond .ne 6, 3) := by decide +kernel
theorem dX6_rows_8 : decode cX6_rows 8 = .ok (.bipush (-101), 2) := by decide +kernel
theorem dX6_rows_10 : decode cX6_rows 10 = .ok (.ireturn, 1) := by decide +kernel
theorem dX6_rows_11 : decode cX6_rows 11 = .ok (.iload_n 2, 1) := by decide +kernel
theorem dX6_rows_12 : decode cX6_rows 12 = .ok (.ifCond .lt 9, 3) := by decide +kernel
theorem dX6_rows_15 : decode cX6_rows 15 = .ok (.iload_n 2, 1) := by decide +kernel
theorem dX6_rows_16 : decode cX6_rows 16 = .ok (.bipush 9, 2) := by decide +kernel
theorem dX6_rows_18 : decode cX6_rows 18 = .ok (.if_icmp .le 6, 3) := by decide +kernel
theorem dX6_rows_21 : decode cX6_rows 21 = .ok (.bipush (-102), 2) := by decide +kernel
theorem dX6_rows_23 : decode cX6_rows 23 = .ok (.ireturn, 1) := by decide +kernel
theorem dX6_rows_24 : decode cX6_rows 24 = .ok (.aload_n 0, 1) := by decide +kernel
theorem dX6_rows_25 : decode cX6_rows 25 = .ok (.getfield 28, 3) := by decide +kernel
theorem dX6_rows_28 : decode cX6_rows 28 = .ok (.iload_n 1, 1) := by decide +kernel
theorem dX6_rows_29 : decode cX6_rows 29 = .ok (.aaload, 1) := by decide +kernel
theorem dX6_rows_30 : decode cX6_rows 30 = .ok (.iload_n 2, 1) := by decide +kernel
theorem dX6_rows_31 : decode cX6_rows 31 = .ok (.invokevirtual 148, 3) := by decide +kernel
theorem dX6_rows_34 : decode cX6_rows 34 = .ok (.ireturn, 1) := by decide +kernel
theorem dX6_apart_0 : decode cX6_apart 0 = .ok (.aload_n 0, 1) := by decide +kernel
theorem dX6_apart_1 : decode cX6_apart 1 = .ok (.iload_n 1, 1) := by decide +kernel
theorem dX6_apart_2 : decode cX6_apart 2 = .ok (.invokevirtual 89, 3) := by decide +kernel
theorem dX6_apart_5 : decode cX6_apart 5 = .ok (.ifCond .eq 11, 3) := by decide +kernel
theorem dX6_apart_8 : decode cX6_apart 8 = .ok (.aload_n 0, 1) := by decide +kernel
theorem dX6_apart_9 : decode cX6_apart 9 = .ok (.iload_n 2, 1) := by decide +kernel
theorem dX6_apart_10 : decode cX6_apart 10 = .ok (.invokevirtual 89, 3) := by decide +kernel
theorem dX6_apart_13 : decode cX6_apart 13 = .ok (.ifCond .ne 6, 3) := by decide +kernel
theorem dX6_apart_16 : decode cX6_apart 16 = .ok (.bipush (-101), 2) := by decide +kernel
theorem dX6_apart_18 : decode cX6_apart 18 = .ok (.ireturn, 1) := by decide +kernel
theorem dX6_apart_19 : decode cX6_apart 19 = .ok (.aload_n 0, 1) := by decide +kernel
theorem dX6_apart_20 : decode cX6_apart 20 = .ok (.getfield 61, 3) := by decide +kernel
theorem dX6_apart_23 : decode cX6_apart 23 = .ok (.aload_n 0, 1) := by decide +kernel
theorem dX6_apart_24 : decode cX6_apart 24 = .ok (.getfield 28, 3) := by decide +kernel
theorem dX6_apart_27 : decode cX6_apart 27 = .ok (.iload_n 1, 1) := by decide +kernel
theorem dX6_apart_28 : decode cX6_apart 28 = .ok (.aaload, 1) := by decide +kernel
theorem dX6_apart_29 : decode cX6_apart 29 = .ok (.aload_n 0, 1) := by decide +kernel
theorem dX6_apart_30 : decode cX6_apart 30 = .ok (.getfield 28, 3) := by decide +kernel
theorem dX6_apart_33 : decode cX6_apart 33 = .ok (.iload_n 2, 1) := by decide +kernel
theorem dX6_apart_34 : decode cX6_apart 34 = .ok (.aaload, 1) := by decide +kernel
theorem dX6_apart_35 : decode cX6_apart 35 = .ok (.invokevirtual 151, 3) := by decide +kernel
theorem dX6_apart_38 : decode cX6_apart 38 = .ok (.ifCond .eq 13, 3) := by decide +kernel
theorem dX6_apart_41 : decode cX6_apart 41 = .ok (.aload_n 0, 1) := by decide +kernel
theorem dX6_apart_42 : decode cX6_apart 42 = .ok (.getfield 61, 3) := by decide +kernel
theorem dX6_apart_45 : decode cX6_apart 45 = .ok (.invokevirtual 155, 3) := by decide +kernel
theorem dX6_apart_48 : decode cX6_apart 48 = .ok (.goto 4, 3) := by decide +kernel
theorem dX6_apart_51 : decode cX6_apart 51 = .ok (.iconst (-1), 1) := by decide +kernel
theorem dX6_apart_52 : decode cX6_apart 52 = .ok (.ireturn, 1) := by decide +kernel
theorem dX6_tells_0 : decode cX6_tells 0 = .ok (.aload_n 0, 1) := by decide +kernel
theorem dX6_tells_1 : decode cX6_tells 1 = .ok (.iload_n 1, 1) := by decide +kernel
theorem dX6_tells_2 : decode cX6_tells 2 = .ok (.invokevirtual 89, 3) := by decide +kernel
theorem dX6_tells_5 : decode cX6_tells 5 = .ok (.ifCond .eq 33, 3) := by decide +kernel
theorem dX6_tells_8 : decode cX6_tells 8 = .ok (.aload_n 0, 1) := by decide +kernel
theorem dX6_tells_9 : decode cX6_tells 9 = .ok (.iload_n 2, 1) := by decide +kernel
theorem dX6_tells_10 : decode cX6_tells 10 = .ok (.invokevirtual 89, 3) := by decide +kernel
theorem dX6_tells_13 : decode cX6_tells 13 = .ok (.ifCond .eq 25, 3) := by decide +kernel
theorem dX6_tells_16 : decode cX6_tells 16 = .ok (.aload_n 0, 1) := by decide +kernel
theorem dX6_tells_17 : decode cX6_tells 17 = .ok (.getfield 61, 3) := by decide +kernel
theorem dX6_tells_20 : decode cX6_tells 20 = .ok (.aload_n 0, 1) := by decide +kernel
theorem dX6_tells_21 : decode cX6_tells 21 = .ok (.getfield 28, 3) := by decide +kernel
theorem dX6_tells_24 : decode cX6_tells 24 = .ok (.iload_n 1, 1) := by decide +kernel
theorem dX6_tells_25 : decode cX6_tells 25 = .ok (.aaload, 1) := by decide +kernel
theorem dX6_tells_26 : decode cX6_tells 26 = .ok (.aload_n 0, 1) := by decide +kernel
theorem dX6_tells_27 : decode cX6_tells 27 = .ok (.getfield 28, 3) := by decide +kernel
theorem dX6_tells_30 : decode cX6_tells 30 = .ok (.iload_n 2, 1) := by decide +kernel
theorem dX6_tells_31 : decode cX6_tells 31 = .ok (.aaload, 1) := by decide +kernel
theorem dX6_tells_32 : decode cX6_tells 32 = .ok (.invokevirtual 151, 3) := by decide +kernel
theorem dX6_tells_35 : decode cX6_tells 35 = .ok (.ifCond .ne 6, 3) := by decide +kernel
theorem dX6_tells_38 : decode cX6_tells 38 = .ok (.bipush (-101), 2) := by decide +kernel
theorem dX6_tells_40 : decode cX6_tells 40 = .ok (.ireturn, 1) := by decide +kernel
theorem dX6_tells_41 : decode cX6_tells 41 = .ok (.iload_n 3, 1) := by decide +kernel
theorem dX6_tells_42 : decode cX6_tells 42 = .ok (.ifCond .lt 14, 3) := by decide +kernel
theorem dX6_tells_45 : decode cX6_tells 45 = .ok (.iload_n 3, 1) := by decide +kernel
theorem dX6_tells_46 : decode cX6_tells 46 = .ok (.aload_n 0, 1) := by decide +kernel
theorem dX6_tells_47 : decode cX6_tells 47 = .ok (.getfield 61, 3) := by decide +kernel
theorem dX6_tells_50 : decode cX6_tells 50 = .ok (.invokevirtual 155, 3) := by decide +kernel
theorem dX6_tells_53 : decode cX6_tells 53 = .ok (.if_icmp .lt 6, 3) := by decide +kernel
theorem dX6_tells_56 : decode cX6_tells 56 = .ok (.bipush (-101), 2) := by decide +kernel
theorem dX6_tells_58 : decode cX6_tells 58 = .ok (.ireturn, 1) := by decide +kernel
theorem dX6_tells_59 : decode cX6_tells 59 = .ok (.aload_n 0, 1) := by decide +kernel
theorem dX6_tells_60 : decode cX6_tells 60 = .ok (.getfield 61, 3) := by decide +kernel
theorem dX6_tells_63 : decode cX6_tells 63 = .ok (.iload_n 3, 1) := by decide +kernel
theorem dX6_tells_64 : decode cX6_tells 64 = .ok (.invokevirtual 158, 3) := by decide +kernel
theorem dX6_tells_67 : decode cX6_tells 67 = .ok (.ireturn, 1) := by decide +kernel
theorem dX6_cuts_0 : decode cX6_cuts 0 = .ok (.iload_n 1, 1) := by decide +kernel
theorem dX6_cuts_1 : decode cX6_cuts 1 = .ok (.ifCond .lt 8, 3) := by decide +kernel
theorem dX6_cuts_4 : decode cX6_cuts 4 = .ok (.iload_n 1, 1) := by decide +kernel
theorem dX6_cuts_5 : decode cX6_cuts 5 = .ok (.iconst 1, 1) := by decide +kernel
theorem dX6_cuts_6 : decode cX6_cuts 6 = .ok (.if_icmp .le 6, 3) := by decide +kernel
theorem dX6_cuts_9 : decode cX6_cuts 9 = .ok (.bipush (-102), 2) := by decide +kernel
theorem dX6_cuts_11 : decode cX6_cuts 11 = .ok (.ireturn, 1) := by decide +kernel
theorem dX6_cuts_12 : decode cX6_cuts 12 = .ok (.aload_n 0, 1) := by decide +kernel
theorem dX6_cuts_13 : decode cX6_cuts 13 = .ok (.getfield 68, 3) := by decide +kernel
theorem dX6_cuts_16 : decode cX6_cuts 16 = .ok (.aload_n 0, 1) := by decide +kernel
theorem dX6_cuts_17 : decode cX6_cuts 17 = .ok (.getfield 28, 3) := by decide +kernel
theorem dX6_cuts_20 : decode cX6_cuts 20 = .ok (.aload_n 0, 1) := by decide +kernel
theorem dX6_cuts_21 : decode cX6_cuts 21 = .ok (.getfield 42, 3) := by decide +kernel
theorem dX6_cuts_24 : decode cX6_cuts 24 = .ok (.aload_n 0, 1) := by decide +kernel
theorem dX6_cuts_25 : decode cX6_cuts 25 = .ok (.getfield 17, 3) := by decide +kernel
theorem dX6_cuts_28 : decode cX6_cuts 28 = .ok (.aload_n 0, 1) := by decide +kernel
theorem dX6_cuts_29 : decode cX6_cuts 29 = .ok (.getfield 20, 3) := by decide +kernel
theorem dX6_cuts_32 : decode cX6_cuts 32 = .ok (.invokevirtual 161, 3) := by decide +kernel
theorem dX6_cuts_35 : decode cX6_cuts 35 = .ok (.ifCond .ne 6, 3) := by decide +kernel
theorem dX6_cuts_38 : decode cX6_cuts 38 = .ok (.bipush (-103), 2) := by decide +kernel
theorem dX6_cuts_40 : decode cX6_cuts 40 = .ok (.ireturn, 1) := by decide +kernel
theorem dX6_cuts_41 : decode cX6_cuts 41 = .ok (.iload_n 1, 1) := by decide +kernel
theorem dX6_cuts_42 : decode cX6_cuts 42 = .ok (.ifCond .ne 13, 3) := by decide +kernel
theorem dX6_cuts_45 : decode cX6_cuts 45 = .ok (.aload_n 0, 1) := by decide +kernel
theorem dX6_cuts_46 : decode cX6_cuts 46 = .ok (.getfield 68, 3) := by decide +kernel
theorem dX6_cuts_49 : decode cX6_cuts 49 = .ok (.invokevirtual 165, 3) := by decide +kernel
theorem dX6_cuts_52 : decode cX6_cuts 52 = .ok (.goto 10, 3) := by decide +kernel
theorem dX6_cuts_55 : decode cX6_cuts 55 = .ok (.aload_n 0, 1) := by decide +kernel
theorem dX6_cuts_56 : decode cX6_cuts 56 = .ok (.getfield 68, 3) := by decide +kernel
theorem dX6_cuts_59 : decode cX6_cuts 59 = .ok (.invokevirtual 168, 3) := by decide +kernel
theorem dX6_cuts_62 : decode cX6_cuts 62 = .ok (.ireturn, 1) := by decide +kernel
theorem dX6_piece_0 : decode cX6_piece 0 = .ok (.aload_n 0, 1) := by decide +kernel
theorem dX6_piece_1 : decode cX6_piece 1 = .ok (.getfield 68, 3) := by decide +kernel
theorem dX6_piece_4 : decode cX6_piece 4 = .ok (.aload_n 0, 1) := by decide +kernel
theorem dX6_piece_5 : decode cX6_piece 5 = .ok (.getfield 28, 3) := by decide +kernel
theorem dX6_piece_8 : decode cX6_piece 8 = .ok (.aload_n 0, 1) := by decide +kernel
theorem dX6_piece_9 : decode cX6_piece 9 = .ok (.getfield 42, 3) := by decide +kernel
theorem dX6_piece_12 : decode cX6_piece 12 = .ok (.aload_n 0, 1) := by decide +kernel
theorem dX6_piece_13 : decode cX6_piece 13 = .ok (.getfield 17, 3) := by decide +kernel
theorem dX6_piece_16 : decode cX6_piece 16 = .ok (.aload_n 0, 1) := by decide +kernel
theorem dX6_piece_17 : decode cX6_piece 17 = .ok (.getfield 20, 3) := by decide +kernel
theorem dX6_piece_20 : decode cX6_piece 20 = .ok (.invokevirtual 161, 3) := by decide +kernel
theorem dX6_piece_23 : decode cX6_piece 23 = .ok (.ifCond .ne 6, 3) := by decide +kernel
theorem dX6_piece_26 : decode cX6_piece 26 = .ok (.bipush (-101), 2) := by decide +kernel
theorem dX6_piece_28 : decode cX6_piece 28 = .ok (.ireturn, 1) := by decide +kernel
theorem dX6_piece_29 : decode cX6_piece 29 = .ok (.iload_n 1, 1) := by decide +kernel
theorem dX6_piece_30 : decode cX6_piece 30 = .ok (.ifCond .lt 14, 3) := by decide +kernel
theorem dX6_piece_33 : decode cX6_piece 33 = .ok (.iload_n 1, 1) := by decide +kernel
theorem dX6_piece_34 : decode cX6_piece 34 = .ok (.aload_n 0, 1) := by decide +kernel
theorem dX6_piece_35 : decode cX6_piece 35 = .ok (.getfield 68, 3) := by decide +kernel
theorem dX6_piece_38 : decode cX6_piece 38 = .ok (.invokevirtual 168, 3) := by decide +kernel
theorem dX6_piece_41 : decode cX6_piece 41 = .ok (.if_icmp .lt 6, 3) := by decide +kernel
theorem dX6_piece_44 : decode cX6_piece 44 = .ok (.bipush (-101), 2) := by decide +kernel
theorem dX6_piece_46 : decode cX6_piece 46 = .ok (.ireturn, 1) := by decide +kernel
theorem dX6_piece_47 : decode cX6_piece 47 = .ok (.iload_n 2, 1) := by decide +kernel
theorem dX6_piece_48 : decode cX6_piece 48 = .ok (.ifCond .lt 8, 3) := by decide +kernel
theorem dX6_piece_51 : decode cX6_piece 51 = .ok (.iload_n 2, 1) := by decide +kernel
theorem dX6_piece_52 : decode cX6_piece 52 = .ok (.iconst 2, 1) := by decide +kernel
theorem dX6_piece_53 : decode cX6_piece 53 = .ok (.if_icmp .le 6, 3) := by decide +kernel
theorem dX6_piece_56 : decode cX6_piece 56 = .ok (.bipush (-102), 2) := by decide +kernel
theorem dX6_piece_58 : decode cX6_piece 58 = .ok (.ireturn, 1) := by decide +kernel
theorem dX6_piece_59 : decode cX6_piece 59 = .ok (.aload_n 0, 1) := by decide +kernel
theorem dX6_piece_60 : decode cX6_piece 60 = .ok (.getfield 68, 3) := by decide +kernel
theorem dX6_piece_63 : decode cX6_piece 63 = .ok (.iload_n 1, 1) := by decide +kernel
theorem dX6_piece_64 : decode cX6_piece 64 = .ok (.iload_n 2, 1) := by decide +kernel
theorem dX6_piece_65 : decode cX6_piece 65 = .ok (.invokevirtual 171, 3) := by decide +kernel
theorem dX6_piece_68 : decode cX6_piece 68 = .ok (.ireturn, 1) := by decide +kernel
theorem dX6_count_0 : decode cX6_count 0 = .ok (.iload_n 1, 1) := by decide +kernel
theorem dX6_count_1 : decode cX6_count 1 = .ok (.tableswitch 87 0 7 #[47, 52, 57, 62, 67, 72, 77, 82], 47) := by decide +kernel
theorem dX6_count_48 : decode cX6_count 48 = .ok (.aload_n 0, 1) := by decide +kernel
theorem dX6_count_49 : decode cX6_count 49 = .ok (.getfield 42, 3) := by decide +kernel
theorem dX6_count_52 : decode cX6_count 52 = .ok (.ireturn, 1) := by decide +kernel
theorem dX6_count_53 : decode cX6_count 53 = .ok (.aload_n 0, 1) := by decide +kernel
theorem dX6_count_54 : decode cX6_count 54 = .ok (.getfield 20, 3) := by decide +kernel
theorem dX6_count_57 : decode cX6_count 57 = .ok (.ireturn, 1) := by decide +kernel
theorem dX6_count_58 : decode cX6_count 58 = .ok (.aload_n 0, 1) := by decide +kernel
theorem dX6_count_59 : decode cX6_count 59 = .ok (.getfield 23, 3) := by decide +kernel
theorem dX6_count_62 : decode cX6_count 62 = .ok (.ireturn, 1) := by decide +kernel
theorem dX6_count_63 : decode cX6_count 63 = .ok (.aload_n 0, 1) := by decide +kernel
theorem dX6_count_64 : decode cX6_count 64 = .ok (.invokevirtual 175, 3) := by decide +kernel
theorem dX6_count_67 : decode cX6_count 67 = .ok (.ireturn, 1) := by decide +kernel
theorem dX6_count_68 : decode cX6_count 68 = .ok (.aload_n 0, 1) := by decide +kernel
theorem dX6_count_69 : decode cX6_count 69 = .ok (.invokevirtual 178, 3) := by decide +kernel
theorem dX6_count_72 : decode cX6_count 72 = .ok (.ireturn, 1) := by decide +kernel
theorem dX6_count_73 : decode cX6_count 73 = .ok (.aload_n 0, 1) := by decide +kernel
theorem dX6_count_74 : decode cX6_count 74 = .ok (.getfield 13, 3) := by decide +kernel
theorem dX6_count_77 : decode cX6_count 77 = .ok (.ireturn, 1) := by decide +kernel
theorem dX6_count_78 : decode cX6_count 78 = .ok (.aload_n 0, 1) := by decide +kernel
theorem dX6_count_79 : decode cX6_count 79 = .ok (.getfield 45, 3) := by decide +kernel
theorem dX6_count_82 : decode cX6_count 82 = .ok (.ireturn, 1) := by decide +kernel
theorem dX6_count_83 : decode cX6_count 83 = .ok (.aload_n 0, 1) := by decide +kernel
theorem dX6_count_84 : decode cX6_count 84 = .ok (.getfield 48, 3) := by decide +kernel
theorem dX6_count_87 : decode cX6_count 87 = .ok (.ireturn, 1) := by decide +kernel
theorem dX6_count_88 : decode cX6_count 88 = .ok (.bipush (-102), 2) := by decide +kernel
theorem dX6_count_90 : decode cX6_count 90 = .ok (.ireturn, 1) := by decide +kernel
theorem dX6_digest_0 : decode cX6_digest 0 = .ok (.ldc2_w 181, 3) := by decide +kernel
theorem dX6_digest_3 : decode cX6_digest 3 = .ok (.lstore_n 1, 1) := by decide +kernel
theorem dX6_digest_4 : decode cX6_digest 4 = .ok (.iconst 0, 1) := by decide +kernel
theorem dX6_digest_5 : decode cX6_digest 5 = .ok (.istore_n 3, 1) := by decide +kernel
theorem dX6_digest_6 : decode cX6_digest 6 = .ok (.iload_n 3, 1) := by decide +kernel
theorem dX6_digest_7 : decode cX6_digest 7 = .ok (.aload_n 0, 1) := by decide +kernel
theorem dX6_digest_8 : decode cX6_digest 8 = .ok (.getfield 42, 3) := by decide +kernel
theorem dX6_digest_11 : decode cX6_digest 11 = .ok (.if_icmp .ge 16, 3) := by decide +kernel
theorem dX6_digest_14 : decode cX6_digest 14 = .ok (.aload_n 0, 1) := by decide +kernel
theorem dX6_digest_15 : decode cX6_digest 15 = .ok (.lload_n 1, 1) := by decide +kernel
theorem dX6_digest_16 : decode cX6_digest 16 = .ok (.iload_n 3, 1) := by decide +kernel
theorem dX6_digest_17 : decode cX6_digest 17 = .ok (.invokevirtual 183, 3) := by decide +kernel
theorem dX6_digest_20 : decode cX6_digest 20 = .ok (.lstore_n 1, 1) := by decide +kernel
theorem dX6_digest_21 : decode cX6_digest 21 = .ok (.iinc 3 1, 3) := by decide +kernel
theorem dX6_digest_24 : decode cX6_digest 24 = .ok (.goto (-18), 3) := by decide +kernel
theorem dX6_digest_27 : decode cX6_digest 27 = .ok (.iconst 0, 1) := by decide +kernel
theorem dX6_digest_28 : decode cX6_digest 28 = .ok (.istore_n 3, 1) := by decide +kernel
theorem dX6_digest_29 : decode cX6_digest 29 = .ok (.iload_n 3, 1) := by decide +kernel
theorem dX6_digest_30 : decode cX6_digest 30 = .ok (.aload_n 0, 1) := by decide +kernel
theorem dX6_digest_31 : decode cX6_digest 31 = .ok (.getfield 20, 3) := by decide +kernel
theorem dX6_digest_34 : decode cX6_digest 34 = .ok (.if_icmp .ge 21, 3) := by decide +kernel
theorem dX6_digest_37 : decode cX6_digest 37 = .ok (.lload_n 1, 1) := by decide +kernel
theorem dX6_digest_38 : decode cX6_digest 38 = .ok (.aload_n 0, 1) := by decide +kernel
theorem dX6_digest_39 : decode cX6_digest 39 = .ok (.getfield 17, 3) := by decide +kernel
theorem dX6_digest_42 : decode cX6_digest 42 = .ok (.iload_n 3, 1) := by decide +kernel
theorem dX6_digest_43 : decode cX6_digest 43 = .ok (.iaload, 1) := by decide +kernel
theorem dX6_digest_44 : decode cX6_digest 44 = .ok (.i2l, 1) := by decide +kernel
theorem dX6_digest_45 : decode cX6_digest 45 = .ok (.invokestatic 187, 3) := by decide +kernel
theorem dX6_digest_48 : decode cX6_digest 48 = .ok (.lstore_n 1, 1) := by decide +kernel
theorem dX6_digest_49 : decode cX6_digest 49 = .ok (.iinc 3 1, 3) := by decide +kernel
theorem dX6_digest_52 : decode cX6_digest 52 = .ok (.goto (-23), 3) := by decide +kernel
theorem dX6_digest_55 : decode cX6_digest 55 = .ok (.lload_n 1, 1) := by decide +kernel
theorem dX6_digest_56 : decode cX6_digest 56 = .ok (.aload_n 0, 1) := by decide +kernel
theorem dX6_digest_57 : decode cX6_digest 57 = .ok (.invokevirtual 191, 3) := by decide +kernel
theorem dX6_digest_60 : decode cX6_digest 60 = .ok (.i2l, 1) := by decide +kernel
theorem dX6_digest_61 : decode cX6_digest 61 = .ok (.invokestatic 187, 3) := by decide +kernel
theorem dX6_digest_64 : decode cX6_digest 64 = .ok (.lstore_n 1, 1) := by decide +kernel
theorem dX6_digest_65 : decode cX6_digest 65 = .ok (.aload_n 0, 1) := by decide +kernel
theorem dX6_digest_66 : decode cX6_digest 66 = .ok (.lload_n 1, 1) := by decide +kernel
theorem dX6_digest_67 : decode cX6_digest 67 = .ok (.invokevirtual 194, 3) := by decide +kernel
theorem dX6_digest_70 : decode cX6_digest 70 = .ok (.lstore_n 1, 1) := by decide +kernel
theorem dX6_digest_71 : decode cX6_digest 71 = .ok (.iconst 0, 1) := by decide +kernel
theorem dX6_digest_72 : decode cX6_digest 72 = .ok (.istore_n 3, 1) := by decide +kernel
theorem dX6_digest_73 : decode cX6_digest 73 = .ok (.iload_n 3, 1) := by decide +kernel
theorem dX6_digest_74 : decode cX6_digest 74 = .ok (.aload_n 0, 1) := by decide +kernel
theorem dX6_digest_75 : decode cX6_digest 75 = .ok (.getfield 13, 3) := by decide +kernel
theorem dX6_digest_78 : decode cX6_digest 78 = .ok (.if_icmp .ge 21, 3) := by decide +kernel
theorem dX6_digest_81 : decode cX6_digest 81 = .ok (.lload_n 1, 1) := by decide +kernel
theorem dX6_digest_82 : decode cX6_digest 82 = .ok (.aload_n 0, 1) := by decide +kernel
theorem dX6_digest_83 : decode cX6_digest 83 = .ok (.getfield 9, 3) := by decide +kernel
theorem dX6_digest_86 : decode cX6_digest 86 = .ok (.iload_n 3, 1) := by decide +kernel
theorem dX6_digest_87 : decode cX6_digest 87 = .ok (.iaload, 1) := by decide +kernel
theorem dX6_digest_88 : decode cX6_digest 88 = .ok (.i2l, 1) := by decide +kernel
theorem dX6_digest_89 : decode cX6_digest 89 = .ok (.invokestatic 187, 3) := by decide +kernel
theorem dX6_digest_92 : decode cX6_digest 92 = .ok (.lstore_n 1, 1) := by decide +kernel
theorem dX6_digest_93 : decode cX6_digest 93 = .ok (.iinc 3 1, 3) := by decide +kernel
theorem dX6_digest_96 : decode cX6_digest 96 = .ok (.goto (-23), 3) := by decide +kernel
theorem dX6_digest_99 : decode cX6_digest 99 = .ok (.iconst 0, 1) := by decide +kernel
theorem dX6_digest_100 : decode cX6_digest 100 = .ok (.istore_n 3, 1) := by decide +kernel
theorem dX6_digest_101 : decode cX6_digest 101 = .ok (.iload_n 3, 1) := by decide +kernel
theorem dX6_digest_102 : decode cX6_digest 102 = .ok (.bipush 8, 2) := by decide +kernel
theorem dX6_digest_104 : decode cX6_digest 104 = .ok (.if_icmp .ge 20, 3) := by decide +kernel
theorem dX6_digest_107 : decode cX6_digest 107 = .ok (.lload_n 1, 1) := by decide +kernel
theorem dX6_digest_108 : decode cX6_digest 108 = .ok (.aload_n 0, 1) := by decide +kernel
theorem dX6_digest_109 : decode cX6_digest 109 = .ok (.iload_n 3, 1) := by decide +kernel
theorem dX6_digest_110 : decode cX6_digest 110 = .ok (.invokevirtual 198, 3) := by decide +kernel
theorem dX6_digest_113 : decode cX6_digest 113 = .ok (.i2l, 1) := by decide +kernel
theorem dX6_digest_114 : decode cX6_digest 114 = .ok (.invokestatic 187, 3) := by decide +kernel
theorem dX6_digest_117 : decode cX6_digest 117 = .ok (.lstore_n 1, 1) := by decide +kernel
theorem dX6_digest_118 : decode cX6_digest 118 = .ok (.iinc 3 1, 3) := by decide +kernel
theorem dX6_digest_121 : decode cX6_digest 121 = .ok (.goto (-20), 3) := by decide +kernel
theorem dX6_digest_124 : decode cX6_digest 124 = .ok (.lload_n 1, 1) := by decide +kernel
theorem dX6_digest_125 : decode cX6_digest 125 = .ok (.lreturn, 1) := by decide +kernel
theorem dX6_fold_0 : decode cX6_fold 0 = .ok (.ldc2_w 201, 3) := by decide +kernel
theorem dX6_fold_3 : decode cX6_fold 3 = .ok (.lload_n 0, 1) := by decide +kernel
theorem dX6_fold_4 : decode cX6_fold 4 = .ok (.lmul, 1) := by decide +kernel
theorem dX6_fold_5 : decode cX6_fold 5 = .ok (.lload_n 2, 1) := by decide +kernel
theorem dX6_fold_6 : decode cX6_fold 6 = .ok (.ladd, 1) := by decide +kernel
theorem dX6_fold_7 : decode cX6_fold 7 = .ok (.lreturn, 1) := by decide +kernel
theorem dX6_foldCode_0 : decode cX6_foldCode 0 = .ok (.lload_n 1, 1) := by decide +kernel
theorem dX6_foldCode_1 : decode cX6_foldCode 1 = .ok (.lstore 4, 2) := by decide +kernel
theorem dX6_foldCode_3 : decode cX6_foldCode 3 = .ok (.aload_n 0, 1) := by decide +kernel
theorem dX6_foldCode_4 : decode cX6_foldCode 4 = .ok (.getfield 28, 3) := by decide +kernel
theorem dX6_foldCode_7 : decode cX6_foldCode 7 = .ok (.iload_n 3, 1) := by decide +kernel
theorem dX6_foldCode_8 : decode cX6_foldCode 8 = .ok (.aaload, 1) := by decide +kernel
theorem dX6_foldCode_9 : decode cX6_foldCode 9 = .ok (.invokevirtual 93, 3) := by decide +kernel
theorem dX6_foldCode_12 : decode cX6_foldCode 12 = .ok (.istore 6, 2) := by decide +kernel
theorem dX6_foldCode_14 : decode cX6_foldCode 14 = .ok (.iconst 0, 1) := by decide +kernel
theorem dX6_foldCode_15 : decode cX6_foldCode 15 = .ok (.istore 7, 2) := by decide +kernel
theorem dX6_foldCode_17 : decode cX6_foldCode 17 = .ok (.iload 7, 2) := by decide +kernel
theorem dX6_foldCode_19 : decode cX6_foldCode 19 = .ok (.iload 6, 2) := by decide +kernel
theorem dX6_foldCode_21 : decode cX6_foldCode 21 = .ok (.if_icmp .ge 24, 3) := by decide +kernel
theorem dX6_foldCode_24 : decode cX6_foldCode 24 = .ok (.lload 4, 2) := by decide +kernel
theorem dX6_foldCode_26 : decode cX6_foldCode 26 = .ok (.aload_n 0, 1) := by decide +kernel
theorem dX6_foldCode_27 : decode cX6_foldCode 27 = .ok (.iload_n 3, 1) := by decide +kernel
theorem dX6_foldCode_28 : decode cX6_foldCode 28 = .ok (.iload 7, 2) := by decide +kernel
theorem dX6_foldCode_30 : decode cX6_foldCode 30 = .ok (.invokevirtual 203, 3) := by decide +kernel
theorem dX6_foldCode_33 : decode cX6_foldCode 33 = .ok (.i2l, 1) := by decide +kernel
theorem dX6_foldCode_34 : decode cX6_foldCode 34 = .ok (.invokestatic 187, 3) := by decide +kernel
theorem dX6_foldCode_37 : decode cX6_foldCode 37 = .ok (.lstore 4, 2) := by decide +kernel
theorem dX6_foldCode_39 : decode cX6_foldCode 39 = .ok (.iinc 7 1, 3) := by decide +kernel
theorem dX6_foldCode_42 : decode cX6_foldCode 42 = .ok (.goto (-25), 3) := by decide +kernel
theorem dX6_foldCode_45 : decode cX6_foldCode 45 = .ok (.iconst 0, 1) := by decide +kernel
theorem dX6_foldCode_46 : decode cX6_foldCode 46 = .ok (.istore 7, 2) := by decide +kernel
theorem dX6_foldCode_48 : decode cX6_foldCode 48 = .ok (.iload 7, 2) := by decide +kernel
theorem dX6_foldCode_50 : decode cX6_foldCode 50 = .ok (.bipush 8, 2) := by decide +kernel
theorem dX6_foldCode_52 : decode cX6_foldCode 52 = .ok (.if_icmp .ge 24, 3) := by decide +kernel
theorem dX6_foldCode_55 : decode cX6_foldCode 55 = .ok (.lload 4, 2) := by decide +kernel
theorem dX6_foldCode_57 : decode cX6_foldCode 57 = .ok (.aload_n 0, 1) := by decide +kernel
theorem dX6_foldCode_58 : decode cX6_foldCode 58 = .ok (.iload_n 3, 1) := by decide +kernel
theorem dX6_foldCode_59 : decode cX6_foldCode 59 = .ok (.iload 7, 2) := by decide +kernel
theorem dX6_foldCode_61 : decode cX6_foldCode 61 = .ok (.invokevirtual 206, 3) := by decide +kernel
theorem dX6_foldCode_64 : decode cX6_foldCode 64 = .ok (.i2l, 1) := by decide +kernel
theorem dX6_foldCode_65 : decode cX6_foldCode 65 = .ok (.invokestatic 187, 3) := by decide +kernel
theorem dX6_foldCode_68 : decode cX6_foldCode 68 = .ok (.lstore 4, 2) := by decide +kernel
theorem dX6_foldCode_70 : decode cX6_foldCode 70 = .ok (.iinc 7 1, 3) := by decide +kernel
theorem dX6_foldCode_73 : decode cX6_foldCode 73 = .ok (.goto (-25), 3) := by decide +kernel
theorem dX6_foldCode_76 : decode cX6_foldCode 76 = .ok (.iconst 0, 1) := by decide +kernel
theorem dX6_foldCode_77 : decode cX6_foldCode 77 = .ok (.istore 7, 2) := by decide +kernel
theorem dX6_foldCode_79 : decode cX6_foldCode 79 = .ok (.iload 7, 2) := by decide +kernel
theorem dX6_foldCode_81 : decode cX6_foldCode 81 = .ok (.iconst 4, 1) := by decide +kernel
theorem dX6_foldCode_82 : decode cX6_foldCode 82 = .ok (.if_icmp .ge 24, 3) := by decide +kernel
theorem dX6_foldCode_85 : decode cX6_foldCode 85 = .ok (.lload 4, 2) := by decide +kernel
theorem dX6_foldCode_87 : decode cX6_foldCode 87 = .ok (.aload_n 0, 1) := by decide +kernel
theorem dX6_foldCode_88 : decode cX6_foldCode 88 = .ok (.iload_n 3, 1) := by decide +kernel
theorem dX6_foldCode_89 : decode cX6_foldCode 89 = .ok (.iload 7, 2) := by decide +kernel
theorem dX6_foldCode_91 : decode cX6_foldCode 91 = .ok (.invokevirtual 209, 3) := by decide +kernel
theorem dX6_foldCode_94 : decode cX6_foldCode 94 = .ok (.i2l, 1) := by decide +kernel
theorem dX6_foldCode_95 : decode cX6_foldCode 95 = .ok (.invokestatic 187, 3) := by decide +kernel
theorem dX6_foldCode_98 : decode cX6_foldCode 98 = .ok (.lstore 4, 2) := by decide +kernel
theorem dX6_foldCode_100 : decode cX6_foldCode 100 = .ok (.iinc 7 1, 3) := by decide +kernel
theorem dX6_foldCode_103 : decode cX6_foldCode 103 = .ok (.goto (-24), 3) := by decide +kernel
theorem dX6_foldCode_106 : decode cX6_foldCode 106 = .ok (.lload 4, 2) := by decide +kernel
theorem dX6_foldCode_108 : decode cX6_foldCode 108 = .ok (.aload_n 0, 1) := by decide +kernel
theorem dX6_foldCode_109 : decode cX6_foldCode 109 = .ok (.iload_n 3, 1) := by decide +kernel
theorem dX6_foldCode_110 : decode cX6_foldCode 110 = .ok (.iconst 5, 1) := by decide +kernel
theorem dX6_foldCode_111 : decode cX6_foldCode 111 = .ok (.invokevirtual 212, 3) := by decide +kernel
theorem dX6_foldCode_114 : decode cX6_foldCode 114 = .ok (.i2l, 1) := by decide +kernel
theorem dX6_foldCode_115 : decode cX6_foldCode 115 = .ok (.invokestatic 187, 3) := by decide +kernel
theorem dX6_foldCode_118 : decode cX6_foldCode 118 = .ok (.lstore 4, 2) := by decide +kernel
theorem dX6_foldCode_120 : decode cX6_foldCode 120 = .ok (.iconst 0, 1) := by decide +kernel
theorem dX6_foldCode_121 : decode cX6_foldCode 121 = .ok (.istore 7, 2) := by decide +kernel
theorem dX6_foldCode_123 : decode cX6_foldCode 123 = .ok (.iload 7, 2) := by decide +kernel
theorem dX6_foldCode_125 : decode cX6_foldCode 125 = .ok (.aload_n 0, 1) := by decide +kernel
theorem dX6_foldCode_126 : decode cX6_foldCode 126 = .ok (.getfield 42, 3) := by decide +kernel
theorem dX6_foldCode_129 : decode cX6_foldCode 129 = .ok (.if_icmp .ge 24, 3) := by decide +kernel
theorem dX6_foldCode_132 : decode cX6_foldCode 132 = .ok (.lload 4, 2) := by decide +kernel
theorem dX6_foldCode_134 : decode cX6_foldCode 134 = .ok (.aload_n 0, 1) := by decide +kernel
theorem dX6_foldCode_135 : decode cX6_foldCode 135 = .ok (.iload_n 3, 1) := by decide +kernel
theorem dX6_foldCode_136 : decode cX6_foldCode 136 = .ok (.iload 7, 2) := by decide +kernel
theorem dX6_foldCode_138 : decode cX6_foldCode 138 = .ok (.invokevirtual 215, 3) := by decide +kernel
theorem dX6_foldCode_141 : decode cX6_foldCode 141 = .ok (.i2l, 1) := by decide +kernel
theorem dX6_foldCode_142 : decode cX6_foldCode 142 = .ok (.invokestatic 187, 3) := by decide +kernel
theorem dX6_foldCode_145 : decode cX6_foldCode 145 = .ok (.lstore 4, 2) := by decide +kernel
theorem dX6_foldCode_147 : decode cX6_foldCode 147 = .ok (.iinc 7 1, 3) := by decide +kernel
theorem dX6_foldCode_150 : decode cX6_foldCode 150 = .ok (.goto (-27), 3) := by decide +kernel
theorem dX6_foldCode_153 : decode cX6_foldCode 153 = .ok (.lload 4, 2) := by decide +kernel
theorem dX6_foldCode_155 : decode cX6_foldCode 155 = .ok (.lreturn, 1) := by decide +kernel
theorem dX6_foldDivision_0 : decode cX6_foldDivision 0 = .ok (.aload_n 0, 1) := by decide +kernel
theorem dX6_foldDivision_1 : decode cX6_foldDivision 1 = .ok (.getfield 68, 3) := by decide +kernel
theorem dX6_foldDivision_4 : decode cX6_foldDivision 4 = .ok (.aload_n 0, 1) := by decide +kernel
theorem dX6_foldDivision_5 : decode cX6_foldDivision 5 = .ok (.getfield 28, 3) := by decide +kernel
theorem dX6_foldDivision_8 : decode cX6_foldDivision 8 = .ok (.aload_n 0, 1) := by decide +kernel
theorem dX6_foldDivision_9 : decode cX6_foldDivision 9 = .ok (.getfield 42, 3) := by decide +kernel
theorem dX6_foldDivision_12 : decode cX6_foldDivision 12 = .ok (.aload_n 0, 1) := by decide +kernel
theorem dX6_foldDivision_13 : decode cX6_foldDivision 13 = .ok (.getfield 17, 3) := by decide +kernel
theorem dX6_foldDivision_16 : decode cX6_foldDivision 16 = .ok (.aload_n 0, 1) := by decide +kernel
theorem dX6_foldDivision_17 : decode cX6_foldDivision 17 = .ok (.getfield 20, 3) := by decide +kernel
theorem dX6_foldDivision_20 : decode cX6_foldDivision 20 = .ok (.invokevirtual 161, 3) := by decide +kernel
theorem dX6_foldDivision_23 : decode cX6_foldDivision 23 = .ok (.ifCond .ne 5, 3) := by decide +kernel
theorem dX6_foldDivision_26 : decode cX6_foldDivision 26 = .ok (.lload_n 1, 1) := by decide +kernel
theorem dX6_foldDivision_27 : decode cX6_foldDivision 27 = .ok (.lreturn, 1) := by decide +kernel
theorem dX6_foldDivision_28 : decode cX6_foldDivision 28 = .ok (.lload_n 1, 1) := by decide +kernel
theorem dX6_foldDivision_29 : decode cX6_foldDivision 29 = .ok (.aload_n 0, 1) := by decide +kernel
theorem dX6_foldDivision_30 : decode cX6_foldDivision 30 = .ok (.getfield 68, 3) := by decide +kernel
theorem dX6_foldDivision_33 : decode cX6_foldDivision 33 = .ok (.invokevirtual 165, 3) := by decide +kernel
theorem dX6_foldDivision_36 : decode cX6_foldDivision 36 = .ok (.i2l, 1) := by decide +kernel
theorem dX6_foldDivision_37 : decode cX6_foldDivision 37 = .ok (.invokestatic 187, 3) := by decide +kernel
theorem dX6_foldDivision_40 : decode cX6_foldDivision 40 = .ok (.lstore_n 3, 1) := by decide +kernel
theorem dX6_foldDivision_41 : decode cX6_foldDivision 41 = .ok (.aload_n 0, 1) := by decide +kernel
theorem dX6_foldDivision_42 : decode cX6_foldDivision 42 = .ok (.getfield 68, 3) := by decide +kernel
theorem dX6_foldDivision_45 : decode cX6_foldDivision 45 = .ok (.invokevirtual 168, 3) := by decide +kernel
theorem dX6_foldDivision_48 : decode cX6_foldDivision 48 = .ok (.istore 5, 2) := by decide +kernel
theorem dX6_foldDivision_50 : decode cX6_foldDivision 50 = .ok (.lload_n 3, 1) := by decide +kernel
theorem dX6_foldDivision_51 : decode cX6_foldDivision 51 = .ok (.iload 5, 2) := by decide +kernel
theorem dX6_foldDivision_53 : decode cX6_foldDivision 53 = .ok (.i2l, 1) := by decide +kernel
theorem dX6_foldDivision_54 : decode cX6_foldDivision 54 = .ok (.invokestatic 187, 3) := by decide +kernel
theorem dX6_foldDivision_57 : decode cX6_foldDivision 57 = .ok (.lstore_n 3, 1) := by decide +kernel
theorem dX6_foldDivision_58 : decode cX6_foldDivision 58 = .ok (.iconst 0, 1) := by decide +kernel
theorem dX6_foldDivision_59 : decode cX6_foldDivision 59 = .ok (.istore 6, 2) := by decide +kernel
theorem dX6_foldDivision_61 : decode cX6_foldDivision 61 = .ok (.iload 6, 2) := by decide +kernel
theorem dX6_foldDivision_63 : decode cX6_foldDivision 63 = .ok (.iload 5, 2) := by decide +kernel
theorem dX6_foldDivision_65 : decode cX6_foldDivision 65 = .ok (.if_icmp .ge 41, 3) := by decide +kernel
theorem dX6_foldDivision_68 : decode cX6_foldDivision 68 = .ok (.iconst 0, 1) := by decide +kernel
theorem dX6_foldDivision_69 : decode cX6_foldDivision 69 = .ok (.istore 7, 2) := by decide +kernel
theorem dX6_foldDivision_71 : decode cX6_foldDivision 71 = .ok (.iload 7, 2) := by decide +kernel
theorem dX6_foldDivision_73 : decode cX6_foldDivision 73 = .ok (.iconst 3, 1) := by decide +kernel
theorem dX6_foldDivision_74 : decode cX6_foldDivision 74 = .ok (.if_icmp .ge 26, 3) := by decide +kernel
theorem dX6_foldDivision_77 : decode cX6_foldDivision 77 = .ok (.lload_n 3, 1) := by decide +kernel
theorem dX6_foldDivision_78 : decode cX6_foldDivision 78 = .ok (.aload_n 0, 1) := by decide +kernel
theorem dX6_foldDivision_79 : decode cX6_foldDivision 79 = .ok (.getfield 68, 3) := by decide +kernel
theorem dX6_foldDivision_82 : decode cX6_foldDivision 82 = .ok (.iload 6, 2) := by decide +kernel
theorem dX6_foldDivision_84 : decode cX6_foldDivision 84 = .ok (.iload 7, 2) := by decide +kernel
theorem dX6_foldDivision_86 : decode cX6_foldDivision 86 = .ok (.invokevirtual 171, 3) := by decide +kernel
theorem dX6_foldDivision_89 : decode cX6_foldDivision 89 = .ok (.i2l, 1) := by decide +kernel
theorem dX6_foldDivision_90 : decode cX6_foldDivision 90 = .ok (.invokestatic 187, 3) := by decide +kernel
theorem dX6_foldDivision_93 : decode cX6_foldDivision 93 = .ok (.lstore_n 3, 1) := by decide +kernel
theorem dX6_foldDivision_94 : decode cX6_foldDivision 94 = .ok (.iinc 7 1, 3) := by decide +kernel
theorem dX6_foldDivision_97 : decode cX6_foldDivision 97 = .ok (.goto (-26), 3) := by decide +kernel
theorem dX6_foldDivision_100 : decode cX6_foldDivision 100 = .ok (.iinc 6 1, 3) := by decide +kernel
theorem dX6_foldDivision_103 : decode cX6_foldDivision 103 = .ok (.goto (-42), 3) := by decide +kernel
theorem dX6_foldDivision_106 : decode cX6_foldDivision 106 = .ok (.lload_n 3, 1) := by decide +kernel
theorem dX6_foldDivision_107 : decode cX6_foldDivision 107 = .ok (.lreturn, 1) := by decide +kernel
theorem dX6_isCode_0 : decode cX6_isCode 0 = .ok (.iload_n 1, 1) := by decide +kernel
theorem dX6_isCode_1 : decode cX6_isCode 1 = .ok (.ifCond .lt 15, 3) := by decide +kernel
theorem dX6_isCode_4 : decode cX6_isCode 4 = .ok (.iload_n 1, 1) := by decide +kernel
theorem dX6_isCode_5 : decode cX6_isCode 5 = .ok (.aload_n 0, 1) := by decide +kernel
theorem dX6_isCode_6 : decode cX6_isCode 6 = .ok (.getfield 42, 3) := by decide +kernel
theorem dX6_isCode_9 : decode cX6_isCode 9 = .ok (.if_icmp .ge 7, 3) := by decide +kernel
theorem dX6_isCode_12 : decode cX6_isCode 12 = .ok (.iconst 1, 1) := by decide +kernel
theorem dX6_isCode_13 : decode cX6_isCode 13 = .ok (.goto 4, 3) := by decide +kernel
theorem dX6_isCode_16 : decode cX6_isCode 16 = .ok (.iconst 0, 1) := by decide +kernel
theorem dX6_isCode_17 : decode cX6_isCode 17 = .ok (.ireturn, 1) := by decide +kernel
theorem dX6_isUnit_0 : decode cX6_isUnit 0 = .ok (.iload_n 0, 1) := by decide +kernel
theorem dX6_isUnit_1 : decode cX6_isUnit 1 = .ok (.ifCond .lt 13, 3) := by decide +kernel
theorem dX6_isUnit_4 : decode cX6_isUnit 4 = .ok (.iload_n 0, 1) := by decide +kernel
theorem dX6_isUnit_5 : decode cX6_isUnit 5 = .ok (.bipush 8, 2) := by decide +kernel
theorem dX6_isUnit_7 : decode cX6_isUnit 7 = .ok (.if_icmp .ge 7, 3) := by decide +kernel
theorem dX6_isUnit_10 : decode cX6_isUnit 10 = .ok (.iconst 1, 1) := by decide +kernel
theorem dX6_isUnit_11 : decode cX6_isUnit 11 = .ok (.goto 4, 3) := by decide +kernel
theorem dX6_isUnit_14 : decode cX6_isUnit 14 = .ok (.iconst 0, 1) := by decide +kernel
theorem dX6_isUnit_15 : decode cX6_isUnit 15 = .ok (.ireturn, 1) := by decide +kernel
theorem dX6_isSortPair_0 : decode cX6_isSortPair 0 = .ok (.iload_n 0, 1) := by decide +kernel
theorem dX6_isSortPair_1 : decode cX6_isSortPair 1 = .ok (.ifCond .lt 12, 3) := by decide +kernel
theorem dX6_isSortPair_4 : decode cX6_isSortPair 4 = .ok (.iload_n 0, 1) := by decide +kernel
theorem dX6_isSortPair_5 : decode cX6_isSortPair 5 = .ok (.iconst 4, 1) := by decide +kernel
theorem dX6_isSortPair_6 : decode cX6_isSortPair 6 = .ok (.if_icmp .ge 7, 3) := by decide +kernel
theorem dX6_isSortPair_9 : decode cX6_isSortPair 9 = .ok (.iconst 1, 1) := by decide +kernel
theorem dX6_isSortPair_10 : decode cX6_isSortPair 10 = .ok (.goto 4, 3) := by decide +kernel
theorem dX6_isSortPair_13 : decode cX6_isSortPair 13 = .ok (.iconst 0, 1) := by decide +kernel
theorem dX6_isSortPair_14 : decode cX6_isSortPair 14 = .ok (.ireturn, 1) := by decide +kernel
theorem dX6_letCome_0 : decode cX6_letCome 0 = .ok (.aload_n 0, 1) := by decide +kernel
theorem dX6_letCome_1 : decode cX6_letCome 1 = .ok (.getfield 20, 3) := by decide +kernel
theorem dX6_letCome_4 : decode cX6_letCome 4 = .ok (.aload_n 0, 1) := by decide +kernel
theorem dX6_letCome_5 : decode cX6_letCome 5 = .ok (.getfield 17, 3) := by decide +kernel
theorem dX6_letCome_8 : decode cX6_letCome 8 = .ok (.arraylength, 1) := by decide +kernel
theorem dX6_letCome_9 : decode cX6_letCome 9 = .ok (.if_icmp .ge 33, 3) := by decide +kernel
theorem dX6_letCome_12 : decode cX6_letCome 12 = .ok (.aload_n 0, 1) := by decide +kernel
theorem dX6_letCome_13 : decode cX6_letCome 13 = .ok (.getfield 17, 3) := by decide +kernel
theorem dX6_letCome_16 : decode cX6_letCome 16 = .ok (.aload_n 0, 1) := by decide +kernel
theorem dX6_letCome_17 : decode cX6_letCome 17 = .ok (.getfield 20, 3) := by decide +kernel
theorem dX6_letCome_20 : decode cX6_letCome 20 = .ok (.iload_n 1, 1) := by decide +kernel
theorem dX6_letCome_21 : decode cX6_letCome 21 = .ok (.iastore, 1) := by decide +kernel
theorem dX6_letCome_22 : decode cX6_letCome 22 = .ok (.aload_n 0, 1) := by decide +kernel
theorem dX6_letCome_23 : decode cX6_letCome 23 = .ok (.dup, 1) := by decide +kernel
theorem dX6_letCome_24 : decode cX6_letCome 24 = .ok (.getfield 20, 3) := by decide +kernel
theorem dX6_letCome_27 : decode cX6_letCome 27 = .ok (.iconst 1, 1) := by decide +kernel
theorem dX6_letCome_28 : decode cX6_letCome 28 = .ok (.iadd, 1) := by decide +kernel
theorem dX6_letCome_29 : decode cX6_letCome 29 = .ok (.putfield 20, 3) := by decide +kernel
theorem dX6_letCome_32 : decode cX6_letCome 32 = .ok (.aload_n 0, 1) := by decide +kernel
theorem dX6_letCome_33 : decode cX6_letCome 33 = .ok (.dup, 1) := by decide +kernel
theorem dX6_letCome_34 : decode cX6_letCome 34 = .ok (.getfield 48, 3) := by decide +kernel
theorem dX6_letCome_37 : decode cX6_letCome 37 = .ok (.iconst 1, 1) := by decide +kernel
theorem dX6_letCome_38 : decode cX6_letCome 38 = .ok (.iadd, 1) := by decide +kernel
theorem dX6_letCome_39 : decode cX6_letCome 39 = .ok (.putfield 48, 3) := by decide +kernel
theorem dX6_letCome_42 : decode cX6_letCome 42 = .ok (.return_, 1) := by decide +kernel
theorem dX6_readAgain_0 : decode cX6_readAgain 0 = .ok (.iconst 0, 1) := by decide +kernel
theorem dX6_readAgain_1 : decode cX6_readAgain 1 = .ok (.istore_n 1, 1) := by decide +kernel
theorem dX6_readAgain_2 : decode cX6_readAgain 2 = .ok (.iload_n 1, 1) := by decide +kernel
theorem dX6_readAgain_3 : decode cX6_readAgain 3 = .ok (.aload_n 0, 1) := by decide +kernel
theorem dX6_readAgain_4 : decode cX6_readAgain 4 = .ok (.getfield 42, 3) := by decide +kernel
theorem dX6_readAgain_7 : decode cX6_readAgain 7 = .ok (.if_icmp .ge 26, 3) := by decide +kernel
theorem dX6_readAgain_10 : decode cX6_readAgain 10 = .ok (.aload_n 0, 1) := by decide +kernel
theorem dX6_readAgain_11 : decode cX6_readAgain 11 = .ok (.getfield 34, 3) := by decide +kernel
theorem dX6_readAgain_14 : decode cX6_readAgain 14 = .ok (.iload_n 1, 1) := by decide +kernel
theorem dX6_readAgain_15 : decode cX6_readAgain 15 = .ok (.aaload, 1) := by decide +kernel
theorem dX6_readAgain_16 : decode cX6_readAgain 16 = .ok (.aload_n 0, 1) := by decide +kernel
theorem dX6_readAgain_17 : decode cX6_readAgain 17 = .ok (.getfield 17, 3) := by decide +kernel
theorem dX6_readAgain_20 : decode cX6_readAgain 20 = .ok (.aload_n 0, 1) := by decide +kernel
theorem dX6_readAgain_21 : decode cX6_readAgain 21 = .ok (.getfield 20, 3) := by decide +kernel
theorem dX6_readAgain_24 : decode cX6_readAgain 24 = .ok (.invokevirtual 86, 3) := by decide +kernel
theorem dX6_readAgain_27 : decode cX6_readAgain 27 = .ok (.iinc 1 1, 3) := by decide +kernel
theorem dX6_readAgain_30 : decode cX6_readAgain 30 = .ok (.goto (-28), 3) := by decide +kernel
theorem dX6_readAgain_33 : decode cX6_readAgain 33 = .ok (.return_, 1) := by decide +kernel
theorem dX6_aliveCodes_0 : decode cX6_aliveCodes 0 = .ok (.iconst 0, 1) := by decide +kernel
theorem dX6_aliveCodes_1 : decode cX6_aliveCodes 1 = .ok (.istore_n 1, 1) := by decide +kernel
theorem dX6_aliveCodes_2 : decode cX6_aliveCodes 2 = .ok (.iconst 0, 1) := by decide +kernel
theorem dX6_aliveCodes_3 : decode cX6_aliveCodes 3 = .ok (.istore_n 2, 1) := by decide +kernel
theorem dX6_aliveCodes_4 : decode cX6_aliveCodes 4 = .ok (.iload_n 2, 1) := by decide +kernel
theorem dX6_aliveCodes_5 : decode cX6_aliveCodes 5 = .ok (.aload_n 0, 1) := by decide +kernel
theorem dX6_aliveCodes_6 : decode cX6_aliveCodes 6 = .ok (.getfield 42, 3) := by decide +kernel
theorem dX6_aliveCodes_9 : decode cX6_aliveCodes 9 = .ok (.if_icmp .ge 24, 3) := by decide +kernel
theorem dX6_aliveCodes_12 : decode cX6_aliveCodes 12 = .ok (.aload_n 0, 1) := by decide +kernel
theorem dX6_aliveCodes_13 : decode cX6_aliveCodes 13 = .ok (.getfield 34, 3) := by decide +kernel
theorem dX6_aliveCodes_16 : decode cX6_aliveCodes 16 = .ok (.iload_n 2, 1) := by decide +kernel
theorem dX6_aliveCodes_17 : decode cX6_aliveCodes 17 = .ok (.aaload, 1) := by decide +kernel
theorem dX6_aliveCodes_18 : decode cX6_aliveCodes 18 = .ok (.invokevirtual 114, 3) := by decide +kernel
theorem dX6_aliveCodes_21 : decode cX6_aliveCodes 21 = .ok (.ifCond .eq 6, 3) := by decide +kernel
theorem dX6_aliveCodes_24 : decode cX6_aliveCodes 24 = .ok (.iinc 1 1, 3) := by decide +kernel
theorem dX6_aliveCodes_27 : decode cX6_aliveCodes 27 = .ok (.iinc 2 1, 3) := by decide +kernel
theorem dX6_aliveCodes_30 : decode cX6_aliveCodes 30 = .ok (.goto (-26), 3) := by decide +kernel
theorem dX6_aliveCodes_33 : decode cX6_aliveCodes 33 = .ok (.iload_n 1, 1) := by decide +kernel
theorem dX6_aliveCodes_34 : decode cX6_aliveCodes 34 = .ok (.ireturn, 1) := by decide +kernel
theorem dX6_validCodes_0 : decode cX6_validCodes 0 = .ok (.iconst 0, 1) := by decide +kernel
theorem dX6_validCodes_1 : decode cX6_validCodes 1 = .ok (.istore_n 1, 1) := by decide +kernel
theorem dX6_validCodes_2 : decode cX6_validCodes 2 = .ok (.iconst 0, 1) := by decide +kernel
theorem dX6_validCodes_3 : decode cX6_validCodes 3 = .ok (.istore_n 2, 1) := by decide +kernel
theorem dX6_validCodes_4 : decode cX6_validCodes 4 = .ok (.iload_n 2, 1) := by decide +kernel
theorem dX6_validCodes_5 : decode cX6_validCodes 5 = .ok (.aload_n 0, 1) := by decide +kernel
theorem dX6_validCodes_6 : decode cX6_validCodes 6 = .ok (.getfield 42, 3) := by decide +kernel
theorem dX6_validCodes_9 : decode cX6_validCodes 9 = .ok (.if_icmp .ge 24, 3) := by decide +kernel
theorem dX6_validCodes_12 : decode cX6_validCodes 12 = .ok (.aload_n 0, 1) := by decide +kernel
theorem dX6_validCodes_13 : decode cX6_validCodes 13 = .ok (.getfield 34, 3) := by decide +kernel
theorem dX6_validCodes_16 : decode cX6_validCodes 16 = .ok (.iload_n 2, 1) := by decide +kernel
theorem dX6_validCodes_17 : decode cX6_validCodes 17 = .ok (.aaload, 1) := by decide +kernel
theorem dX6_validCodes_18 : decode cX6_validCodes 18 = .ok (.invokevirtual 118, 3) := by decide +kernel
theorem dX6_validCodes_21 : decode cX6_validCodes 21 = .ok (.ifCond .eq 6, 3) := by decide +kernel
theorem dX6_validCodes_24 : decode cX6_validCodes 24 = .ok (.iinc 1 1, 3) := by decide +kernel
theorem dX6_validCodes_27 : decode cX6_validCodes 27 = .ok (.iinc 2 1, 3) := by decide +kernel
theorem dX6_validCodes_30 : decode cX6_validCodes 30 = .ok (.goto (-26), 3) := by decide +kernel
theorem dX6_validCodes_33 : decode cX6_validCodes 33 = .ok (.iload_n 1, 1) := by decide +kernel
theorem dX6_validCodes_34 : decode cX6_validCodes 34 = .ok (.ireturn, 1) := by decide +kernel
theorem dX6_placeInRanking_0 : decode cX6_placeInRanking 0 = .ok (.iconst 0, 1) := by decide +kernel
theorem dX6_placeInRanking_1 : decode cX6_placeInRanking 1 = .ok (.istore_n 2, 1) := by decide +kernel
theorem dX6_placeInRanking_2 : decode cX6_placeInRanking 2 = .ok (.iconst 0, 1) := by decide +kernel
theorem dX6_placeInRanking_3 : decode cX6_placeInRanking 3 = .ok (.istore_n 3, 1) := by decide +kernel
theorem dX6_placeInRanking_4 : decode cX6_placeInRanking 4 = .ok (.iload_n 3, 1) := by decide +kernel
theorem dX6_placeInRanking_5 : decode cX6_placeInRanking 5 = .ok (.aload_n 0, 1) := by decide +kernel
theorem dX6_placeInRanking_6 : decode cX6_placeInRanking 6 = .ok (.getfield 42, 3) := by decide +kernel
theorem dX6_placeInRanking_9 : decode cX6_placeInRanking 9 = .ok (.if_icmp .ge 21, 3) := by decide +kernel
theorem dX6_placeInRanking_12 : decode cX6_placeInRanking 12 = .ok (.aload_n 0, 1) := by decide +kernel
theorem dX6_placeInRanking_13 : decode cX6_placeInRanking 13 = .ok (.iload_n 3, 1) := by decide +kernel
theorem dX6_placeInRanking_14 : decode cX6_placeInRanking 14 = .ok (.iload_n 1, 1) := by decide +kernel
theorem dX6_placeInRanking_15 : decode cX6_placeInRanking 15 = .ok (.invokevirtual 218, 3) := by decide +kernel
theorem dX6_placeInRanking_18 : decode cX6_placeInRanking 18 = .ok (.ifCond .eq 6, 3) := by decide +kernel
theorem dX6_placeInRanking_21 : decode cX6_placeInRanking 21 = .ok (.iinc 2 1, 3) := by decide +kernel
theorem dX6_placeInRanking_24 : decode cX6_placeInRanking 24 = .ok (.iinc 3 1, 3) := by decide +kernel
theorem dX6_placeInRanking_27 : decode cX6_placeInRanking 27 = .ok (.goto (-23), 3) := by decide +kernel
theorem dX6_placeInRanking_30 : decode cX6_placeInRanking 30 = .ok (.iload_n 2, 1) := by decide +kernel
theorem dX6_placeInRanking_31 : decode cX6_placeInRanking 31 = .ok (.ireturn, 1) := by decide +kernel
theorem dX6_isAhead_0 : decode cX6_isAhead 0 = .ok (.aload_n 0, 1) := by decide +kernel
theorem dX6_isAhead_1 : decode cX6_isAhead 1 = .ok (.getfield 34, 3) := by decide +kernel
theorem dX6_isAhead_4 : decode cX6_isAhead 4 = .ok (.iload_n 1, 1) := by decide +kernel
theorem dX6_isAhead_5 : decode cX6_isAhead 5 = .ok (.aaload, 1) := by decide +kernel
theorem dX6_isAhead_6 : decode cX6_isAhead 6 = .ok (.astore_n 3, 1) := by decide +kernel
theorem dX6_isAhead_7 : decode cX6_isAhead 7 = .ok (.aload_n 0, 1) := by decide +kernel
theorem dX6_isAhead_8 : decode cX6_isAhead 8 = .ok (.getfield 34, 3) := by decide +kernel
theorem dX6_isAhead_11 : decode cX6_isAhead 11 = .ok (.iload_n 2, 1) := by decide +kernel
theorem dX6_isAhead_12 : decode cX6_isAhead 12 = .ok (.aaload, 1) := by decide +kernel
theorem dX6_isAhead_13 : decode cX6_isAhead 13 = .ok (.astore 4, 2) := by decide +kernel
theorem dX6_isAhead_15 : decode cX6_isAhead 15 = .ok (.aload_n 3, 1) := by decide +kernel
theorem dX6_isAhead_16 : decode cX6_isAhead 16 = .ok (.invokevirtual 222, 3) := by decide +kernel
theorem dX6_isAhead_19 : decode cX6_isAhead 19 = .ok (.aload 4, 2) := by decide +kernel
theorem dX6_isAhead_21 : decode cX6_isAhead 21 = .ok (.invokevirtual 222, 3) := by decide +kernel
theorem dX6_isAhead_24 : decode cX6_isAhead 24 = .ok (.if_icmp .eq 21, 3) := by decide +kernel
theorem dX6_isAhead_27 : decode cX6_isAhead 27 = .ok (.aload_n 3, 1) := by decide +kernel
theorem dX6_isAhead_28 : decode cX6_isAhead 28 = .ok (.invokevirtual 222, 3) := by decide +kernel
theorem dX6_isAhead_31 : decode cX6_isAhead 31 = .ok (.aload 4, 2) := by decide +kernel
theorem dX6_isAhead_33 : decode cX6_isAhead 33 = .ok (.invokevirtual 222, 3) := by decide +kernel
theorem dX6_isAhead_36 : decode cX6_isAhead 36 = .ok (.if_icmp .ge 7, 3) := by decide +kernel
theorem dX6_isAhead_39 : decode cX6_isAhead 39 = .ok (.iconst 1, 1) := by decide +kernel
theorem dX6_isAhead_40 : decode cX6_isAhead 40 = .ok (.goto 4, 3) := by decide +kernel
theorem dX6_isAhead_43 : decode cX6_isAhead 43 = .ok (.iconst 0, 1) := by decide +kernel
theorem dX6_isAhead_44 : decode cX6_isAhead 44 = .ok (.ireturn, 1) := by decide +kernel
theorem dX6_isAhead_45 : decode cX6_isAhead 45 = .ok (.aload_n 3, 1) := by decide +kernel
theorem dX6_isAhead_46 : decode cX6_isAhead 46 = .ok (.invokevirtual 124, 3) := by decide +kernel
theorem dX6_isAhead_49 : decode cX6_isAhead 49 = .ok (.aload 4, 2) := by decide +kernel
theorem dX6_isAhead_51 : decode cX6_isAhead 51 = .ok (.invokevirtual 124, 3) := by decide +kernel
theorem dX6_isAhead_54 : decode cX6_isAhead 54 = .ok (.if_icmp .eq 21, 3) := by decide +kernel
theorem dX6_isAhead_57 : decode cX6_isAhead 57 = .ok (.aload_n 3, 1) := by decide +kernel
theorem dX6_isAhead_58 : decode cX6_isAhead 58 = .ok (.invokevirtual 124, 3) := by decide +kernel
theorem dX6_isAhead_61 : decode cX6_isAhead 61 = .ok (.aload 4, 2) := by decide +kernel
theorem dX6_isAhead_63 : decode cX6_isAhead 63 = .ok (.invokevirtual 124, 3) := by decide +kernel
theorem dX6_isAhead_66 : decode cX6_isAhead 66 = .ok (.if_icmp .le 7, 3) := by decide +kernel
theorem dX6_isAhead_69 : decode cX6_isAhead 69 = .ok (.iconst 1, 1) := by decide +kernel
theorem dX6_isAhead_70 : decode cX6_isAhead 70 = .ok (.goto 4, 3) := by decide +kernel
theorem dX6_isAhead_73 : decode cX6_isAhead 73 = .ok (.iconst 0, 1) := by decide +kernel
theorem dX6_isAhead_74 : decode cX6_isAhead 74 = .ok (.ireturn, 1) := by decide +kernel
theorem dX6_isAhead_75 : decode cX6_isAhead 75 = .ok (.iload_n 1, 1) := by decide +kernel
theorem dX6_isAhead_76 : decode cX6_isAhead 76 = .ok (.iload_n 2, 1) := by decide +kernel
theorem dX6_isAhead_77 : decode cX6_isAhead 77 = .ok (.if_icmp .ge 7, 3) := by decide +kernel
theorem dX6_isAhead_80 : decode cX6_isAhead 80 = .ok (.iconst 1, 1) := by decide +kernel
theorem dX6_isAhead_81 : decode cX6_isAhead 81 = .ok (.goto 4, 3) := by decide +kernel
theorem dX6_isAhead_84 : decode cX6_isAhead 84 = .ok (.iconst 0, 1) := by decide +kernel
theorem dX6_isAhead_85 : decode cX6_isAhead 85 = .ok (.ireturn, 1) := by decide +kernel
theorem dX6_firstSure_0 : decode cX6_firstSure 0 = .ok (.aload_n 0, 1) := by decide +kernel
theorem dX6_firstSure_1 : decode cX6_firstSure 1 = .ok (.getfield 54, 3) := by decide +kernel
theorem dX6_firstSure_4 : decode cX6_firstSure 4 = .ok (.aload_n 0, 1) := by decide +kernel
theorem dX6_firstSure_5 : decode cX6_firstSure 5 = .ok (.getfield 34, 3) := by decide +kernel
theorem dX6_firstSure_8 : decode cX6_firstSure 8 = .ok (.iload_n 1, 1) := by decide +kernel
theorem dX6_firstSure_9 : decode cX6_firstSure 9 = .ok (.aaload, 1) := by decide +kernel
theorem dX6_firstSure_10 : decode cX6_firstSure 10 = .ok (.aload_n 0, 1) := by decide +kernel
theorem dX6_firstSure_11 : decode cX6_firstSure 11 = .ok (.getfield 23, 3) := by decide +kernel
theorem dX6_firstSure_14 : decode cX6_firstSure 14 = .ok (.invokevirtual 225, 3) := by decide +kernel
theorem dX6_firstSure_17 : decode cX6_firstSure 17 = .ok (.istore_n 2, 1) := by decide +kernel
theorem dX6_firstSure_18 : decode cX6_firstSure 18 = .ok (.iload_n 2, 1) := by decide +kernel
theorem dX6_firstSure_19 : decode cX6_firstSure 19 = .ok (.iconst (-1), 1) := by decide +kernel
theorem dX6_firstSure_20 : decode cX6_firstSure 20 = .ok (.if_icmp .ne 5, 3) := by decide +kernel
theorem dX6_firstSure_23 : decode cX6_firstSure 23 = .ok (.iconst (-1), 1) := by decide +kernel
theorem dX6_firstSure_24 : decode cX6_firstSure 24 = .ok (.ireturn, 1) := by decide +kernel
theorem dX6_firstSure_25 : decode cX6_firstSure 25 = .ok (.iconst 0, 1) := by decide +kernel
theorem dX6_firstSure_26 : decode cX6_firstSure 26 = .ok (.istore_n 3, 1) := by decide +kernel
theorem dX6_firstSure_27 : decode cX6_firstSure 27 = .ok (.iconst 0, 1) := by decide +kernel
theorem dX6_firstSure_28 : decode cX6_firstSure 28 = .ok (.istore 4, 2) := by decide +kernel
theorem dX6_firstSure_30 : decode cX6_firstSure 30 = .ok (.iload 4, 2) := by decide +kernel
theorem dX6_firstSure_32 : decode cX6_firstSure 32 = .ok (.aload_n 0, 1) := by decide +kernel
theorem dX6_firstSure_33 : decode cX6_firstSure 33 = .ok (.getfield 42, 3) := by decide +kernel
theorem dX6_firstSure_36 : decode cX6_firstSure 36 = .ok (.if_icmp .ge 66, 3) := by decide +kernel
theorem dX6_firstSure_39 : decode cX6_firstSure 39 = .ok (.iload_n 3, 1) := by decide +kernel
theorem dX6_firstSure_40 : decode cX6_firstSure 40 = .ok (.iload_n 2, 1) := by decide +kernel
theorem dX6_firstSure_41 : decode cX6_firstSure 41 = .ok (.if_icmp .gt 61, 3) := by decide +kernel
theorem dX6_firstSure_44 : decode cX6_firstSure 44 = .ok (.iload 4, 2) := by decide +kernel
theorem dX6_firstSure_46 : decode cX6_firstSure 46 = .ok (.iload_n 1, 1) := by decide +kernel
theorem dX6_firstSure_47 : decode cX6_firstSure 47 = .ok (.if_icmp .eq 49, 3) := by decide +kernel
theorem dX6_firstSure_50 : decode cX6_firstSure 50 = .ok (.aload_n 0, 1) := by decide +kernel
theorem dX6_firstSure_51 : decode cX6_firstSure 51 = .ok (.getfield 54, 3) := by decide +kernel
theorem dX6_firstSure_54 : decode cX6_firstSure 54 = .ok (.aload_n 0, 1) := by decide +kernel
theorem dX6_firstSure_55 : decode cX6_firstSure 55 = .ok (.getfield 34, 3) := by decide +kernel
theorem dX6_firstSure_58 : decode cX6_firstSure 58 = .ok (.iload_n 1, 1) := by decide +kernel
theorem dX6_firstSure_59 : decode cX6_firstSure 59 = .ok (.aaload, 1) := by decide +kernel
theorem dX6_firstSure_60 : decode cX6_firstSure 60 = .ok (.aload_n 0, 1) := by decide +kernel
theorem dX6_firstSure_61 : decode cX6_firstSure 61 = .ok (.getfield 34, 3) := by decide +kernel
theorem dX6_firstSure_64 : decode cX6_firstSure 64 = .ok (.iload 4, 2) := by decide +kernel
theorem dX6_firstSure_66 : decode cX6_firstSure 66 = .ok (.aaload, 1) := by decide +kernel
theorem dX6_firstSure_67 : decode cX6_firstSure 67 = .ok (.aload_n 0, 1) := by decide +kernel
theorem dX6_firstSure_68 : decode cX6_firstSure 68 = .ok (.getfield 23, 3) := by decide +kernel
theorem dX6_firstSure_71 : decode cX6_firstSure 71 = .ok (.iload 4, 2) := by decide +kernel
theorem dX6_firstSure_73 : decode cX6_firstSure 73 = .ok (.iload_n 1, 1) := by decide +kernel
theorem dX6_firstSure_74 : decode cX6_firstSure 74 = .ok (.if_icmp .ge 7, 3) := by decide +kernel
theorem dX6_firstSure_77 : decode cX6_firstSure 77 = .ok (.iconst 1, 1) := by decide +kernel
theorem dX6_firstSure_78 : decode cX6_firstSure 78 = .ok (.goto 4, 3) := by decide +kernel
theorem dX6_firstSure_81 : decode cX6_firstSure 81 = .ok (.iconst 0, 1) := by decide +kernel
theorem dX6_firstSure_82 : decode cX6_firstSure 82 = .ok (.invokevirtual 229, 3) := by decide +kernel
theorem dX6_firstSure_85 : decode cX6_firstSure 85 = .ok (.istore 5, 2) := by decide +kernel
theorem dX6_firstSure_87 : decode cX6_firstSure 87 = .ok (.iload_n 3, 1) := by decide +kernel
theorem dX6_firstSure_88 : decode cX6_firstSure 88 = .ok (.iload 5, 2) := by decide +kernel
theorem dX6_firstSure_90 : decode cX6_firstSure 90 = .ok (.iconst 1, 1) := by decide +kernel
theorem dX6_firstSure_91 : decode cX6_firstSure 91 = .ok (.iadd, 1) := by decide +kernel
theorem dX6_firstSure_92 : decode cX6_firstSure 92 = .ok (.invokestatic 233, 3) := by decide +kernel
theorem dX6_firstSure_95 : decode cX6_firstSure 95 = .ok (.istore_n 3, 1) := by decide +kernel
theorem dX6_firstSure_96 : decode cX6_firstSure 96 = .ok (.iinc 4 1, 3) := by decide +kernel
theorem dX6_firstSure_99 : decode cX6_firstSure 99 = .ok (.goto (-69), 3) := by decide +kernel
theorem dX6_firstSure_102 : decode cX6_firstSure 102 = .ok (.iload_n 3, 1) := by decide +kernel
theorem dX6_firstSure_103 : decode cX6_firstSure 103 = .ok (.iload_n 2, 1) := by decide +kernel
theorem dX6_firstSure_104 : decode cX6_firstSure 104 = .ok (.if_icmp .gt 7, 3) := by decide +kernel
theorem dX6_firstSure_107 : decode cX6_firstSure 107 = .ok (.iload_n 3, 1) := by decide +kernel
theorem dX6_firstSure_108 : decode cX6_firstSure 108 = .ok (.goto 4, 3) := by decide +kernel
theorem dX6_firstSure_111 : decode cX6_firstSure 111 = .ok (.iconst (-1), 1) := by decide +kernel
theorem dX6_firstSure_112 : decode cX6_firstSure 112 = .ok (.ireturn, 1) := by decide +kernel
theorem dX7_init_0 : decode cX7_init 0 = .ok (.aload_n 0, 1) := by decide +kernel
theorem dX7_init_1 : decode cX7_init 1 = .ok (.invokespecial 1, 3) := by decide +kernel
theorem dX7_init_4 : decode cX7_init 4 = .ok (.aload_n 0, 1) := by decide +kernel
theorem dX7_init_5 : decode cX7_init 5 = .ok (.iconst 4, 1) := by decide +kernel
theorem dX7_init_6 : decode cX7_init 6 = .ok (.newarray .int, 2) := by decide +kernel
theorem dX7_init_8 : decode cX7_init 8 = .ok (.putfield 7, 3) := by decide +kernel
theorem dX7_init_11 : decode cX7_init 11 = .ok (.aload_n 0, 1) := by decide +kernel
theorem dX7_init_12 : decode cX7_init 12 = .ok (.iconst 4, 1) := by decide +kernel
theorem dX7_init_13 : decode cX7_init 13 = .ok (.newarray .int, 2) := by decide +kernel
theorem dX7_init_15 : decode cX7_init 15 = .ok (.putfield 13, 3) := by decide +kernel
theorem dX7_init_18 : decode cX7_init 18 = .ok (.aload_n 0, 1) := by decide +kernel
theorem dX7_init_19 : decode cX7_init 19 = .ok (.bipush 64, 2) := by decide +kernel
theorem dX7_init_21 : decode cX7_init 21 = .ok (.newarray .int, 2) := by decide +kernel
theorem dX7_init_23 : decode cX7_init 23 = .ok (.putfield 16, 3) := by decide +kernel
theorem dX7_init_26 : decode cX7_init 26 = .ok (.aload_n 0, 1) := by decide +kernel
theorem dX7_init_27 : decode cX7_init 27 = .ok (.bipush 16, 2) := by decide +kernel
theorem dX7_init_29 : decode cX7_init 29 = .ok (.newarray .int, 2) := by decide +kernel
theorem dX7_init_31 : decode cX7_init 31 = .ok (.putfield 19, 3) := by decide +kernel
theorem dX7_init_34 : decode cX7_init 34 = .ok (.aload_n 0, 1) := by decide +kernel
theorem dX7_init_35 : decode cX7_init 35 = .ok (.bipush 40, 2) := by decide +kernel
theorem dX7_init_37 : decode cX7_init 37 = .ok (.putfield 22, 3) := by decide +kernel
theorem dX7_init_40 : decode cX7_init 40 = .ok (.aload_n 0, 1) := by decide +kernel
theorem dX7_init_41 : decode cX7_init 41 = .ok (.bipush 40, 2) := by decide +kernel
theorem dX7_init_43 : decode cX7_init 43 = .ok (.newarray .int, 2) := by decide +kernel
theorem dX7_init_45 : decode cX7_init 45 = .ok (.putfield 26, 3) := by decide +kernel
theorem dX7_init_48 : decode cX7_init 48 = .ok (.aload_n 0, 1) := by decide +kernel
theorem dX7_init_49 : decode cX7_init 49 = .ok (.bipush 40, 2) := by decide +kernel
theorem dX7_init_51 : decode cX7_init 51 = .ok (.newarray .int, 2) := by decide +kernel
theorem dX7_init_53 : decode cX7_init 53 = .ok (.putfield 29, 3) := by decide +kernel
theorem dX7_init_56 : decode cX7_init 56 = .ok (.aload_n 0, 1) := by decide +kernel
theorem dX7_init_57 : decode cX7_init 57 = .ok (.iconst 4, 1) := by decide +kernel
theorem dX7_init_58 : decode cX7_init 58 = .ok (.newarray .int, 2) := by decide +kernel
theorem dX7_init_60 : decode cX7_init 60 = .ok (.putfield 32, 3) := by decide +kernel
theorem dX7_init_63 : decode cX7_init 63 = .ok (.aload_n 0, 1) := by decide +kernel
theorem dX7_init_64 : decode cX7_init 64 = .ok (.sipush 225, 3) := by decide +kernel
theorem dX7_init_67 : decode cX7_init 67 = .ok (.newarray .int, 2) := by decide +kernel
theorem dX7_init_69 : decode cX7_init 69 = .ok (.putfield 35, 3) := by decide +kernel
theorem dX7_init_72 : decode cX7_init 72 = .ok (.aload_n 0, 1) := by decide +kernel
theorem dX7_init_73 : decode cX7_init 73 = .ok (.sipush 225, 3) := by decide +kernel
theorem dX7_init_76 : decode cX7_init 76 = .ok (.newarray .int, 2) := by decide +kernel
theorem dX7_init_78 : decode cX7_init 78 = .ok (.putfield 38, 3) := by decide +kernel
theorem dX7_init_81 : decode cX7_init 81 = .ok (.aload_n 0, 1) := by decide +kernel
theorem dX7_init_82 : decode cX7_init 82 = .ok (.bipush 41, 2) := by decide +kernel
theorem dX7_init_84 : decode cX7_init 84 = .ok (.newarray .boolean, 2) := by decide +kernel
theorem dX7_init_86 : decode cX7_init 86 = .ok (.putfield 41, 3) := by decide +kernel
theorem dX7_init_89 : decode cX7_init 89 = .ok (.aload_n 0, 1) := by decide +kernel
theorem dX7_init_90 : decode cX7_init 90 = .ok (.iconst 5, 1) := by decide +kernel
theorem dX7_init_91 : decode cX7_init 91 = .ok (.newarray .boolean, 2) := by decide +kernel
theorem dX7_init_93 : decode cX7_init 93 = .ok (.putfield 45, 3) := by decide +kernel
theorem dX7_init_96 : decode cX7_init 96 = .ok (.aload_n 0, 1) := by decide +kernel
theorem dX7_init_97 : decode cX7_init 97 = .ok (.iconst 5, 1) := by decide +kernel
theorem dX7_init_98 : decode cX7_init 98 = .ok (.newarray .boolean, 2) := by decide +kernel
theorem dX7_init_100 : decode cX7_init 100 = .ok (.putfield 48, 3) := by decide +kernel
theorem dX7_init_103 : decode cX7_init 103 = .ok (.aload_n 0, 1) := by decide +kernel
theorem dX7_init_104 : decode cX7_init 104 = .ok (.iconst 5, 1) := by decide +kernel
theorem dX7_init_105 : decode cX7_init 105 = .ok (.newarray .int, 2) := by decide +kernel
theorem dX7_init_107 : decode cX7_init 107 = .ok (.putfield 51, 3) := by decide +kernel
theorem dX7_init_110 : decode cX7_init 110 = .ok (.aload_n 0, 1) := by decide +kernel
theorem dX7_init_111 : decode cX7_init 111 = .ok (.iconst 5, 1) := by decide +kernel
theorem dX7_init_112 : decode cX7_init 112 = .ok (.newarray .int, 2) := by decide +kernel
theorem dX7_init_114 : decode cX7_init 114 = .ok (.putfield 54, 3) := by decide +kernel
theorem dX7_init_117 : decode cX7_init 117 = .ok (.aload_n 0, 1) := by decide +kernel
theorem dX7_init_118 : decode cX7_init 118 = .ok (.bipush 31, 2) := by decide +kernel
theorem dX7_init_120 : decode cX7_init 120 = .ok (.newarray .int, 2) := by decide +kernel
theorem dX7_init_122 : decode cX7_init 122 = .ok (.putfield 57, 3) := by decide +kernel
theorem dX7_init_125 : decode cX7_init 125 = .ok (.aload_n 0, 1) := by decide +kernel
theorem dX7_init_126 : decode cX7_init 126 = .ok (.bipush 41, 2) := by decide +kernel
theorem dX7_init_128 : decode cX7_init 128 = .ok (.newarray .int, 2) := by decide +kernel
theorem dX7_init_130 : decode cX7_init 130 = .ok (.putfield 60, 3) := by decide +kernel
theorem dX7_init_133 : decode cX7_init 133 = .ok (.aload_n 0, 1) := by decide +kernel
theorem dX7_init_134 : decode cX7_init 134 = .ok (.bipush 41, 2) := by decide +kernel
theorem dX7_init_136 : decode cX7_init 136 = .ok (.newarray .int, 2) := by decide +kernel
theorem dX7_init_138 : decode cX7_init 138 = .ok (.putfield 63, 3) := by decide +kernel
theorem dX7_init_141 : decode cX7_init 141 = .ok (.aload_n 0, 1) := by decide +kernel
theorem dX7_init_142 : decode cX7_init 142 = .ok (.bipush 41, 2) := by decide +kernel
theorem dX7_init_144 : decode cX7_init 144 = .ok (.newarray .int, 2) := by decide +kernel
theorem dX7_init_146 : decode cX7_init 146 = .ok (.putfield 66, 3) := by decide +kernel
theorem dX7_init_149 : decode cX7_init 149 = .ok (.aload_n 0, 1) := by decide +kernel
theorem dX7_init_150 : decode cX7_init 150 = .ok (.bipush 41, 2) := by decide +kernel
theorem dX7_init_152 : decode cX7_init 152 = .ok (.newarray .int, 2) := by decide +kernel
theorem dX7_init_154 : decode cX7_init 154 = .ok (.putfield 69, 3) := by decide +kernel
theorem dX7_init_157 : decode cX7_init 157 = .ok (.aload_n 0, 1) := by decide +kernel
theorem dX7_init_158 : decode cX7_init 158 = .ok (.bipush 41, 2) := by decide +kernel
theorem dX7_init_160 : decode cX7_init 160 = .ok (.newarray .int, 2) := by decide +kernel
theorem dX7_init_162 : decode cX7_init 162 = .ok (.putfield 72, 3) := by decide +kernel
theorem dX7_init_165 : decode cX7_init 165 = .ok (.return_, 1) := by decide +kernel
theorem dX7_within_0 : decode cX7_within 0 = .ok (.iload_n 0, 1) := by decide +kernel
theorem dX7_within_1 : decode cX7_within 1 = .ok (.iload_n 1, 1) := by decide +kernel
theorem dX7_within_2 : decode cX7_within 2 = .ok (.if_icmp .lt 12, 3) := by decide +kernel
theorem dX7_within_5 : decode cX7_within 5 = .ok (.iload_n 0, 1) := by decide +kernel
theorem dX7_within_6 : decode cX7_within 6 = .ok (.iload_n 2, 1) := by decide +kernel
theorem dX7_within_7 : decode cX7_within 7 = .ok (.if_icmp .gt 7, 3) := by decide +kernel
theorem dX7_within_10 : decode cX7_within 10 = .ok (.iconst 1, 1) := by decide +kernel
theorem dX7_within_11 : decode cX7_within 11 = .ok (.goto 4, 3) := by decide +kernel
theorem dX7_within_14 : decode cX7_within 14 = .ok (.iconst 0, 1) := by decide +kernel
theorem dX7_within_15 : decode cX7_within 15 = .ok (.ireturn, 1) := by decide +kernel
theorem dX7_letter_0 : decode cX7_letter 0 = .ok (.iload_n 1, 1) := by decide +kernel
theorem dX7_letter_1 : decode cX7_letter 1 = .ok (.bipush 32, 2) := by decide +kernel
theorem dX7_letter_3 : decode cX7_letter 3 = .ok (.bipush 126, 2) := by decide +kernel
theorem dX7_letter_5 : decode cX7_letter 5 = .ok (.invokestatic 75, 3) := by decide +kernel
theorem dX7_letter_8 : decode cX7_letter 8 = .ok (.ifCond .ne 6, 3) := by decide +kernel
theorem dX7_letter_11 : decode cX7_letter 11 = .ok (.bipush (-102), 2) := by decide +kernel
theorem dX7_letter_13 : decode cX7_letter 13 = .ok (.ireturn, 1) := by decide +kernel
theorem dX7_letter_14 : decode cX7_letter 14 = .ok (.aload_n 0, 1) := by decide +kernel
theorem dX7_letter_15 : decode cX7_letter 15 = .ok (.getfield 79, 3) := by decide +kernel
theorem dX7_letter_18 : decode cX7_letter 18 = .ok (.bipush 40, 2) := by decide +kernel
theorem dX7_letter_20 : decode cX7_letter 20 = .ok (.if_icmp .ne 6, 3) := by decide +kernel
theorem dX7_letter_23 : decode cX7_letter 23 = .ok (.bipush (-104), 2) := by decide +kernel
theorem dX7_letter_25 : decode cX7_letter 25 = .ok (.ireturn, 1) := by decide +kernel
theorem dX7_letter_26 : decode cX7_letter 26 = .ok (.aload_n 0, 1) := by decide +kernel
theorem dX7_letter_27 : decode cX7_letter 27 = .ok (.getfield 29, 3) := by decide +kernel
theorem dX7_letter_30 : decode cX7_letter 30 = .ok (.aload_n 0, 1) := by decide +kernel
theorem dX7_letter_31 : decode cX7_letter 31 = .ok (.getfield 79, 3) := by decide +kernel
theorem dX7_letter_34 : decode cX7_letter 34 = .ok (.iload_n 1, 1) := by decide +kernel
theorem dX7_letter_35 : decode cX7_letter 35 = .ok (.iastore, 1) := by decide +kernel
theorem dX7_letter_36 : decode cX7_letter 36 = .ok (.aload_n 0, 1) := by decide +kernel
theorem dX7_letter_37 : decode cX7_letter 37 = .ok (.dup, 1) := by decide +kernel
theorem dX7_letter_38 : decode cX7_letter 38 = .ok (.getfield 79, 3) := by decide +kernel
theorem dX7_letter_41 : decode cX7_letter 41 = .ok (.iconst 1, 1) := by decide +kernel
theorem dX7_letter_42 : decode cX7_letter 42 = .ok (.iadd, 1) := by decide +kernel
theorem dX7_letter_43 : decode cX7_letter 43 = .ok (.putfield 79, 3) := by decide +kernel
theorem dX7_letter_46 : decode cX7_letter 46 = .ok (.aload_n 0, 1) := by decide +kernel
theorem dX7_letter_47 : decode cX7_letter 47 = .ok (.getfield 79, 3) := by decide +kernel
theorem dX7_letter_50 : decode cX7_letter 50 = .ok (.ireturn, 1) := by decide +kernel
theorem dX7_blank_0 : decode cX7_blank 0 = .ok (.aload_n 0, 1) := by decide +kernel
theorem dX7_blank_1 : decode cX7_blank 1 = .ok (.getfield 79, 3) := by decide +kernel
theorem dX7_blank_4 : decode cX7_blank 4 = .ok (.istore_n 1, 1) := by decide +kernel
theorem dX7_blank_5 : decode cX7_blank 5 = .ok (.aload_n 0, 1) := by decide +kernel
theorem dX7_blank_6 : decode cX7_blank 6 = .ok (.iconst 0, 1) := by decide +kernel
theorem dX7_blank_7 : decode cX7_blank 7 = .ok (.putfield 79, 3) := by decide +kernel
theorem dX7_blank_10 : decode cX7_blank 10 = .ok (.iload_n 1, 1) := by decide +kernel
theorem dX7_blank_11 : decode cX7_blank 11 = .ok (.ireturn, 1) := by decide +kernel
theorem dX7_kindBy_0 : decode cX7_kindBy 0 = .ok (.iload_n 0, 1) := by decide +kernel
theorem dX7_kindBy_1 : decode cX7_kindBy 1 = .ok (.lookupswitch 51 #[(99, 47), (102, 43), (112, 45), (116, 49)], 43) := by decide +kernel
theorem dX7_kindBy_44 : decode cX7_kindBy 44 = .ok (.iconst 0, 1) := by decide +kernel
theorem dX7_kindBy_45 : decode cX7_kindBy 45 = .ok (.ireturn, 1) := by decide +kernel
theorem dX7_kindBy_46 : decode cX7_kindBy 46 = .ok (.iconst 1, 1) := by decide +kernel
theorem dX7_kindBy_47 : decode cX7_kindBy 47 = .ok (.ireturn, 1) := by decide +kernel
theorem dX7_kindBy_48 : decode cX7_kindBy 48 = .ok (.iconst 2, 1) := by decide +kernel
theorem dX7_kindBy_49 : decode cX7_kindBy 49 = .ok (.ireturn, 1) := by decide +kernel
theorem dX7_kindBy_50 : decode cX7_kindBy 50 = .ok (.iconst 3, 1) := by decide +kernel
theorem dX7_kindBy_51 : decode cX7_kindBy 51 = .ok (.ireturn, 1) := by decide +kernel
theorem dX7_kindBy_52 : decode cX7_kindBy 52 = .ok (.iconst (-1), 1) := by decide +kernel
theorem dX7_kindBy_53 : decode cX7_kindBy 53 = .ok (.ireturn, 1) := by decide +kernel
theorem dX7_markBy_0 : decode cX7_markBy 0 = .ok (.iload_n 1, 1) := by decide +kernel
theorem dX7_markBy_1 : decode cX7_markBy 1 = .ok (.lookupswitch 109 #[(33, 79), (43, 97), (97, 75), (98, 77), (99, 81), (100, 81), (101, 81), (102, 81)], 75) := by decide +kernel
theorem dX7_markBy_76 : decode cX7_markBy 76 = .ok (.iconst 0, 1) := by decide +kernel
theorem dX7_markBy_77 : decode cX7_markBy 77 = .ok (.ireturn, 1) := by decide +kernel
theorem dX7_markBy_78 : decode cX7_markBy 78 = .ok (.iconst 1, 1) := by decide +kernel
theorem dX7_markBy_79 : decode cX7_markBy 79 = .ok (.ireturn, 1) := by decide +kernel
theorem dX7_markBy_80 : decode cX7_markBy 80 = .ok (.iconst 2, 1) := by decide +kernel
theorem dX7_markBy_81 : decode cX7_markBy 81 = .ok (.ireturn, 1) := by decide +kernel
theorem dX7_markBy_82 : decode cX7_markBy 82 = .ok (.iload_n 0, 1) := by decide +kernel
theorem dX7_markBy_83 : decode cX7_markBy 83 = .ok (.iconst 2, 1) := by decide +kernel
theorem dX7_markBy_84 : decode cX7_markBy 84 = .ok (.if_icmp .ne 12, 3) := by decide +kernel
theorem dX7_markBy_87 : decode cX7_markBy 87 = .ok (.iconst 3, 1) := by decide +kernel
theorem dX7_markBy_88 : decode cX7_markBy 88 = .ok (.iload_n 1, 1) := by decide +kernel
theorem dX7_markBy_89 : decode cX7_markBy 89 = .ok (.iadd, 1) := by decide +kernel
theorem dX7_markBy_90 : decode cX7_markBy 90 = .ok (.bipush 99, 2) := by decide +kernel
theorem dX7_markBy_92 : decode cX7_markBy 92 = .ok (.isub, 1) := by decide +kernel
theorem dX7_markBy_93 : decode cX7_markBy 93 = .ok (.goto 4, 3) := by decide +kernel
theorem dX7_markBy_96 : decode cX7_markBy 96 = .ok (.iconst (-1), 1) := by decide +kernel
theorem dX7_markBy_97 : decode cX7_markBy 97 = .ok (.ireturn, 1) := by decide +kernel
theorem dX7_markBy_98 : decode cX7_markBy 98 = .ok (.iload_n 0, 1) := by decide +kernel
theorem dX7_markBy_99 : decode cX7_markBy 99 = .ok (.iconst 2, 1) := by decide +kernel
theorem dX7_markBy_100 : decode cX7_markBy 100 = .ok (.if_icmp .ne 8, 3) := by decide +kernel
theorem dX7_markBy_103 : decode cX7_markBy 103 = .ok (.bipush 7, 2) := by decide +kernel
theorem dX7_markBy_105 : decode cX7_markBy 105 = .ok (.goto 4, 3) := by decide +kernel
theorem dX7_markBy_108 : decode cX7_markBy 108 = .ok (.iconst (-1), 1) := by decide +kernel
theorem dX7_markBy_109 : decode cX7_markBy 109 = .ok (.ireturn, 1) := by decide +kernel
theorem dX7_markBy_110 : decode cX7_markBy 110 = .ok (.iconst (-1), 1) := by decide +kernel
theorem dX7_markBy_111 : decode cX7_markBy 111 = .ok (.ireturn, 1) := by decide +kernel
theorem dX7_markLetter_0 : decode cX7_markLetter 0 = .ok (.iload_n 0, 1) := by decide +kernel
theorem dX7_markLetter_1 : decode cX7_markLetter 1 = .ok (.tableswitch 59 0 7 #[47, 50, 53, 59, 59, 59, 59, 56], 47) := by decide +kernel
theorem dX7_markLetter_48 : decode cX7_markLetter 48 = .ok (.bipush 97, 2) := by decide +kernel
theorem dX7_markLetter_50 : decode cX7_markLetter 50 = .ok (.ireturn, 1) := by decide +kernel
theorem dX7_markLetter_51 : decode cX7_markLetter 51 = .ok (.bipush 98, 2) := by decide +kernel
theorem dX7_markLetter_53 : decode cX7_markLetter 53 = .ok (.ireturn, 1) := by decide +kernel
