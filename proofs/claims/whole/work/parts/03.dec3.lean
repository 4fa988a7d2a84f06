theorem dX7_points_19 : decode cX7_points 19 = .ok (.ifCond .eq 16, 3) := by decide +kernel
theorem dX7_points_22 : decode cX7_points 22 = .ok (.aload_n 0, 1) := by decide +kernel
theorem dX7_points_23 : decode cX7_points 23 = .ok (.getfield 19, 3) := by decide +kernel
theorem dX7_points_26 : decode cX7_points 26 = .ok (.iconst 4, 1) := by decide +kernel
theorem dX7_points_27 : decode cX7_points 27 = .ok (.iload_n 1, 1) := by decide +kernel
theorem dX7_points_28 : decode cX7_points 28 = .ok (.imul, 1) := by decide +kernel
theorem dX7_points_29 : decode cX7_points 29 = .ok (.iload_n 2, 1) := by decide +kernel
theorem dX7_points_30 : decode cX7_points 30 = .ok (.iadd, 1) := by decide +kernel
theorem dX7_points_31 : decode cX7_points 31 = .ok (.iaload, 1) := by decide +kernel
theorem dX7_points_32 : decode cX7_points 32 = .ok (.goto 5, 3) := by decide +kernel
theorem dX7_points_35 : decode cX7_points 35 = .ok (.bipush (-102), 2) := by decide +kernel
theorem dX7_points_37 : decode cX7_points 37 = .ok (.ireturn, 1) := by decide +kernel
theorem dX7_pairsOf_0 : decode cX7_pairsOf 0 = .ok (.aload_n 0, 1) := by decide +kernel
theorem dX7_pairsOf_1 : decode cX7_pairsOf 1 = .ok (.iload_n 1, 1) := by decide +kernel
theorem dX7_pairsOf_2 : decode cX7_pairsOf 2 = .ok (.aload_n 0, 1) := by decide +kernel
theorem dX7_pairsOf_3 : decode cX7_pairsOf 3 = .ok (.getfield 133, 3) := by decide +kernel
theorem dX7_pairsOf_6 : decode cX7_pairsOf 6 = .ok (.invokevirtual 180, 3) := by decide +kernel
theorem dX7_pairsOf_9 : decode cX7_pairsOf 9 = .ok (.aload_n 0, 1) := by decide +kernel
theorem dX7_pairsOf_10 : decode cX7_pairsOf 10 = .ok (.getfield 32, 3) := by decide +kernel
theorem dX7_pairsOf_13 : decode cX7_pairsOf 13 = .ok (.iload_n 2, 1) := by decide +kernel
theorem dX7_pairsOf_14 : decode cX7_pairsOf 14 = .ok (.iaload, 1) := by decide +kernel
theorem dX7_pairsOf_15 : decode cX7_pairsOf 15 = .ok (.ireturn, 1) := by decide +kernel
theorem dX7_pairs_0 : decode cX7_pairs 0 = .ok (.aload_n 0, 1) := by decide +kernel
theorem dX7_pairs_1 : decode cX7_pairs 1 = .ok (.iload_n 1, 1) := by decide +kernel
theorem dX7_pairs_2 : decode cX7_pairs 2 = .ok (.invokevirtual 126, 3) := by decide +kernel
theorem dX7_pairs_5 : decode cX7_pairs 5 = .ok (.ifCond .ne 8, 3) := by decide +kernel
theorem dX7_pairs_8 : decode cX7_pairs 8 = .ok (.bipush (-101), 2) := by decide +kernel
theorem dX7_pairs_10 : decode cX7_pairs 10 = .ok (.goto 23, 3) := by decide +kernel
theorem dX7_pairs_13 : decode cX7_pairs 13 = .ok (.iload_n 2, 1) := by decide +kernel
theorem dX7_pairs_14 : decode cX7_pairs 14 = .ok (.iconst 0, 1) := by decide +kernel
theorem dX7_pairs_15 : decode cX7_pairs 15 = .ok (.iconst 3, 1) := by decide +kernel
theorem dX7_pairs_16 : decode cX7_pairs 16 = .ok (.invokestatic 75, 3) := by decide +kernel
theorem dX7_pairs_19 : decode cX7_pairs 19 = .ok (.ifCond .eq 12, 3) := by decide +kernel
theorem dX7_pairs_22 : decode cX7_pairs 22 = .ok (.aload_n 0, 1) := by decide +kernel
theorem dX7_pairs_23 : decode cX7_pairs 23 = .ok (.iload_n 1, 1) := by decide +kernel
theorem dX7_pairs_24 : decode cX7_pairs 24 = .ok (.iload_n 2, 1) := by decide +kernel
theorem dX7_pairs_25 : decode cX7_pairs 25 = .ok (.invokevirtual 251, 3) := by decide +kernel
theorem dX7_pairs_28 : decode cX7_pairs 28 = .ok (.goto 5, 3) := by decide +kernel
theorem dX7_pairs_31 : decode cX7_pairs 31 = .ok (.bipush (-102), 2) := by decide +kernel
theorem dX7_pairs_33 : decode cX7_pairs 33 = .ok (.ireturn, 1) := by decide +kernel
theorem dX7_judged_0 : decode cX7_judged 0 = .ok (.aload_n 0, 1) := by decide +kernel
theorem dX7_judged_1 : decode cX7_judged 1 = .ok (.invokevirtual 254, 3) := by decide +kernel
theorem dX7_judged_4 : decode cX7_judged 4 = .ok (.ireturn, 1) := by decide +kernel
theorem dX7_rank_0 : decode cX7_rank 0 = .ok (.iload_n 1, 1) := by decide +kernel
theorem dX7_rank_1 : decode cX7_rank 1 = .ok (.iconst 0, 1) := by decide +kernel
theorem dX7_rank_2 : decode cX7_rank 2 = .ok (.aload_n 0, 1) := by decide +kernel
theorem dX7_rank_3 : decode cX7_rank 3 = .ok (.getfield 110, 3) := by decide +kernel
theorem dX7_rank_6 : decode cX7_rank 6 = .ok (.iconst 1, 1) := by decide +kernel
theorem dX7_rank_7 : decode cX7_rank 7 = .ok (.isub, 1) := by decide +kernel
theorem dX7_rank_8 : decode cX7_rank 8 = .ok (.invokestatic 75, 3) := by decide +kernel
theorem dX7_rank_11 : decode cX7_rank 11 = .ok (.ifCond .ne 6, 3) := by decide +kernel
theorem dX7_rank_14 : decode cX7_rank 14 = .ok (.bipush (-101), 2) := by decide +kernel
theorem dX7_rank_16 : decode cX7_rank 16 = .ok (.ireturn, 1) := by decide +kernel
theorem dX7_rank_17 : decode cX7_rank 17 = .ok (.iconst 0, 1) := by decide +kernel
theorem dX7_rank_18 : decode cX7_rank 18 = .ok (.istore_n 2, 1) := by decide +kernel
theorem dX7_rank_19 : decode cX7_rank 19 = .ok (.aload_n 0, 1) := by decide +kernel
theorem dX7_rank_20 : decode cX7_rank 20 = .ok (.iload_n 2, 1) := by decide +kernel
theorem dX7_rank_21 : decode cX7_rank 21 = .ok (.invokevirtual 245, 3) := by decide +kernel
theorem dX7_rank_24 : decode cX7_rank 24 = .ok (.iload_n 1, 1) := by decide +kernel
theorem dX7_rank_25 : decode cX7_rank 25 = .ok (.if_icmp .eq 9, 3) := by decide +kernel
theorem dX7_rank_28 : decode cX7_rank 28 = .ok (.iinc 2 1, 3) := by decide +kernel
theorem dX7_rank_31 : decode cX7_rank 31 = .ok (.goto (-12), 3) := by decide +kernel
theorem dX7_rank_34 : decode cX7_rank 34 = .ok (.iload_n 2, 1) := by decide +kernel
theorem dX7_rank_35 : decode cX7_rank 35 = .ok (.ireturn, 1) := by decide +kernel
theorem dX7_oneMore_0 : decode cX7_oneMore 0 = .ok (.iconst 0, 1) := by decide +kernel
theorem dX7_oneMore_1 : decode cX7_oneMore 1 = .ok (.istore_n 2, 1) := by decide +kernel
theorem dX7_oneMore_2 : decode cX7_oneMore 2 = .ok (.iload_n 2, 1) := by decide +kernel
theorem dX7_oneMore_3 : decode cX7_oneMore 3 = .ok (.iconst 5, 1) := by decide +kernel
theorem dX7_oneMore_4 : decode cX7_oneMore 4 = .ok (.if_icmp .ge 16, 3) := by decide +kernel
theorem dX7_oneMore_7 : decode cX7_oneMore 7 = .ok (.aload_n 0, 1) := by decide +kernel
theorem dX7_oneMore_8 : decode cX7_oneMore 8 = .ok (.getfield 54, 3) := by decide +kernel
theorem dX7_oneMore_11 : decode cX7_oneMore 11 = .ok (.iload_n 2, 1) := by decide +kernel
theorem dX7_oneMore_12 : decode cX7_oneMore 12 = .ok (.iconst 0, 1) := by decide +kernel
theorem dX7_oneMore_13 : decode cX7_oneMore 13 = .ok (.iastore, 1) := by decide +kernel
theorem dX7_oneMore_14 : decode cX7_oneMore 14 = .ok (.iinc 2 1, 3) := by decide +kernel
theorem dX7_oneMore_17 : decode cX7_oneMore 17 = .ok (.goto (-15), 3) := by decide +kernel
theorem dX7_oneMore_20 : decode cX7_oneMore 20 = .ok (.iconst 0, 1) := by decide +kernel
theorem dX7_oneMore_21 : decode cX7_oneMore 21 = .ok (.istore_n 2, 1) := by decide +kernel
theorem dX7_oneMore_22 : decode cX7_oneMore 22 = .ok (.iload_n 2, 1) := by decide +kernel
theorem dX7_oneMore_23 : decode cX7_oneMore 23 = .ok (.iconst 5, 1) := by decide +kernel
theorem dX7_oneMore_24 : decode cX7_oneMore 24 = .ok (.if_icmp .ge 63, 3) := by decide +kernel
theorem dX7_oneMore_27 : decode cX7_oneMore 27 = .ok (.iconst 0, 1) := by decide +kernel
theorem dX7_oneMore_28 : decode cX7_oneMore 28 = .ok (.istore_n 3, 1) := by decide +kernel
theorem dX7_oneMore_29 : decode cX7_oneMore 29 = .ok (.iload_n 3, 1) := by decide +kernel
theorem dX7_oneMore_30 : decode cX7_oneMore 30 = .ok (.bipush 8, 2) := by decide +kernel
theorem dX7_oneMore_32 : decode cX7_oneMore 32 = .ok (.if_icmp .ge 49, 3) := by decide +kernel
theorem dX7_oneMore_35 : decode cX7_oneMore 35 = .ok (.aload_n 0, 1) := by decide +kernel
theorem dX7_oneMore_36 : decode cX7_oneMore 36 = .ok (.getfield 51, 3) := by decide +kernel
theorem dX7_oneMore_39 : decode cX7_oneMore 39 = .ok (.iload_n 2, 1) := by decide +kernel
theorem dX7_oneMore_40 : decode cX7_oneMore 40 = .ok (.iaload, 1) := by decide +kernel
theorem dX7_oneMore_41 : decode cX7_oneMore 41 = .ok (.ifCond .le 40, 3) := by decide +kernel
theorem dX7_oneMore_44 : decode cX7_oneMore 44 = .ok (.aload_n 0, 1) := by decide +kernel
theorem dX7_oneMore_45 : decode cX7_oneMore 45 = .ok (.iload_n 1, 1) := by decide +kernel
theorem dX7_oneMore_46 : decode cX7_oneMore 46 = .ok (.iload_n 2, 1) := by decide +kernel
theorem dX7_oneMore_47 : decode cX7_oneMore 47 = .ok (.iload_n 3, 1) := by decide +kernel
theorem dX7_oneMore_48 : decode cX7_oneMore 48 = .ok (.invokevirtual 170, 3) := by decide +kernel
theorem dX7_oneMore_51 : decode cX7_oneMore 51 = .ok (.istore 4, 2) := by decide +kernel
theorem dX7_oneMore_53 : decode cX7_oneMore 53 = .ok (.iload 4, 2) := by decide +kernel
theorem dX7_oneMore_55 : decode cX7_oneMore 55 = .ok (.iconst (-1), 1) := by decide +kernel
theorem dX7_oneMore_56 : decode cX7_oneMore 56 = .ok (.if_icmp .eq 19, 3) := by decide +kernel
theorem dX7_oneMore_59 : decode cX7_oneMore 59 = .ok (.aload_n 0, 1) := by decide +kernel
theorem dX7_oneMore_60 : decode cX7_oneMore 60 = .ok (.getfield 54, 3) := by decide +kernel
theorem dX7_oneMore_63 : decode cX7_oneMore 63 = .ok (.iload 4, 2) := by decide +kernel
theorem dX7_oneMore_65 : decode cX7_oneMore 65 = .ok (.dup2, 1) := by decide +kernel
theorem dX7_oneMore_66 : decode cX7_oneMore 66 = .ok (.iaload, 1) := by decide +kernel
theorem dX7_oneMore_67 : decode cX7_oneMore 67 = .ok (.aload_n 0, 1) := by decide +kernel
theorem dX7_oneMore_68 : decode cX7_oneMore 68 = .ok (.getfield 51, 3) := by decide +kernel
theorem dX7_oneMore_71 : decode cX7_oneMore 71 = .ok (.iload_n 2, 1) := by decide +kernel
theorem dX7_oneMore_72 : decode cX7_oneMore 72 = .ok (.iaload, 1) := by decide +kernel
theorem dX7_oneMore_73 : decode cX7_oneMore 73 = .ok (.iadd, 1) := by decide +kernel
theorem dX7_oneMore_74 : decode cX7_oneMore 74 = .ok (.iastore, 1) := by decide +kernel
theorem dX7_oneMore_75 : decode cX7_oneMore 75 = .ok (.iinc 3 1, 3) := by decide +kernel
theorem dX7_oneMore_78 : decode cX7_oneMore 78 = .ok (.goto (-49), 3) := by decide +kernel
theorem dX7_oneMore_81 : decode cX7_oneMore 81 = .ok (.iinc 2 1, 3) := by decide +kernel
theorem dX7_oneMore_84 : decode cX7_oneMore 84 = .ok (.goto (-62), 3) := by decide +kernel
theorem dX7_oneMore_87 : decode cX7_oneMore 87 = .ok (.iconst 0, 1) := by decide +kernel
theorem dX7_oneMore_88 : decode cX7_oneMore 88 = .ok (.istore_n 2, 1) := by decide +kernel
theorem dX7_oneMore_89 : decode cX7_oneMore 89 = .ok (.iload_n 2, 1) := by decide +kernel
theorem dX7_oneMore_90 : decode cX7_oneMore 90 = .ok (.iconst 5, 1) := by decide +kernel
theorem dX7_oneMore_91 : decode cX7_oneMore 91 = .ok (.if_icmp .ge 21, 3) := by decide +kernel
theorem dX7_oneMore_94 : decode cX7_oneMore 94 = .ok (.aload_n 0, 1) := by decide +kernel
theorem dX7_oneMore_95 : decode cX7_oneMore 95 = .ok (.getfield 51, 3) := by decide +kernel
theorem dX7_oneMore_98 : decode cX7_oneMore 98 = .ok (.iload_n 2, 1) := by decide +kernel
theorem dX7_oneMore_99 : decode cX7_oneMore 99 = .ok (.aload_n 0, 1) := by decide +kernel
theorem dX7_oneMore_100 : decode cX7_oneMore 100 = .ok (.getfield 54, 3) := by decide +kernel
theorem dX7_oneMore_103 : decode cX7_oneMore 103 = .ok (.iload_n 2, 1) := by decide +kernel
theorem dX7_oneMore_104 : decode cX7_oneMore 104 = .ok (.iaload, 1) := by decide +kernel
theorem dX7_oneMore_105 : decode cX7_oneMore 105 = .ok (.iastore, 1) := by decide +kernel
theorem dX7_oneMore_106 : decode cX7_oneMore 106 = .ok (.iinc 2 1, 3) := by decide +kernel
theorem dX7_oneMore_109 : decode cX7_oneMore 109 = .ok (.goto (-20), 3) := by decide +kernel
theorem dX7_oneMore_112 : decode cX7_oneMore 112 = .ok (.return_, 1) := by decide +kernel
theorem dX7_rowsNow_0 : decode cX7_rowsNow 0 = .ok (.iconst 0, 1) := by decide +kernel
theorem dX7_rowsNow_1 : decode cX7_rowsNow 1 = .ok (.istore_n 3, 1) := by decide +kernel
theorem dX7_rowsNow_2 : decode cX7_rowsNow 2 = .ok (.iload_n 3, 1) := by decide +kernel
theorem dX7_rowsNow_3 : decode cX7_rowsNow 3 = .ok (.iconst 5, 1) := by decide +kernel
theorem dX7_rowsNow_4 : decode cX7_rowsNow 4 = .ok (.if_icmp .ge 24, 3) := by decide +kernel
theorem dX7_rowsNow_7 : decode cX7_rowsNow 7 = .ok (.aload_n 0, 1) := by decide +kernel
theorem dX7_rowsNow_8 : decode cX7_rowsNow 8 = .ok (.getfield 51, 3) := by decide +kernel
theorem dX7_rowsNow_11 : decode cX7_rowsNow 11 = .ok (.iload_n 3, 1) := by decide +kernel
theorem dX7_rowsNow_12 : decode cX7_rowsNow 12 = .ok (.iload_n 3, 1) := by decide +kernel
theorem dX7_rowsNow_13 : decode cX7_rowsNow 13 = .ok (.ifCond .ne 7, 3) := by decide +kernel
theorem dX7_rowsNow_16 : decode cX7_rowsNow 16 = .ok (.iconst 1, 1) := by decide +kernel
theorem dX7_rowsNow_17 : decode cX7_rowsNow 17 = .ok (.goto 4, 3) := by decide +kernel
theorem dX7_rowsNow_20 : decode cX7_rowsNow 20 = .ok (.iconst 0, 1) := by decide +kernel
theorem dX7_rowsNow_21 : decode cX7_rowsNow 21 = .ok (.iastore, 1) := by decide +kernel
theorem dX7_rowsNow_22 : decode cX7_rowsNow 22 = .ok (.iinc 3 1, 3) := by decide +kernel
theorem dX7_rowsNow_25 : decode cX7_rowsNow 25 = .ok (.goto (-23), 3) := by decide +kernel
theorem dX7_rowsNow_28 : decode cX7_rowsNow 28 = .ok (.iconst 0, 1) := by decide +kernel
theorem dX7_rowsNow_29 : decode cX7_rowsNow 29 = .ok (.istore_n 3, 1) := by decide +kernel
theorem dX7_rowsNow_30 : decode cX7_rowsNow 30 = .ok (.iload_n 3, 1) := by decide +kernel
theorem dX7_rowsNow_31 : decode cX7_rowsNow 31 = .ok (.iload_n 2, 1) := by decide +kernel
theorem dX7_rowsNow_32 : decode cX7_rowsNow 32 = .ok (.if_icmp .ge 14, 3) := by decide +kernel
theorem dX7_rowsNow_35 : decode cX7_rowsNow 35 = .ok (.aload_n 0, 1) := by decide +kernel
theorem dX7_rowsNow_36 : decode cX7_rowsNow 36 = .ok (.iload_n 1, 1) := by decide +kernel
theorem dX7_rowsNow_37 : decode cX7_rowsNow 37 = .ok (.invokevirtual 257, 3) := by decide +kernel
theorem dX7_rowsNow_40 : decode cX7_rowsNow 40 = .ok (.iinc 3 1, 3) := by decide +kernel
theorem dX7_rowsNow_43 : decode cX7_rowsNow 43 = .ok (.goto (-13), 3) := by decide +kernel
theorem dX7_rowsNow_46 : decode cX7_rowsNow 46 = .ok (.aload_n 0, 1) := by decide +kernel
theorem dX7_rowsNow_47 : decode cX7_rowsNow 47 = .ok (.getfield 51, 3) := by decide +kernel
theorem dX7_rowsNow_50 : decode cX7_rowsNow 50 = .ok (.iconst 0, 1) := by decide +kernel
theorem dX7_rowsNow_51 : decode cX7_rowsNow 51 = .ok (.iaload, 1) := by decide +kernel
theorem dX7_rowsNow_52 : decode cX7_rowsNow 52 = .ok (.ireturn, 1) := by decide +kernel
theorem dX7_rows_0 : decode cX7_rows 0 = .ok (.aload_n 0, 1) := by decide +kernel
theorem dX7_rows_1 : decode cX7_rows 1 = .ok (.iload_n 1, 1) := by decide +kernel
theorem dX7_rows_2 : decode cX7_rows 2 = .ok (.invokevirtual 126, 3) := by decide +kernel
theorem dX7_rows_5 : decode cX7_rows 5 = .ok (.ifCond .ne 8, 3) := by decide +kernel
theorem dX7_rows_8 : decode cX7_rows 8 = .ok (.bipush (-101), 2) := by decide +kernel
theorem dX7_rows_10 : decode cX7_rows 10 = .ok (.goto 24, 3) := by decide +kernel
theorem dX7_rows_13 : decode cX7_rows 13 = .ok (.iload_n 2, 1) := by decide +kernel
theorem dX7_rows_14 : decode cX7_rows 14 = .ok (.iconst 0, 1) := by decide +kernel
theorem dX7_rows_15 : decode cX7_rows 15 = .ok (.bipush 9, 2) := by decide +kernel
theorem dX7_rows_17 : decode cX7_rows 17 = .ok (.invokestatic 75, 3) := by decide +kernel
theorem dX7_rows_20 : decode cX7_rows 20 = .ok (.ifCond .eq 12, 3) := by decide +kernel
theorem dX7_rows_23 : decode cX7_rows 23 = .ok (.aload_n 0, 1) := by decide +kernel
theorem dX7_rows_24 : decode cX7_rows 24 = .ok (.iload_n 1, 1) := by decide +kernel
theorem dX7_rows_25 : decode cX7_rows 25 = .ok (.iload_n 2, 1) := by decide +kernel
theorem dX7_rows_26 : decode cX7_rows 26 = .ok (.invokevirtual 260, 3) := by decide +kernel
theorem dX7_rows_29 : decode cX7_rows 29 = .ok (.goto 5, 3) := by decide +kernel
theorem dX7_rows_32 : decode cX7_rows 32 = .ok (.bipush (-102), 2) := by decide +kernel
theorem dX7_rows_34 : decode cX7_rows 34 = .ok (.ireturn, 1) := by decide +kernel
theorem dX7_bothBehind_0 : decode cX7_bothBehind 0 = .ok (.aload_n 0, 1) := by decide +kernel
theorem dX7_bothBehind_1 : decode cX7_bothBehind 1 = .ok (.iload_n 1, 1) := by decide +kernel
theorem dX7_bothBehind_2 : decode cX7_bothBehind 2 = .ok (.iload_n 3, 1) := by decide +kernel
theorem dX7_bothBehind_3 : decode cX7_bothBehind 3 = .ok (.bipush 6, 2) := by decide +kernel
theorem dX7_bothBehind_5 : decode cX7_bothBehind 5 = .ok (.idiv, 1) := by decide +kernel
theorem dX7_bothBehind_6 : decode cX7_bothBehind 6 = .ok (.iload 4, 2) := by decide +kernel
theorem dX7_bothBehind_8 : decode cX7_bothBehind 8 = .ok (.invokevirtual 170, 3) := by decide +kernel
theorem dX7_bothBehind_11 : decode cX7_bothBehind 11 = .ok (.istore 5, 2) := by decide +kernel
theorem dX7_bothBehind_13 : decode cX7_bothBehind 13 = .ok (.iload 5, 2) := by decide +kernel
theorem dX7_bothBehind_15 : decode cX7_bothBehind 15 = .ok (.iconst (-1), 1) := by decide +kernel
theorem dX7_bothBehind_16 : decode cX7_bothBehind 16 = .ok (.if_icmp .ne 5, 3) := by decide +kernel
theorem dX7_bothBehind_19 : decode cX7_bothBehind 19 = .ok (.iconst (-1), 1) := by decide +kernel
theorem dX7_bothBehind_20 : decode cX7_bothBehind 20 = .ok (.ireturn, 1) := by decide +kernel
theorem dX7_bothBehind_21 : decode cX7_bothBehind 21 = .ok (.iload_n 3, 1) := by decide +kernel
theorem dX7_bothBehind_22 : decode cX7_bothBehind 22 = .ok (.bipush 6, 2) := by decide +kernel
theorem dX7_bothBehind_24 : decode cX7_bothBehind 24 = .ok (.irem, 1) := by decide +kernel
theorem dX7_bothBehind_25 : decode cX7_bothBehind 25 = .ok (.iconst 5, 1) := by decide +kernel
theorem dX7_bothBehind_26 : decode cX7_bothBehind 26 = .ok (.if_icmp .ne 7, 3) := by decide +kernel
theorem dX7_bothBehind_29 : decode cX7_bothBehind 29 = .ok (.iconst (-1), 1) := by decide +kernel
theorem dX7_bothBehind_30 : decode cX7_bothBehind 30 = .ok (.goto 14, 3) := by decide +kernel
theorem dX7_bothBehind_33 : decode cX7_bothBehind 33 = .ok (.aload_n 0, 1) := by decide +kernel
theorem dX7_bothBehind_34 : decode cX7_bothBehind 34 = .ok (.iload_n 2, 1) := by decide +kernel
theorem dX7_bothBehind_35 : decode cX7_bothBehind 35 = .ok (.iload_n 3, 1) := by decide +kernel
theorem dX7_bothBehind_36 : decode cX7_bothBehind 36 = .ok (.bipush 6, 2) := by decide +kernel
theorem dX7_bothBehind_38 : decode cX7_bothBehind 38 = .ok (.irem, 1) := by decide +kernel
theorem dX7_bothBehind_39 : decode cX7_bothBehind 39 = .ok (.iload 4, 2) := by decide +kernel
theorem dX7_bothBehind_41 : decode cX7_bothBehind 41 = .ok (.invokevirtual 170, 3) := by decide +kernel
theorem dX7_bothBehind_44 : decode cX7_bothBehind 44 = .ok (.istore 6, 2) := by decide +kernel
theorem dX7_bothBehind_46 : decode cX7_bothBehind 46 = .ok (.bipush 6, 2) := by decide +kernel
theorem dX7_bothBehind_48 : decode cX7_bothBehind 48 = .ok (.iload 5, 2) := by decide +kernel
theorem dX7_bothBehind_50 : decode cX7_bothBehind 50 = .ok (.imul, 1) := by decide +kernel
theorem dX7_bothBehind_51 : decode cX7_bothBehind 51 = .ok (.iload 6, 2) := by decide +kernel
theorem dX7_bothBehind_53 : decode cX7_bothBehind 53 = .ok (.iconst (-1), 1) := by decide +kernel
theorem dX7_bothBehind_54 : decode cX7_bothBehind 54 = .ok (.if_icmp .ne 7, 3) := by decide +kernel
theorem dX7_bothBehind_57 : decode cX7_bothBehind 57 = .ok (.iconst 5, 1) := by decide +kernel
theorem dX7_bothBehind_58 : decode cX7_bothBehind 58 = .ok (.goto 5, 3) := by decide +kernel
theorem dX7_bothBehind_61 : decode cX7_bothBehind 61 = .ok (.iload 6, 2) := by decide +kernel
theorem dX7_bothBehind_63 : decode cX7_bothBehind 63 = .ok (.iadd, 1) := by decide +kernel
theorem dX7_bothBehind_64 : decode cX7_bothBehind 64 = .ok (.ireturn, 1) := by decide +kernel
theorem dX7_goesTo_0 : decode cX7_goesTo 0 = .ok (.iconst 0, 1) := by decide +kernel
theorem dX7_goesTo_1 : decode cX7_goesTo 1 = .ok (.istore 5, 2) := by decide +kernel
theorem dX7_goesTo_3 : decode cX7_goesTo 3 = .ok (.iconst 0, 1) := by decide +kernel
theorem dX7_goesTo_4 : decode cX7_goesTo 4 = .ok (.istore 6, 2) := by decide +kernel
theorem dX7_goesTo_6 : decode cX7_goesTo 6 = .ok (.iload 6, 2) := by decide +kernel
theorem dX7_goesTo_8 : decode cX7_goesTo 8 = .ok (.bipush 8, 2) := by decide +kernel
theorem dX7_goesTo_10 : decode cX7_goesTo 10 = .ok (.if_icmp .ge 49, 3) := by decide +kernel
theorem dX7_goesTo_13 : decode cX7_goesTo 13 = .ok (.iload 5, 2) := by decide +kernel
theorem dX7_goesTo_15 : decode cX7_goesTo 15 = .ok (.ifCond .ne 44, 3) := by decide +kernel
theorem dX7_goesTo_18 : decode cX7_goesTo 18 = .ok (.aload_n 0, 1) := by decide +kernel
theorem dX7_goesTo_19 : decode cX7_goesTo 19 = .ok (.iload_n 1, 1) := by decide +kernel
theorem dX7_goesTo_20 : decode cX7_goesTo 20 = .ok (.iload_n 2, 1) := by decide +kernel
theorem dX7_goesTo_21 : decode cX7_goesTo 21 = .ok (.iload_n 3, 1) := by decide +kernel
theorem dX7_goesTo_22 : decode cX7_goesTo 22 = .ok (.iload 6, 2) := by decide +kernel
theorem dX7_goesTo_24 : decode cX7_goesTo 24 = .ok (.invokevirtual 263, 3) := by decide +kernel
theorem dX7_goesTo_27 : decode cX7_goesTo 27 = .ok (.istore 7, 2) := by decide +kernel
theorem dX7_goesTo_29 : decode cX7_goesTo 29 = .ok (.iload 7, 2) := by decide +kernel
theorem dX7_goesTo_31 : decode cX7_goesTo 31 = .ok (.iconst (-1), 1) := by decide +kernel
theorem dX7_goesTo_32 : decode cX7_goesTo 32 = .ok (.if_icmp .eq 18, 3) := by decide +kernel
theorem dX7_goesTo_35 : decode cX7_goesTo 35 = .ok (.iload 4, 2) := by decide +kernel
theorem dX7_goesTo_37 : decode cX7_goesTo 37 = .ok (.iload 7, 2) := by decide +kernel
theorem dX7_goesTo_39 : decode cX7_goesTo 39 = .ok (.ishr, 1) := by decide +kernel
theorem dX7_goesTo_40 : decode cX7_goesTo 40 = .ok (.iconst 1, 1) := by decide +kernel
theorem dX7_goesTo_41 : decode cX7_goesTo 41 = .ok (.iand, 1) := by decide +kernel
theorem dX7_goesTo_42 : decode cX7_goesTo 42 = .ok (.iconst 1, 1) := by decide +kernel
theorem dX7_goesTo_43 : decode cX7_goesTo 43 = .ok (.if_icmp .ne 7, 3) := by decide +kernel
theorem dX7_goesTo_46 : decode cX7_goesTo 46 = .ok (.iconst 1, 1) := by decide +kernel
theorem dX7_goesTo_47 : decode cX7_goesTo 47 = .ok (.goto 4, 3) := by decide +kernel
theorem dX7_goesTo_50 : decode cX7_goesTo 50 = .ok (.iconst 0, 1) := by decide +kernel
theorem dX7_goesTo_51 : decode cX7_goesTo 51 = .ok (.istore 5, 2) := by decide +kernel
theorem dX7_goesTo_53 : decode cX7_goesTo 53 = .ok (.iinc 6 1, 3) := by decide +kernel
theorem dX7_goesTo_56 : decode cX7_goesTo 56 = .ok (.goto (-50), 3) := by decide +kernel
theorem dX7_goesTo_59 : decode cX7_goesTo 59 = .ok (.iload 5, 2) := by decide +kernel
theorem dX7_goesTo_61 : decode cX7_goesTo 61 = .ok (.ireturn, 1) := by decide +kernel
theorem dX7_isBoth_0 : decode cX7_isBoth 0 = .ok (.aload_n 0, 1) := by decide +kernel
theorem dX7_isBoth_1 : decode cX7_isBoth 1 = .ok (.getfield 7, 3) := by decide +kernel
theorem dX7_isBoth_4 : decode cX7_isBoth 4 = .ok (.iload_n 1, 1) := by decide +kernel
theorem dX7_isBoth_5 : decode cX7_isBoth 5 = .ok (.iaload, 1) := by decide +kernel
theorem dX7_isBoth_6 : decode cX7_isBoth 6 = .ok (.iload_n 3, 1) := by decide +kernel
theorem dX7_isBoth_7 : decode cX7_isBoth 7 = .ok (.bipush 6, 2) := by decide +kernel
theorem dX7_isBoth_9 : decode cX7_isBoth 9 = .ok (.idiv, 1) := by decide +kernel
theorem dX7_isBoth_10 : decode cX7_isBoth 10 = .ok (.invokestatic 205, 3) := by decide +kernel
theorem dX7_isBoth_13 : decode cX7_isBoth 13 = .ok (.ifCond .eq 31, 3) := by decide +kernel
theorem dX7_isBoth_16 : decode cX7_isBoth 16 = .ok (.iload_n 3, 1) := by decide +kernel
theorem dX7_isBoth_17 : decode cX7_isBoth 17 = .ok (.bipush 6, 2) := by decide +kernel
theorem dX7_isBoth_19 : decode cX7_isBoth 19 = .ok (.irem, 1) := by decide +kernel
theorem dX7_isBoth_20 : decode cX7_isBoth 20 = .ok (.iconst 5, 1) := by decide +kernel
theorem dX7_isBoth_21 : decode cX7_isBoth 21 = .ok (.if_icmp .eq 19, 3) := by decide +kernel
theorem dX7_isBoth_24 : decode cX7_isBoth 24 = .ok (.aload_n 0, 1) := by decide +kernel
theorem dX7_isBoth_25 : decode cX7_isBoth 25 = .ok (.getfield 7, 3) := by decide +kernel
theorem dX7_isBoth_28 : decode cX7_isBoth 28 = .ok (.iload_n 2, 1) := by decide +kernel
theorem dX7_isBoth_29 : decode cX7_isBoth 29 = .ok (.iaload, 1) := by decide +kernel
theorem dX7_isBoth_30 : decode cX7_isBoth 30 = .ok (.iload_n 3, 1) := by decide +kernel
theorem dX7_isBoth_31 : decode cX7_isBoth 31 = .ok (.bipush 6, 2) := by decide +kernel
theorem dX7_isBoth_33 : decode cX7_isBoth 33 = .ok (.irem, 1) := by decide +kernel
theorem dX7_isBoth_34 : decode cX7_isBoth 34 = .ok (.invokestatic 205, 3) := by decide +kernel
theorem dX7_isBoth_37 : decode cX7_isBoth 37 = .ok (.ifCond .eq 7, 3) := by decide +kernel
theorem dX7_isBoth_40 : decode cX7_isBoth 40 = .ok (.iconst 1, 1) := by decide +kernel
theorem dX7_isBoth_41 : decode cX7_isBoth 41 = .ok (.goto 4, 3) := by decide +kernel
theorem dX7_isBoth_44 : decode cX7_isBoth 44 = .ok (.iconst 0, 1) := by decide +kernel
theorem dX7_isBoth_45 : decode cX7_isBoth 45 = .ok (.ireturn, 1) := by decide +kernel
theorem dX7_layParts_0 : decode cX7_layParts 0 = .ok (.aload_n 0, 1) := by decide +kernel
theorem dX7_layParts_1 : decode cX7_layParts 1 = .ok (.getfield 57, 3) := by decide +kernel
theorem dX7_layParts_4 : decode cX7_layParts 4 = .ok (.iconst 0, 1) := by decide +kernel
theorem dX7_layParts_5 : decode cX7_layParts 5 = .ok (.iconst 0, 1) := by decide +kernel
theorem dX7_layParts_6 : decode cX7_layParts 6 = .ok (.iastore, 1) := by decide +kernel
theorem dX7_layParts_7 : decode cX7_layParts 7 = .ok (.iconst 1, 1) := by decide +kernel
theorem dX7_layParts_8 : decode cX7_layParts 8 = .ok (.istore_n 3, 1) := by decide +kernel
theorem dX7_layParts_9 : decode cX7_layParts 9 = .ok (.iload_n 3, 1) := by decide +kernel
theorem dX7_layParts_10 : decode cX7_layParts 10 = .ok (.iconst 5, 1) := by decide +kernel
theorem dX7_layParts_11 : decode cX7_layParts 11 = .ok (.if_icmp .gt 21, 3) := by decide +kernel
theorem dX7_layParts_14 : decode cX7_layParts 14 = .ok (.aload_n 0, 1) := by decide +kernel
theorem dX7_layParts_15 : decode cX7_layParts 15 = .ok (.getfield 57, 3) := by decide +kernel
theorem dX7_layParts_18 : decode cX7_layParts 18 = .ok (.iconst 0, 1) := by decide +kernel
theorem dX7_layParts_19 : decode cX7_layParts 19 = .ok (.dup2, 1) := by decide +kernel
theorem dX7_layParts_20 : decode cX7_layParts 20 = .ok (.iaload, 1) := by decide +kernel
theorem dX7_layParts_21 : decode cX7_layParts 21 = .ok (.iconst 1, 1) := by decide +kernel
theorem dX7_layParts_22 : decode cX7_layParts 22 = .ok (.iload_n 3, 1) := by decide +kernel
theorem dX7_layParts_23 : decode cX7_layParts 23 = .ok (.ishl, 1) := by decide +kernel
theorem dX7_layParts_24 : decode cX7_layParts 24 = .ok (.ior, 1) := by decide +kernel
theorem dX7_layParts_25 : decode cX7_layParts 25 = .ok (.iastore, 1) := by decide +kernel
theorem dX7_layParts_26 : decode cX7_layParts 26 = .ok (.iinc 3 1, 3) := by decide +kernel
theorem dX7_layParts_29 : decode cX7_layParts 29 = .ok (.goto (-20), 3) := by decide +kernel
theorem dX7_layParts_32 : decode cX7_layParts 32 = .ok (.iconst 1, 1) := by decide +kernel
theorem dX7_layParts_33 : decode cX7_layParts 33 = .ok (.istore_n 3, 1) := by decide +kernel
theorem dX7_layParts_34 : decode cX7_layParts 34 = .ok (.iload_n 3, 1) := by decide +kernel
theorem dX7_layParts_35 : decode cX7_layParts 35 = .ok (.bipush 30, 2) := by decide +kernel
theorem dX7_layParts_37 : decode cX7_layParts 37 = .ok (.if_icmp .gt 91, 3) := by decide +kernel
theorem dX7_layParts_40 : decode cX7_layParts 40 = .ok (.aload_n 0, 1) := by decide +kernel
theorem dX7_layParts_41 : decode cX7_layParts 41 = .ok (.getfield 57, 3) := by decide +kernel
theorem dX7_layParts_44 : decode cX7_layParts 44 = .ok (.iload_n 3, 1) := by decide +kernel
theorem dX7_layParts_45 : decode cX7_layParts 45 = .ok (.iconst 0, 1) := by decide +kernel
theorem dX7_layParts_46 : decode cX7_layParts 46 = .ok (.iastore, 1) := by decide +kernel
theorem dX7_layParts_47 : decode cX7_layParts 47 = .ok (.iconst 0, 1) := by decide +kernel
theorem dX7_layParts_48 : decode cX7_layParts 48 = .ok (.istore 4, 2) := by decide +kernel
theorem dX7_layParts_50 : decode cX7_layParts 50 = .ok (.iload 4, 2) := by decide +kernel
theorem dX7_layParts_52 : decode cX7_layParts 52 = .ok (.bipush 30, 2) := by decide +kernel
theorem dX7_layParts_54 : decode cX7_layParts 54 = .ok (.if_icmp .ge 68, 3) := by decide +kernel
theorem dX7_layParts_57 : decode cX7_layParts 57 = .ok (.aload_n 0, 1) := by decide +kernel
theorem dX7_layParts_58 : decode cX7_layParts 58 = .ok (.iload_n 1, 1) := by decide +kernel
theorem dX7_layParts_59 : decode cX7_layParts 59 = .ok (.iload_n 2, 1) := by decide +kernel
theorem dX7_layParts_60 : decode cX7_layParts 60 = .ok (.iload 4, 2) := by decide +kernel
theorem dX7_layParts_62 : decode cX7_layParts 62 = .ok (.invokevirtual 266, 3) := by decide +kernel
theorem dX7_layParts_65 : decode cX7_layParts 65 = .ok (.ifCond .eq 26, 3) := by decide +kernel
theorem dX7_layParts_68 : decode cX7_layParts 68 = .ok (.aload_n 0, 1) := by decide +kernel
theorem dX7_layParts_69 : decode cX7_layParts 69 = .ok (.iload_n 1, 1) := by decide +kernel
theorem dX7_layParts_70 : decode cX7_layParts 70 = .ok (.iload_n 2, 1) := by decide +kernel
theorem dX7_layParts_71 : decode cX7_layParts 71 = .ok (.iload 4, 2) := by decide +kernel
theorem dX7_layParts_73 : decode cX7_layParts 73 = .ok (.aload_n 0, 1) := by decide +kernel
theorem dX7_layParts_74 : decode cX7_layParts 74 = .ok (.getfield 57, 3) := by decide +kernel
theorem dX7_layParts_77 : decode cX7_layParts 77 = .ok (.iload_n 3, 1) := by decide +kernel
theorem dX7_layParts_78 : decode cX7_layParts 78 = .ok (.iconst 1, 1) := by decide +kernel
theorem dX7_layParts_79 : decode cX7_layParts 79 = .ok (.isub, 1) := by decide +kernel
theorem dX7_layParts_80 : decode cX7_layParts 80 = .ok (.iaload, 1) := by decide +kernel
theorem dX7_layParts_81 : decode cX7_layParts 81 = .ok (.invokevirtual 269, 3) := by decide +kernel
theorem dX7_layParts_84 : decode cX7_layParts 84 = .ok (.ifCond .eq 7, 3) := by decide +kernel
theorem dX7_layParts_87 : decode cX7_layParts 87 = .ok (.iconst 1, 1) := by decide +kernel
theorem dX7_layParts_88 : decode cX7_layParts 88 = .ok (.goto 4, 3) := by decide +kernel
theorem dX7_layParts_91 : decode cX7_layParts 91 = .ok (.iconst 0, 1) := by decide +kernel
theorem dX7_layParts_92 : decode cX7_layParts 92 = .ok (.istore 5, 2) := by decide +kernel
theorem dX7_layParts_94 : decode cX7_layParts 94 = .ok (.aload_n 0, 1) := by decide +kernel
theorem dX7_layParts_95 : decode cX7_layParts 95 = .ok (.getfield 57, 3) := by decide +kernel
theorem dX7_layParts_98 : decode cX7_layParts 98 = .ok (.iload_n 3, 1) := by decide +kernel
theorem dX7_layParts_99 : decode cX7_layParts 99 = .ok (.dup2, 1) := by decide +kernel
theorem dX7_layParts_100 : decode cX7_layParts 100 = .ok (.iaload, 1) := by decide +kernel
theorem dX7_layParts_101 : decode cX7_layParts 101 = .ok (.iload 5, 2) := by decide +kernel
theorem dX7_layParts_103 : decode cX7_layParts 103 = .ok (.ifCond .eq 10, 3) := by decide +kernel
theorem dX7_layParts_106 : decode cX7_layParts 106 = .ok (.iconst 1, 1) := by decide +kernel
theorem dX7_layParts_107 : decode cX7_layParts 107 = .ok (.iload 4, 2) := by decide +kernel
theorem dX7_layParts_109 : decode cX7_layParts 109 = .ok (.ishl, 1) := by decide +kernel
theorem dX7_layParts_110 : decode cX7_layParts 110 = .ok (.goto 4, 3) := by decide +kernel
theorem dX7_layParts_113 : decode cX7_layParts 113 = .ok (.iconst 0, 1) := by decide +kernel
theorem dX7_layParts_114 : decode cX7_layParts 114 = .ok (.ior, 1) := by decide +kernel
theorem dX7_layParts_115 : decode cX7_layParts 115 = .ok (.iastore, 1) := by decide +kernel
theorem dX7_layParts_116 : decode cX7_layParts 116 = .ok (.iinc 4 1, 3) := by decide +kernel
theorem dX7_layParts_119 : decode cX7_layParts 119 = .ok (.goto (-69), 3) := by decide +kernel
theorem dX7_layParts_122 : decode cX7_layParts 122 = .ok (.iinc 3 1, 3) := by decide +kernel
theorem dX7_layParts_125 : decode cX7_layParts 125 = .ok (.goto (-91), 3) := by decide +kernel
theorem dX7_layParts_128 : decode cX7_layParts 128 = .ok (.return_, 1) := by decide +kernel
theorem dX7_apartNow_0 : decode cX7_apartNow 0 = .ok (.aload_n 0, 1) := by decide +kernel
theorem dX7_apartNow_1 : decode cX7_apartNow 1 = .ok (.iload_n 1, 1) := by decide +kernel
theorem dX7_apartNow_2 : decode cX7_apartNow 2 = .ok (.iload_n 2, 1) := by decide +kernel
theorem dX7_apartNow_3 : decode cX7_apartNow 3 = .ok (.invokevirtual 273, 3) := by decide +kernel
theorem dX7_apartNow_6 : decode cX7_apartNow 6 = .ok (.iconst 0, 1) := by decide +kernel
theorem dX7_apartNow_7 : decode cX7_apartNow 7 = .ok (.istore_n 3, 1) := by decide +kernel
theorem dX7_apartNow_8 : decode cX7_apartNow 8 = .ok (.iload_n 3, 1) := by decide +kernel
theorem dX7_apartNow_9 : decode cX7_apartNow 9 = .ok (.bipush 30, 2) := by decide +kernel
theorem dX7_apartNow_11 : decode cX7_apartNow 11 = .ok (.if_icmp .gt 20, 3) := by decide +kernel
theorem dX7_apartNow_14 : decode cX7_apartNow 14 = .ok (.aload_n 0, 1) := by decide +kernel
theorem dX7_apartNow_15 : decode cX7_apartNow 15 = .ok (.getfield 57, 3) := by decide +kernel
theorem dX7_apartNow_18 : decode cX7_apartNow 18 = .ok (.iload_n 3, 1) := by decide +kernel
theorem dX7_apartNow_19 : decode cX7_apartNow 19 = .ok (.iaload, 1) := by decide +kernel
theorem dX7_apartNow_20 : decode cX7_apartNow 20 = .ok (.iconst 1, 1) := by decide +kernel
theorem dX7_apartNow_21 : decode cX7_apartNow 21 = .ok (.iand, 1) := by decide +kernel
theorem dX7_apartNow_22 : decode cX7_apartNow 22 = .ok (.ifCond .ne 9, 3) := by decide +kernel
theorem dX7_apartNow_25 : decode cX7_apartNow 25 = .ok (.iinc 3 1, 3) := by decide +kernel
theorem dX7_apartNow_28 : decode cX7_apartNow 28 = .ok (.goto (-20), 3) := by decide +kernel
theorem dX7_apartNow_31 : decode cX7_apartNow 31 = .ok (.iload_n 3, 1) := by decide +kernel
theorem dX7_apartNow_32 : decode cX7_apartNow 32 = .ok (.bipush 30, 2) := by decide +kernel
theorem dX7_apartNow_34 : decode cX7_apartNow 34 = .ok (.if_icmp .gt 7, 3) := by decide +kernel
theorem dX7_apartNow_37 : decode cX7_apartNow 37 = .ok (.iload_n 3, 1) := by decide +kernel
theorem dX7_apartNow_38 : decode cX7_apartNow 38 = .ok (.goto 4, 3) := by decide +kernel
theorem dX7_apartNow_41 : decode cX7_apartNow 41 = .ok (.iconst (-1), 1) := by decide +kernel
theorem dX7_apartNow_42 : decode cX7_apartNow 42 = .ok (.ireturn, 1) := by decide +kernel
theorem dX7_apart_0 : decode cX7_apart 0 = .ok (.aload_n 0, 1) := by decide +kernel
theorem dX7_apart_1 : decode cX7_apart 1 = .ok (.iload_n 1, 1) := by decide +kernel
theorem dX7_apart_2 : decode cX7_apart 2 = .ok (.invokevirtual 126, 3) := by decide +kernel
theorem dX7_apart_5 : decode cX7_apart 5 = .ok (.ifCond .eq 20, 3) := by decide +kernel
theorem dX7_apart_8 : decode cX7_apart 8 = .ok (.aload_n 0, 1) := by decide +kernel
theorem dX7_apart_9 : decode cX7_apart 9 = .ok (.iload_n 2, 1) := by decide +kernel
theorem dX7_apart_10 : decode cX7_apart 10 = .ok (.invokevirtual 126, 3) := by decide +kernel
theorem dX7_apart_13 : decode cX7_apart 13 = .ok (.ifCond .eq 12, 3) := by decide +kernel
theorem dX7_apart_16 : decode cX7_apart 16 = .ok (.aload_n 0, 1) := by decide +kernel
theorem dX7_apart_17 : decode cX7_apart 17 = .ok (.iload_n 1, 1) := by decide +kernel
theorem dX7_apart_18 : decode cX7_apart 18 = .ok (.iload_n 2, 1) := by decide +kernel
theorem dX7_apart_19 : decode cX7_apart 19 = .ok (.invokevirtual 276, 3) := by decide +kernel
theorem dX7_apart_22 : decode cX7_apart 22 = .ok (.goto 5, 3) := by decide +kernel
theorem dX7_apart_25 : decode cX7_apart 25 = .ok (.bipush (-101), 2) := by decide +kernel
theorem dX7_apart_27 : decode cX7_apart 27 = .ok (.ireturn, 1) := by decide +kernel
theorem dX7_leastTo_0 : decode cX7_leastTo 0 = .ok (.iconst 0, 1) := by decide +kernel
theorem dX7_leastTo_1 : decode cX7_leastTo 1 = .ok (.istore 5, 2) := by decide +kernel
theorem dX7_leastTo_3 : decode cX7_leastTo 3 = .ok (.aload_n 0, 1) := by decide +kernel
theorem dX7_leastTo_4 : decode cX7_leastTo 4 = .ok (.iload_n 1, 1) := by decide +kernel
theorem dX7_leastTo_5 : decode cX7_leastTo 5 = .ok (.iload_n 2, 1) := by decide +kernel
theorem dX7_leastTo_6 : decode cX7_leastTo 6 = .ok (.iload_n 3, 1) := by decide +kernel
theorem dX7_leastTo_7 : decode cX7_leastTo 7 = .ok (.iload 5, 2) := by decide +kernel
theorem dX7_leastTo_9 : decode cX7_leastTo 9 = .ok (.invokevirtual 263, 3) := by decide +kernel
theorem dX7_leastTo_12 : decode cX7_leastTo 12 = .ok (.istore 6, 2) := by decide +kernel
theorem dX7_leastTo_14 : decode cX7_leastTo 14 = .ok (.iload 6, 2) := by decide +kernel
theorem dX7_leastTo_16 : decode cX7_leastTo 16 = .ok (.iconst (-1), 1) := by decide +kernel
theorem dX7_leastTo_17 : decode cX7_leastTo 17 = .ok (.if_icmp .eq 13, 3) := by decide +kernel
theorem dX7_leastTo_20 : decode cX7_leastTo 20 = .ok (.iload 4, 2) := by decide +kernel
theorem dX7_leastTo_22 : decode cX7_leastTo 22 = .ok (.iload 6, 2) := by decide +kernel
theorem dX7_leastTo_24 : decode cX7_leastTo 24 = .ok (.ishr, 1) := by decide +kernel
theorem dX7_leastTo_25 : decode cX7_leastTo 25 = .ok (.iconst 1, 1) := by decide +kernel
theorem dX7_leastTo_26 : decode cX7_leastTo 26 = .ok (.iand, 1) := by decide +kernel
theorem dX7_leastTo_27 : decode cX7_leastTo 27 = .ok (.ifCond .ne 20, 3) := by decide +kernel
theorem dX7_leastTo_30 : decode cX7_leastTo 30 = .ok (.iinc 5 1, 3) := by decide +kernel
theorem dX7_leastTo_33 : decode cX7_leastTo 33 = .ok (.aload_n 0, 1) := by decide +kernel
theorem dX7_leastTo_34 : decode cX7_leastTo 34 = .ok (.iload_n 1, 1) := by decide +kernel
theorem dX7_leastTo_35 : decode cX7_leastTo 35 = .ok (.iload_n 2, 1) := by decide +kernel
theorem dX7_leastTo_36 : decode cX7_leastTo 36 = .ok (.iload_n 3, 1) := by decide +kernel
theorem dX7_leastTo_37 : decode cX7_leastTo 37 = .ok (.iload 5, 2) := by decide +kernel
theorem dX7_leastTo_39 : decode cX7_leastTo 39 = .ok (.invokevirtual 263, 3) := by decide +kernel
theorem dX7_leastTo_42 : decode cX7_leastTo 42 = .ok (.istore 6, 2) := by decide +kernel
theorem dX7_leastTo_44 : decode cX7_leastTo 44 = .ok (.goto (-30), 3) := by decide +kernel
theorem dX7_leastTo_47 : decode cX7_leastTo 47 = .ok (.iload 5, 2) := by decide +kernel
theorem dX7_leastTo_49 : decode cX7_leastTo 49 = .ok (.ireturn, 1) := by decide +kernel
theorem dX7_tellsNow_0 : decode cX7_tellsNow 0 = .ok (.aload_n 0, 1) := by decide +kernel
theorem dX7_tellsNow_1 : decode cX7_tellsNow 1 = .ok (.iload_n 1, 1) := by decide +kernel
theorem dX7_tellsNow_2 : decode cX7_tellsNow 2 = .ok (.iload_n 2, 1) := by decide +kernel
theorem dX7_tellsNow_3 : decode cX7_tellsNow 3 = .ok (.invokevirtual 276, 3) := by decide +kernel
theorem dX7_tellsNow_6 : decode cX7_tellsNow 6 = .ok (.istore 4, 2) := by decide +kernel
theorem dX7_tellsNow_8 : decode cX7_tellsNow 8 = .ok (.iload_n 3, 1) := by decide +kernel
theorem dX7_tellsNow_9 : decode cX7_tellsNow 9 = .ok (.iconst 0, 1) := by decide +kernel
theorem dX7_tellsNow_10 : decode cX7_tellsNow 10 = .ok (.iload 4, 2) := by decide +kernel
theorem dX7_tellsNow_12 : decode cX7_tellsNow 12 = .ok (.iconst 1, 1) := by decide +kernel
theorem dX7_tellsNow_13 : decode cX7_tellsNow 13 = .ok (.isub, 1) := by decide +kernel
theorem dX7_tellsNow_14 : decode cX7_tellsNow 14 = .ok (.invokestatic 75, 3) := by decide +kernel
theorem dX7_tellsNow_17 : decode cX7_tellsNow 17 = .ok (.ifCond .ne 6, 3) := by decide +kernel
theorem dX7_tellsNow_20 : decode cX7_tellsNow 20 = .ok (.bipush (-101), 2) := by decide +kernel
theorem dX7_tellsNow_22 : decode cX7_tellsNow 22 = .ok (.ireturn, 1) := by decide +kernel
theorem dX7_tellsNow_23 : decode cX7_tellsNow 23 = .ok (.iconst 0, 1) := by decide +kernel
theorem dX7_tellsNow_24 : decode cX7_tellsNow 24 = .ok (.istore 5, 2) := by decide +kernel
theorem dX7_tellsNow_26 : decode cX7_tellsNow 26 = .ok (.iconst 0, 1) := by decide +kernel
theorem dX7_tellsNow_27 : decode cX7_tellsNow 27 = .ok (.istore 6, 2) := by decide +kernel
theorem dX7_tellsNow_29 : decode cX7_tellsNow 29 = .ok (.iconst 0, 1) := by decide +kernel
theorem dX7_tellsNow_30 : decode cX7_tellsNow 30 = .ok (.istore 7, 2) := by decide +kernel
theorem dX7_tellsNow_32 : decode cX7_tellsNow 32 = .ok (.iload 7, 2) := by decide +kernel
theorem dX7_tellsNow_34 : decode cX7_tellsNow 34 = .ok (.iload_n 3, 1) := by decide +kernel
theorem dX7_tellsNow_35 : decode cX7_tellsNow 35 = .ok (.if_icmp .gt 43, 3) := by decide +kernel
theorem dX7_tellsNow_38 : decode cX7_tellsNow 38 = .ok (.aload_n 0, 1) := by decide +kernel
theorem dX7_tellsNow_39 : decode cX7_tellsNow 39 = .ok (.iload_n 1, 1) := by decide +kernel
theorem dX7_tellsNow_40 : decode cX7_tellsNow 40 = .ok (.iload_n 2, 1) := by decide +kernel
theorem dX7_tellsNow_41 : decode cX7_tellsNow 41 = .ok (.iload 5, 2) := by decide +kernel
theorem dX7_tellsNow_43 : decode cX7_tellsNow 43 = .ok (.aload_n 0, 1) := by decide +kernel
theorem dX7_tellsNow_44 : decode cX7_tellsNow 44 = .ok (.getfield 57, 3) := by decide +kernel
theorem dX7_tellsNow_47 : decode cX7_tellsNow 47 = .ok (.iload 4, 2) := by decide +kernel
theorem dX7_tellsNow_49 : decode cX7_tellsNow 49 = .ok (.iconst 1, 1) := by decide +kernel
theorem dX7_tellsNow_50 : decode cX7_tellsNow 50 = .ok (.isub, 1) := by decide +kernel
theorem dX7_tellsNow_51 : decode cX7_tellsNow 51 = .ok (.iload 7, 2) := by decide +kernel
theorem dX7_tellsNow_53 : decode cX7_tellsNow 53 = .ok (.isub, 1) := by decide +kernel
theorem dX7_tellsNow_54 : decode cX7_tellsNow 54 = .ok (.iaload, 1) := by decide +kernel
theorem dX7_tellsNow_55 : decode cX7_tellsNow 55 = .ok (.invokevirtual 279, 3) := by decide +kernel
theorem dX7_tellsNow_58 : decode cX7_tellsNow 58 = .ok (.istore 6, 2) := by decide +kernel
theorem dX7_tellsNow_60 : decode cX7_tellsNow 60 = .ok (.aload_n 0, 1) := by decide +kernel
theorem dX7_tellsNow_61 : decode cX7_tellsNow 61 = .ok (.iload_n 1, 1) := by decide +kernel
theorem dX7_tellsNow_62 : decode cX7_tellsNow 62 = .ok (.iload_n 2, 1) := by decide +kernel
theorem dX7_tellsNow_63 : decode cX7_tellsNow 63 = .ok (.iload 5, 2) := by decide +kernel
theorem dX7_tellsNow_65 : decode cX7_tellsNow 65 = .ok (.iload 6, 2) := by decide +kernel
theorem dX7_tellsNow_67 : decode cX7_tellsNow 67 = .ok (.invokevirtual 263, 3) := by decide +kernel
theorem dX7_tellsNow_70 : decode cX7_tellsNow 70 = .ok (.istore 5, 2) := by decide +kernel
theorem dX7_tellsNow_72 : decode cX7_tellsNow 72 = .ok (.iinc 7 1, 3) := by decide +kernel
theorem dX7_tellsNow_75 : decode cX7_tellsNow 75 = .ok (.goto (-43), 3) := by decide +kernel
theorem dX7_tellsNow_78 : decode cX7_tellsNow 78 = .ok (.iload 6, 2) := by decide +kernel
theorem dX7_tellsNow_80 : decode cX7_tellsNow 80 = .ok (.ireturn, 1) := by decide +kernel
theorem dX7_tells_0 : decode cX7_tells 0 = .ok (.aload_n 0, 1) := by decide +kernel
theorem dX7_tells_1 : decode cX7_tells 1 = .ok (.iload_n 1, 1) := by decide +kernel
theorem dX7_tells_2 : decode cX7_tells 2 = .ok (.invokevirtual 126, 3) := by decide +kernel
theorem dX7_tells_5 : decode cX7_tells 5 = .ok (.ifCond .eq 21, 3) := by decide +kernel
theorem dX7_tells_8 : decode cX7_tells 8 = .ok (.aload_n 0, 1) := by decide +kernel
theorem dX7_tells_9 : decode cX7_tells 9 = .ok (.iload_n 2, 1) := by decide +kernel
theorem dX7_tells_10 : decode cX7_tells 10 = .ok (.invokevirtual 126, 3) := by decide +kernel
theorem dX7_tells_13 : decode cX7_tells 13 = .ok (.ifCond .eq 13, 3) := by decide +kernel
theorem dX7_tells_16 : decode cX7_tells 16 = .ok (.aload_n 0, 1) := by decide +kernel
theorem dX7_tells_17 : decode cX7_tells 17 = .ok (.iload_n 1, 1) := by decide +kernel
theorem dX7_tells_18 : decode cX7_tells 18 = .ok (.iload_n 2, 1) := by decide +kernel
theorem dX7_tells_19 : decode cX7_tells 19 = .ok (.iload_n 3, 1) := by decide +kernel
theorem dX7_tells_20 : decode cX7_tells 20 = .ok (.invokevirtual 282, 3) := by decide +kernel
theorem dX7_tells_23 : decode cX7_tells 23 = .ok (.goto 5, 3) := by decide +kernel
theorem dX7_tells_26 : decode cX7_tells 26 = .ok (.bipush (-101), 2) := by decide +kernel
theorem dX7_tells_28 : decode cX7_tells 28 = .ok (.ireturn, 1) := by decide +kernel
theorem dX7_tryPiece_0 : decode cX7_tryPiece 0 = .ok (.aload_n 0, 1) := by decide +kernel
theorem dX7_tryPiece_1 : decode cX7_tryPiece 1 = .ok (.getfield 60, 3) := by decide +kernel
theorem dX7_tryPiece_4 : decode cX7_tryPiece 4 = .ok (.iload_n 2, 1) := by decide +kernel
theorem dX7_tryPiece_5 : decode cX7_tryPiece 5 = .ok (.iaload, 1) := by decide +kernel
theorem dX7_tryPiece_6 : decode cX7_tryPiece 6 = .ok (.ldc 204, 2) := by decide +kernel
theorem dX7_tryPiece_8 : decode cX7_tryPiece 8 = .ok (.if_icmp .ne 4, 3) := by decide +kernel
theorem dX7_tryPiece_11 : decode cX7_tryPiece 11 = .ok (.return_, 1) := by decide +kernel
theorem dX7_tryPiece_12 : decode cX7_tryPiece 12 = .ok (.aload_n 0, 1) := by decide +kernel
theorem dX7_tryPiece_13 : decode cX7_tryPiece 13 = .ok (.getfield 164, 3) := by decide +kernel
theorem dX7_tryPiece_16 : decode cX7_tryPiece 16 = .ok (.aload_n 0, 1) := by decide +kernel
theorem dX7_tryPiece_17 : decode cX7_tryPiece 17 = .ok (.getfield 60, 3) := by decide +kernel
theorem dX7_tryPiece_20 : decode cX7_tryPiece 20 = .ok (.iload_n 2, 1) := by decide +kernel
theorem dX7_tryPiece_21 : decode cX7_tryPiece 21 = .ok (.iaload, 1) := by decide +kernel
theorem dX7_tryPiece_22 : decode cX7_tryPiece 22 = .ok (.iadd, 1) := by decide +kernel
theorem dX7_tryPiece_23 : decode cX7_tryPiece 23 = .ok (.iload_n 2, 1) := by decide +kernel
theorem dX7_tryPiece_24 : decode cX7_tryPiece 24 = .ok (.aload_n 0, 1) := by decide +kernel
theorem dX7_tryPiece_25 : decode cX7_tryPiece 25 = .ok (.getfield 133, 3) := by decide +kernel
theorem dX7_tryPiece_28 : decode cX7_tryPiece 28 = .ok (.if_icmp .ge 8, 3) := by decide +kernel
theorem dX7_tryPiece_31 : decode cX7_tryPiece 31 = .ok (.bipush 7, 2) := by decide +kernel
theorem dX7_tryPiece_33 : decode cX7_tryPiece 33 = .ok (.goto 4, 3) := by decide +kernel
theorem dX7_tryPiece_36 : decode cX7_tryPiece 36 = .ok (.iconst 0, 1) := by decide +kernel
theorem dX7_tryPiece_37 : decode cX7_tryPiece 37 = .ok (.isub, 1) := by decide +kernel
theorem dX7_tryPiece_38 : decode cX7_tryPiece 38 = .ok (.istore 4, 2) := by decide +kernel
theorem dX7_tryPiece_40 : decode cX7_tryPiece 40 = .ok (.iconst 1, 1) := by decide +kernel
theorem dX7_tryPiece_41 : decode cX7_tryPiece 41 = .ok (.aload_n 0, 1) := by decide +kernel
theorem dX7_tryPiece_42 : decode cX7_tryPiece 42 = .ok (.getfield 63, 3) := by decide +kernel
theorem dX7_tryPiece_45 : decode cX7_tryPiece 45 = .ok (.iload_n 2, 1) := by decide +kernel
theorem dX7_tryPiece_46 : decode cX7_tryPiece 46 = .ok (.iaload, 1) := by decide +kernel
theorem dX7_tryPiece_47 : decode cX7_tryPiece 47 = .ok (.iadd, 1) := by decide +kernel
theorem dX7_tryPiece_48 : decode cX7_tryPiece 48 = .ok (.istore 5, 2) := by decide +kernel
theorem dX7_tryPiece_50 : decode cX7_tryPiece 50 = .ok (.iload 4, 2) := by decide +kernel
theorem dX7_tryPiece_52 : decode cX7_tryPiece 52 = .ok (.aload_n 0, 1) := by decide +kernel
theorem dX7_tryPiece_53 : decode cX7_tryPiece 53 = .ok (.getfield 60, 3) := by decide +kernel
theorem dX7_tryPiece_56 : decode cX7_tryPiece 56 = .ok (.iload_n 1, 1) := by decide +kernel
theorem dX7_tryPiece_57 : decode cX7_tryPiece 57 = .ok (.iaload, 1) := by decide +kernel
theorem dX7_tryPiece_58 : decode cX7_tryPiece 58 = .ok (.if_icmp .ne 38, 3) := by decide +kernel
theorem dX7_tryPiece_61 : decode cX7_tryPiece 61 = .ok (.iload 5, 2) := by decide +kernel
theorem dX7_tryPiece_63 : decode cX7_tryPiece 63 = .ok (.aload_n 0, 1) := by decide +kernel
theorem dX7_tryPiece_64 : decode cX7_tryPiece 64 = .ok (.getfield 63, 3) := by decide +kernel
theorem dX7_tryPiece_67 : decode cX7_tryPiece 67 = .ok (.iload_n 1, 1) := by decide +kernel
theorem dX7_tryPiece_68 : decode cX7_tryPiece 68 = .ok (.iaload, 1) := by decide +kernel
theorem dX7_tryPiece_69 : decode cX7_tryPiece 69 = .ok (.if_icmp .ne 27, 3) := by decide +kernel
theorem dX7_tryPiece_72 : decode cX7_tryPiece 72 = .ok (.iload_n 2, 1) := by decide +kernel
theorem dX7_tryPiece_73 : decode cX7_tryPiece 73 = .ok (.aload_n 0, 1) := by decide +kernel
theorem dX7_tryPiece_74 : decode cX7_tryPiece 74 = .ok (.getfield 66, 3) := by decide +kernel
theorem dX7_tryPiece_77 : decode cX7_tryPiece 77 = .ok (.iload_n 1, 1) := by decide +kernel
theorem dX7_tryPiece_78 : decode cX7_tryPiece 78 = .ok (.iaload, 1) := by decide +kernel
theorem dX7_tryPiece_79 : decode cX7_tryPiece 79 = .ok (.if_icmp .ne 17, 3) := by decide +kernel
theorem dX7_tryPiece_82 : decode cX7_tryPiece 82 = .ok (.iload_n 3, 1) := by decide +kernel
theorem dX7_tryPiece_83 : decode cX7_tryPiece 83 = .ok (.aload_n 0, 1) := by decide +kernel
theorem dX7_tryPiece_84 : decode cX7_tryPiece 84 = .ok (.getfield 69, 3) := by decide +kernel
theorem dX7_tryPiece_87 : decode cX7_tryPiece 87 = .ok (.iload_n 1, 1) := by decide +kernel
theorem dX7_tryPiece_88 : decode cX7_tryPiece 88 = .ok (.iaload, 1) := by decide +kernel
theorem dX7_tryPiece_89 : decode cX7_tryPiece 89 = .ok (.if_icmp .ge 7, 3) := by decide +kernel
theorem dX7_tryPiece_92 : decode cX7_tryPiece 92 = .ok (.iconst 1, 1) := by decide +kernel
theorem dX7_tryPiece_93 : decode cX7_tryPiece 93 = .ok (.goto 4, 3) := by decide +kernel
theorem dX7_tryPiece_96 : decode cX7_tryPiece 96 = .ok (.iconst 0, 1) := by decide +kernel
theorem dX7_tryPiece_97 : decode cX7_tryPiece 97 = .ok (.istore 6, 2) := by decide +kernel
theorem dX7_tryPiece_99 : decode cX7_tryPiece 99 = .ok (.iload 4, 2) := by decide +kernel
theorem dX7_tryPiece_101 : decode cX7_tryPiece 101 = .ok (.aload_n 0, 1) := by decide +kernel
theorem dX7_tryPiece_102 : decode cX7_tryPiece 102 = .ok (.getfield 60, 3) := by decide +kernel
theorem dX7_tryPiece_105 : decode cX7_tryPiece 105 = .ok (.iload_n 1, 1) := by decide +kernel
theorem dX7_tryPiece_106 : decode cX7_tryPiece 106 = .ok (.iaload, 1) := by decide +kernel
theorem dX7_tryPiece_107 : decode cX7_tryPiece 107 = .ok (.if_icmp .ne 28, 3) := by decide +kernel
theorem dX7_tryPiece_110 : decode cX7_tryPiece 110 = .ok (.iload 5, 2) := by decide +kernel
theorem dX7_tryPiece_112 : decode cX7_tryPiece 112 = .ok (.aload_n 0, 1) := by decide +kernel
theorem dX7_tryPiece_113 : decode cX7_tryPiece 113 = .ok (.getfield 63, 3) := by decide +kernel
theorem dX7_tryPiece_116 : decode cX7_tryPiece 116 = .ok (.iload_n 1, 1) := by decide +kernel
theorem dX7_tryPiece_117 : decode cX7_tryPiece 117 = .ok (.iaload, 1) := by decide +kernel
theorem dX7_tryPiece_118 : decode cX7_tryPiece 118 = .ok (.if_icmp .ne 17, 3) := by decide +kernel
theorem dX7_tryPiece_121 : decode cX7_tryPiece 121 = .ok (.iload_n 2, 1) := by decide +kernel
theorem dX7_tryPiece_122 : decode cX7_tryPiece 122 = .ok (.aload_n 0, 1) := by decide +kernel
theorem dX7_tryPiece_123 : decode cX7_tryPiece 123 = .ok (.getfield 66, 3) := by decide +kernel
theorem dX7_tryPiece_126 : decode cX7_tryPiece 126 = .ok (.iload_n 1, 1) := by decide +kernel
theorem dX7_tryPiece_127 : decode cX7_tryPiece 127 = .ok (.iaload, 1) := by decide +kernel
theorem dX7_tryPiece_128 : decode cX7_tryPiece 128 = .ok (.if_icmp .ge 7, 3) := by decide +kernel
theorem dX7_tryPiece_131 : decode cX7_tryPiece 131 = .ok (.iconst 1, 1) := by decide +kernel
theorem dX7_tryPiece_132 : decode cX7_tryPiece 132 = .ok (.goto 4, 3) := by decide +kernel
theorem dX7_tryPiece_135 : decode cX7_tryPiece 135 = .ok (.iconst 0, 1) := by decide +kernel
theorem dX7_tryPiece_136 : decode cX7_tryPiece 136 = .ok (.istore 7, 2) := by decide +kernel
theorem dX7_tryPiece_138 : decode cX7_tryPiece 138 = .ok (.iload 4, 2) := by decide +kernel
theorem dX7_tryPiece_140 : decode cX7_tryPiece 140 = .ok (.aload_n 0, 1) := by decide +kernel
theorem dX7_tryPiece_141 : decode cX7_tryPiece 141 = .ok (.getfield 60, 3) := by decide +kernel
theorem dX7_tryPiece_144 : decode cX7_tryPiece 144 = .ok (.iload_n 1, 1) := by decide +kernel
theorem dX7_tryPiece_145 : decode cX7_tryPiece 145 = .ok (.iaload, 1) := by decide +kernel
theorem dX7_tryPiece_146 : decode cX7_tryPiece 146 = .ok (.if_icmp .gt 35, 3) := by decide +kernel
theorem dX7_tryPiece_149 : decode cX7_tryPiece 149 = .ok (.iload 4, 2) := by decide +kernel
theorem dX7_tryPiece_151 : decode cX7_tryPiece 151 = .ok (.aload_n 0, 1) := by decide +kernel
theorem dX7_tryPiece_152 : decode cX7_tryPiece 152 = .ok (.getfield 60, 3) := by decide +kernel
theorem dX7_tryPiece_155 : decode cX7_tryPiece 155 = .ok (.iload_n 1, 1) := by decide +kernel
theorem dX7_tryPiece_156 : decode cX7_tryPiece 156 = .ok (.iaload, 1) := by decide +kernel
theorem dX7_tryPiece_157 : decode cX7_tryPiece 157 = .ok (.if_icmp .ne 14, 3) := by decide +kernel
theorem dX7_tryPiece_160 : decode cX7_tryPiece 160 = .ok (.iload 5, 2) := by decide +kernel
theorem dX7_tryPiece_162 : decode cX7_tryPiece 162 = .ok (.aload_n 0, 1) := by decide +kernel
theorem dX7_tryPiece_163 : decode cX7_tryPiece 163 = .ok (.getfield 63, 3) := by decide +kernel
theorem dX7_tryPiece_166 : decode cX7_tryPiece 166 = .ok (.iload_n 1, 1) := by decide +kernel
theorem dX7_tryPiece_167 : decode cX7_tryPiece 167 = .ok (.iaload, 1) := by decide +kernel
theorem dX7_tryPiece_168 : decode cX7_tryPiece 168 = .ok (.if_icmp .lt 13, 3) := by decide +kernel
theorem dX7_tryPiece_171 : decode cX7_tryPiece 171 = .ok (.iload 7, 2) := by decide +kernel
theorem dX7_tryPiece_173 : decode cX7_tryPiece 173 = .ok (.ifCond .ne 8, 3) := by decide +kernel
theorem dX7_tryPiece_176 : decode cX7_tryPiece 176 = .ok (.iload 6, 2) := by decide +kernel
theorem dX7_tryPiece_178 : decode cX7_tryPiece 178 = .ok (.ifCond .eq 43, 3) := by decide +kernel
theorem dX7_tryPiece_181 : decode cX7_tryPiece 181 = .ok (.aload_n 0, 1) := by decide +kernel
theorem dX7_tryPiece_182 : decode cX7_tryPiece 182 = .ok (.getfield 60, 3) := by decide +kernel
theorem dX7_tryPiece_185 : decode cX7_tryPiece 185 = .ok (.iload_n 1, 1) := by decide +kernel
theorem dX7_tryPiece_186 : decode cX7_tryPiece 186 = .ok (.iload 4, 2) := by decide +kernel
theorem dX7_tryPiece_188 : decode cX7_tryPiece 188 = .ok (.iastore, 1) := by decide +kernel
theorem dX7_tryPiece_189 : decode cX7_tryPiece 189 = .ok (.aload_n 0, 1) := by decide +kernel
theorem dX7_tryPiece_190 : decode cX7_tryPiece 190 = .ok (.getfield 63, 3) := by decide +kernel
theorem dX7_tryPiece_193 : decode cX7_tryPiece 193 = .ok (.iload_n 1, 1) := by decide +kernel
theorem dX7_tryPiece_194 : decode cX7_tryPiece 194 = .ok (.iload 5, 2) := by decide +kernel
theorem dX7_tryPiece_196 : decode cX7_tryPiece 196 = .ok (.iastore, 1) := by decide +kernel
theorem dX7_tryPiece_197 : decode cX7_tryPiece 197 = .ok (.aload_n 0, 1) := by decide +kernel
theorem dX7_tryPiece_198 : decode cX7_tryPiece 198 = .ok (.getfield 66, 3) := by decide +kernel
theorem dX7_tryPiece_201 : decode cX7_tryPiece 201 = .ok (.iload_n 1, 1) := by decide +kernel
theorem dX7_tryPiece_202 : decode cX7_tryPiece 202 = .ok (.iload_n 2, 1) := by decide +kernel
theorem dX7_tryPiece_203 : decode cX7_tryPiece 203 = .ok (.iastore, 1) := by decide +kernel
theorem dX7_tryPiece_204 : decode cX7_tryPiece 204 = .ok (.aload_n 0, 1) := by decide +kernel
theorem dX7_tryPiece_205 : decode cX7_tryPiece 205 = .ok (.getfield 69, 3) := by decide +kernel
theorem dX7_tryPiece_208 : decode cX7_tryPiece 208 = .ok (.iload_n 1, 1) := by decide +kernel
theorem dX7_tryPiece_209 : decode cX7_tryPiece 209 = .ok (.iload_n 3, 1) := by decide +kernel
theorem dX7_tryPiece_210 : decode cX7_tryPiece 210 = .ok (.iastore, 1) := by decide +kernel
theorem dX7_tryPiece_211 : decode cX7_tryPiece 211 = .ok (.aload_n 0, 1) := by decide +kernel
theorem dX7_tryPiece_212 : decode cX7_tryPiece 212 = .ok (.getfield 72, 3) := by decide +kernel
theorem dX7_tryPiece_215 : decode cX7_tryPiece 215 = .ok (.iload_n 1, 1) := by decide +kernel
theorem dX7_tryPiece_216 : decode cX7_tryPiece 216 = .ok (.aload_n 0, 1) := by decide +kernel
theorem dX7_tryPiece_217 : decode cX7_tryPiece 217 = .ok (.getfield 164, 3) := by decide +kernel
theorem dX7_tryPiece_220 : decode cX7_tryPiece 220 = .ok (.iastore, 1) := by decide +kernel
theorem dX7_tryPiece_221 : decode cX7_tryPiece 221 = .ok (.return_, 1) := by decide +kernel
theorem dX7_layCuts_0 : decode cX7_layCuts 0 = .ok (.aload_n 0, 1) := by decide +kernel
theorem dX7_layCuts_1 : decode cX7_layCuts 1 = .ok (.getfield 60, 3) := by decide +kernel
theorem dX7_layCuts_4 : decode cX7_layCuts 4 = .ok (.aload_n 0, 1) := by decide +kernel
theorem dX7_layCuts_5 : decode cX7_layCuts 5 = .ok (.getfield 133, 3) := by decide +kernel
theorem dX7_layCuts_8 : decode cX7_layCuts 8 = .ok (.iconst 0, 1) := by decide +kernel
theorem dX7_layCuts_9 : decode cX7_layCuts 9 = .ok (.iastore, 1) := by decide +kernel
theorem dX7_layCuts_10 : decode cX7_layCuts 10 = .ok (.aload_n 0, 1) := by decide +kernel
theorem dX7_layCuts_11 : decode cX7_layCuts 11 = .ok (.getfield 63, 3) := by decide +kernel
theorem dX7_layCuts_14 : decode cX7_layCuts 14 = .ok (.aload_n 0, 1) := by decide +kernel
theorem dX7_layCuts_15 : decode cX7_layCuts 15 = .ok (.getfield 133, 3) := by decide +kernel
theorem dX7_layCuts_18 : decode cX7_layCuts 18 = .ok (.iconst 0, 1) := by decide +kernel
theorem dX7_layCuts_19 : decode cX7_layCuts 19 = .ok (.iastore, 1) := by decide +kernel
theorem dX7_layCuts_20 : decode cX7_layCuts 20 = .ok (.aload_n 0, 1) := by decide +kernel
theorem dX7_layCuts_21 : decode cX7_layCuts 21 = .ok (.getfield 133, 3) := by decide +kernel
theorem dX7_layCuts_24 : decode cX7_layCuts 24 = .ok (.iconst 1, 1) := by decide +kernel
theorem dX7_layCuts_25 : decode cX7_layCuts 25 = .ok (.isub, 1) := by decide +kernel
theorem dX7_layCuts_26 : decode cX7_layCuts 26 = .ok (.istore_n 1, 1) := by decide +kernel
theorem dX7_layCuts_27 : decode cX7_layCuts 27 = .ok (.iload_n 1, 1) := by decide +kernel
theorem dX7_layCuts_28 : decode cX7_layCuts 28 = .ok (.ifCond .lt 95, 3) := by decide +kernel
theorem dX7_layCuts_31 : decode cX7_layCuts 31 = .ok (.aload_n 0, 1) := by decide +kernel
theorem dX7_layCuts_32 : decode cX7_layCuts 32 = .ok (.getfield 60, 3) := by decide +kernel
theorem dX7_layCuts_35 : decode cX7_layCuts 35 = .ok (.iload_n 1, 1) := by decide +kernel
theorem dX7_layCuts_36 : decode cX7_layCuts 36 = .ok (.ldc 204, 2) := by decide +kernel
theorem dX7_layCuts_38 : decode cX7_layCuts 38 = .ok (.iastore, 1) := by decide +kernel
theorem dX7_layCuts_39 : decode cX7_layCuts 39 = .ok (.aload_n 0, 1) := by decide +kernel
theorem dX7_layCuts_40 : decode cX7_layCuts 40 = .ok (.getfield 63, 3) := by decide +kernel
theorem dX7_layCuts_43 : decode cX7_layCuts 43 = .ok (.iload_n 1, 1) := by decide +kernel
theorem dX7_layCuts_44 : decode cX7_layCuts 44 = .ok (.iconst 0, 1) := by decide +kernel
theorem dX7_layCuts_45 : decode cX7_layCuts 45 = .ok (.iastore, 1) := by decide +kernel
theorem dX7_layCuts_46 : decode cX7_layCuts 46 = .ok (.iconst 0, 1) := by decide +kernel
theorem dX7_layCuts_47 : decode cX7_layCuts 47 = .ok (.istore_n 2, 1) := by decide +kernel
theorem dX7_layCuts_48 : decode cX7_layCuts 48 = .ok (.iload_n 2, 1) := by decide +kernel
theorem dX7_layCuts_49 : decode cX7_layCuts 49 = .ok (.aload_n 0, 1) := by decide +kernel
theorem dX7_layCuts_50 : decode cX7_layCuts 50 = .ok (.getfield 110, 3) := by decide +kernel
theorem dX7_layCuts_53 : decode cX7_layCuts 53 = .ok (.if_icmp .ge 64, 3) := by decide +kernel
theorem dX7_layCuts_56 : decode cX7_layCuts 56 = .ok (.aload_n 0, 1) := by decide +kernel
theorem dX7_layCuts_57 : decode cX7_layCuts 57 = .ok (.invokevirtual 173, 3) := by decide +kernel
theorem dX7_layCuts_60 : decode cX7_layCuts 60 = .ok (.iload_n 1, 1) := by decide +kernel
theorem dX7_layCuts_61 : decode cX7_layCuts 61 = .ok (.istore_n 3, 1) := by decide +kernel
theorem dX7_layCuts_62 : decode cX7_layCuts 62 = .ok (.iload_n 3, 1) := by decide +kernel
theorem dX7_layCuts_63 : decode cX7_layCuts 63 = .ok (.aload_n 0, 1) := by decide +kernel
theorem dX7_layCuts_64 : decode cX7_layCuts 64 = .ok (.getfield 133, 3) := by decide +kernel
theorem dX7_layCuts_67 : decode cX7_layCuts 67 = .ok (.if_icmp .ge 44, 3) := by decide +kernel
theorem dX7_layCuts_70 : decode cX7_layCuts 70 = .ok (.aload_n 0, 1) := by decide +kernel
theorem dX7_layCuts_71 : decode cX7_layCuts 71 = .ok (.getfield 155, 3) := by decide +kernel
theorem dX7_layCuts_74 : decode cX7_layCuts 74 = .ok (.iconst (-1), 1) := by decide +kernel
theorem dX7_layCuts_75 : decode cX7_layCuts 75 = .ok (.if_icmp .eq 36, 3) := by decide +kernel
theorem dX7_layCuts_78 : decode cX7_layCuts 78 = .ok (.aload_n 0, 1) := by decide +kernel
theorem dX7_layCuts_79 : decode cX7_layCuts 79 = .ok (.iload_n 2, 1) := by decide +kernel
theorem dX7_layCuts_80 : decode cX7_layCuts 80 = .ok (.aload_n 0, 1) := by decide +kernel
theorem dX7_layCuts_81 : decode cX7_layCuts 81 = .ok (.getfield 26, 3) := by decide +kernel
theorem dX7_layCuts_84 : decode cX7_layCuts 84 = .ok (.iload_n 3, 1) := by decide +kernel
theorem dX7_layCuts_85 : decode cX7_layCuts 85 = .ok (.iaload, 1) := by decide +kernel
theorem dX7_layCuts_86 : decode cX7_layCuts 86 = .ok (.invokevirtual 176, 3) := by decide +kernel
theorem dX7_layCuts_89 : decode cX7_layCuts 89 = .ok (.aload_n 0, 1) := by decide +kernel
theorem dX7_layCuts_90 : decode cX7_layCuts 90 = .ok (.getfield 155, 3) := by decide +kernel
theorem dX7_layCuts_93 : decode cX7_layCuts 93 = .ok (.ifCond .ne 12, 3) := by decide +kernel
theorem dX7_layCuts_96 : decode cX7_layCuts 96 = .ok (.aload_n 0, 1) := by decide +kernel
theorem dX7_layCuts_97 : decode cX7_layCuts 97 = .ok (.iload_n 1, 1) := by decide +kernel
theorem dX7_layCuts_98 : decode cX7_layCuts 98 = .ok (.iload_n 3, 1) := by decide +kernel
theorem dX7_layCuts_99 : decode cX7_layCuts 99 = .ok (.iconst 1, 1) := by decide +kernel
theorem dX7_layCuts_100 : decode cX7_layCuts 100 = .ok (.iadd, 1) := by decide +kernel
theorem dX7_layCuts_101 : decode cX7_layCuts 101 = .ok (.iload_n 2, 1) := by decide +kernel
theorem dX7_layCuts_102 : decode cX7_layCuts 102 = .ok (.invokevirtual 285, 3) := by decide +kernel
theorem dX7_layCuts_105 : decode cX7_layCuts 105 = .ok (.iinc 3 1, 3) := by decide +kernel
theorem dX7_layCuts_108 : decode cX7_layCuts 108 = .ok (.goto (-46), 3) := by decide +kernel
theorem dX7_layCuts_111 : decode cX7_layCuts 111 = .ok (.iinc 2 1, 3) := by decide +kernel
theorem dX7_layCuts_114 : decode cX7_layCuts 114 = .ok (.goto (-66), 3) := by decide +kernel
theorem dX7_layCuts_117 : decode cX7_layCuts 117 = .ok (.iinc 1 (-1), 3) := by decide +kernel
theorem dX7_layCuts_120 : decode cX7_layCuts 120 = .ok (.goto (-93), 3) := by decide +kernel
theorem dX7_layCuts_123 : decode cX7_layCuts 123 = .ok (.return_, 1) := by decide +kernel
theorem dX7_areCuts_0 : decode cX7_areCuts 0 = .ok (.aload_n 0, 1) := by decide +kernel
theorem dX7_areCuts_1 : decode cX7_areCuts 1 = .ok (.invokevirtual 289, 3) := by decide +kernel
theorem dX7_areCuts_4 : decode cX7_areCuts 4 = .ok (.aload_n 0, 1) := by decide +kernel
theorem dX7_areCuts_5 : decode cX7_areCuts 5 = .ok (.getfield 60, 3) := by decide +kernel
theorem dX7_areCuts_8 : decode cX7_areCuts 8 = .ok (.iconst 0, 1) := by decide +kernel
theorem dX7_areCuts_9 : decode cX7_areCuts 9 = .ok (.iaload, 1) := by decide +kernel
theorem dX7_areCuts_10 : decode cX7_areCuts 10 = .ok (.ldc 204, 2) := by decide +kernel
theorem dX7_areCuts_12 : decode cX7_areCuts 12 = .ok (.if_icmp .eq 7, 3) := by decide +kernel
theorem dX7_areCuts_15 : decode cX7_areCuts 15 = .ok (.iconst 1, 1) := by decide +kernel
theorem dX7_areCuts_16 : decode cX7_areCuts 16 = .ok (.goto 4, 3) := by decide +kernel
theorem dX7_areCuts_19 : decode cX7_areCuts 19 = .ok (.iconst 0, 1) := by decide +kernel
theorem dX7_areCuts_20 : decode cX7_areCuts 20 = .ok (.ireturn, 1) := by decide +kernel
theorem dX7_cuts_0 : decode cX7_cuts 0 = .ok (.iload_n 1, 1) := by decide +kernel
theorem dX7_cuts_1 : decode cX7_cuts 1 = .ok (.iconst 0, 1) := by decide +kernel
theorem dX7_cuts_2 : decode cX7_cuts 2 = .ok (.iconst 1, 1) := by decide +kernel
theorem dX7_cuts_3 : decode cX7_cuts 3 = .ok (.invokestatic 75, 3) := by decide +kernel
theorem dX7_cuts_6 : decode cX7_cuts 6 = .ok (.ifCond .ne 6, 3) := by decide +kernel
theorem dX7_cuts_9 : decode cX7_cuts 9 = .ok (.bipush (-102), 2) := by decide +kernel
theorem dX7_cuts_11 : decode cX7_cuts 11 = .ok (.ireturn, 1) := by decide +kernel
theorem dX7_cuts_12 : decode cX7_cuts 12 = .ok (.aload_n 0, 1) := by decide +kernel
theorem dX7_cuts_13 : decode cX7_cuts 13 = .ok (.invokevirtual 292, 3) := by decide +kernel
theorem dX7_cuts_16 : decode cX7_cuts 16 = .ok (.ifCond .ne 8, 3) := by decide +kernel
theorem dX7_cuts_19 : decode cX7_cuts 19 = .ok (.bipush (-103), 2) := by decide +kernel
theorem dX7_cuts_21 : decode cX7_cuts 21 = .ok (.goto 22, 3) := by decide +kernel
theorem dX7_cuts_24 : decode cX7_cuts 24 = .ok (.iload_n 1, 1) := by decide +kernel
theorem dX7_cuts_25 : decode cX7_cuts 25 = .ok (.ifCond .ne 12, 3) := by decide +kernel
theorem dX7_cuts_28 : decode cX7_cuts 28 = .ok (.aload_n 0, 1) := by decide +kernel
theorem dX7_cuts_29 : decode cX7_cuts 29 = .ok (.getfield 60, 3) := by decide +kernel
theorem dX7_cuts_32 : decode cX7_cuts 32 = .ok (.iconst 0, 1) := by decide +kernel
theorem dX7_cuts_33 : decode cX7_cuts 33 = .ok (.iaload, 1) := by decide +kernel
theorem dX7_cuts_34 : decode cX7_cuts 34 = .ok (.goto 9, 3) := by decide +kernel
theorem dX7_cuts_37 : decode cX7_cuts 37 = .ok (.aload_n 0, 1) := by decide +kernel
theorem dX7_cuts_38 : decode cX7_cuts 38 = .ok (.getfield 63, 3) := by decide +kernel
theorem dX7_cuts_41 : decode cX7_cuts 41 = .ok (.iconst 0, 1) := by decide +kernel
theorem dX7_cuts_42 : decode cX7_cuts 42 = .ok (.iaload, 1) := by decide +kernel
theorem dX7_cuts_43 : decode cX7_cuts 43 = .ok (.ireturn, 1) := by decide +kernel
theorem dX7_pieceNow_0 : decode cX7_pieceNow 0 = .ok (.iconst 0, 1) := by decide +kernel
theorem dX7_pieceNow_1 : decode cX7_pieceNow 1 = .ok (.istore_n 3, 1) := by decide +kernel
theorem dX7_pieceNow_2 : decode cX7_pieceNow 2 = .ok (.iconst 0, 1) := by decide +kernel
theorem dX7_pieceNow_3 : decode cX7_pieceNow 3 = .ok (.istore 4, 2) := by decide +kernel
theorem dX7_pieceNow_5 : decode cX7_pieceNow 5 = .ok (.iload 4, 2) := by decide +kernel
theorem dX7_pieceNow_7 : decode cX7_pieceNow 7 = .ok (.iload_n 1, 1) := by decide +kernel
theorem dX7_pieceNow_8 : decode cX7_pieceNow 8 = .ok (.if_icmp .ge 16, 3) := by decide +kernel
theorem dX7_pieceNow_11 : decode cX7_pieceNow 11 = .ok (.aload_n 0, 1) := by decide +kernel
theorem dX7_pieceNow_12 : decode cX7_pieceNow 12 = .ok (.getfield 66, 3) := by decide +kernel
theorem dX7_pieceNow_15 : decode cX7_pieceNow 15 = .ok (.iload_n 3, 1) := by decide +kernel
theorem dX7_pieceNow_16 : decode cX7_pieceNow 16 = .ok (.iaload, 1) := by decide +kernel
theorem dX7_pieceNow_17 : decode cX7_pieceNow 17 = .ok (.istore_n 3, 1) := by decide +kernel
theorem dX7_pieceNow_18 : decode cX7_pieceNow 18 = .ok (.iinc 4 1, 3) := by decide +kernel
theorem dX7_pieceNow_21 : decode cX7_pieceNow 21 = .ok (.goto (-16), 3) := by decide +kernel
theorem dX7_pieceNow_24 : decode cX7_pieceNow 24 = .ok (.iload_n 2, 1) := by decide +kernel
theorem dX7_pieceNow_25 : decode cX7_pieceNow 25 = .ok (.ifCond .ne 12, 3) := by decide +kernel
theorem dX7_pieceNow_28 : decode cX7_pieceNow 28 = .ok (.aload_n 0, 1) := by decide +kernel
theorem dX7_pieceNow_29 : decode cX7_pieceNow 29 = .ok (.getfield 66, 3) := by decide +kernel
theorem dX7_pieceNow_32 : decode cX7_pieceNow 32 = .ok (.iload_n 3, 1) := by decide +kernel
theorem dX7_pieceNow_33 : decode cX7_pieceNow 33 = .ok (.iaload, 1) := by decide +kernel
theorem dX7_pieceNow_34 : decode cX7_pieceNow 34 = .ok (.goto 23, 3) := by decide +kernel
theorem dX7_pieceNow_37 : decode cX7_pieceNow 37 = .ok (.iload_n 2, 1) := by decide +kernel
theorem dX7_pieceNow_38 : decode cX7_pieceNow 38 = .ok (.iconst 1, 1) := by decide +kernel
theorem dX7_pieceNow_39 : decode cX7_pieceNow 39 = .ok (.if_icmp .ne 12, 3) := by decide +kernel
theorem dX7_pieceNow_42 : decode cX7_pieceNow 42 = .ok (.aload_n 0, 1) := by decide +kernel
theorem dX7_pieceNow_43 : decode cX7_pieceNow 43 = .ok (.getfield 69, 3) := by decide +kernel
theorem dX7_pieceNow_46 : decode cX7_pieceNow 46 = .ok (.iload_n 3, 1) := by decide +kernel
theorem dX7_pieceNow_47 : decode cX7_pieceNow 47 = .ok (.iaload, 1) := by decide +kernel
theorem dX7_pieceNow_48 : decode cX7_pieceNow 48 = .ok (.goto 9, 3) := by decide +kernel
theorem dX7_pieceNow_51 : decode cX7_pieceNow 51 = .ok (.aload_n 0, 1) := by decide +kernel
theorem dX7_pieceNow_52 : decode cX7_pieceNow 52 = .ok (.getfield 72, 3) := by decide +kernel
theorem dX7_pieceNow_55 : decode cX7_pieceNow 55 = .ok (.iload_n 3, 1) := by decide +kernel
theorem dX7_pieceNow_56 : decode cX7_pieceNow 56 = .ok (.iaload, 1) := by decide +kernel
theorem dX7_pieceNow_57 : decode cX7_pieceNow 57 = .ok (.ireturn, 1) := by decide +kernel
theorem dX7_piece_0 : decode cX7_piece 0 = .ok (.aload_n 0, 1) := by decide +kernel
theorem dX7_piece_1 : decode cX7_piece 1 = .ok (.invokevirtual 292, 3) := by decide +kernel
theorem dX7_piece_4 : decode cX7_piece 4 = .ok (.ifCond .eq 19, 3) := by decide +kernel
theorem dX7_piece_7 : decode cX7_piece 7 = .ok (.iload_n 1, 1) := by decide +kernel
theorem dX7_piece_8 : decode cX7_piece 8 = .ok (.iconst 0, 1) := by decide +kernel
theorem dX7_piece_9 : decode cX7_piece 9 = .ok (.aload_n 0, 1) := by decide +kernel
theorem dX7_piece_10 : decode cX7_piece 10 = .ok (.getfield 63, 3) := by decide +kernel
theorem dX7_piece_13 : decode cX7_piece 13 = .ok (.iconst 0, 1) := by decide +kernel
theorem dX7_piece_14 : decode cX7_piece 14 = .ok (.iaload, 1) := by decide +kernel
theorem dX7_piece_15 : decode cX7_piece 15 = .ok (.iconst 1, 1) := by decide +kernel
theorem dX7_piece_16 : decode cX7_piece 16 = .ok (.isub, 1) := by decide +kernel
theorem dX7_piece_17 : decode cX7_piece 17 = .ok (.invokestatic 75, 3) := by decide +kernel
theorem dX7_piece_20 : decode cX7_piece 20 = .ok (.ifCond .ne 6, 3) := by decide +kernel
theorem dX7_piece_23 : decode cX7_piece 23 = .ok (.bipush (-101), 2) := by decide +kernel
theorem dX7_piece_25 : decode cX7_piece 25 = .ok (.ireturn, 1) := by decide +kernel
theorem dX7_piece_26 : decode cX7_piece 26 = .ok (.iload_n 2, 1) := by decide +kernel
theorem dX7_piece_27 : decode cX7_piece 27 = .ok (.iconst 0, 1) := by decide +kernel
theorem dX7_piece_28 : decode cX7_piece 28 = .ok (.iconst 2, 1) := by decide +kernel
theorem dX7_piece_29 : decode cX7_piece 29 = .ok (.invokestatic 75, 3) := by decide +kernel
theorem dX7_piece_32 : decode cX7_piece 32 = .ok (.ifCond .eq 12, 3) := by decide +kernel
theorem dX7_piece_35 : decode cX7_piece 35 = .ok (.aload_n 0, 1) := by decide +kernel
theorem dX7_piece_36 : decode cX7_piece 36 = .ok (.iload_n 1, 1) := by decide +kernel
theorem dX7_piece_37 : decode cX7_piece 37 = .ok (.iload_n 2, 1) := by decide +kernel
theorem dX7_piece_38 : decode cX7_piece 38 = .ok (.invokevirtual 296, 3) := by decide +kernel
theorem dX7_piece_41 : decode cX7_piece 41 = .ok (.goto 5, 3) := by decide +kernel
theorem dX7_piece_44 : decode cX7_piece 44 = .ok (.bipush (-102), 2) := by decide +kernel
theorem dX7_piece_46 : decode cX7_piece 46 = .ok (.ireturn, 1) := by decide +kernel
theorem dX7_aliveMany_0 : decode cX7_aliveMany 0 = .ok (.iconst 0, 1) := by decide +kernel
theorem dX7_aliveMany_1 : decode cX7_aliveMany 1 = .ok (.istore_n 1, 1) := by decide +kernel
theorem dX7_aliveMany_2 : decode cX7_aliveMany 2 = .ok (.iconst 0, 1) := by decide +kernel
theorem dX7_aliveMany_3 : decode cX7_aliveMany 3 = .ok (.istore_n 2, 1) := by decide +kernel
theorem dX7_aliveMany_4 : decode cX7_aliveMany 4 = .ok (.iload_n 2, 1) := by decide +kernel
theorem dX7_aliveMany_5 : decode cX7_aliveMany 5 = .ok (.aload_n 0, 1) := by decide +kernel
theorem dX7_aliveMany_6 : decode cX7_aliveMany 6 = .ok (.getfield 110, 3) := by decide +kernel
theorem dX7_aliveMany_9 : decode cX7_aliveMany 9 = .ok (.if_icmp .ge 25, 3) := by decide +kernel
theorem dX7_aliveMany_12 : decode cX7_aliveMany 12 = .ok (.iload_n 1, 1) := by decide +kernel
theorem dX7_aliveMany_13 : decode cX7_aliveMany 13 = .ok (.aload_n 0, 1) := by decide +kernel
theorem dX7_aliveMany_14 : decode cX7_aliveMany 14 = .ok (.iload_n 2, 1) := by decide +kernel
theorem dX7_aliveMany_15 : decode cX7_aliveMany 15 = .ok (.invokevirtual 230, 3) := by decide +kernel
theorem dX7_aliveMany_18 : decode cX7_aliveMany 18 = .ok (.ifCond .eq 7, 3) := by decide +kernel
theorem dX7_aliveMany_21 : decode cX7_aliveMany 21 = .ok (.iconst 1, 1) := by decide +kernel
theorem dX7_aliveMany_22 : decode cX7_aliveMany 22 = .ok (.goto 4, 3) := by decide +kernel
theorem dX7_aliveMany_25 : decode cX7_aliveMany 25 = .ok (.iconst 0, 1) := by decide +kernel
theorem dX7_aliveMany_26 : decode cX7_aliveMany 26 = .ok (.iadd, 1) := by decide +kernel
theorem dX7_aliveMany_27 : decode cX7_aliveMany 27 = .ok (.istore_n 1, 1) := by decide +kernel
theorem dX7_aliveMany_28 : decode cX7_aliveMany 28 = .ok (.iinc 2 1, 3) := by decide +kernel
theorem dX7_aliveMany_31 : decode cX7_aliveMany 31 = .ok (.goto (-27), 3) := by decide +kernel
theorem dX7_aliveMany_34 : decode cX7_aliveMany 34 = .ok (.iload_n 1, 1) := by decide +kernel
theorem dX7_aliveMany_35 : decode cX7_aliveMany 35 = .ok (.ireturn, 1) := by decide +kernel
theorem dX7_validMany_0 : decode cX7_validMany 0 = .ok (.iconst 0, 1) := by decide +kernel
theorem dX7_validMany_1 : decode cX7_validMany 1 = .ok (.istore_n 1, 1) := by decide +kernel
theorem dX7_validMany_2 : decode cX7_validMany 2 = .ok (.iconst 0, 1) := by decide +kernel
theorem dX7_validMany_3 : decode cX7_validMany 3 = .ok (.istore_n 2, 1) := by decide +kernel
theorem dX7_validMany_4 : decode cX7_validMany 4 = .ok (.iload_n 2, 1) := by decide +kernel
theorem dX7_validMany_5 : decode cX7_validMany 5 = .ok (.aload_n 0, 1) := by decide +kernel
theorem dX7_validMany_6 : decode cX7_validMany 6 = .ok (.getfield 110, 3) := by decide +kernel
theorem dX7_validMany_9 : decode cX7_validMany 9 = .ok (.if_icmp .ge 25, 3) := by decide +kernel
theorem dX7_validMany_12 : decode cX7_validMany 12 = .ok (.iload_n 1, 1) := by decide +kernel
theorem dX7_validMany_13 : decode cX7_validMany 13 = .ok (.aload_n 0, 1) := by decide +kernel
theorem dX7_validMany_14 : decode cX7_validMany 14 = .ok (.iload_n 2, 1) := by decide +kernel
theorem dX7_validMany_15 : decode cX7_validMany 15 = .ok (.invokevirtual 183, 3) := by decide +kernel
theorem dX7_validMany_18 : decode cX7_validMany 18 = .ok (.ifCond .eq 7, 3) := by decide +kernel
theorem dX7_validMany_21 : decode cX7_validMany 21 = .ok (.iconst 1, 1) := by decide +kernel
theorem dX7_validMany_22 : decode cX7_validMany 22 = .ok (.goto 4, 3) := by decide +kernel
theorem dX7_validMany_25 : decode cX7_validMany 25 = .ok (.iconst 0, 1) := by decide +kernel
theorem dX7_validMany_26 : decode cX7_validMany 26 = .ok (.iadd, 1) := by decide +kernel
theorem dX7_validMany_27 : decode cX7_validMany 27 = .ok (.istore_n 1, 1) := by decide +kernel
theorem dX7_validMany_28 : decode cX7_validMany 28 = .ok (.iinc 2 1, 3) := by decide +kernel
theorem dX7_validMany_31 : decode cX7_validMany 31 = .ok (.goto (-27), 3) := by decide +kernel
theorem dX7_validMany_34 : decode cX7_validMany 34 = .ok (.iload_n 1, 1) := by decide +kernel
theorem dX7_validMany_35 : decode cX7_validMany 35 = .ok (.ireturn, 1) := by decide +kernel
theorem dX7_howMany_0 : decode cX7_howMany 0 = .ok (.iload_n 1, 1) := by decide +kernel
theorem dX7_howMany_1 : decode cX7_howMany 1 = .ok (.tableswitch 87 0 7 #[47, 52, 57, 62, 67, 72, 77, 82], 47) := by decide +kernel
theorem dX7_howMany_48 : decode cX7_howMany 48 = .ok (.aload_n 0, 1) := by decide +kernel
theorem dX7_howMany_49 : decode cX7_howMany 49 = .ok (.getfield 110, 3) := by decide +kernel
theorem dX7_howMany_52 : decode cX7_howMany 52 = .ok (.ireturn, 1) := by decide +kernel
theorem dX7_howMany_53 : decode cX7_howMany 53 = .ok (.aload_n 0, 1) := by decide +kernel
theorem dX7_howMany_54 : decode cX7_howMany 54 = .ok (.getfield 133, 3) := by decide +kernel
theorem dX7_howMany_57 : decode cX7_howMany 57 = .ok (.ireturn, 1) := by decide +kernel
theorem dX7_howMany_58 : decode cX7_howMany 58 = .ok (.aload_n 0, 1) := by decide +kernel
theorem dX7_howMany_59 : decode cX7_howMany 59 = .ok (.getfield 22, 3) := by decide +kernel
theorem dX7_howMany_62 : decode cX7_howMany 62 = .ok (.ireturn, 1) := by decide +kernel
theorem dX7_howMany_63 : decode cX7_howMany 63 = .ok (.aload_n 0, 1) := by decide +kernel
theorem dX7_howMany_64 : decode cX7_howMany 64 = .ok (.invokevirtual 299, 3) := by decide +kernel
theorem dX7_howMany_67 : decode cX7_howMany 67 = .ok (.ireturn, 1) := by decide +kernel
theorem dX7_howMany_68 : decode cX7_howMany 68 = .ok (.aload_n 0, 1) := by decide +kernel
theorem dX7_howMany_69 : decode cX7_howMany 69 = .ok (.invokevirtual 302, 3) := by decide +kernel
theorem dX7_howMany_72 : decode cX7_howMany 72 = .ok (.ireturn, 1) := by decide +kernel
theorem dX7_howMany_73 : decode cX7_howMany 73 = .ok (.aload_n 0, 1) := by decide +kernel
theorem dX7_howMany_74 : decode cX7_howMany 74 = .ok (.getfield 79, 3) := by decide +kernel
theorem dX7_howMany_77 : decode cX7_howMany 77 = .ok (.ireturn, 1) := by decide +kernel
theorem dX7_howMany_78 : decode cX7_howMany 78 = .ok (.aload_n 0, 1) := by decide +kernel
theorem dX7_howMany_79 : decode cX7_howMany 79 = .ok (.getfield 117, 3) := by decide +kernel
theorem dX7_howMany_82 : decode cX7_howMany 82 = .ok (.ireturn, 1) := by decide +kernel
theorem dX7_howMany_83 : decode cX7_howMany 83 = .ok (.aload_n 0, 1) := by decide +kernel
theorem dX7_howMany_84 : decode cX7_howMany 84 = .ok (.getfield 136, 3) := by decide +kernel
theorem dX7_howMany_87 : decode cX7_howMany 87 = .ok (.ireturn, 1) := by decide +kernel
theorem dX7_howMany_88 : decode cX7_howMany 88 = .ok (.bipush (-102), 2) := by decide +kernel
theorem dX7_howMany_90 : decode cX7_howMany 90 = .ok (.ireturn, 1) := by decide +kernel
theorem dX7_count_0 : decode cX7_count 0 = .ok (.aload_n 0, 1) := by decide +kernel
theorem dX7_count_1 : decode cX7_count 1 = .ok (.iload_n 1, 1) := by decide +kernel
theorem dX7_count_2 : decode cX7_count 2 = .ok (.invokevirtual 305, 3) := by decide +kernel
theorem dX7_count_5 : decode cX7_count 5 = .ok (.ireturn, 1) := by decide +kernel
theorem dX7_mix_0 : decode cX7_mix 0 = .ok (.aload_n 0, 1) := by decide +kernel
theorem dX7_mix_1 : decode cX7_mix 1 = .ok (.ldc2_w 308, 3) := by decide +kernel
theorem dX7_mix_4 : decode cX7_mix 4 = .ok (.aload_n 0, 1) := by decide +kernel
theorem dX7_mix_5 : decode cX7_mix 5 = .ok (.getfield 310, 3) := by decide +kernel
theorem dX7_mix_8 : decode cX7_mix 8 = .ok (.lmul, 1) := by decide +kernel
theorem dX7_mix_9 : decode cX7_mix 9 = .ok (.lload_n 1, 1) := by decide +kernel
theorem dX7_mix_10 : decode cX7_mix 10 = .ok (.ladd, 1) := by decide +kernel
theorem dX7_mix_11 : decode cX7_mix 11 = .ok (.putfield 310, 3) := by decide +kernel
theorem dX7_mix_14 : decode cX7_mix 14 = .ok (.return_, 1) := by decide +kernel
theorem dX7_mixCode_0 : decode cX7_mixCode 0 = .ok (.iconst 0, 1) := by decide +kernel
theorem dX7_mixCode_1 : decode cX7_mixCode 1 = .ok (.istore_n 2, 1) := by decide +kernel
theorem dX7_mixCode_2 : decode cX7_mixCode 2 = .ok (.iload_n 2, 1) := by decide +kernel
theorem dX7_mixCode_3 : decode cX7_mixCode 3 = .ok (.aload_n 0, 1) := by decide +kernel
theorem dX7_mixCode_4 : decode cX7_mixCode 4 = .ok (.getfield 7, 3) := by decide +kernel
theorem dX7_mixCode_7 : decode cX7_mixCode 7 = .ok (.iload_n 1, 1) := by decide +kernel
theorem dX7_mixCode_8 : decode cX7_mixCode 8 = .ok (.iaload, 1) := by decide +kernel
theorem dX7_mixCode_9 : decode cX7_mixCode 9 = .ok (.invokestatic 107, 3) := by decide +kernel
theorem dX7_mixCode_12 : decode cX7_mixCode 12 = .ok (.if_icmp .ge 20, 3) := by decide +kernel
theorem dX7_mixCode_15 : decode cX7_mixCode 15 = .ok (.aload_n 0, 1) := by decide +kernel
theorem dX7_mixCode_16 : decode cX7_mixCode 16 = .ok (.aload_n 0, 1) := by decide +kernel
theorem dX7_mixCode_17 : decode cX7_mixCode 17 = .ok (.iload_n 1, 1) := by decide +kernel
theorem dX7_mixCode_18 : decode cX7_mixCode 18 = .ok (.iload_n 2, 1) := by decide +kernel
theorem dX7_mixCode_19 : decode cX7_mixCode 19 = .ok (.invokevirtual 130, 3) := by decide +kernel
theorem dX7_mixCode_22 : decode cX7_mixCode 22 = .ok (.i2l, 1) := by decide +kernel
theorem dX7_mixCode_23 : decode cX7_mixCode 23 = .ok (.invokevirtual 314, 3) := by decide +kernel
theorem dX7_mixCode_26 : decode cX7_mixCode 26 = .ok (.iinc 2 1, 3) := by decide +kernel
theorem dX7_mixCode_29 : decode cX7_mixCode 29 = .ok (.goto (-27), 3) := by decide +kernel
theorem dX7_mixCode_32 : decode cX7_mixCode 32 = .ok (.iconst 0, 1) := by decide +kernel
theorem dX7_mixCode_33 : decode cX7_mixCode 33 = .ok (.istore_n 2, 1) := by decide +kernel
theorem dX7_mixCode_34 : decode cX7_mixCode 34 = .ok (.iload_n 2, 1) := by decide +kernel
theorem dX7_mixCode_35 : decode cX7_mixCode 35 = .ok (.bipush 8, 2) := by decide +kernel
theorem dX7_mixCode_37 : decode cX7_mixCode 37 = .ok (.if_icmp .ge 20, 3) := by decide +kernel
theorem dX7_mixCode_40 : decode cX7_mixCode 40 = .ok (.aload_n 0, 1) := by decide +kernel
theorem dX7_mixCode_41 : decode cX7_mixCode 41 = .ok (.aload_n 0, 1) := by decide +kernel
theorem dX7_mixCode_42 : decode cX7_mixCode 42 = .ok (.iload_n 1, 1) := by decide +kernel
theorem dX7_mixCode_43 : decode cX7_mixCode 43 = .ok (.iload_n 2, 1) := by decide +kernel
theorem dX7_mixCode_44 : decode cX7_mixCode 44 = .ok (.invokevirtual 248, 3) := by decide +kernel
theorem dX7_mixCode_47 : decode cX7_mixCode 47 = .ok (.i2l, 1) := by decide +kernel
theorem dX7_mixCode_48 : decode cX7_mixCode 48 = .ok (.invokevirtual 314, 3) := by decide +kernel
theorem dX7_mixCode_51 : decode cX7_mixCode 51 = .ok (.iinc 2 1, 3) := by decide +kernel
theorem dX7_mixCode_54 : decode cX7_mixCode 54 = .ok (.goto (-20), 3) := by decide +kernel
theorem dX7_mixCode_57 : decode cX7_mixCode 57 = .ok (.iconst 0, 1) := by decide +kernel
theorem dX7_mixCode_58 : decode cX7_mixCode 58 = .ok (.istore_n 2, 1) := by decide +kernel
theorem dX7_mixCode_59 : decode cX7_mixCode 59 = .ok (.iload_n 2, 1) := by decide +kernel
theorem dX7_mixCode_60 : decode cX7_mixCode 60 = .ok (.iconst 4, 1) := by decide +kernel
theorem dX7_mixCode_61 : decode cX7_mixCode 61 = .ok (.if_icmp .ge 20, 3) := by decide +kernel
theorem dX7_mixCode_64 : decode cX7_mixCode 64 = .ok (.aload_n 0, 1) := by decide +kernel
theorem dX7_mixCode_65 : decode cX7_mixCode 65 = .ok (.aload_n 0, 1) := by decide +kernel
theorem dX7_mixCode_66 : decode cX7_mixCode 66 = .ok (.iload_n 1, 1) := by decide +kernel
theorem dX7_mixCode_67 : decode cX7_mixCode 67 = .ok (.iload_n 2, 1) := by decide +kernel
theorem dX7_mixCode_68 : decode cX7_mixCode 68 = .ok (.invokevirtual 251, 3) := by decide +kernel
theorem dX7_mixCode_71 : decode cX7_mixCode 71 = .ok (.i2l, 1) := by decide +kernel
theorem dX7_mixCode_72 : decode cX7_mixCode 72 = .ok (.invokevirtual 314, 3) := by decide +kernel
theorem dX7_mixCode_75 : decode cX7_mixCode 75 = .ok (.iinc 2 1, 3) := by decide +kernel
theorem dX7_mixCode_78 : decode cX7_mixCode 78 = .ok (.goto (-19), 3) := by decide +kernel
theorem dX7_mixCode_81 : decode cX7_mixCode 81 = .ok (.aload_n 0, 1) := by decide +kernel
theorem dX7_mixCode_82 : decode cX7_mixCode 82 = .ok (.aload_n 0, 1) := by decide +kernel
theorem dX7_mixCode_83 : decode cX7_mixCode 83 = .ok (.iload_n 1, 1) := by decide +kernel
theorem dX7_mixCode_84 : decode cX7_mixCode 84 = .ok (.iconst 5, 1) := by decide +kernel
theorem dX7_mixCode_85 : decode cX7_mixCode 85 = .ok (.invokevirtual 260, 3) := by decide +kernel
theorem dX7_mixCode_88 : decode cX7_mixCode 88 = .ok (.i2l, 1) := by decide +kernel
theorem dX7_mixCode_89 : decode cX7_mixCode 89 = .ok (.invokevirtual 314, 3) := by decide +kernel
theorem dX7_mixCode_92 : decode cX7_mixCode 92 = .ok (.iconst 0, 1) := by decide +kernel
theorem dX7_mixCode_93 : decode cX7_mixCode 93 = .ok (.istore_n 2, 1) := by decide +kernel
theorem dX7_mixCode_94 : decode cX7_mixCode 94 = .ok (.iload_n 2, 1) := by decide +kernel
theorem dX7_mixCode_95 : decode cX7_mixCode 95 = .ok (.aload_n 0, 1) := by decide +kernel
theorem dX7_mixCode_96 : decode cX7_mixCode 96 = .ok (.getfield 110, 3) := by decide +kernel
theorem dX7_mixCode_99 : decode cX7_mixCode 99 = .ok (.if_icmp .ge 20, 3) := by decide +kernel
theorem dX7_mixCode_102 : decode cX7_mixCode 102 = .ok (.aload_n 0, 1) := by decide +kernel
theorem dX7_mixCode_103 : decode cX7_mixCode 103 = .ok (.aload_n 0, 1) := by decide +kernel
theorem dX7_mixCode_104 : decode cX7_mixCode 104 = .ok (.iload_n 1, 1) := by decide +kernel
theorem dX7_mixCode_105 : decode cX7_mixCode 105 = .ok (.iload_n 2, 1) := by decide +kernel
theorem dX7_mixCode_106 : decode cX7_mixCode 106 = .ok (.invokevirtual 276, 3) := by decide +kernel
theorem dX7_mixCode_109 : decode cX7_mixCode 109 = .ok (.i2l, 1) := by decide +kernel
theorem dX7_mixCode_110 : decode cX7_mixCode 110 = .ok (.invokevirtual 314, 3) := by decide +kernel
theorem dX7_mixCode_113 : decode cX7_mixCode 113 = .ok (.iinc 2 1, 3) := by decide +kernel
theorem dX7_mixCode_116 : decode cX7_mixCode 116 = .ok (.goto (-22), 3) := by decide +kernel
theorem dX7_mixCode_119 : decode cX7_mixCode 119 = .ok (.return_, 1) := by decide +kernel
theorem dX7_mixCuts_0 : decode cX7_mixCuts 0 = .ok (.aload_n 0, 1) := by decide +kernel
theorem dX7_mixCuts_1 : decode cX7_mixCuts 1 = .ok (.aload_n 0, 1) := by decide +kernel
theorem dX7_mixCuts_2 : decode cX7_mixCuts 2 = .ok (.getfield 60, 3) := by decide +kernel
theorem dX7_mixCuts_5 : decode cX7_mixCuts 5 = .ok (.iconst 0, 1) := by decide +kernel
theorem dX7_mixCuts_6 : decode cX7_mixCuts 6 = .ok (.iaload, 1) := by decide +kernel
theorem dX7_mixCuts_7 : decode cX7_mixCuts 7 = .ok (.i2l, 1) := by decide +kernel
theorem dX7_mixCuts_8 : decode cX7_mixCuts 8 = .ok (.invokevirtual 314, 3) := by decide +kernel
theorem dX7_mixCuts_11 : decode cX7_mixCuts 11 = .ok (.aload_n 0, 1) := by decide +kernel
theorem dX7_mixCuts_12 : decode cX7_mixCuts 12 = .ok (.aload_n 0, 1) := by decide +kernel
theorem dX7_mixCuts_13 : decode cX7_mixCuts 13 = .ok (.getfield 63, 3) := by decide +kernel
theorem dX7_mixCuts_16 : decode cX7_mixCuts 16 = .ok (.iconst 0, 1) := by decide +kernel
theorem dX7_mixCuts_17 : decode cX7_mixCuts 17 = .ok (.iaload, 1) := by decide +kernel
theorem dX7_mixCuts_18 : decode cX7_mixCuts 18 = .ok (.i2l, 1) := by decide +kernel
theorem dX7_mixCuts_19 : decode cX7_mixCuts 19 = .ok (.invokevirtual 314, 3) := by decide +kernel
theorem dX7_mixCuts_22 : decode cX7_mixCuts 22 = .ok (.iconst 0, 1) := by decide +kernel
theorem dX7_mixCuts_23 : decode cX7_mixCuts 23 = .ok (.istore_n 1, 1) := by decide +kernel
theorem dX7_mixCuts_24 : decode cX7_mixCuts 24 = .ok (.iload_n 1, 1) := by decide +kernel
theorem dX7_mixCuts_25 : decode cX7_mixCuts 25 = .ok (.iconst 3, 1) := by decide +kernel
theorem dX7_mixCuts_26 : decode cX7_mixCuts 26 = .ok (.aload_n 0, 1) := by decide +kernel
theorem dX7_mixCuts_27 : decode cX7_mixCuts 27 = .ok (.getfield 63, 3) := by decide +kernel
theorem dX7_mixCuts_30 : decode cX7_mixCuts 30 = .ok (.iconst 0, 1) := by decide +kernel
theorem dX7_mixCuts_31 : decode cX7_mixCuts 31 = .ok (.iaload, 1) := by decide +kernel
theorem dX7_mixCuts_32 : decode cX7_mixCuts 32 = .ok (.imul, 1) := by decide +kernel
theorem dX7_mixCuts_33 : decode cX7_mixCuts 33 = .ok (.if_icmp .ge 24, 3) := by decide +kernel
theorem dX7_mixCuts_36 : decode cX7_mixCuts 36 = .ok (.aload_n 0, 1) := by decide +kernel
theorem dX7_mixCuts_37 : decode cX7_mixCuts 37 = .ok (.aload_n 0, 1) := by decide +kernel
theorem dX7_mixCuts_38 : decode cX7_mixCuts 38 = .ok (.iload_n 1, 1) := by decide +kernel
theorem dX7_mixCuts_39 : decode cX7_mixCuts 39 = .ok (.iconst 3, 1) := by decide +kernel
theorem dX7_mixCuts_40 : decode cX7_mixCuts 40 = .ok (.idiv, 1) := by decide +kernel
theorem dX7_mixCuts_41 : decode cX7_mixCuts 41 = .ok (.iload_n 1, 1) := by decide +kernel
theorem dX7_mixCuts_42 : decode cX7_mixCuts 42 = .ok (.iconst 3, 1) := by decide +kernel
theorem dX7_mixCuts_43 : decode cX7_mixCuts 43 = .ok (.irem, 1) := by decide +kernel
theorem dX7_mixCuts_44 : decode cX7_mixCuts 44 = .ok (.invokevirtual 296, 3) := by decide +kernel
theorem dX7_mixCuts_47 : decode cX7_mixCuts 47 = .ok (.i2l, 1) := by decide +kernel
theorem dX7_mixCuts_48 : decode cX7_mixCuts 48 = .ok (.invokevirtual 314, 3) := by decide +kernel
theorem dX7_mixCuts_51 : decode cX7_mixCuts 51 = .ok (.iinc 1 1, 3) := by decide +kernel
theorem dX7_mixCuts_54 : decode cX7_mixCuts 54 = .ok (.goto (-30), 3) := by decide +kernel
theorem dX7_mixCuts_57 : decode cX7_mixCuts 57 = .ok (.return_, 1) := by decide +kernel
theorem dX7_digest_0 : decode cX7_digest 0 = .ok (.aload_n 0, 1) := by decide +kernel
theorem dX7_digest_1 : decode cX7_digest 1 = .ok (.ldc2_w 318, 3) := by decide +kernel
theorem dX7_digest_4 : decode cX7_digest 4 = .ok (.putfield 310, 3) := by decide +kernel
theorem dX7_digest_7 : decode cX7_digest 7 = .ok (.iconst 0, 1) := by decide +kernel
theorem dX7_digest_8 : decode cX7_digest 8 = .ok (.istore_n 1, 1) := by decide +kernel
theorem dX7_digest_9 : decode cX7_digest 9 = .ok (.iload_n 1, 1) := by decide +kernel
theorem dX7_digest_10 : decode cX7_digest 10 = .ok (.aload_n 0, 1) := by decide +kernel
theorem dX7_digest_11 : decode cX7_digest 11 = .ok (.getfield 110, 3) := by decide +kernel
theorem dX7_digest_14 : decode cX7_digest 14 = .ok (.if_icmp .ge 14, 3) := by decide +kernel
theorem dX7_digest_17 : decode cX7_digest 17 = .ok (.aload_n 0, 1) := by decide +kernel
theorem dX7_digest_18 : decode cX7_digest 18 = .ok (.iload_n 1, 1) := by decide +kernel
theorem dX7_digest_19 : decode cX7_digest 19 = .ok (.invokevirtual 320, 3) := by decide +kernel
theorem dX7_digest_22 : decode cX7_digest 22 = .ok (.iinc 1 1, 3) := by decide +kernel
theorem dX7_digest_25 : decode cX7_digest 25 = .ok (.goto (-16), 3) := by decide +kernel
theorem dX7_digest_28 : decode cX7_digest 28 = .ok (.iconst 0, 1) := by decide +kernel
theorem dX7_digest_29 : decode cX7_digest 29 = .ok (.istore_n 1, 1) := by decide +kernel
theorem dX7_digest_30 : decode cX7_digest 30 = .ok (.iload_n 1, 1) := by decide +kernel
theorem dX7_digest_31 : decode cX7_digest 31 = .ok (.aload_n 0, 1) := by decide +kernel
theorem dX7_digest_32 : decode cX7_digest 32 = .ok (.getfield 133, 3) := by decide +kernel
theorem dX7_digest_35 : decode cX7_digest 35 = .ok (.if_icmp .ge 20, 3) := by decide +kernel
theorem dX7_digest_38 : decode cX7_digest 38 = .ok (.aload_n 0, 1) := by decide +kernel
theorem dX7_digest_39 : decode cX7_digest 39 = .ok (.aload_n 0, 1) := by decide +kernel
theorem dX7_digest_40 : decode cX7_digest 40 = .ok (.getfield 26, 3) := by decide +kernel
theorem dX7_digest_43 : decode cX7_digest 43 = .ok (.iload_n 1, 1) := by decide +kernel
theorem dX7_digest_44 : decode cX7_digest 44 = .ok (.iaload, 1) := by decide +kernel
theorem dX7_digest_45 : decode cX7_digest 45 = .ok (.i2l, 1) := by decide +kernel
theorem dX7_digest_46 : decode cX7_digest 46 = .ok (.invokevirtual 314, 3) := by decide +kernel
theorem dX7_digest_49 : decode cX7_digest 49 = .ok (.iinc 1 1, 3) := by decide +kernel
theorem dX7_digest_52 : decode cX7_digest 52 = .ok (.goto (-22), 3) := by decide +kernel
theorem dX7_digest_55 : decode cX7_digest 55 = .ok (.aload_n 0, 1) := by decide +kernel
theorem dX7_digest_56 : decode cX7_digest 56 = .ok (.aload_n 0, 1) := by decide +kernel
theorem dX7_digest_57 : decode cX7_digest 57 = .ok (.invokevirtual 254, 3) := by decide +kernel
theorem dX7_digest_60 : decode cX7_digest 60 = .ok (.i2l, 1) := by decide +kernel
theorem dX7_digest_61 : decode cX7_digest 61 = .ok (.invokevirtual 314, 3) := by decide +kernel
theorem dX7_digest_64 : decode cX7_digest 64 = .ok (.aload_n 0, 1) := by decide +kernel
theorem dX7_digest_65 : decode cX7_digest 65 = .ok (.invokevirtual 292, 3) := by decide +kernel
theorem dX7_digest_68 : decode cX7_digest 68 = .ok (.ifCond .eq 7, 3) := by decide +kernel
theorem dX7_digest_71 : decode cX7_digest 71 = .ok (.aload_n 0, 1) := by decide +kernel
theorem dX7_digest_72 : decode cX7_digest 72 = .ok (.invokevirtual 323, 3) := by decide +kernel
theorem dX7_digest_75 : decode cX7_digest 75 = .ok (.iconst 0, 1) := by decide +kernel
theorem dX7_digest_76 : decode cX7_digest 76 = .ok (.istore_n 1, 1) := by decide +kernel
theorem dX7_digest_77 : decode cX7_digest 77 = .ok (.iload_n 1, 1) := by decide +kernel
theorem dX7_digest_78 : decode cX7_digest 78 = .ok (.aload_n 0, 1) := by decide +kernel
theorem dX7_digest_79 : decode cX7_digest 79 = .ok (.getfield 79, 3) := by decide +kernel
theorem dX7_digest_82 : decode cX7_digest 82 = .ok (.if_icmp .ge 20, 3) := by decide +kernel
theorem dX7_digest_85 : decode cX7_digest 85 = .ok (.aload_n 0, 1) := by decide +kernel
theorem dX7_digest_86 : decode cX7_digest 86 = .ok (.aload_n 0, 1) := by decide +kernel
theorem dX7_digest_87 : decode cX7_digest 87 = .ok (.getfield 29, 3) := by decide +kernel
theorem dX7_digest_90 : decode cX7_digest 90 = .ok (.iload_n 1, 1) := by decide +kernel
theorem dX7_digest_91 : decode cX7_digest 91 = .ok (.iaload, 1) := by decide +kernel
theorem dX7_digest_92 : decode cX7_digest 92 = .ok (.i2l, 1) := by decide +kernel
theorem dX7_digest_93 : decode cX7_digest 93 = .ok (.invokevirtual 314, 3) := by decide +kernel
theorem dX7_digest_96 : decode cX7_digest 96 = .ok (.iinc 1 1, 3) := by decide +kernel
theorem dX7_digest_99 : decode cX7_digest 99 = .ok (.goto (-22), 3) := by decide +kernel
theorem dX7_digest_102 : decode cX7_digest 102 = .ok (.iconst 0, 1) := by decide +kernel
theorem dX7_digest_103 : decode cX7_digest 103 = .ok (.istore_n 1, 1) := by decide +kernel
theorem dX7_digest_104 : decode cX7_digest 104 = .ok (.iload_n 1, 1) := by decide +kernel
theorem dX7_digest_105 : decode cX7_digest 105 = .ok (.bipush 8, 2) := by decide +kernel
theorem dX7_digest_107 : decode cX7_digest 107 = .ok (.if_icmp .ge 19, 3) := by decide +kernel
theorem dX7_digest_110 : decode cX7_digest 110 = .ok (.aload_n 0, 1) := by decide +kernel
theorem dX7_digest_111 : decode cX7_digest 111 = .ok (.aload_n 0, 1) := by decide +kernel
theorem dX7_digest_112 : decode cX7_digest 112 = .ok (.iload_n 1, 1) := by decide +kernel
theorem dX7_digest_113 : decode cX7_digest 113 = .ok (.invokevirtual 305, 3) := by decide +kernel
theorem dX7_digest_116 : decode cX7_digest 116 = .ok (.i2l, 1) := by decide +kernel
theorem dX7_digest_117 : decode cX7_digest 117 = .ok (.invokevirtual 314, 3) := by decide +kernel
theorem dX7_digest_120 : decode cX7_digest 120 = .ok (.iinc 1 1, 3) := by decide +kernel
theorem dX7_digest_123 : decode cX7_digest 123 = .ok (.goto (-19), 3) := by decide +kernel
theorem dX7_digest_126 : decode cX7_digest 126 = .ok (.aload_n 0, 1) := by decide +kernel
theorem dX7_digest_127 : decode cX7_digest 127 = .ok (.getfield 310, 3) := by decide +kernel
theorem dX7_digest_130 : decode cX7_digest 130 = .ok (.lreturn, 1) := by decide +kernel
theorem dJ9_max_7cf53_0 : decode cJ9_max_7cf53 0 = .ok (.iload_n 0, 1) := by decide +kernel
theorem dJ9_max_7cf53_1 : decode cJ9_max_7cf53 1 = .ok (.iload_n 1, 1) := by decide +kernel
theorem dJ9_max_7cf53_2 : decode cJ9_max_7cf53 2 = .ok (.if_icmp .lt 7, 3) := by decide +kernel
theorem dJ9_max_7cf53_5 : decode cJ9_max_7cf53 5 = .ok (.iload_n 0, 1) := by decide +kernel
theorem dJ9_max_7cf53_6 : decode cJ9_max_7cf53 6 = .ok (.goto 4, 3) := by decide +kernel
theorem dJ9_max_7cf53_9 : decode cJ9_max_7cf53 9 = .ok (.iload_n 1, 1) := by decide +kernel
theorem dJ9_max_7cf53_10 : decode cJ9_max_7cf53 10 = .ok (.ireturn, 1) := by decide +kernel
theorem dJ9_min_7cf53_0 : decode cJ9_min_7cf53 0 = .ok (.iload_n 0, 1) := by decide +kernel
theorem dJ9_min_7cf53_1 : decode cJ9_min_7cf53 1 = .ok (.iload_n 1, 1) := by decide +kernel
theorem dJ9_min_7cf53_2 : decode cJ9_min_7cf53 2 = .ok (.if_icmp .gt 7, 3) := by decide +kernel
theorem dJ9_min_7cf53_5 : decode cJ9_min_7cf53 5 = .ok (.iload_n 0, 1) := by decide +kernel
theorem dJ9_min_7cf53_6 : decode cJ9_min_7cf53 6 = .ok (.goto 4, 3) := by decide +kernel
theorem dJ9_min_7cf53_9 : decode cJ9_min_7cf53 9 = .ok (.iload_n 1, 1) := by decide +kernel
theorem dJ9_min_7cf53_10 : decode cJ9_min_7cf53 10 = .ok (.ireturn, 1) := by decide +kernel
theorem dJ7_fill_53178_0 : decode cJ7_fill_53178 0 = .ok (.iconst 0, 1) := by decide +kernel
theorem dJ7_fill_53178_1 : decode cJ7_fill_53178 1 = .ok (.istore_n 2, 1) := by decide +kernel
theorem dJ7_fill_53178_2 : decode cJ7_fill_53178 2 = .ok (.aload_n 0, 1) := by decide +kernel
theorem dJ7_fill_53178_3 : decode cJ7_fill_53178 3 = .ok (.arraylength, 1) := by decide +kernel
theorem dJ7_fill_53178_4 : decode cJ7_fill_53178 4 = .ok (.istore_n 3, 1) := by decide +kernel
theorem dJ7_fill_53178_5 : decode cJ7_fill_53178 5 = .ok (.iload_n 2, 1) := by decide +kernel
theorem dJ7_fill_53178_6 : decode cJ7_fill_53178 6 = .ok (.iload_n 3, 1) := by decide +kernel
theorem dJ7_fill_53178_7 : decode cJ7_fill_53178 7 = .ok (.if_icmp .ge 13, 3) := by decide +kernel
theorem dJ7_fill_53178_10 : decode cJ7_fill_53178 10 = .ok (.aload_n 0, 1) := by decide +kernel
theorem dJ7_fill_53178_11 : decode cJ7_fill_53178 11 = .ok (.iload_n 2, 1) := by decide +kernel
theorem dJ7_fill_53178_12 : decode cJ7_fill_53178 12 = .ok (.iload_n 1, 1) := by decide +kernel
theorem dJ7_fill_53178_13 : decode cJ7_fill_53178 13 = .ok (.iastore, 1) := by decide +kernel
theorem dJ7_fill_53178_14 : decode cJ7_fill_53178 14 = .ok (.iinc 2 1, 3) := by decide +kernel
theorem dJ7_fill_53178_17 : decode cJ7_fill_53178 17 = .ok (.goto (-12), 3) := by decide +kernel
theorem dJ7_fill_53178_20 : decode cJ7_fill_53178 20 = .ok (.return_, 1) := by decide +kernel
theorem dL_law_0 : decode cL_law 0 = .ok (.new 7, 3) := by decide +kernel
theorem dL_law_3 : decode cL_law 3 = .ok (.dup, 1) := by decide +kernel
theorem dL_law_4 : decode cL_law 4 = .ok (.invokespecial 9, 3) := by decide +kernel
theorem dL_law_7 : decode cL_law 7 = .ok (.astore_n 1, 1) := by decide +kernel
theorem dL_law_8 : decode cL_law 8 = .ok (.new 10, 3) := by decide +kernel
theorem dL_law_11 : decode cL_law 11 = .ok (.dup, 1) := by decide +kernel
theorem dL_law_12 : decode cL_law 12 = .ok (.invokespecial 12, 3) := by decide +kernel
theorem dL_law_15 : decode cL_law 15 = .ok (.astore_n 2, 1) := by decide +kernel
theorem dL_law_16 : decode cL_law 16 = .ok (.iconst 0, 1) := by decide +kernel
theorem dL_law_17 : decode cL_law 17 = .ok (.istore_n 3, 1) := by decide +kernel
theorem dL_law_18 : decode cL_law 18 = .ok (.iload_n 3, 1) := by decide +kernel
theorem dL_law_19 : decode cL_law 19 = .ok (.aload_n 0, 1) := by decide +kernel
theorem dL_law_20 : decode cL_law 20 = .ok (.arraylength, 1) := by decide +kernel
theorem dL_law_21 : decode cL_law 21 = .ok (.iconst 4, 1) := by decide +kernel
theorem dL_law_22 : decode cL_law 22 = .ok (.isub, 1) := by decide +kernel
theorem dL_law_23 : decode cL_law 23 = .ok (.if_icmp .gt 663, 3) := by decide +kernel
theorem dL_law_26 : decode cL_law 26 = .ok (.aload_n 0, 1) := by decide +kernel
theorem dL_law_27 : decode cL_law 27 = .ok (.iload_n 3, 1) := by decide +kernel
theorem dL_law_28 : decode cL_law 28 = .ok (.iaload, 1) := by decide +kernel
theorem dL_law_29 : decode cL_law 29 = .ok (.bipush 31, 2) := by decide +kernel
theorem dL_law_31 : decode cL_law 31 = .ok (.iand, 1) := by decide +kernel
theorem dL_law_32 : decode cL_law 32 = .ok (.tableswitch 648 0 22 #[108, 131, 144, 157, 170, 183, 216, 239, 262, 275, 288, 311, 344, 377, 410, 423, 446, 479, 512, 555, 578, 611, 634], 108) := by decide +kernel
theorem dL_law_140 : decode cL_law 140 = .ok (.aload_n 1, 1) := by decide +kernel
theorem dL_law_141 : decode cL_law 141 = .ok (.aload_n 0, 1) := by decide +kernel
theorem dL_law_142 : decode cL_law 142 = .ok (.iload_n 3, 1) := by decide +kernel
theorem dL_law_143 : decode cL_law 143 = .ok (.iconst 1, 1) := by decide +kernel
theorem dL_law_144 : decode cL_law 144 = .ok (.iadd, 1) := by decide +kernel
theorem dL_law_145 : decode cL_law 145 = .ok (.iaload, 1) := by decide +kernel
theorem dL_law_146 : decode cL_law 146 = .ok (.invokevirtual 13, 3) := by decide +kernel
theorem dL_law_149 : decode cL_law 149 = .ok (.aload_n 2, 1) := by decide +kernel
theorem dL_law_150 : decode cL_law 150 = .ok (.aload_n 0, 1) := by decide +kernel
theorem dL_law_151 : decode cL_law 151 = .ok (.iload_n 3, 1) := by decide +kernel
theorem dL_law_152 : decode cL_law 152 = .ok (.iconst 1, 1) := by decide +kernel
theorem dL_law_153 : decode cL_law 153 = .ok (.iadd, 1) := by decide +kernel
theorem dL_law_154 : decode cL_law 154 = .ok (.iaload, 1) := by decide +kernel
theorem dL_law_155 : decode cL_law 155 = .ok (.invokevirtual 17, 3) := by decide +kernel
theorem dL_law_158 : decode cL_law 158 = .ok (.if_icmp .eq 522, 3) := by decide +kernel
theorem dL_law_161 : decode cL_law 161 = .ok (.iconst 0, 1) := by decide +kernel
theorem dL_law_162 : decode cL_law 162 = .ok (.ireturn, 1) := by decide +kernel
theorem dL_law_163 : decode cL_law 163 = .ok (.aload_n 1, 1) := by decide +kernel
theorem dL_law_164 : decode cL_law 164 = .ok (.invokevirtual 18, 3) := by decide +kernel
theorem dL_law_167 : decode cL_law 167 = .ok (.aload_n 2, 1) := by decide +kernel
theorem dL_law_168 : decode cL_law 168 = .ok (.invokevirtual 22, 3) := by decide +kernel
theorem dL_law_171 : decode cL_law 171 = .ok (.if_icmp .eq 509, 3) := by decide +kernel
theorem dL_law_174 : decode cL_law 174 = .ok (.iconst 0, 1) := by decide +kernel
theorem dL_law_175 : decode cL_law 175 = .ok (.ireturn, 1) := by decide +kernel
theorem dL_law_176 : decode cL_law 176 = .ok (.aload_n 1, 1) := by decide +kernel
theorem dL_law_177 : decode cL_law 177 = .ok (.invokevirtual 23, 3) := by decide +kernel
theorem dL_law_180 : decode cL_law 180 = .ok (.aload_n 2, 1) := by decide +kernel
theorem dL_law_181 : decode cL_law 181 = .ok (.invokevirtual 26, 3) := by decide +kernel
theorem dL_law_184 : decode cL_law 184 = .ok (.if_icmp .eq 496, 3) := by decide +kernel
theorem dL_law_187 : decode cL_law 187 = .ok (.iconst 0, 1) := by decide +kernel
theorem dL_law_188 : decode cL_law 188 = .ok (.ireturn, 1) := by decide +kernel
theorem dL_law_189 : decode cL_law 189 = .ok (.aload_n 1, 1) := by decide +kernel
theorem dL_law_190 : decode cL_law 190 = .ok (.invokevirtual 27, 3) := by decide +kernel
theorem dL_law_193 : decode cL_law 193 = .ok (.aload_n 2, 1) := by decide +kernel
theorem dL_law_194 : decode cL_law 194 = .ok (.invokevirtual 30, 3) := by decide +kernel
theorem dL_law_197 : decode cL_law 197 = .ok (.if_icmp .eq 483, 3) := by decide +kernel
theorem dL_law_200 : decode cL_law 200 = .ok (.iconst 0, 1) := by decide +kernel
theorem dL_law_201 : decode cL_law 201 = .ok (.ireturn, 1) := by decide +kernel
theorem dL_law_202 : decode cL_law 202 = .ok (.aload_n 1, 1) := by decide +kernel
theorem dL_law_203 : decode cL_law 203 = .ok (.invokevirtual 31, 3) := by decide +kernel
theorem dL_law_206 : decode cL_law 206 = .ok (.aload_n 2, 1) := by decide +kernel
theorem dL_law_207 : decode cL_law 207 = .ok (.invokevirtual 34, 3) := by decide +kernel
theorem dL_law_210 : decode cL_law 210 = .ok (.if_icmp .eq 470, 3) := by decide +kernel
theorem dL_law_213 : decode cL_law 213 = .ok (.iconst 0, 1) := by decide +kernel
theorem dL_law_214 : decode cL_law 214 = .ok (.ireturn, 1) := by decide +kernel
theorem dL_law_215 : decode cL_law 215 = .ok (.aload_n 1, 1) := by decide +kernel
theorem dL_law_216 : decode cL_law 216 = .ok (.aload_n 0, 1) := by decide +kernel
theorem dL_law_217 : decode cL_law 217 = .ok (.iload_n 3, 1) := by decide +kernel
theorem dL_law_218 : decode cL_law 218 = .ok (.iconst 1, 1) := by decide +kernel
theorem dL_law_219 : decode cL_law 219 = .ok (.iadd, 1) := by decide +kernel
theorem dL_law_220 : decode cL_law 220 = .ok (.iaload, 1) := by decide +kernel
theorem dL_law_221 : decode cL_law 221 = .ok (.aload_n 0, 1) := by decide +kernel
theorem dL_law_222 : decode cL_law 222 = .ok (.iload_n 3, 1) := by decide +kernel
theorem dL_law_223 : decode cL_law 223 = .ok (.iconst 2, 1) := by decide +kernel
theorem dL_law_224 : decode cL_law 224 = .ok (.iadd, 1) := by decide +kernel
theorem dL_law_225 : decode cL_law 225 = .ok (.iaload, 1) := by decide +kernel
theorem dL_law_226 : decode cL_law 226 = .ok (.invokevirtual 35, 3) := by decide +kernel
theorem dL_law_229 : decode cL_law 229 = .ok (.aload_n 2, 1) := by decide +kernel
theorem dL_law_230 : decode cL_law 230 = .ok (.aload_n 0, 1) := by decide +kernel
theorem dL_law_231 : decode cL_law 231 = .ok (.iload_n 3, 1) := by decide +kernel
theorem dL_law_232 : decode cL_law 232 = .ok (.iconst 1, 1) := by decide +kernel
theorem dL_law_233 : decode cL_law 233 = .ok (.iadd, 1) := by decide +kernel
theorem dL_law_234 : decode cL_law 234 = .ok (.iaload, 1) := by decide +kernel
theorem dL_law_235 : decode cL_law 235 = .ok (.aload_n 0, 1) := by decide +kernel
theorem dL_law_236 : decode cL_law 236 = .ok (.iload_n 3, 1) := by decide +kernel
theorem dL_law_237 : decode cL_law 237 = .ok (.iconst 2, 1) := by decide +kernel
theorem dL_law_238 : decode cL_law 238 = .ok (.iadd, 1) := by decide +kernel
theorem dL_law_239 : decode cL_law 239 = .ok (.iaload, 1) := by decide +kernel
theorem dL_law_240 : decode cL_law 240 = .ok (.invokevirtual 39, 3) := by decide +kernel
theorem dL_law_243 : decode cL_law 243 = .ok (.if_icmp .eq 437, 3) := by decide +kernel
theorem dL_law_246 : decode cL_law 246 = .ok (.iconst 0, 1) := by decide +kernel
theorem dL_law_247 : decode cL_law 247 = .ok (.ireturn, 1) := by decide +kernel
theorem dL_law_248 : decode cL_law 248 = .ok (.aload_n 1, 1) := by decide +kernel
theorem dL_law_249 : decode cL_law 249 = .ok (.aload_n 0, 1) := by decide +kernel
theorem dL_law_250 : decode cL_law 250 = .ok (.iload_n 3, 1) := by decide +kernel
theorem dL_law_251 : decode cL_law 251 = .ok (.iconst 1, 1) := by decide +kernel
theorem dL_law_252 : decode cL_law 252 = .ok (.iadd, 1) := by decide +kernel
theorem dL_law_253 : decode cL_law 253 = .ok (.iaload, 1) := by decide +kernel
theorem dL_law_254 : decode cL_law 254 = .ok (.invokevirtual 40, 3) := by decide +kernel
theorem dL_law_257 : decode cL_law 257 = .ok (.aload_n 2, 1) := by decide +kernel
theorem dL_law_258 : decode cL_law 258 = .ok (.aload_n 0, 1) := by decide +kernel
theorem dL_law_259 : decode cL_law 259 = .ok (.iload_n 3, 1) := by decide +kernel
theorem dL_law_260 : decode cL_law 260 = .ok (.iconst 1, 1) := by decide +kernel
theorem dL_law_261 : decode cL_law 261 = .ok (.iadd, 1) := by decide +kernel
theorem dL_law_262 : decode cL_law 262 = .ok (.iaload, 1) := by decide +kernel
theorem dL_law_263 : decode cL_law 263 = .ok (.invokevirtual 43, 3) := by decide +kernel
theorem dL_law_266 : decode cL_law 266 = .ok (.if_icmp .eq 414, 3) := by decide +kernel
theorem dL_law_269 : decode cL_law 269 = .ok (.iconst 0, 1) := by decide +kernel
theorem dL_law_270 : decode cL_law 270 = .ok (.ireturn, 1) := by decide +kernel
theorem dL_law_271 : decode cL_law 271 = .ok (.aload_n 1, 1) := by decide +kernel
theorem dL_law_272 : decode cL_law 272 = .ok (.aload_n 0, 1) := by decide +kernel
theorem dL_law_273 : decode cL_law 273 = .ok (.iload_n 3, 1) := by decide +kernel
theorem dL_law_274 : decode cL_law 274 = .ok (.iconst 1, 1) := by decide +kernel
theorem dL_law_275 : decode cL_law 275 = .ok (.iadd, 1) := by decide +kernel
theorem dL_law_276 : decode cL_law 276 = .ok (.iaload, 1) := by decide +kernel
theorem dL_law_277 : decode cL_law 277 = .ok (.invokevirtual 44, 3) := by decide +kernel
theorem dL_law_280 : decode cL_law 280 = .ok (.aload_n 2, 1) := by decide +kernel
theorem dL_law_281 : decode cL_law 281 = .ok (.aload_n 0, 1) := by decide +kernel
theorem dL_law_282 : decode cL_law 282 = .ok (.iload_n 3, 1) := by decide +kernel
theorem dL_law_283 : decode cL_law 283 = .ok (.iconst 1, 1) := by decide +kernel
theorem dL_law_284 : decode cL_law 284 = .ok (.iadd, 1) := by decide +kernel
theorem dL_law_285 : decode cL_law 285 = .ok (.iaload, 1) := by decide +kernel
theorem dL_law_286 : decode cL_law 286 = .ok (.invokevirtual 47, 3) := by decide +kernel
theorem dL_law_289 : decode cL_law 289 = .ok (.if_icmp .eq 391, 3) := by decide +kernel
theorem dL_law_292 : decode cL_law 292 = .ok (.iconst 0, 1) := by decide +kernel
theorem dL_law_293 : decode cL_law 293 = .ok (.ireturn, 1) := by decide +kernel
theorem dL_law_294 : decode cL_law 294 = .ok (.aload_n 1, 1) := by decide +kernel
theorem dL_law_295 : decode cL_law 295 = .ok (.invokevirtual 48, 3) := by decide +kernel
theorem dL_law_298 : decode cL_law 298 = .ok (.aload_n 2, 1) := by decide +kernel
theorem dL_law_299 : decode cL_law 299 = .ok (.invokevirtual 51, 3) := by decide +kernel
theorem dL_law_302 : decode cL_law 302 = .ok (.if_icmp .eq 378, 3) := by decide +kernel
theorem dL_law_305 : decode cL_law 305 = .ok (.iconst 0, 1) := by decide +kernel
theorem dL_law_306 : decode cL_law 306 = .ok (.ireturn, 1) := by decide +kernel
theorem dL_law_307 : decode cL_law 307 = .ok (.aload_n 1, 1) := by decide +kernel
theorem dL_law_308 : decode cL_law 308 = .ok (.invokevirtual 52, 3) := by decide +kernel
theorem dL_law_311 : decode cL_law 311 = .ok (.aload_n 2, 1) := by decide +kernel
theorem dL_law_312 : decode cL_law 312 = .ok (.invokevirtual 55, 3) := by decide +kernel
theorem dL_law_315 : decode cL_law 315 = .ok (.if_icmp .eq 365, 3) := by decide +kernel
theorem dL_law_318 : decode cL_law 318 = .ok (.iconst 0, 1) := by decide +kernel
theorem dL_law_319 : decode cL_law 319 = .ok (.ireturn, 1) := by decide +kernel
theorem dL_law_320 : decode cL_law 320 = .ok (.aload_n 1, 1) := by decide +kernel
theorem dL_law_321 : decode cL_law 321 = .ok (.aload_n 0, 1) := by decide +kernel
theorem dL_law_322 : decode cL_law 322 = .ok (.iload_n 3, 1) := by decide +kernel
theorem dL_law_323 : decode cL_law 323 = .ok (.iconst 1, 1) := by decide +kernel
theorem dL_law_324 : decode cL_law 324 = .ok (.iadd, 1) := by decide +kernel
theorem dL_law_325 : decode cL_law 325 = .ok (.iaload, 1) := by decide +kernel
theorem dL_law_326 : decode cL_law 326 = .ok (.invokevirtual 56, 3) := by decide +kernel
theorem dL_law_329 : decode cL_law 329 = .ok (.aload_n 2, 1) := by decide +kernel
theorem dL_law_330 : decode cL_law 330 = .ok (.aload_n 0, 1) := by decide +kernel
theorem dL_law_331 : decode cL_law 331 = .ok (.iload_n 3, 1) := by decide +kernel
theorem dL_law_332 : decode cL_law 332 = .ok (.iconst 1, 1) := by decide +kernel
theorem dL_law_333 : decode cL_law 333 = .ok (.iadd, 1) := by decide +kernel
theorem dL_law_334 : decode cL_law 334 = .ok (.iaload, 1) := by decide +kernel
theorem dL_law_335 : decode cL_law 335 = .ok (.invokevirtual 59, 3) := by decide +kernel
theorem dL_law_338 : decode cL_law 338 = .ok (.if_icmp .eq 342, 3) := by decide +kernel
theorem dL_law_341 : decode cL_law 341 = .ok (.iconst 0, 1) := by decide +kernel
theorem dL_law_342 : decode cL_law 342 = .ok (.ireturn, 1) := by decide +kernel
theorem dL_law_343 : decode cL_law 343 = .ok (.aload_n 1, 1) := by decide +kernel
theorem dL_law_344 : decode cL_law 344 = .ok (.aload_n 0, 1) := by decide +kernel
theorem dL_law_345 : decode cL_law 345 = .ok (.iload_n 3, 1) := by decide +kernel
theorem dL_law_346 : decode cL_law 346 = .ok (.iconst 1, 1) := by decide +kernel
theorem dL_law_347 : decode cL_law 347 = .ok (.iadd, 1) := by decide +kernel
theorem dL_law_348 : decode cL_law 348 = .ok (.iaload, 1) := by decide +kernel
theorem dL_law_349 : decode cL_law 349 = .ok (.aload_n 0, 1) := by decide +kernel
theorem dL_law_350 : decode cL_law 350 = .ok (.iload_n 3, 1) := by decide +kernel
theorem dL_law_351 : decode cL_law 351 = .ok (.iconst 2, 1) := by decide +kernel
theorem dL_law_352 : decode cL_law 352 = .ok (.iadd, 1) := by decide +kernel
theorem dL_law_353 : decode cL_law 353 = .ok (.iaload, 1) := by decide +kernel
theorem dL_law_354 : decode cL_law 354 = .ok (.invokevirtual 60, 3) := by decide +kernel
theorem dL_law_357 : decode cL_law 357 = .ok (.aload_n 2, 1) := by decide +kernel
theorem dL_law_358 : decode cL_law 358 = .ok (.aload_n 0, 1) := by decide +kernel
theorem dL_law_359 : decode cL_law 359 = .ok (.iload_n 3, 1) := by decide +kernel
theorem dL_law_360 : decode cL_law 360 = .ok (.iconst 1, 1) := by decide +kernel
theorem dL_law_361 : decode cL_law 361 = .ok (.iadd, 1) := by decide +kernel
theorem dL_law_362 : decode cL_law 362 = .ok (.iaload, 1) := by decide +kernel
theorem dL_law_363 : decode cL_law 363 = .ok (.aload_n 0, 1) := by decide +kernel
theorem dL_law_364 : decode cL_law 364 = .ok (.iload_n 3, 1) := by decide +kernel
theorem dL_law_365 : decode cL_law 365 = .ok (.iconst 2, 1) := by decide +kernel
theorem dL_law_366 : decode cL_law 366 = .ok (.iadd, 1) := by decide +kernel
theorem dL_law_367 : decode cL_law 367 = .ok (.iaload, 1) := by decide +kernel
theorem dL_law_368 : decode cL_law 368 = .ok (.invokevirtual 63, 3) := by decide +kernel
theorem dL_law_371 : decode cL_law 371 = .ok (.if_icmp .eq 309, 3) := by decide +kernel
theorem dL_law_374 : decode cL_law 374 = .ok (.iconst 0, 1) := by decide +kernel
theorem dL_law_375 : decode cL_law 375 = .ok (.ireturn, 1) := by decide +kernel
theorem dL_law_376 : decode cL_law 376 = .ok (.aload_n 1, 1) := by decide +kernel
theorem dL_law_377 : decode cL_law 377 = .ok (.aload_n 0, 1) := by decide +kernel
theorem dL_law_378 : decode cL_law 378 = .ok (.iload_n 3, 1) := by decide +kernel
theorem dL_law_379 : decode cL_law 379 = .ok (.iconst 1, 1) := by decide +kernel
theorem dL_law_380 : decode cL_law 380 = .ok (.iadd, 1) := by decide +kernel
theorem dL_law_381 : decode cL_law 381 = .ok (.iaload, 1) := by decide +kernel
theorem dL_law_382 : decode cL_law 382 = .ok (.aload_n 0, 1) := by decide +kernel
theorem dL_law_383 : decode cL_law 383 = .ok (.iload_n 3, 1) := by decide +kernel
theorem dL_law_384 : decode cL_law 384 = .ok (.iconst 2, 1) := by decide +kernel
theorem dL_law_385 : decode cL_law 385 = .ok (.iadd, 1) := by decide +kernel
theorem dL_law_386 : decode cL_law 386 = .ok (.iaload, 1) := by decide +kernel
theorem dL_law_387 : decode cL_law 387 = .ok (.invokevirtual 64, 3) := by decide +kernel
theorem dL_law_390 : decode cL_law 390 = .ok (.aload_n 2, 1) := by decide +kernel
theorem dL_law_391 : decode cL_law 391 = .ok (.aload_n 0, 1) := by decide +kernel
theorem dL_law_392 : decode cL_law 392 = .ok (.iload_n 3, 1) := by decide +kernel
theorem dL_law_393 : decode cL_law 393 = .ok (.iconst 1, 1) := by decide +kernel
theorem dL_law_394 : decode cL_law 394 = .ok (.iadd, 1) := by decide +kernel
theorem dL_law_395 : decode cL_law 395 = .ok (.iaload, 1) := by decide +kernel
theorem dL_law_396 : decode cL_law 396 = .ok (.aload_n 0, 1) := by decide +kernel
theorem dL_law_397 : decode cL_law 397 = .ok (.iload_n 3, 1) := by decide +kernel
theorem dL_law_398 : decode cL_law 398 = .ok (.iconst 2, 1) := by decide +kernel
theorem dL_law_399 : decode cL_law 399 = .ok (.iadd, 1) := by decide +kernel
theorem dL_law_400 : decode cL_law 400 = .ok (.iaload, 1) := by decide +kernel
theorem dL_law_401 : decode cL_law 401 = .ok (.invokevirtual 67, 3) := by decide +kernel
theorem dL_law_404 : decode cL_law 404 = .ok (.if_icmp .eq 276, 3) := by decide +kernel
theorem dL_law_407 : decode cL_law 407 = .ok (.iconst 0, 1) := by decide +kernel
theorem dL_law_408 : decode cL_law 408 = .ok (.ireturn, 1) := by decide +kernel
theorem dL_law_409 : decode cL_law 409 = .ok (.aload_n 1, 1) := by decide +kernel
theorem dL_law_410 : decode cL_law 410 = .ok (.aload_n 0, 1) := by decide +kernel
theorem dL_law_411 : decode cL_law 411 = .ok (.iload_n 3, 1) := by decide +kernel
theorem dL_law_412 : decode cL_law 412 = .ok (.iconst 1, 1) := by decide +kernel
theorem dL_law_413 : decode cL_law 413 = .ok (.iadd, 1) := by decide +kernel
theorem dL_law_414 : decode cL_law 414 = .ok (.iaload, 1) := by decide +kernel
theorem dL_law_415 : decode cL_law 415 = .ok (.aload_n 0, 1) := by decide +kernel
theorem dL_law_416 : decode cL_law 416 = .ok (.iload_n 3, 1) := by decide +kernel
theorem dL_law_417 : decode cL_law 417 = .ok (.iconst 2, 1) := by decide +kernel
theorem dL_law_418 : decode cL_law 418 = .ok (.iadd, 1) := by decide +kernel
theorem dL_law_419 : decode cL_law 419 = .ok (.iaload, 1) := by decide +kernel
theorem dL_law_420 : decode cL_law 420 = .ok (.invokevirtual 68, 3) := by decide +kernel
theorem dL_law_423 : decode cL_law 423 = .ok (.aload_n 2, 1) := by decide +kernel
theorem dL_law_424 : decode cL_law 424 = .ok (.aload_n 0, 1) := by decide +kernel
theorem dL_law_425 : decode cL_law 425 = .ok (.iload_n 3, 1) := by decide +kernel
theorem dL_law_426 : decode cL_law 426 = .ok (.iconst 1, 1) := by decide +kernel
theorem dL_law_427 : decode cL_law 427 = .ok (.iadd, 1) := by decide +kernel
theorem dL_law_428 : decode cL_law 428 = .ok (.iaload, 1) := by decide +kernel
theorem dL_law_429 : decode cL_law 429 = .ok (.aload_n 0, 1) := by decide +kernel
theorem dL_law_430 : decode cL_law 430 = .ok (.iload_n 3, 1) := by decide +kernel
theorem dL_law_431 : decode cL_law 431 = .ok (.iconst 2, 1) := by decide +kernel
theorem dL_law_432 : decode cL_law 432 = .ok (.iadd, 1) := by decide +kernel
theorem dL_law_433 : decode cL_law 433 = .ok (.iaload, 1) := by decide +kernel
theorem dL_law_434 : decode cL_law 434 = .ok (.invokevirtual 71, 3) := by decide +kernel
theorem dL_law_437 : decode cL_law 437 = .ok (.if_icmp .eq 243, 3) := by decide +kernel
theorem dL_law_440 : decode cL_law 440 = .ok (.iconst 0, 1) := by decide +kernel
theorem dL_law_441 : decode cL_law 441 = .ok (.ireturn, 1) := by decide +kernel
theorem dL_law_442 : decode cL_law 442 = .ok (.aload_n 1, 1) := by decide +kernel
theorem dL_law_443 : decode cL_law 443 = .ok (.invokevirtual 72, 3) := by decide +kernel
theorem dL_law_446 : decode cL_law 446 = .ok (.aload_n 2, 1) := by decide +kernel
theorem dL_law_447 : decode cL_law 447 = .ok (.invokevirtual 75, 3) := by decide +kernel
theorem dL_law_450 : decode cL_law 450 = .ok (.if_icmp .eq 230, 3) := by decide +kernel
theorem dL_law_453 : decode cL_law 453 = .ok (.iconst 0, 1) := by decide +kernel
theorem dL_law_454 : decode cL_law 454 = .ok (.ireturn, 1) := by decide +kernel
theorem dL_law_455 : decode cL_law 455 = .ok (.aload_n 1, 1) := by decide +kernel
theorem dL_law_456 : decode cL_law 456 = .ok (.aload_n 0, 1) := by decide +kernel
theorem dL_law_457 : decode cL_law 457 = .ok (.iload_n 3, 1) := by decide +kernel
theorem dL_law_458 : decode cL_law 458 = .ok (.iconst 1, 1) := by decide +kernel
theorem dL_law_459 : decode cL_law 459 = .ok (.iadd, 1) := by decide +kernel
theorem dL_law_460 : decode cL_law 460 = .ok (.iaload, 1) := by decide +kernel
theorem dL_law_461 : decode cL_law 461 = .ok (.invokevirtual 76, 3) := by decide +kernel
theorem dL_law_464 : decode cL_law 464 = .ok (.aload_n 2, 1) := by decide +kernel
theorem dL_law_465 : decode cL_law 465 = .ok (.aload_n 0, 1) := by decide +kernel
theorem dL_law_466 : decode cL_law 466 = .ok (.iload_n 3, 1) := by decide +kernel
theorem dL_law_467 : decode cL_law 467 = .ok (.iconst 1, 1) := by decide +kernel
theorem dL_law_468 : decode cL_law 468 = .ok (.iadd, 1) := by decide +kernel
theorem dL_law_469 : decode cL_law 469 = .ok (.iaload, 1) := by decide +kernel
theorem dL_law_470 : decode cL_law 470 = .ok (.invokevirtual 79, 3) := by decide +kernel
theorem dL_law_473 : decode cL_law 473 = .ok (.if_icmp .eq 207, 3) := by decide +kernel
theorem dL_law_476 : decode cL_law 476 = .ok (.iconst 0, 1) := by decide +kernel
theorem dL_law_477 : decode cL_law 477 = .ok (.ireturn, 1) := by decide +kernel
theorem dL_law_478 : decode cL_law 478 = .ok (.aload_n 1, 1) := by decide +kernel
theorem dL_law_479 : decode cL_law 479 = .ok (.aload_n 0, 1) := by decide +kernel
theorem dL_law_480 : decode cL_law 480 = .ok (.iload_n 3, 1) := by decide +kernel
theorem dL_law_481 : decode cL_law 481 = .ok (.iconst 1, 1) := by decide +kernel
theorem dL_law_482 : decode cL_law 482 = .ok (.iadd, 1) := by decide +kernel
theorem dL_law_483 : decode cL_law 483 = .ok (.iaload, 1) := by decide +kernel
theorem dL_law_484 : decode cL_law 484 = .ok (.aload_n 0, 1) := by decide +kernel
theorem dL_law_485 : decode cL_law 485 = .ok (.iload_n 3, 1) := by decide +kernel
theorem dL_law_486 : decode cL_law 486 = .ok (.iconst 2, 1) := by decide +kernel
theorem dL_law_487 : decode cL_law 487 = .ok (.iadd, 1) := by decide +kernel
theorem dL_law_488 : decode cL_law 488 = .ok (.iaload, 1) := by decide +kernel
theorem dL_law_489 : decode cL_law 489 = .ok (.invokevirtual 80, 3) := by decide +kernel
theorem dL_law_492 : decode cL_law 492 = .ok (.aload_n 2, 1) := by decide +kernel
theorem dL_law_493 : decode cL_law 493 = .ok (.aload_n 0, 1) := by decide +kernel
theorem dL_law_494 : decode cL_law 494 = .ok (.iload_n 3, 1) := by decide +kernel
theorem dL_law_495 : decode cL_law 495 = .ok (.iconst 1, 1) := by decide +kernel
theorem dL_law_496 : decode cL_law 496 = .ok (.iadd, 1) := by decide +kernel
theorem dL_law_497 : decode cL_law 497 = .ok (.iaload, 1) := by decide +kernel
theorem dL_law_498 : decode cL_law 498 = .ok (.aload_n 0, 1) := by decide +kernel
theorem dL_law_499 : decode cL_law 499 = .ok (.iload_n 3, 1) := by decide +kernel
theorem dL_law_500 : decode cL_law 500 = .ok (.iconst 2, 1) := by decide +kernel
theorem dL_law_501 : decode cL_law 501 = .ok (.iadd, 1) := by decide +kernel
theorem dL_law_502 : decode cL_law 502 = .ok (.iaload, 1) := by decide +kernel
theorem dL_law_503 : decode cL_law 503 = .ok (.invokevirtual 83, 3) := by decide +kernel
theorem dL_law_506 : decode cL_law 506 = .ok (.if_icmp .eq 174, 3) := by decide +kernel
theorem dL_law_509 : decode cL_law 509 = .ok (.iconst 0, 1) := by decide +kernel
theorem dL_law_510 : decode cL_law 510 = .ok (.ireturn, 1) := by decide +kernel
theorem dL_law_511 : decode cL_law 511 = .ok (.aload_n 1, 1) := by decide +kernel
theorem dL_law_512 : decode cL_law 512 = .ok (.aload_n 0, 1) := by decide +kernel
theorem dL_law_513 : decode cL_law 513 = .ok (.iload_n 3, 1) := by decide +kernel
theorem dL_law_514 : decode cL_law 514 = .ok (.iconst 1, 1) := by decide +kernel
theorem dL_law_515 : decode cL_law 515 = .ok (.iadd, 1) := by decide +kernel
theorem dL_law_516 : decode cL_law 516 = .ok (.iaload, 1) := by decide +kernel
theorem dL_law_517 : decode cL_law 517 = .ok (.aload_n 0, 1) := by decide +kernel
theorem dL_law_518 : decode cL_law 518 = .ok (.iload_n 3, 1) := by decide +kernel
theorem dL_law_519 : decode cL_law 519 = .ok (.iconst 2, 1) := by decide +kernel
theorem dL_law_520 : decode cL_law 520 = .ok (.iadd, 1) := by decide +kernel
theorem dL_law_521 : decode cL_law 521 = .ok (.iaload, 1) := by decide +kernel
theorem dL_law_522 : decode cL_law 522 = .ok (.invokevirtual 84, 3) := by decide +kernel
theorem dL_law_525 : decode cL_law 525 = .ok (.aload_n 2, 1) := by decide +kernel
theorem dL_law_526 : decode cL_law 526 = .ok (.aload_n 0, 1) := by decide +kernel
theorem dL_law_527 : decode cL_law 527 = .ok (.iload_n 3, 1) := by decide +kernel
theorem dL_law_528 : decode cL_law 528 = .ok (.iconst 1, 1) := by decide +kernel
theorem dL_law_529 : decode cL_law 529 = .ok (.iadd, 1) := by decide +kernel
theorem dL_law_530 : decode cL_law 530 = .ok (.iaload, 1) := by decide +kernel
theorem dL_law_531 : decode cL_law 531 = .ok (.aload_n 0, 1) := by decide +kernel
theorem dL_law_532 : decode cL_law 532 = .ok (.iload_n 3, 1) := by decide +kernel
theorem dL_law_533 : decode cL_law 533 = .ok (.iconst 2, 1) := by decide +kernel
theorem dL_law_534 : decode cL_law 534 = .ok (.iadd, 1) := by decide +kernel
theorem dL_law_535 : decode cL_law 535 = .ok (.iaload, 1) := by decide +kernel
theorem dL_law_536 : decode cL_law 536 = .ok (.invokevirtual 87, 3) := by decide +kernel
theorem dL_law_539 : decode cL_law 539 = .ok (.if_icmp .eq 141, 3) := by decide +kernel
theorem dL_law_542 : decode cL_law 542 = .ok (.iconst 0, 1) := by decide +kernel
theorem dL_law_543 : decode cL_law 543 = .ok (.ireturn, 1) := by decide +kernel
theorem dL_law_544 : decode cL_law 544 = .ok (.aload_n 1, 1) := by decide +kernel
theorem dL_law_545 : decode cL_law 545 = .ok (.aload_n 0, 1) := by decide +kernel
theorem dL_law_546 : decode cL_law 546 = .ok (.iload_n 3, 1) := by decide +kernel
theorem dL_law_547 : decode cL_law 547 = .ok (.iconst 1, 1) := by decide +kernel
theorem dL_law_548 : decode cL_law 548 = .ok (.iadd, 1) := by decide +kernel
theorem dL_law_549 : decode cL_law 549 = .ok (.iaload, 1) := by decide +kernel
theorem dL_law_550 : decode cL_law 550 = .ok (.aload_n 0, 1) := by decide +kernel
theorem dL_law_551 : decode cL_law 551 = .ok (.iload_n 3, 1) := by decide +kernel
theorem dL_law_552 : decode cL_law 552 = .ok (.iconst 2, 1) := by decide +kernel
theorem dL_law_553 : decode cL_law 553 = .ok (.iadd, 1) := by decide +kernel
theorem dL_law_554 : decode cL_law 554 = .ok (.iaload, 1) := by decide +kernel
theorem dL_law_555 : decode cL_law 555 = .ok (.aload_n 0, 1) := by decide +kernel
theorem dL_law_556 : decode cL_law 556 = .ok (.iload_n 3, 1) := by decide +kernel
theorem dL_law_557 : decode cL_law 557 = .ok (.iconst 3, 1) := by decide +kernel
theorem dL_law_558 : decode cL_law 558 = .ok (.iadd, 1) := by decide +kernel
theorem dL_law_559 : decode cL_law 559 = .ok (.iaload, 1) := by decide +kernel
theorem dL_law_560 : decode cL_law 560 = .ok (.invokevirtual 88, 3) := by decide +kernel
theorem dL_law_563 : decode cL_law 563 = .ok (.aload_n 2, 1) := by decide +kernel
theorem dL_law_564 : decode cL_law 564 = .ok (.aload_n 0, 1) := by decide +kernel
theorem dL_law_565 : decode cL_law 565 = .ok (.iload_n 3, 1) := by decide +kernel
theorem dL_law_566 : decode cL_law 566 = .ok (.iconst 1, 1) := by decide +kernel
theorem dL_law_567 : decode cL_law 567 = .ok (.iadd, 1) := by decide +kernel
theorem dL_law_568 : decode cL_law 568 = .ok (.iaload, 1) := by decide +kernel
theorem dL_law_569 : decode cL_law 569 = .ok (.aload_n 0, 1) := by decide +kernel
theorem dL_law_570 : decode cL_law 570 = .ok (.iload_n 3, 1) := by decide +kernel
theorem dL_law_571 : decode cL_law 571 = .ok (.iconst 2, 1) := by decide +kernel
theorem dL_law_572 : decode cL_law 572 = .ok (.iadd, 1) := by decide +kernel
theorem dL_law_573 : decode cL_law 573 = .ok (.iaload, 1) := by decide +kernel
theorem dL_law_574 : decode cL_law 574 = .ok (.aload_n 0, 1) := by decide +kernel
theorem dL_law_575 : decode cL_law 575 = .ok (.iload_n 3, 1) := by decide +kernel
theorem dL_law_576 : decode cL_law 576 = .ok (.iconst 3, 1) := by decide +kernel
theorem dL_law_577 : decode cL_law 577 = .ok (.iadd, 1) := by decide +kernel
theorem dL_law_578 : decode cL_law 578 = .ok (.iaload, 1) := by decide +kernel
theorem dL_law_579 : decode cL_law 579 = .ok (.invokevirtual 92, 3) := by decide +kernel
theorem dL_law_582 : decode cL_law 582 = .ok (.if_icmp .eq 98, 3) := by decide +kernel
theorem dL_law_585 : decode cL_law 585 = .ok (.iconst 0, 1) := by decide +kernel
theorem dL_law_586 : decode cL_law 586 = .ok (.ireturn, 1) := by decide +kernel
theorem dL_law_587 : decode cL_law 587 = .ok (.aload_n 1, 1) := by decide +kernel
theorem dL_law_588 : decode cL_law 588 = .ok (.aload_n 0, 1) := by decide +kernel
theorem dL_law_589 : decode cL_law 589 = .ok (.iload_n 3, 1) := by decide +kernel
theorem dL_law_590 : decode cL_law 590 = .ok (.iconst 1, 1) := by decide +kernel
theorem dL_law_591 : decode cL_law 591 = .ok (.iadd, 1) := by decide +kernel
theorem dL_law_592 : decode cL_law 592 = .ok (.iaload, 1) := by decide +kernel
theorem dL_law_593 : decode cL_law 593 = .ok (.invokevirtual 93, 3) := by decide +kernel
theorem dL_law_596 : decode cL_law 596 = .ok (.aload_n 2, 1) := by decide +kernel
theorem dL_law_597 : decode cL_law 597 = .ok (.aload_n 0, 1) := by decide +kernel
theorem dL_law_598 : decode cL_law 598 = .ok (.iload_n 3, 1) := by decide +kernel
theorem dL_law_599 : decode cL_law 599 = .ok (.iconst 1, 1) := by decide +kernel
theorem dL_law_600 : decode cL_law 600 = .ok (.iadd, 1) := by decide +kernel
theorem dL_law_601 : decode cL_law 601 = .ok (.iaload, 1) := by decide +kernel
theorem dL_law_602 : decode cL_law 602 = .ok (.invokevirtual 96, 3) := by decide +kernel
theorem dL_law_605 : decode cL_law 605 = .ok (.if_icmp .eq 75, 3) := by decide +kernel
theorem dL_law_608 : decode cL_law 608 = .ok (.iconst 0, 1) := by decide +kernel
theorem dL_law_609 : decode cL_law 609 = .ok (.ireturn, 1) := by decide +kernel
theorem dL_law_610 : decode cL_law 610 = .ok (.aload_n 1, 1) := by decide +kernel
theorem dL_law_611 : decode cL_law 611 = .ok (.aload_n 0, 1) := by decide +kernel
theorem dL_law_612 : decode cL_law 612 = .ok (.iload_n 3, 1) := by decide +kernel
theorem dL_law_613 : decode cL_law 613 = .ok (.iconst 1, 1) := by decide +kernel
theorem dL_law_614 : decode cL_law 614 = .ok (.iadd, 1) := by decide +kernel
theorem dL_law_615 : decode cL_law 615 = .ok (.iaload, 1) := by decide +kernel
theorem dL_law_616 : decode cL_law 616 = .ok (.aload_n 0, 1) := by decide +kernel
theorem dL_law_617 : decode cL_law 617 = .ok (.iload_n 3, 1) := by decide +kernel
theorem dL_law_618 : decode cL_law 618 = .ok (.iconst 2, 1) := by decide +kernel
theorem dL_law_619 : decode cL_law 619 = .ok (.iadd, 1) := by decide +kernel
theorem dL_law_620 : decode cL_law 620 = .ok (.iaload, 1) := by decide +kernel
theorem dL_law_621 : decode cL_law 621 = .ok (.invokevirtual 97, 3) := by decide +kernel
theorem dL_law_624 : decode cL_law 624 = .ok (.aload_n 2, 1) := by decide +kernel
theorem dL_law_625 : decode cL_law 625 = .ok (.aload_n 0, 1) := by decide +kernel
theorem dL_law_626 : decode cL_law 626 = .ok (.iload_n 3, 1) := by decide +kernel
theorem dL_law_627 : decode cL_law 627 = .ok (.iconst 1, 1) := by decide +kernel
theorem dL_law_628 : decode cL_law 628 = .ok (.iadd, 1) := by decide +kernel
theorem dL_law_629 : decode cL_law 629 = .ok (.iaload, 1) := by decide +kernel
theorem dL_law_630 : decode cL_law 630 = .ok (.aload_n 0, 1) := by decide +kernel
theorem dL_law_631 : decode cL_law 631 = .ok (.iload_n 3, 1) := by decide +kernel
theorem dL_law_632 : decode cL_law 632 = .ok (.iconst 2, 1) := by decide +kernel
theorem dL_law_633 : decode cL_law 633 = .ok (.iadd, 1) := by decide +kernel
theorem dL_law_634 : decode cL_law 634 = .ok (.iaload, 1) := by decide +kernel
theorem dL_law_635 : decode cL_law 635 = .ok (.invokevirtual 100, 3) := by decide +kernel
theorem dL_law_638 : decode cL_law 638 = .ok (.if_icmp .eq 42, 3) := by decide +kernel
theorem dL_law_641 : decode cL_law 641 = .ok (.iconst 0, 1) := by decide +kernel
theorem dL_law_642 : decode cL_law 642 = .ok (.ireturn, 1) := by decide +kernel
theorem dL_law_643 : decode cL_law 643 = .ok (.aload_n 1, 1) := by decide +kernel
theorem dL_law_644 : decode cL_law 644 = .ok (.aload_n 0, 1) := by decide +kernel
theorem dL_law_645 : decode cL_law 645 = .ok (.iload_n 3, 1) := by decide +kernel
theorem dL_law_646 : decode cL_law 646 = .ok (.iconst 1, 1) := by decide +kernel
theorem dL_law_647 : decode cL_law 647 = .ok (.iadd, 1) := by decide +kernel
theorem dL_law_648 : decode cL_law 648 = .ok (.iaload, 1) := by decide +kernel
theorem dL_law_649 : decode cL_law 649 = .ok (.invokevirtual 101, 3) := by decide +kernel
theorem dL_law_652 : decode cL_law 652 = .ok (.aload_n 2, 1) := by decide +kernel
theorem dL_law_653 : decode cL_law 653 = .ok (.aload_n 0, 1) := by decide +kernel
theorem dL_law_654 : decode cL_law 654 = .ok (.iload_n 3, 1) := by decide +kernel
theorem dL_law_655 : decode cL_law 655 = .ok (.iconst 1, 1) := by decide +kernel
theorem dL_law_656 : decode cL_law 656 = .ok (.iadd, 1) := by decide +kernel
theorem dL_law_657 : decode cL_law 657 = .ok (.iaload, 1) := by decide +kernel
theorem dL_law_658 : decode cL_law 658 = .ok (.invokevirtual 104, 3) := by decide +kernel
theorem dL_law_661 : decode cL_law 661 = .ok (.if_icmp .eq 19, 3) := by decide +kernel
theorem dL_law_664 : decode cL_law 664 = .ok (.iconst 0, 1) := by decide +kernel
theorem dL_law_665 : decode cL_law 665 = .ok (.ireturn, 1) := by decide +kernel
theorem dL_law_666 : decode cL_law 666 = .ok (.aload_n 1, 1) := by decide +kernel
theorem dL_law_667 : decode cL_law 667 = .ok (.invokevirtual 105, 3) := by decide +kernel
theorem dL_law_670 : decode cL_law 670 = .ok (.aload_n 2, 1) := by decide +kernel
theorem dL_law_671 : decode cL_law 671 = .ok (.invokevirtual 109, 3) := by decide +kernel
theorem dL_law_674 : decode cL_law 674 = .ok (.lcmp, 1) := by decide +kernel
theorem dL_law_675 : decode cL_law 675 = .ok (.ifCond .eq 5, 3) := by decide +kernel
theorem dL_law_678 : decode cL_law 678 = .ok (.iconst 0, 1) := by decide +kernel
theorem dL_law_679 : decode cL_law 679 = .ok (.ireturn, 1) := by decide +kernel
theorem dL_law_680 : decode cL_law 680 = .ok (.iinc 3 4, 3) := by decide +kernel
theorem dL_law_683 : decode cL_law 683 = .ok (.goto (-665), 3) := by decide +kernel
theorem dL_law_686 : decode cL_law 686 = .ok (.iconst 1, 1) := by decide +kernel
theorem dL_law_687 : decode cL_law 687 = .ok (.ireturn, 1) := by decide +kernel
