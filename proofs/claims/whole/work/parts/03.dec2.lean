theorem dX7_markLetter_54 : decode cX7_markLetter 54 = .ok (.bipush 33, 2) := by decide +kernel
theorem dX7_markLetter_56 : decode cX7_markLetter 56 = .ok (.ireturn, 1) := by decide +kernel
theorem dX7_markLetter_57 : decode cX7_markLetter 57 = .ok (.bipush 43, 2) := by decide +kernel
theorem dX7_markLetter_59 : decode cX7_markLetter 59 = .ok (.ireturn, 1) := by decide +kernel
theorem dX7_markLetter_60 : decode cX7_markLetter 60 = .ok (.bipush 99, 2) := by decide +kernel
theorem dX7_markLetter_62 : decode cX7_markLetter 62 = .ok (.iload_n 0, 1) := by decide +kernel
theorem dX7_markLetter_63 : decode cX7_markLetter 63 = .ok (.iadd, 1) := by decide +kernel
theorem dX7_markLetter_64 : decode cX7_markLetter 64 = .ok (.iconst 3, 1) := by decide +kernel
theorem dX7_markLetter_65 : decode cX7_markLetter 65 = .ok (.isub, 1) := by decide +kernel
theorem dX7_markLetter_66 : decode cX7_markLetter 66 = .ok (.ireturn, 1) := by decide +kernel
theorem dX7_digitsOf_0 : decode cX7_digitsOf 0 = .ok (.iload_n 0, 1) := by decide +kernel
theorem dX7_digitsOf_1 : decode cX7_digitsOf 1 = .ok (.iconst 1, 1) := by decide +kernel
theorem dX7_digitsOf_2 : decode cX7_digitsOf 2 = .ok (.if_icmp .eq 8, 3) := by decide +kernel
theorem dX7_digitsOf_5 : decode cX7_digitsOf 5 = .ok (.iload_n 0, 1) := by decide +kernel
theorem dX7_digitsOf_6 : decode cX7_digitsOf 6 = .ok (.iconst 3, 1) := by decide +kernel
theorem dX7_digitsOf_7 : decode cX7_digitsOf 7 = .ok (.if_icmp .ne 7, 3) := by decide +kernel
theorem dX7_digitsOf_10 : decode cX7_digitsOf 10 = .ok (.iconst 1, 1) := by decide +kernel
theorem dX7_digitsOf_11 : decode cX7_digitsOf 11 = .ok (.goto 4, 3) := by decide +kernel
theorem dX7_digitsOf_14 : decode cX7_digitsOf 14 = .ok (.iconst 0, 1) := by decide +kernel
theorem dX7_digitsOf_15 : decode cX7_digitsOf 15 = .ok (.ireturn, 1) := by decide +kernel
theorem dX7_marksOf_0 : decode cX7_marksOf 0 = .ok (.iload_n 0, 1) := by decide +kernel
theorem dX7_marksOf_1 : decode cX7_marksOf 1 = .ok (.iconst 3, 1) := by decide +kernel
theorem dX7_marksOf_2 : decode cX7_marksOf 2 = .ok (.if_icmp .ne 8, 3) := by decide +kernel
theorem dX7_marksOf_5 : decode cX7_marksOf 5 = .ok (.bipush 16, 2) := by decide +kernel
theorem dX7_marksOf_7 : decode cX7_marksOf 7 = .ok (.goto 5, 3) := by decide +kernel
theorem dX7_marksOf_10 : decode cX7_marksOf 10 = .ok (.bipush 8, 2) := by decide +kernel
theorem dX7_marksOf_12 : decode cX7_marksOf 12 = .ok (.ireturn, 1) := by decide +kernel
theorem dX7_lettersOf_0 : decode cX7_lettersOf 0 = .ok (.iconst 1, 1) := by decide +kernel
theorem dX7_lettersOf_1 : decode cX7_lettersOf 1 = .ok (.iload_n 0, 1) := by decide +kernel
theorem dX7_lettersOf_2 : decode cX7_lettersOf 2 = .ok (.invokestatic 82, 3) := by decide +kernel
theorem dX7_lettersOf_5 : decode cX7_lettersOf 5 = .ok (.iadd, 1) := by decide +kernel
theorem dX7_lettersOf_6 : decode cX7_lettersOf 6 = .ok (.iload_n 0, 1) := by decide +kernel
theorem dX7_lettersOf_7 : decode cX7_lettersOf 7 = .ok (.invokestatic 86, 3) := by decide +kernel
theorem dX7_lettersOf_10 : decode cX7_lettersOf 10 = .ok (.iadd, 1) := by decide +kernel
theorem dX7_lettersOf_11 : decode cX7_lettersOf 11 = .ok (.iconst 4, 1) := by decide +kernel
theorem dX7_lettersOf_12 : decode cX7_lettersOf 12 = .ok (.iadd, 1) := by decide +kernel
theorem dX7_lettersOf_13 : decode cX7_lettersOf 13 = .ok (.ireturn, 1) := by decide +kernel
theorem dX7_fitsAt_0 : decode cX7_fitsAt 0 = .ok (.iload_n 1, 1) := by decide +kernel
theorem dX7_fitsAt_1 : decode cX7_fitsAt 1 = .ok (.ifCond .ne 25, 3) := by decide +kernel
theorem dX7_fitsAt_4 : decode cX7_fitsAt 4 = .ok (.aload_n 0, 1) := by decide +kernel
theorem dX7_fitsAt_5 : decode cX7_fitsAt 5 = .ok (.iload_n 2, 1) := by decide +kernel
theorem dX7_fitsAt_6 : decode cX7_fitsAt 6 = .ok (.invokestatic 89, 3) := by decide +kernel
theorem dX7_fitsAt_9 : decode cX7_fitsAt 9 = .ok (.putfield 92, 3) := by decide +kernel
theorem dX7_fitsAt_12 : decode cX7_fitsAt 12 = .ok (.aload_n 0, 1) := by decide +kernel
theorem dX7_fitsAt_13 : decode cX7_fitsAt 13 = .ok (.getfield 92, 3) := by decide +kernel
theorem dX7_fitsAt_16 : decode cX7_fitsAt 16 = .ok (.iconst (-1), 1) := by decide +kernel
theorem dX7_fitsAt_17 : decode cX7_fitsAt 17 = .ok (.if_icmp .eq 7, 3) := by decide +kernel
theorem dX7_fitsAt_20 : decode cX7_fitsAt 20 = .ok (.iconst 1, 1) := by decide +kernel
theorem dX7_fitsAt_21 : decode cX7_fitsAt 21 = .ok (.goto 4, 3) := by decide +kernel
theorem dX7_fitsAt_24 : decode cX7_fitsAt 24 = .ok (.iconst 0, 1) := by decide +kernel
theorem dX7_fitsAt_25 : decode cX7_fitsAt 25 = .ok (.ireturn, 1) := by decide +kernel
theorem dX7_fitsAt_26 : decode cX7_fitsAt 26 = .ok (.iload_n 1, 1) := by decide +kernel
theorem dX7_fitsAt_27 : decode cX7_fitsAt 27 = .ok (.iconst 1, 1) := by decide +kernel
theorem dX7_fitsAt_28 : decode cX7_fitsAt 28 = .ok (.isub, 1) := by decide +kernel
theorem dX7_fitsAt_29 : decode cX7_fitsAt 29 = .ok (.aload_n 0, 1) := by decide +kernel
theorem dX7_fitsAt_30 : decode cX7_fitsAt 30 = .ok (.getfield 92, 3) := by decide +kernel
theorem dX7_fitsAt_33 : decode cX7_fitsAt 33 = .ok (.invokestatic 82, 3) := by decide +kernel
theorem dX7_fitsAt_36 : decode cX7_fitsAt 36 = .ok (.isub, 1) := by decide +kernel
theorem dX7_fitsAt_37 : decode cX7_fitsAt 37 = .ok (.istore_n 3, 1) := by decide +kernel
theorem dX7_fitsAt_38 : decode cX7_fitsAt 38 = .ok (.iload_n 3, 1) := by decide +kernel
theorem dX7_fitsAt_39 : decode cX7_fitsAt 39 = .ok (.ifCond .ge 25, 3) := by decide +kernel
theorem dX7_fitsAt_42 : decode cX7_fitsAt 42 = .ok (.iload_n 2, 1) := by decide +kernel
theorem dX7_fitsAt_43 : decode cX7_fitsAt 43 = .ok (.aload_n 0, 1) := by decide +kernel
theorem dX7_fitsAt_44 : decode cX7_fitsAt 44 = .ok (.getfield 92, 3) := by decide +kernel
theorem dX7_fitsAt_47 : decode cX7_fitsAt 47 = .ok (.iconst 1, 1) := by decide +kernel
theorem dX7_fitsAt_48 : decode cX7_fitsAt 48 = .ok (.if_icmp .ne 8, 3) := by decide +kernel
theorem dX7_fitsAt_51 : decode cX7_fitsAt 51 = .ok (.bipush 49, 2) := by decide +kernel
theorem dX7_fitsAt_53 : decode cX7_fitsAt 53 = .ok (.goto 5, 3) := by decide +kernel
theorem dX7_fitsAt_56 : decode cX7_fitsAt 56 = .ok (.bipush 48, 2) := by decide +kernel
theorem dX7_fitsAt_58 : decode cX7_fitsAt 58 = .ok (.bipush 55, 2) := by decide +kernel
theorem dX7_fitsAt_60 : decode cX7_fitsAt 60 = .ok (.invokestatic 75, 3) := by decide +kernel
theorem dX7_fitsAt_63 : decode cX7_fitsAt 63 = .ok (.ireturn, 1) := by decide +kernel
theorem dX7_fitsAt_64 : decode cX7_fitsAt 64 = .ok (.iload_n 3, 1) := by decide +kernel
theorem dX7_fitsAt_65 : decode cX7_fitsAt 65 = .ok (.aload_n 0, 1) := by decide +kernel
theorem dX7_fitsAt_66 : decode cX7_fitsAt 66 = .ok (.getfield 92, 3) := by decide +kernel
theorem dX7_fitsAt_69 : decode cX7_fitsAt 69 = .ok (.invokestatic 86, 3) := by decide +kernel
theorem dX7_fitsAt_72 : decode cX7_fitsAt 72 = .ok (.if_icmp .ge 21, 3) := by decide +kernel
theorem dX7_fitsAt_75 : decode cX7_fitsAt 75 = .ok (.aload_n 0, 1) := by decide +kernel
theorem dX7_fitsAt_76 : decode cX7_fitsAt 76 = .ok (.getfield 92, 3) := by decide +kernel
theorem dX7_fitsAt_79 : decode cX7_fitsAt 79 = .ok (.iload_n 2, 1) := by decide +kernel
theorem dX7_fitsAt_80 : decode cX7_fitsAt 80 = .ok (.invokestatic 95, 3) := by decide +kernel
theorem dX7_fitsAt_83 : decode cX7_fitsAt 83 = .ok (.iconst (-1), 1) := by decide +kernel
theorem dX7_fitsAt_84 : decode cX7_fitsAt 84 = .ok (.if_icmp .eq 7, 3) := by decide +kernel
theorem dX7_fitsAt_87 : decode cX7_fitsAt 87 = .ok (.iconst 1, 1) := by decide +kernel
theorem dX7_fitsAt_88 : decode cX7_fitsAt 88 = .ok (.goto 4, 3) := by decide +kernel
theorem dX7_fitsAt_91 : decode cX7_fitsAt 91 = .ok (.iconst 0, 1) := by decide +kernel
theorem dX7_fitsAt_92 : decode cX7_fitsAt 92 = .ok (.ireturn, 1) := by decide +kernel
theorem dX7_fitsAt_93 : decode cX7_fitsAt 93 = .ok (.iload_n 3, 1) := by decide +kernel
theorem dX7_fitsAt_94 : decode cX7_fitsAt 94 = .ok (.aload_n 0, 1) := by decide +kernel
theorem dX7_fitsAt_95 : decode cX7_fitsAt 95 = .ok (.getfield 92, 3) := by decide +kernel
theorem dX7_fitsAt_98 : decode cX7_fitsAt 98 = .ok (.invokestatic 86, 3) := by decide +kernel
theorem dX7_fitsAt_101 : decode cX7_fitsAt 101 = .ok (.iconst 4, 1) := by decide +kernel
theorem dX7_fitsAt_102 : decode cX7_fitsAt 102 = .ok (.iadd, 1) := by decide +kernel
theorem dX7_fitsAt_103 : decode cX7_fitsAt 103 = .ok (.if_icmp .ge 18, 3) := by decide +kernel
theorem dX7_fitsAt_106 : decode cX7_fitsAt 106 = .ok (.iload_n 2, 1) := by decide +kernel
theorem dX7_fitsAt_107 : decode cX7_fitsAt 107 = .ok (.bipush 48, 2) := by decide +kernel
theorem dX7_fitsAt_109 : decode cX7_fitsAt 109 = .ok (.bipush 57, 2) := by decide +kernel
theorem dX7_fitsAt_111 : decode cX7_fitsAt 111 = .ok (.invokestatic 75, 3) := by decide +kernel
theorem dX7_fitsAt_114 : decode cX7_fitsAt 114 = .ok (.ifCond .eq 7, 3) := by decide +kernel
theorem dX7_fitsAt_117 : decode cX7_fitsAt 117 = .ok (.iconst 1, 1) := by decide +kernel
theorem dX7_fitsAt_118 : decode cX7_fitsAt 118 = .ok (.goto 4, 3) := by decide +kernel
theorem dX7_fitsAt_121 : decode cX7_fitsAt 121 = .ok (.iconst 0, 1) := by decide +kernel
theorem dX7_fitsAt_122 : decode cX7_fitsAt 122 = .ok (.ireturn, 1) := by decide +kernel
theorem dX7_read_0 : decode cX7_read 0 = .ok (.iconst 0, 1) := by decide +kernel
theorem dX7_read_1 : decode cX7_read 1 = .ok (.istore_n 1, 1) := by decide +kernel
theorem dX7_read_2 : decode cX7_read 2 = .ok (.iload_n 1, 1) := by decide +kernel
theorem dX7_read_3 : decode cX7_read 3 = .ok (.aload_n 0, 1) := by decide +kernel
theorem dX7_read_4 : decode cX7_read 4 = .ok (.getfield 79, 3) := by decide +kernel
theorem dX7_read_7 : decode cX7_read 7 = .ok (.if_icmp .ge 23, 3) := by decide +kernel
theorem dX7_read_10 : decode cX7_read 10 = .ok (.aload_n 0, 1) := by decide +kernel
theorem dX7_read_11 : decode cX7_read 11 = .ok (.iload_n 1, 1) := by decide +kernel
theorem dX7_read_12 : decode cX7_read 12 = .ok (.aload_n 0, 1) := by decide +kernel
theorem dX7_read_13 : decode cX7_read 13 = .ok (.getfield 29, 3) := by decide +kernel
theorem dX7_read_16 : decode cX7_read 16 = .ok (.iload_n 1, 1) := by decide +kernel
theorem dX7_read_17 : decode cX7_read 17 = .ok (.iaload, 1) := by decide +kernel
theorem dX7_read_18 : decode cX7_read 18 = .ok (.invokevirtual 99, 3) := by decide +kernel
theorem dX7_read_21 : decode cX7_read 21 = .ok (.ifCond .eq 9, 3) := by decide +kernel
theorem dX7_read_24 : decode cX7_read 24 = .ok (.iinc 1 1, 3) := by decide +kernel
theorem dX7_read_27 : decode cX7_read 27 = .ok (.goto (-25), 3) := by decide +kernel
theorem dX7_read_30 : decode cX7_read 30 = .ok (.iload_n 1, 1) := by decide +kernel
theorem dX7_read_31 : decode cX7_read 31 = .ok (.ireturn, 1) := by decide +kernel
theorem dX7_fault_0 : decode cX7_fault 0 = .ok (.aload_n 0, 1) := by decide +kernel
theorem dX7_fault_1 : decode cX7_fault 1 = .ok (.invokevirtual 103, 3) := by decide +kernel
theorem dX7_fault_4 : decode cX7_fault 4 = .ok (.ireturn, 1) := by decide +kernel
theorem dX7_layCode_0 : decode cX7_layCode 0 = .ok (.iconst 1, 1) := by decide +kernel
theorem dX7_layCode_1 : decode cX7_layCode 1 = .ok (.aload_n 0, 1) := by decide +kernel
theorem dX7_layCode_2 : decode cX7_layCode 2 = .ok (.getfield 92, 3) := by decide +kernel
theorem dX7_layCode_5 : decode cX7_layCode 5 = .ok (.invokestatic 82, 3) := by decide +kernel
theorem dX7_layCode_8 : decode cX7_layCode 8 = .ok (.iadd, 1) := by decide +kernel
theorem dX7_layCode_9 : decode cX7_layCode 9 = .ok (.istore_n 2, 1) := by decide +kernel
theorem dX7_layCode_10 : decode cX7_layCode 10 = .ok (.aload_n 0, 1) := by decide +kernel
theorem dX7_layCode_11 : decode cX7_layCode 11 = .ok (.getfield 7, 3) := by decide +kernel
theorem dX7_layCode_14 : decode cX7_layCode 14 = .ok (.iload_n 1, 1) := by decide +kernel
theorem dX7_layCode_15 : decode cX7_layCode 15 = .ok (.aload_n 0, 1) := by decide +kernel
theorem dX7_layCode_16 : decode cX7_layCode 16 = .ok (.getfield 92, 3) := by decide +kernel
theorem dX7_layCode_19 : decode cX7_layCode 19 = .ok (.iastore, 1) := by decide +kernel
theorem dX7_layCode_20 : decode cX7_layCode 20 = .ok (.aload_n 0, 1) := by decide +kernel
theorem dX7_layCode_21 : decode cX7_layCode 21 = .ok (.getfield 13, 3) := by decide +kernel
theorem dX7_layCode_24 : decode cX7_layCode 24 = .ok (.iload_n 1, 1) := by decide +kernel
theorem dX7_layCode_25 : decode cX7_layCode 25 = .ok (.iload_n 2, 1) := by decide +kernel
theorem dX7_layCode_26 : decode cX7_layCode 26 = .ok (.iconst 2, 1) := by decide +kernel
theorem dX7_layCode_27 : decode cX7_layCode 27 = .ok (.if_icmp .ne 15, 3) := by decide +kernel
theorem dX7_layCode_30 : decode cX7_layCode 30 = .ok (.aload_n 0, 1) := by decide +kernel
theorem dX7_layCode_31 : decode cX7_layCode 31 = .ok (.getfield 29, 3) := by decide +kernel
theorem dX7_layCode_34 : decode cX7_layCode 34 = .ok (.iconst 1, 1) := by decide +kernel
theorem dX7_layCode_35 : decode cX7_layCode 35 = .ok (.iaload, 1) := by decide +kernel
theorem dX7_layCode_36 : decode cX7_layCode 36 = .ok (.bipush 48, 2) := by decide +kernel
theorem dX7_layCode_38 : decode cX7_layCode 38 = .ok (.isub, 1) := by decide +kernel
theorem dX7_layCode_39 : decode cX7_layCode 39 = .ok (.goto 4, 3) := by decide +kernel
theorem dX7_layCode_42 : decode cX7_layCode 42 = .ok (.iconst 0, 1) := by decide +kernel
theorem dX7_layCode_43 : decode cX7_layCode 43 = .ok (.iastore, 1) := by decide +kernel
theorem dX7_layCode_44 : decode cX7_layCode 44 = .ok (.iconst 0, 1) := by decide +kernel
theorem dX7_layCode_45 : decode cX7_layCode 45 = .ok (.istore_n 3, 1) := by decide +kernel
theorem dX7_layCode_46 : decode cX7_layCode 46 = .ok (.iload_n 3, 1) := by decide +kernel
theorem dX7_layCode_47 : decode cX7_layCode 47 = .ok (.bipush 16, 2) := by decide +kernel
theorem dX7_layCode_49 : decode cX7_layCode 49 = .ok (.if_icmp .ge 50, 3) := by decide +kernel
theorem dX7_layCode_52 : decode cX7_layCode 52 = .ok (.aload_n 0, 1) := by decide +kernel
theorem dX7_layCode_53 : decode cX7_layCode 53 = .ok (.getfield 16, 3) := by decide +kernel
theorem dX7_layCode_56 : decode cX7_layCode 56 = .ok (.bipush 16, 2) := by decide +kernel
theorem dX7_layCode_58 : decode cX7_layCode 58 = .ok (.iload_n 1, 1) := by decide +kernel
theorem dX7_layCode_59 : decode cX7_layCode 59 = .ok (.imul, 1) := by decide +kernel
theorem dX7_layCode_60 : decode cX7_layCode 60 = .ok (.iload_n 3, 1) := by decide +kernel
theorem dX7_layCode_61 : decode cX7_layCode 61 = .ok (.iadd, 1) := by decide +kernel
theorem dX7_layCode_62 : decode cX7_layCode 62 = .ok (.iload_n 3, 1) := by decide +kernel
theorem dX7_layCode_63 : decode cX7_layCode 63 = .ok (.aload_n 0, 1) := by decide +kernel
theorem dX7_layCode_64 : decode cX7_layCode 64 = .ok (.getfield 92, 3) := by decide +kernel
theorem dX7_layCode_67 : decode cX7_layCode 67 = .ok (.invokestatic 86, 3) := by decide +kernel
theorem dX7_layCode_70 : decode cX7_layCode 70 = .ok (.if_icmp .ge 21, 3) := by decide +kernel
theorem dX7_layCode_73 : decode cX7_layCode 73 = .ok (.aload_n 0, 1) := by decide +kernel
theorem dX7_layCode_74 : decode cX7_layCode 74 = .ok (.getfield 92, 3) := by decide +kernel
theorem dX7_layCode_77 : decode cX7_layCode 77 = .ok (.aload_n 0, 1) := by decide +kernel
theorem dX7_layCode_78 : decode cX7_layCode 78 = .ok (.getfield 29, 3) := by decide +kernel
theorem dX7_layCode_81 : decode cX7_layCode 81 = .ok (.iload_n 2, 1) := by decide +kernel
theorem dX7_layCode_82 : decode cX7_layCode 82 = .ok (.iload_n 3, 1) := by decide +kernel
theorem dX7_layCode_83 : decode cX7_layCode 83 = .ok (.iadd, 1) := by decide +kernel
theorem dX7_layCode_84 : decode cX7_layCode 84 = .ok (.iaload, 1) := by decide +kernel
theorem dX7_layCode_85 : decode cX7_layCode 85 = .ok (.invokestatic 95, 3) := by decide +kernel
theorem dX7_layCode_88 : decode cX7_layCode 88 = .ok (.goto 4, 3) := by decide +kernel
theorem dX7_layCode_91 : decode cX7_layCode 91 = .ok (.iconst 0, 1) := by decide +kernel
theorem dX7_layCode_92 : decode cX7_layCode 92 = .ok (.iastore, 1) := by decide +kernel
theorem dX7_layCode_93 : decode cX7_layCode 93 = .ok (.iinc 3 1, 3) := by decide +kernel
theorem dX7_layCode_96 : decode cX7_layCode 96 = .ok (.goto (-50), 3) := by decide +kernel
theorem dX7_layCode_99 : decode cX7_layCode 99 = .ok (.iconst 0, 1) := by decide +kernel
theorem dX7_layCode_100 : decode cX7_layCode 100 = .ok (.istore_n 3, 1) := by decide +kernel
theorem dX7_layCode_101 : decode cX7_layCode 101 = .ok (.iload_n 3, 1) := by decide +kernel
theorem dX7_layCode_102 : decode cX7_layCode 102 = .ok (.iconst 4, 1) := by decide +kernel
theorem dX7_layCode_103 : decode cX7_layCode 103 = .ok (.if_icmp .ge 38, 3) := by decide +kernel
theorem dX7_layCode_106 : decode cX7_layCode 106 = .ok (.aload_n 0, 1) := by decide +kernel
theorem dX7_layCode_107 : decode cX7_layCode 107 = .ok (.getfield 19, 3) := by decide +kernel
theorem dX7_layCode_110 : decode cX7_layCode 110 = .ok (.iconst 4, 1) := by decide +kernel
theorem dX7_layCode_111 : decode cX7_layCode 111 = .ok (.iload_n 1, 1) := by decide +kernel
theorem dX7_layCode_112 : decode cX7_layCode 112 = .ok (.imul, 1) := by decide +kernel
theorem dX7_layCode_113 : decode cX7_layCode 113 = .ok (.iload_n 3, 1) := by decide +kernel
theorem dX7_layCode_114 : decode cX7_layCode 114 = .ok (.iadd, 1) := by decide +kernel
theorem dX7_layCode_115 : decode cX7_layCode 115 = .ok (.aload_n 0, 1) := by decide +kernel
theorem dX7_layCode_116 : decode cX7_layCode 116 = .ok (.getfield 29, 3) := by decide +kernel
theorem dX7_layCode_119 : decode cX7_layCode 119 = .ok (.iload_n 2, 1) := by decide +kernel
theorem dX7_layCode_120 : decode cX7_layCode 120 = .ok (.aload_n 0, 1) := by decide +kernel
theorem dX7_layCode_121 : decode cX7_layCode 121 = .ok (.getfield 92, 3) := by decide +kernel
theorem dX7_layCode_124 : decode cX7_layCode 124 = .ok (.invokestatic 86, 3) := by decide +kernel
theorem dX7_layCode_127 : decode cX7_layCode 127 = .ok (.iadd, 1) := by decide +kernel
theorem dX7_layCode_128 : decode cX7_layCode 128 = .ok (.iload_n 3, 1) := by decide +kernel
theorem dX7_layCode_129 : decode cX7_layCode 129 = .ok (.iadd, 1) := by decide +kernel
theorem dX7_layCode_130 : decode cX7_layCode 130 = .ok (.iaload, 1) := by decide +kernel
theorem dX7_layCode_131 : decode cX7_layCode 131 = .ok (.bipush 48, 2) := by decide +kernel
theorem dX7_layCode_133 : decode cX7_layCode 133 = .ok (.isub, 1) := by decide +kernel
theorem dX7_layCode_134 : decode cX7_layCode 134 = .ok (.iastore, 1) := by decide +kernel
theorem dX7_layCode_135 : decode cX7_layCode 135 = .ok (.iinc 3 1, 3) := by decide +kernel
theorem dX7_layCode_138 : decode cX7_layCode 138 = .ok (.goto (-37), 3) := by decide +kernel
theorem dX7_layCode_141 : decode cX7_layCode 141 = .ok (.return_, 1) := by decide +kernel
theorem dX7_code_0 : decode cX7_code 0 = .ok (.aload_n 0, 1) := by decide +kernel
theorem dX7_code_1 : decode cX7_code 1 = .ok (.invokevirtual 103, 3) := by decide +kernel
theorem dX7_code_4 : decode cX7_code 4 = .ok (.aload_n 0, 1) := by decide +kernel
theorem dX7_code_5 : decode cX7_code 5 = .ok (.getfield 79, 3) := by decide +kernel
theorem dX7_code_8 : decode cX7_code 8 = .ok (.if_icmp .lt 24, 3) := by decide +kernel
theorem dX7_code_11 : decode cX7_code 11 = .ok (.aload_n 0, 1) := by decide +kernel
theorem dX7_code_12 : decode cX7_code 12 = .ok (.getfield 79, 3) := by decide +kernel
theorem dX7_code_15 : decode cX7_code 15 = .ok (.ifCond .eq 17, 3) := by decide +kernel
theorem dX7_code_18 : decode cX7_code 18 = .ok (.aload_n 0, 1) := by decide +kernel
theorem dX7_code_19 : decode cX7_code 19 = .ok (.getfield 79, 3) := by decide +kernel
theorem dX7_code_22 : decode cX7_code 22 = .ok (.aload_n 0, 1) := by decide +kernel
theorem dX7_code_23 : decode cX7_code 23 = .ok (.getfield 92, 3) := by decide +kernel
theorem dX7_code_26 : decode cX7_code 26 = .ok (.invokestatic 107, 3) := by decide +kernel
theorem dX7_code_29 : decode cX7_code 29 = .ok (.if_icmp .ge 6, 3) := by decide +kernel
theorem dX7_code_32 : decode cX7_code 32 = .ok (.bipush (-103), 2) := by decide +kernel
theorem dX7_code_34 : decode cX7_code 34 = .ok (.ireturn, 1) := by decide +kernel
theorem dX7_code_35 : decode cX7_code 35 = .ok (.aload_n 0, 1) := by decide +kernel
theorem dX7_code_36 : decode cX7_code 36 = .ok (.getfield 110, 3) := by decide +kernel
theorem dX7_code_39 : decode cX7_code 39 = .ok (.iconst 4, 1) := by decide +kernel
theorem dX7_code_40 : decode cX7_code 40 = .ok (.if_icmp .ne 6, 3) := by decide +kernel
theorem dX7_code_43 : decode cX7_code 43 = .ok (.bipush (-104), 2) := by decide +kernel
theorem dX7_code_45 : decode cX7_code 45 = .ok (.ireturn, 1) := by decide +kernel
theorem dX7_code_46 : decode cX7_code 46 = .ok (.aload_n 0, 1) := by decide +kernel
theorem dX7_code_47 : decode cX7_code 47 = .ok (.aload_n 0, 1) := by decide +kernel
theorem dX7_code_48 : decode cX7_code 48 = .ok (.getfield 110, 3) := by decide +kernel
theorem dX7_code_51 : decode cX7_code 51 = .ok (.invokevirtual 113, 3) := by decide +kernel
theorem dX7_code_54 : decode cX7_code 54 = .ok (.aload_n 0, 1) := by decide +kernel
theorem dX7_code_55 : decode cX7_code 55 = .ok (.dup, 1) := by decide +kernel
theorem dX7_code_56 : decode cX7_code 56 = .ok (.getfield 110, 3) := by decide +kernel
theorem dX7_code_59 : decode cX7_code 59 = .ok (.iconst 1, 1) := by decide +kernel
theorem dX7_code_60 : decode cX7_code 60 = .ok (.iadd, 1) := by decide +kernel
theorem dX7_code_61 : decode cX7_code 61 = .ok (.putfield 110, 3) := by decide +kernel
theorem dX7_code_64 : decode cX7_code 64 = .ok (.aload_n 0, 1) := by decide +kernel
theorem dX7_code_65 : decode cX7_code 65 = .ok (.dup, 1) := by decide +kernel
theorem dX7_code_66 : decode cX7_code 66 = .ok (.getfield 117, 3) := by decide +kernel
theorem dX7_code_69 : decode cX7_code 69 = .ok (.iconst 1, 1) := by decide +kernel
theorem dX7_code_70 : decode cX7_code 70 = .ok (.iadd, 1) := by decide +kernel
theorem dX7_code_71 : decode cX7_code 71 = .ok (.putfield 117, 3) := by decide +kernel
theorem dX7_code_74 : decode cX7_code 74 = .ok (.aload_n 0, 1) := by decide +kernel
theorem dX7_code_75 : decode cX7_code 75 = .ok (.iconst 0, 1) := by decide +kernel
theorem dX7_code_76 : decode cX7_code 76 = .ok (.putfield 79, 3) := by decide +kernel
theorem dX7_code_79 : decode cX7_code 79 = .ok (.aload_n 0, 1) := by decide +kernel
theorem dX7_code_80 : decode cX7_code 80 = .ok (.getfield 110, 3) := by decide +kernel
theorem dX7_code_83 : decode cX7_code 83 = .ok (.iconst 1, 1) := by decide +kernel
theorem dX7_code_84 : decode cX7_code 84 = .ok (.isub, 1) := by decide +kernel
theorem dX7_code_85 : decode cX7_code 85 = .ok (.ireturn, 1) := by decide +kernel
theorem dX7_drop_0 : decode cX7_drop 0 = .ok (.aload_n 0, 1) := by decide +kernel
theorem dX7_drop_1 : decode cX7_drop 1 = .ok (.getfield 110, 3) := by decide +kernel
theorem dX7_drop_4 : decode cX7_drop 4 = .ok (.ifCond .ne 6, 3) := by decide +kernel
theorem dX7_drop_7 : decode cX7_drop 7 = .ok (.bipush (-103), 2) := by decide +kernel
theorem dX7_drop_9 : decode cX7_drop 9 = .ok (.ireturn, 1) := by decide +kernel
theorem dX7_drop_10 : decode cX7_drop 10 = .ok (.aload_n 0, 1) := by decide +kernel
theorem dX7_drop_11 : decode cX7_drop 11 = .ok (.dup, 1) := by decide +kernel
theorem dX7_drop_12 : decode cX7_drop 12 = .ok (.getfield 110, 3) := by decide +kernel
theorem dX7_drop_15 : decode cX7_drop 15 = .ok (.iconst 1, 1) := by decide +kernel
theorem dX7_drop_16 : decode cX7_drop 16 = .ok (.isub, 1) := by decide +kernel
theorem dX7_drop_17 : decode cX7_drop 17 = .ok (.putfield 110, 3) := by decide +kernel
theorem dX7_drop_20 : decode cX7_drop 20 = .ok (.aload_n 0, 1) := by decide +kernel
theorem dX7_drop_21 : decode cX7_drop 21 = .ok (.getfield 110, 3) := by decide +kernel
theorem dX7_drop_24 : decode cX7_drop 24 = .ok (.ireturn, 1) := by decide +kernel
theorem dX7_letterOf_0 : decode cX7_letterOf 0 = .ok (.iload_n 0, 1) := by decide +kernel
theorem dX7_letterOf_1 : decode cX7_letterOf 1 = .ok (.ifCond .ne 8, 3) := by decide +kernel
theorem dX7_letterOf_4 : decode cX7_letterOf 4 = .ok (.bipush 102, 2) := by decide +kernel
theorem dX7_letterOf_6 : decode cX7_letterOf 6 = .ok (.goto 25, 3) := by decide +kernel
theorem dX7_letterOf_9 : decode cX7_letterOf 9 = .ok (.iload_n 0, 1) := by decide +kernel
theorem dX7_letterOf_10 : decode cX7_letterOf 10 = .ok (.iconst 1, 1) := by decide +kernel
theorem dX7_letterOf_11 : decode cX7_letterOf 11 = .ok (.if_icmp .ne 8, 3) := by decide +kernel
theorem dX7_letterOf_14 : decode cX7_letterOf 14 = .ok (.bipush 112, 2) := by decide +kernel
theorem dX7_letterOf_16 : decode cX7_letterOf 16 = .ok (.goto 15, 3) := by decide +kernel
theorem dX7_letterOf_19 : decode cX7_letterOf 19 = .ok (.iload_n 0, 1) := by decide +kernel
theorem dX7_letterOf_20 : decode cX7_letterOf 20 = .ok (.iconst 2, 1) := by decide +kernel
theorem dX7_letterOf_21 : decode cX7_letterOf 21 = .ok (.if_icmp .ne 8, 3) := by decide +kernel
theorem dX7_letterOf_24 : decode cX7_letterOf 24 = .ok (.bipush 99, 2) := by decide +kernel
theorem dX7_letterOf_26 : decode cX7_letterOf 26 = .ok (.goto 5, 3) := by decide +kernel
theorem dX7_letterOf_29 : decode cX7_letterOf 29 = .ok (.bipush 116, 2) := by decide +kernel
theorem dX7_letterOf_31 : decode cX7_letterOf 31 = .ok (.ireturn, 1) := by decide +kernel
theorem dX7_inkNow_0 : decode cX7_inkNow 0 = .ok (.iload_n 2, 1) := by decide +kernel
theorem dX7_inkNow_1 : decode cX7_inkNow 1 = .ok (.ifCond .ne 13, 3) := by decide +kernel
theorem dX7_inkNow_4 : decode cX7_inkNow 4 = .ok (.aload_n 0, 1) := by decide +kernel
theorem dX7_inkNow_5 : decode cX7_inkNow 5 = .ok (.getfield 7, 3) := by decide +kernel
theorem dX7_inkNow_8 : decode cX7_inkNow 8 = .ok (.iload_n 1, 1) := by decide +kernel
theorem dX7_inkNow_9 : decode cX7_inkNow 9 = .ok (.iaload, 1) := by decide +kernel
theorem dX7_inkNow_10 : decode cX7_inkNow 10 = .ok (.invokestatic 120, 3) := by decide +kernel
theorem dX7_inkNow_13 : decode cX7_inkNow 13 = .ok (.ireturn, 1) := by decide +kernel
theorem dX7_inkNow_14 : decode cX7_inkNow 14 = .ok (.iload_n 2, 1) := by decide +kernel
theorem dX7_inkNow_15 : decode cX7_inkNow 15 = .ok (.iconst 1, 1) := by decide +kernel
theorem dX7_inkNow_16 : decode cX7_inkNow 16 = .ok (.isub, 1) := by decide +kernel
theorem dX7_inkNow_17 : decode cX7_inkNow 17 = .ok (.aload_n 0, 1) := by decide +kernel
theorem dX7_inkNow_18 : decode cX7_inkNow 18 = .ok (.getfield 7, 3) := by decide +kernel
theorem dX7_inkNow_21 : decode cX7_inkNow 21 = .ok (.iload_n 1, 1) := by decide +kernel
theorem dX7_inkNow_22 : decode cX7_inkNow 22 = .ok (.iaload, 1) := by decide +kernel
theorem dX7_inkNow_23 : decode cX7_inkNow 23 = .ok (.invokestatic 82, 3) := by decide +kernel
theorem dX7_inkNow_26 : decode cX7_inkNow 26 = .ok (.isub, 1) := by decide +kernel
theorem dX7_inkNow_27 : decode cX7_inkNow 27 = .ok (.istore_n 3, 1) := by decide +kernel
theorem dX7_inkNow_28 : decode cX7_inkNow 28 = .ok (.iload_n 3, 1) := by decide +kernel
theorem dX7_inkNow_29 : decode cX7_inkNow 29 = .ok (.ifCond .ge 13, 3) := by decide +kernel
theorem dX7_inkNow_32 : decode cX7_inkNow 32 = .ok (.bipush 48, 2) := by decide +kernel
theorem dX7_inkNow_34 : decode cX7_inkNow 34 = .ok (.aload_n 0, 1) := by decide +kernel
theorem dX7_inkNow_35 : decode cX7_inkNow 35 = .ok (.getfield 13, 3) := by decide +kernel
theorem dX7_inkNow_38 : decode cX7_inkNow 38 = .ok (.iload_n 1, 1) := by decide +kernel
theorem dX7_inkNow_39 : decode cX7_inkNow 39 = .ok (.iaload, 1) := by decide +kernel
theorem dX7_inkNow_40 : decode cX7_inkNow 40 = .ok (.iadd, 1) := by decide +kernel
theorem dX7_inkNow_41 : decode cX7_inkNow 41 = .ok (.ireturn, 1) := by decide +kernel
theorem dX7_inkNow_42 : decode cX7_inkNow 42 = .ok (.aload_n 0, 1) := by decide +kernel
theorem dX7_inkNow_43 : decode cX7_inkNow 43 = .ok (.getfield 7, 3) := by decide +kernel
theorem dX7_inkNow_46 : decode cX7_inkNow 46 = .ok (.iload_n 1, 1) := by decide +kernel
theorem dX7_inkNow_47 : decode cX7_inkNow 47 = .ok (.iaload, 1) := by decide +kernel
theorem dX7_inkNow_48 : decode cX7_inkNow 48 = .ok (.invokestatic 86, 3) := by decide +kernel
theorem dX7_inkNow_51 : decode cX7_inkNow 51 = .ok (.istore 4, 2) := by decide +kernel
theorem dX7_inkNow_53 : decode cX7_inkNow 53 = .ok (.iload_n 3, 1) := by decide +kernel
theorem dX7_inkNow_54 : decode cX7_inkNow 54 = .ok (.iload 4, 2) := by decide +kernel
theorem dX7_inkNow_56 : decode cX7_inkNow 56 = .ok (.if_icmp .ge 20, 3) := by decide +kernel
theorem dX7_inkNow_59 : decode cX7_inkNow 59 = .ok (.aload_n 0, 1) := by decide +kernel
theorem dX7_inkNow_60 : decode cX7_inkNow 60 = .ok (.getfield 16, 3) := by decide +kernel
theorem dX7_inkNow_63 : decode cX7_inkNow 63 = .ok (.bipush 16, 2) := by decide +kernel
theorem dX7_inkNow_65 : decode cX7_inkNow 65 = .ok (.iload_n 1, 1) := by decide +kernel
theorem dX7_inkNow_66 : decode cX7_inkNow 66 = .ok (.imul, 1) := by decide +kernel
theorem dX7_inkNow_67 : decode cX7_inkNow 67 = .ok (.iload_n 3, 1) := by decide +kernel
theorem dX7_inkNow_68 : decode cX7_inkNow 68 = .ok (.iadd, 1) := by decide +kernel
theorem dX7_inkNow_69 : decode cX7_inkNow 69 = .ok (.iaload, 1) := by decide +kernel
theorem dX7_inkNow_70 : decode cX7_inkNow 70 = .ok (.invokestatic 123, 3) := by decide +kernel
theorem dX7_inkNow_73 : decode cX7_inkNow 73 = .ok (.goto 19, 3) := by decide +kernel
theorem dX7_inkNow_76 : decode cX7_inkNow 76 = .ok (.bipush 48, 2) := by decide +kernel
theorem dX7_inkNow_78 : decode cX7_inkNow 78 = .ok (.aload_n 0, 1) := by decide +kernel
theorem dX7_inkNow_79 : decode cX7_inkNow 79 = .ok (.getfield 19, 3) := by decide +kernel
theorem dX7_inkNow_82 : decode cX7_inkNow 82 = .ok (.iconst 4, 1) := by decide +kernel
theorem dX7_inkNow_83 : decode cX7_inkNow 83 = .ok (.iload_n 1, 1) := by decide +kernel
theorem dX7_inkNow_84 : decode cX7_inkNow 84 = .ok (.imul, 1) := by decide +kernel
theorem dX7_inkNow_85 : decode cX7_inkNow 85 = .ok (.iload_n 3, 1) := by decide +kernel
theorem dX7_inkNow_86 : decode cX7_inkNow 86 = .ok (.iadd, 1) := by decide +kernel
theorem dX7_inkNow_87 : decode cX7_inkNow 87 = .ok (.iload 4, 2) := by decide +kernel
theorem dX7_inkNow_89 : decode cX7_inkNow 89 = .ok (.isub, 1) := by decide +kernel
theorem dX7_inkNow_90 : decode cX7_inkNow 90 = .ok (.iaload, 1) := by decide +kernel
theorem dX7_inkNow_91 : decode cX7_inkNow 91 = .ok (.iadd, 1) := by decide +kernel
theorem dX7_inkNow_92 : decode cX7_inkNow 92 = .ok (.ireturn, 1) := by decide +kernel
theorem dX7_isCode_0 : decode cX7_isCode 0 = .ok (.iload_n 1, 1) := by decide +kernel
theorem dX7_isCode_1 : decode cX7_isCode 1 = .ok (.iconst 0, 1) := by decide +kernel
theorem dX7_isCode_2 : decode cX7_isCode 2 = .ok (.aload_n 0, 1) := by decide +kernel
theorem dX7_isCode_3 : decode cX7_isCode 3 = .ok (.getfield 110, 3) := by decide +kernel
theorem dX7_isCode_6 : decode cX7_isCode 6 = .ok (.iconst 1, 1) := by decide +kernel
theorem dX7_isCode_7 : decode cX7_isCode 7 = .ok (.isub, 1) := by decide +kernel
theorem dX7_isCode_8 : decode cX7_isCode 8 = .ok (.invokestatic 75, 3) := by decide +kernel
theorem dX7_isCode_11 : decode cX7_isCode 11 = .ok (.ireturn, 1) := by decide +kernel
theorem dX7_ink_0 : decode cX7_ink 0 = .ok (.aload_n 0, 1) := by decide +kernel
theorem dX7_ink_1 : decode cX7_ink 1 = .ok (.iload_n 1, 1) := by decide +kernel
theorem dX7_ink_2 : decode cX7_ink 2 = .ok (.invokevirtual 126, 3) := by decide +kernel
theorem dX7_ink_5 : decode cX7_ink 5 = .ok (.ifCond .eq 31, 3) := by decide +kernel
theorem dX7_ink_8 : decode cX7_ink 8 = .ok (.iload_n 2, 1) := by decide +kernel
theorem dX7_ink_9 : decode cX7_ink 9 = .ok (.iconst 0, 1) := by decide +kernel
theorem dX7_ink_10 : decode cX7_ink 10 = .ok (.aload_n 0, 1) := by decide +kernel
theorem dX7_ink_11 : decode cX7_ink 11 = .ok (.getfield 7, 3) := by decide +kernel
theorem dX7_ink_14 : decode cX7_ink 14 = .ok (.iload_n 1, 1) := by decide +kernel
theorem dX7_ink_15 : decode cX7_ink 15 = .ok (.iaload, 1) := by decide +kernel
theorem dX7_ink_16 : decode cX7_ink 16 = .ok (.invokestatic 107, 3) := by decide +kernel
theorem dX7_ink_19 : decode cX7_ink 19 = .ok (.iconst 1, 1) := by decide +kernel
theorem dX7_ink_20 : decode cX7_ink 20 = .ok (.isub, 1) := by decide +kernel
theorem dX7_ink_21 : decode cX7_ink 21 = .ok (.invokestatic 75, 3) := by decide +kernel
theorem dX7_ink_24 : decode cX7_ink 24 = .ok (.ifCond .eq 12, 3) := by decide +kernel
theorem dX7_ink_27 : decode cX7_ink 27 = .ok (.aload_n 0, 1) := by decide +kernel
theorem dX7_ink_28 : decode cX7_ink 28 = .ok (.iload_n 1, 1) := by decide +kernel
theorem dX7_ink_29 : decode cX7_ink 29 = .ok (.iload_n 2, 1) := by decide +kernel
theorem dX7_ink_30 : decode cX7_ink 30 = .ok (.invokevirtual 130, 3) := by decide +kernel
theorem dX7_ink_33 : decode cX7_ink 33 = .ok (.goto 5, 3) := by decide +kernel
theorem dX7_ink_36 : decode cX7_ink 36 = .ok (.bipush (-101), 2) := by decide +kernel
theorem dX7_ink_38 : decode cX7_ink 38 = .ok (.ireturn, 1) := by decide +kernel
theorem dX7_open_0 : decode cX7_open 0 = .ok (.iload_n 1, 1) := by decide +kernel
theorem dX7_open_1 : decode cX7_open 1 = .ok (.iconst 1, 1) := by decide +kernel
theorem dX7_open_2 : decode cX7_open 2 = .ok (.bipush 40, 2) := by decide +kernel
theorem dX7_open_4 : decode cX7_open 4 = .ok (.invokestatic 75, 3) := by decide +kernel
theorem dX7_open_7 : decode cX7_open 7 = .ok (.ifCond .ne 6, 3) := by decide +kernel
theorem dX7_open_10 : decode cX7_open 10 = .ok (.bipush (-102), 2) := by decide +kernel
theorem dX7_open_12 : decode cX7_open 12 = .ok (.ireturn, 1) := by decide +kernel
theorem dX7_open_13 : decode cX7_open 13 = .ok (.aload_n 0, 1) := by decide +kernel
theorem dX7_open_14 : decode cX7_open 14 = .ok (.getfield 133, 3) := by decide +kernel
theorem dX7_open_17 : decode cX7_open 17 = .ok (.istore_n 2, 1) := by decide +kernel
theorem dX7_open_18 : decode cX7_open 18 = .ok (.aload_n 0, 1) := by decide +kernel
theorem dX7_open_19 : decode cX7_open 19 = .ok (.iload_n 1, 1) := by decide +kernel
theorem dX7_open_20 : decode cX7_open 20 = .ok (.putfield 22, 3) := by decide +kernel
theorem dX7_open_23 : decode cX7_open 23 = .ok (.aload_n 0, 1) := by decide +kernel
theorem dX7_open_24 : decode cX7_open 24 = .ok (.iconst 0, 1) := by decide +kernel
theorem dX7_open_25 : decode cX7_open 25 = .ok (.putfield 133, 3) := by decide +kernel
theorem dX7_open_28 : decode cX7_open 28 = .ok (.iload_n 2, 1) := by decide +kernel
theorem dX7_open_29 : decode cX7_open 29 = .ok (.ireturn, 1) := by decide +kernel
theorem dX7_comes_0 : decode cX7_comes 0 = .ok (.aload_n 0, 1) := by decide +kernel
theorem dX7_comes_1 : decode cX7_comes 1 = .ok (.getfield 26, 3) := by decide +kernel
theorem dX7_comes_4 : decode cX7_comes 4 = .ok (.aload_n 0, 1) := by decide +kernel
theorem dX7_comes_5 : decode cX7_comes 5 = .ok (.getfield 133, 3) := by decide +kernel
theorem dX7_comes_8 : decode cX7_comes 8 = .ok (.iload_n 1, 1) := by decide +kernel
theorem dX7_comes_9 : decode cX7_comes 9 = .ok (.iastore, 1) := by decide +kernel
theorem dX7_comes_10 : decode cX7_comes 10 = .ok (.aload_n 0, 1) := by decide +kernel
theorem dX7_comes_11 : decode cX7_comes 11 = .ok (.dup, 1) := by decide +kernel
theorem dX7_comes_12 : decode cX7_comes 12 = .ok (.getfield 133, 3) := by decide +kernel
theorem dX7_comes_15 : decode cX7_comes 15 = .ok (.iconst 1, 1) := by decide +kernel
theorem dX7_comes_16 : decode cX7_comes 16 = .ok (.iadd, 1) := by decide +kernel
theorem dX7_comes_17 : decode cX7_comes 17 = .ok (.putfield 133, 3) := by decide +kernel
theorem dX7_comes_20 : decode cX7_comes 20 = .ok (.aload_n 0, 1) := by decide +kernel
theorem dX7_comes_21 : decode cX7_comes 21 = .ok (.dup, 1) := by decide +kernel
theorem dX7_comes_22 : decode cX7_comes 22 = .ok (.getfield 136, 3) := by decide +kernel
theorem dX7_comes_25 : decode cX7_comes 25 = .ok (.iconst 1, 1) := by decide +kernel
theorem dX7_comes_26 : decode cX7_comes 26 = .ok (.iadd, 1) := by decide +kernel
theorem dX7_comes_27 : decode cX7_comes 27 = .ok (.putfield 136, 3) := by decide +kernel
theorem dX7_comes_30 : decode cX7_comes 30 = .ok (.return_, 1) := by decide +kernel
theorem dX7_feed_0 : decode cX7_feed 0 = .ok (.iload_n 1, 1) := by decide +kernel
theorem dX7_feed_1 : decode cX7_feed 1 = .ok (.iconst 0, 1) := by decide +kernel
theorem dX7_feed_2 : decode cX7_feed 2 = .ok (.bipush 7, 2) := by decide +kernel
theorem dX7_feed_4 : decode cX7_feed 4 = .ok (.invokestatic 75, 3) := by decide +kernel
theorem dX7_feed_7 : decode cX7_feed 7 = .ok (.ifCond .ne 6, 3) := by decide +kernel
theorem dX7_feed_10 : decode cX7_feed 10 = .ok (.bipush (-102), 2) := by decide +kernel
theorem dX7_feed_12 : decode cX7_feed 12 = .ok (.ireturn, 1) := by decide +kernel
theorem dX7_feed_13 : decode cX7_feed 13 = .ok (.aload_n 0, 1) := by decide +kernel
theorem dX7_feed_14 : decode cX7_feed 14 = .ok (.getfield 133, 3) := by decide +kernel
theorem dX7_feed_17 : decode cX7_feed 17 = .ok (.aload_n 0, 1) := by decide +kernel
theorem dX7_feed_18 : decode cX7_feed 18 = .ok (.getfield 22, 3) := by decide +kernel
theorem dX7_feed_21 : decode cX7_feed 21 = .ok (.if_icmp .ne 6, 3) := by decide +kernel
theorem dX7_feed_24 : decode cX7_feed 24 = .ok (.bipush (-104), 2) := by decide +kernel
theorem dX7_feed_26 : decode cX7_feed 26 = .ok (.ireturn, 1) := by decide +kernel
theorem dX7_feed_27 : decode cX7_feed 27 = .ok (.aload_n 0, 1) := by decide +kernel
theorem dX7_feed_28 : decode cX7_feed 28 = .ok (.iload_n 1, 1) := by decide +kernel
theorem dX7_feed_29 : decode cX7_feed 29 = .ok (.invokevirtual 139, 3) := by decide +kernel
theorem dX7_feed_32 : decode cX7_feed 32 = .ok (.aload_n 0, 1) := by decide +kernel
theorem dX7_feed_33 : decode cX7_feed 33 = .ok (.getfield 133, 3) := by decide +kernel
theorem dX7_feed_36 : decode cX7_feed 36 = .ok (.ireturn, 1) := by decide +kernel
theorem dX7_feeds_0 : decode cX7_feeds 0 = .ok (.iconst 1, 1) := by decide +kernel
theorem dX7_feeds_1 : decode cX7_feeds 1 = .ok (.istore_n 1, 1) := by decide +kernel
theorem dX7_feeds_2 : decode cX7_feeds 2 = .ok (.iconst 0, 1) := by decide +kernel
theorem dX7_feeds_3 : decode cX7_feeds 3 = .ok (.istore_n 2, 1) := by decide +kernel
theorem dX7_feeds_4 : decode cX7_feeds 4 = .ok (.iload_n 2, 1) := by decide +kernel
theorem dX7_feeds_5 : decode cX7_feeds 5 = .ok (.aload_n 0, 1) := by decide +kernel
theorem dX7_feeds_6 : decode cX7_feeds 6 = .ok (.getfield 79, 3) := by decide +kernel
theorem dX7_feeds_9 : decode cX7_feeds 9 = .ok (.if_icmp .ge 35, 3) := by decide +kernel
theorem dX7_feeds_12 : decode cX7_feeds 12 = .ok (.iload_n 1, 1) := by decide +kernel
theorem dX7_feeds_13 : decode cX7_feeds 13 = .ok (.ifCond .eq 23, 3) := by decide +kernel
theorem dX7_feeds_16 : decode cX7_feeds 16 = .ok (.aload_n 0, 1) := by decide +kernel
theorem dX7_feeds_17 : decode cX7_feeds 17 = .ok (.getfield 29, 3) := by decide +kernel
theorem dX7_feeds_20 : decode cX7_feeds 20 = .ok (.iload_n 2, 1) := by decide +kernel
theorem dX7_feeds_21 : decode cX7_feeds 21 = .ok (.iaload, 1) := by decide +kernel
theorem dX7_feeds_22 : decode cX7_feeds 22 = .ok (.bipush 48, 2) := by decide +kernel
theorem dX7_feeds_24 : decode cX7_feeds 24 = .ok (.bipush 55, 2) := by decide +kernel
theorem dX7_feeds_26 : decode cX7_feeds 26 = .ok (.invokestatic 75, 3) := by decide +kernel
theorem dX7_feeds_29 : decode cX7_feeds 29 = .ok (.ifCond .eq 7, 3) := by decide +kernel
theorem dX7_feeds_32 : decode cX7_feeds 32 = .ok (.iconst 1, 1) := by decide +kernel
theorem dX7_feeds_33 : decode cX7_feeds 33 = .ok (.goto 4, 3) := by decide +kernel
theorem dX7_feeds_36 : decode cX7_feeds 36 = .ok (.iconst 0, 1) := by decide +kernel
theorem dX7_feeds_37 : decode cX7_feeds 37 = .ok (.istore_n 1, 1) := by decide +kernel
theorem dX7_feeds_38 : decode cX7_feeds 38 = .ok (.iinc 2 1, 3) := by decide +kernel
theorem dX7_feeds_41 : decode cX7_feeds 41 = .ok (.goto (-37), 3) := by decide +kernel
theorem dX7_feeds_44 : decode cX7_feeds 44 = .ok (.iload_n 1, 1) := by decide +kernel
theorem dX7_feeds_45 : decode cX7_feeds 45 = .ok (.ifCond .ne 6, 3) := by decide +kernel
theorem dX7_feeds_48 : decode cX7_feeds 48 = .ok (.bipush (-103), 2) := by decide +kernel
theorem dX7_feeds_50 : decode cX7_feeds 50 = .ok (.ireturn, 1) := by decide +kernel
theorem dX7_feeds_51 : decode cX7_feeds 51 = .ok (.aload_n 0, 1) := by decide +kernel
theorem dX7_feeds_52 : decode cX7_feeds 52 = .ok (.getfield 133, 3) := by decide +kernel
theorem dX7_feeds_55 : decode cX7_feeds 55 = .ok (.aload_n 0, 1) := by decide +kernel
theorem dX7_feeds_56 : decode cX7_feeds 56 = .ok (.getfield 79, 3) := by decide +kernel
theorem dX7_feeds_59 : decode cX7_feeds 59 = .ok (.iadd, 1) := by decide +kernel
theorem dX7_feeds_60 : decode cX7_feeds 60 = .ok (.aload_n 0, 1) := by decide +kernel
theorem dX7_feeds_61 : decode cX7_feeds 61 = .ok (.getfield 22, 3) := by decide +kernel
theorem dX7_feeds_64 : decode cX7_feeds 64 = .ok (.if_icmp .le 6, 3) := by decide +kernel
theorem dX7_feeds_67 : decode cX7_feeds 67 = .ok (.bipush (-104), 2) := by decide +kernel
theorem dX7_feeds_69 : decode cX7_feeds 69 = .ok (.ireturn, 1) := by decide +kernel
theorem dX7_feeds_70 : decode cX7_feeds 70 = .ok (.iconst 0, 1) := by decide +kernel
theorem dX7_feeds_71 : decode cX7_feeds 71 = .ok (.istore_n 2, 1) := by decide +kernel
theorem dX7_feeds_72 : decode cX7_feeds 72 = .ok (.iload_n 2, 1) := by decide +kernel
theorem dX7_feeds_73 : decode cX7_feeds 73 = .ok (.aload_n 0, 1) := by decide +kernel
theorem dX7_feeds_74 : decode cX7_feeds 74 = .ok (.getfield 79, 3) := by decide +kernel
theorem dX7_feeds_77 : decode cX7_feeds 77 = .ok (.if_icmp .ge 22, 3) := by decide +kernel
theorem dX7_feeds_80 : decode cX7_feeds 80 = .ok (.aload_n 0, 1) := by decide +kernel
theorem dX7_feeds_81 : decode cX7_feeds 81 = .ok (.aload_n 0, 1) := by decide +kernel
theorem dX7_feeds_82 : decode cX7_feeds 82 = .ok (.getfield 29, 3) := by decide +kernel
theorem dX7_feeds_85 : decode cX7_feeds 85 = .ok (.iload_n 2, 1) := by decide +kernel
theorem dX7_feeds_86 : decode cX7_feeds 86 = .ok (.iaload, 1) := by decide +kernel
theorem dX7_feeds_87 : decode cX7_feeds 87 = .ok (.bipush 48, 2) := by decide +kernel
theorem dX7_feeds_89 : decode cX7_feeds 89 = .ok (.isub, 1) := by decide +kernel
theorem dX7_feeds_90 : decode cX7_feeds 90 = .ok (.invokevirtual 139, 3) := by decide +kernel
theorem dX7_feeds_93 : decode cX7_feeds 93 = .ok (.iinc 2 1, 3) := by decide +kernel
theorem dX7_feeds_96 : decode cX7_feeds 96 = .ok (.goto (-24), 3) := by decide +kernel
theorem dX7_feeds_99 : decode cX7_feeds 99 = .ok (.aload_n 0, 1) := by decide +kernel
theorem dX7_feeds_100 : decode cX7_feeds 100 = .ok (.iconst 0, 1) := by decide +kernel
theorem dX7_feeds_101 : decode cX7_feeds 101 = .ok (.putfield 79, 3) := by decide +kernel
theorem dX7_feeds_104 : decode cX7_feeds 104 = .ok (.aload_n 0, 1) := by decide +kernel
theorem dX7_feeds_105 : decode cX7_feeds 105 = .ok (.getfield 133, 3) := by decide +kernel
theorem dX7_feeds_108 : decode cX7_feeds 108 = .ok (.ireturn, 1) := by decide +kernel
theorem dX7_back_0 : decode cX7_back 0 = .ok (.aload_n 0, 1) := by decide +kernel
theorem dX7_back_1 : decode cX7_back 1 = .ok (.getfield 133, 3) := by decide +kernel
theorem dX7_back_4 : decode cX7_back 4 = .ok (.ifCond .ne 6, 3) := by decide +kernel
theorem dX7_back_7 : decode cX7_back 7 = .ok (.bipush (-103), 2) := by decide +kernel
theorem dX7_back_9 : decode cX7_back 9 = .ok (.ireturn, 1) := by decide +kernel
theorem dX7_back_10 : decode cX7_back 10 = .ok (.aload_n 0, 1) := by decide +kernel
theorem dX7_back_11 : decode cX7_back 11 = .ok (.dup, 1) := by decide +kernel
theorem dX7_back_12 : decode cX7_back 12 = .ok (.getfield 133, 3) := by decide +kernel
theorem dX7_back_15 : decode cX7_back 15 = .ok (.iconst 1, 1) := by decide +kernel
theorem dX7_back_16 : decode cX7_back 16 = .ok (.isub, 1) := by decide +kernel
theorem dX7_back_17 : decode cX7_back 17 = .ok (.putfield 133, 3) := by decide +kernel
theorem dX7_back_20 : decode cX7_back 20 = .ok (.aload_n 0, 1) := by decide +kernel
theorem dX7_back_21 : decode cX7_back 21 = .ok (.getfield 133, 3) := by decide +kernel
theorem dX7_back_24 : decode cX7_back 24 = .ok (.ireturn, 1) := by decide +kernel
theorem dX7_unit_0 : decode cX7_unit 0 = .ok (.iload_n 1, 1) := by decide +kernel
theorem dX7_unit_1 : decode cX7_unit 1 = .ok (.iconst 0, 1) := by decide +kernel
theorem dX7_unit_2 : decode cX7_unit 2 = .ok (.aload_n 0, 1) := by decide +kernel
theorem dX7_unit_3 : decode cX7_unit 3 = .ok (.getfield 133, 3) := by decide +kernel
theorem dX7_unit_6 : decode cX7_unit 6 = .ok (.iconst 1, 1) := by decide +kernel
theorem dX7_unit_7 : decode cX7_unit 7 = .ok (.isub, 1) := by decide +kernel
theorem dX7_unit_8 : decode cX7_unit 8 = .ok (.invokestatic 75, 3) := by decide +kernel
theorem dX7_unit_11 : decode cX7_unit 11 = .ok (.ifCond .eq 12, 3) := by decide +kernel
theorem dX7_unit_14 : decode cX7_unit 14 = .ok (.aload_n 0, 1) := by decide +kernel
theorem dX7_unit_15 : decode cX7_unit 15 = .ok (.getfield 26, 3) := by decide +kernel
theorem dX7_unit_18 : decode cX7_unit 18 = .ok (.iload_n 1, 1) := by decide +kernel
theorem dX7_unit_19 : decode cX7_unit 19 = .ok (.iaload, 1) := by decide +kernel
theorem dX7_unit_20 : decode cX7_unit 20 = .ok (.goto 5, 3) := by decide +kernel
theorem dX7_unit_23 : decode cX7_unit 23 = .ok (.bipush (-101), 2) := by decide +kernel
theorem dX7_unit_25 : decode cX7_unit 25 = .ok (.ireturn, 1) := by decide +kernel
theorem dX7_ends_0 : decode cX7_ends 0 = .ok (.aload_n 0, 1) := by decide +kernel
theorem dX7_ends_1 : decode cX7_ends 1 = .ok (.iload_n 1, 1) := by decide +kernel
theorem dX7_ends_2 : decode cX7_ends 2 = .ok (.iconst 2, 1) := by decide +kernel
theorem dX7_ends_3 : decode cX7_ends 3 = .ok (.if_icmp .ne 7, 3) := by decide +kernel
theorem dX7_ends_6 : decode cX7_ends 6 = .ok (.iconst (-1), 1) := by decide +kernel
theorem dX7_ends_7 : decode cX7_ends 7 = .ok (.goto 4, 3) := by decide +kernel
theorem dX7_ends_10 : decode cX7_ends 10 = .ok (.iload_n 1, 1) := by decide +kernel
theorem dX7_ends_11 : decode cX7_ends 11 = .ok (.putfield 142, 3) := by decide +kernel
theorem dX7_ends_14 : decode cX7_ends 14 = .ok (.iload_n 1, 1) := by decide +kernel
theorem dX7_ends_15 : decode cX7_ends 15 = .ok (.iconst 2, 1) := by decide +kernel
theorem dX7_ends_16 : decode cX7_ends 16 = .ok (.if_icmp .ne 7, 3) := by decide +kernel
theorem dX7_ends_19 : decode cX7_ends 19 = .ok (.iconst (-1), 1) := by decide +kernel
theorem dX7_ends_20 : decode cX7_ends 20 = .ok (.goto 4, 3) := by decide +kernel
theorem dX7_ends_23 : decode cX7_ends 23 = .ok (.iload_n 2, 1) := by decide +kernel
theorem dX7_ends_24 : decode cX7_ends 24 = .ok (.ireturn, 1) := by decide +kernel
theorem dX7_stepCounted_0 : decode cX7_stepCounted 0 = .ok (.iload_n 2, 1) := by decide +kernel
theorem dX7_stepCounted_1 : decode cX7_stepCounted 1 = .ok (.ifCond .le 40, 3) := by decide +kernel
theorem dX7_stepCounted_4 : decode cX7_stepCounted 4 = .ok (.iload_n 1, 1) := by decide +kernel
theorem dX7_stepCounted_5 : decode cX7_stepCounted 5 = .ok (.bipush 7, 2) := by decide +kernel
theorem dX7_stepCounted_7 : decode cX7_stepCounted 7 = .ok (.if_icmp .eq 5, 3) := by decide +kernel
theorem dX7_stepCounted_10 : decode cX7_stepCounted 10 = .ok (.iconst (-1), 1) := by decide +kernel
theorem dX7_stepCounted_11 : decode cX7_stepCounted 11 = .ok (.ireturn, 1) := by decide +kernel
theorem dX7_stepCounted_12 : decode cX7_stepCounted 12 = .ok (.aload_n 0, 1) := by decide +kernel
theorem dX7_stepCounted_13 : decode cX7_stepCounted 13 = .ok (.iload_n 2, 1) := by decide +kernel
theorem dX7_stepCounted_14 : decode cX7_stepCounted 14 = .ok (.iconst 3, 1) := by decide +kernel
theorem dX7_stepCounted_15 : decode cX7_stepCounted 15 = .ok (.if_icmp .ge 9, 3) := by decide +kernel
theorem dX7_stepCounted_18 : decode cX7_stepCounted 18 = .ok (.iload_n 2, 1) := by decide +kernel
theorem dX7_stepCounted_19 : decode cX7_stepCounted 19 = .ok (.iconst 1, 1) := by decide +kernel
theorem dX7_stepCounted_20 : decode cX7_stepCounted 20 = .ok (.isub, 1) := by decide +kernel
theorem dX7_stepCounted_21 : decode cX7_stepCounted 21 = .ok (.goto 4, 3) := by decide +kernel
theorem dX7_stepCounted_24 : decode cX7_stepCounted 24 = .ok (.iconst (-1), 1) := by decide +kernel
theorem dX7_stepCounted_25 : decode cX7_stepCounted 25 = .ok (.putfield 142, 3) := by decide +kernel
theorem dX7_stepCounted_28 : decode cX7_stepCounted 28 = .ok (.iload_n 2, 1) := by decide +kernel
theorem dX7_stepCounted_29 : decode cX7_stepCounted 29 = .ok (.iconst 3, 1) := by decide +kernel
theorem dX7_stepCounted_30 : decode cX7_stepCounted 30 = .ok (.if_icmp .ge 7, 3) := by decide +kernel
theorem dX7_stepCounted_33 : decode cX7_stepCounted 33 = .ok (.iconst 0, 1) := by decide +kernel
theorem dX7_stepCounted_34 : decode cX7_stepCounted 34 = .ok (.goto 6, 3) := by decide +kernel
theorem dX7_stepCounted_37 : decode cX7_stepCounted 37 = .ok (.iload_n 2, 1) := by decide +kernel
theorem dX7_stepCounted_38 : decode cX7_stepCounted 38 = .ok (.iconst 2, 1) := by decide +kernel
theorem dX7_stepCounted_39 : decode cX7_stepCounted 39 = .ok (.isub, 1) := by decide +kernel
theorem dX7_stepCounted_40 : decode cX7_stepCounted 40 = .ok (.ireturn, 1) := by decide +kernel
theorem dX7_stepCounted_41 : decode cX7_stepCounted 41 = .ok (.iload_n 1, 1) := by decide +kernel
theorem dX7_stepCounted_42 : decode cX7_stepCounted 42 = .ok (.bipush 7, 2) := by decide +kernel
theorem dX7_stepCounted_44 : decode cX7_stepCounted 44 = .ok (.if_icmp .ne 5, 3) := by decide +kernel
theorem dX7_stepCounted_47 : decode cX7_stepCounted 47 = .ok (.iconst (-1), 1) := by decide +kernel
theorem dX7_stepCounted_48 : decode cX7_stepCounted 48 = .ok (.ireturn, 1) := by decide +kernel
theorem dX7_stepCounted_49 : decode cX7_stepCounted 49 = .ok (.iload_n 1, 1) := by decide +kernel
theorem dX7_stepCounted_50 : decode cX7_stepCounted 50 = .ok (.iconst 2, 1) := by decide +kernel
theorem dX7_stepCounted_51 : decode cX7_stepCounted 51 = .ok (.if_icmp .gt 12, 3) := by decide +kernel
theorem dX7_stepCounted_54 : decode cX7_stepCounted 54 = .ok (.aload_n 0, 1) := by decide +kernel
theorem dX7_stepCounted_55 : decode cX7_stepCounted 55 = .ok (.iload_n 1, 1) := by decide +kernel
theorem dX7_stepCounted_56 : decode cX7_stepCounted 56 = .ok (.iconst 0, 1) := by decide +kernel
theorem dX7_stepCounted_57 : decode cX7_stepCounted 57 = .ok (.invokevirtual 145, 3) := by decide +kernel
theorem dX7_stepCounted_60 : decode cX7_stepCounted 60 = .ok (.goto 6, 3) := by decide +kernel
theorem dX7_stepCounted_63 : decode cX7_stepCounted 63 = .ok (.iload_n 1, 1) := by decide +kernel
theorem dX7_stepCounted_64 : decode cX7_stepCounted 64 = .ok (.iconst 2, 1) := by decide +kernel
theorem dX7_stepCounted_65 : decode cX7_stepCounted 65 = .ok (.isub, 1) := by decide +kernel
theorem dX7_stepCounted_66 : decode cX7_stepCounted 66 = .ok (.ireturn, 1) := by decide +kernel
theorem dX7_stepTurned_0 : decode cX7_stepTurned 0 = .ok (.iload_n 3, 1) := by decide +kernel
theorem dX7_stepTurned_1 : decode cX7_stepTurned 1 = .ok (.aload_n 0, 1) := by decide +kernel
theorem dX7_stepTurned_2 : decode cX7_stepTurned 2 = .ok (.getfield 13, 3) := by decide +kernel
theorem dX7_stepTurned_5 : decode cX7_stepTurned 5 = .ok (.iload_n 1, 1) := by decide +kernel
theorem dX7_stepTurned_6 : decode cX7_stepTurned 6 = .ok (.iaload, 1) := by decide +kernel
theorem dX7_stepTurned_7 : decode cX7_stepTurned 7 = .ok (.if_icmp .ne 9, 3) := by decide +kernel
theorem dX7_stepTurned_10 : decode cX7_stepTurned 10 = .ok (.iconst 1, 1) := by decide +kernel
theorem dX7_stepTurned_11 : decode cX7_stepTurned 11 = .ok (.iload_n 2, 1) := by decide +kernel
theorem dX7_stepTurned_12 : decode cX7_stepTurned 12 = .ok (.isub, 1) := by decide +kernel
theorem dX7_stepTurned_13 : decode cX7_stepTurned 13 = .ok (.goto 24, 3) := by decide +kernel
theorem dX7_stepTurned_16 : decode cX7_stepTurned 16 = .ok (.aload_n 0, 1) := by decide +kernel
theorem dX7_stepTurned_17 : decode cX7_stepTurned 17 = .ok (.aload_n 0, 1) := by decide +kernel
theorem dX7_stepTurned_18 : decode cX7_stepTurned 18 = .ok (.getfield 16, 3) := by decide +kernel
theorem dX7_stepTurned_21 : decode cX7_stepTurned 21 = .ok (.bipush 16, 2) := by decide +kernel
theorem dX7_stepTurned_23 : decode cX7_stepTurned 23 = .ok (.iload_n 1, 1) := by decide +kernel
theorem dX7_stepTurned_24 : decode cX7_stepTurned 24 = .ok (.imul, 1) := by decide +kernel
theorem dX7_stepTurned_25 : decode cX7_stepTurned 25 = .ok (.bipush 8, 2) := by decide +kernel
theorem dX7_stepTurned_27 : decode cX7_stepTurned 27 = .ok (.iload_n 2, 1) := by decide +kernel
theorem dX7_stepTurned_28 : decode cX7_stepTurned 28 = .ok (.imul, 1) := by decide +kernel
theorem dX7_stepTurned_29 : decode cX7_stepTurned 29 = .ok (.iadd, 1) := by decide +kernel
theorem dX7_stepTurned_30 : decode cX7_stepTurned 30 = .ok (.iload_n 3, 1) := by decide +kernel
theorem dX7_stepTurned_31 : decode cX7_stepTurned 31 = .ok (.iadd, 1) := by decide +kernel
theorem dX7_stepTurned_32 : decode cX7_stepTurned 32 = .ok (.iaload, 1) := by decide +kernel
theorem dX7_stepTurned_33 : decode cX7_stepTurned 33 = .ok (.iload_n 2, 1) := by decide +kernel
theorem dX7_stepTurned_34 : decode cX7_stepTurned 34 = .ok (.invokevirtual 145, 3) := by decide +kernel
theorem dX7_stepTurned_37 : decode cX7_stepTurned 37 = .ok (.ireturn, 1) := by decide +kernel
theorem dX7_step_0 : decode cX7_step 0 = .ok (.aload_n 0, 1) := by decide +kernel
theorem dX7_step_1 : decode cX7_step 1 = .ok (.iconst (-1), 1) := by decide +kernel
theorem dX7_step_2 : decode cX7_step 2 = .ok (.putfield 142, 3) := by decide +kernel
theorem dX7_step_5 : decode cX7_step 5 = .ok (.aload_n 0, 1) := by decide +kernel
theorem dX7_step_6 : decode cX7_step 6 = .ok (.getfield 16, 3) := by decide +kernel
theorem dX7_step_9 : decode cX7_step 9 = .ok (.bipush 16, 2) := by decide +kernel
theorem dX7_step_11 : decode cX7_step 11 = .ok (.iload_n 1, 1) := by decide +kernel
theorem dX7_step_12 : decode cX7_step 12 = .ok (.imul, 1) := by decide +kernel
theorem dX7_step_13 : decode cX7_step 13 = .ok (.iload_n 3, 1) := by decide +kernel
theorem dX7_step_14 : decode cX7_step 14 = .ok (.iadd, 1) := by decide +kernel
theorem dX7_step_15 : decode cX7_step 15 = .ok (.iaload, 1) := by decide +kernel
theorem dX7_step_16 : decode cX7_step 16 = .ok (.istore 4, 2) := by decide +kernel
theorem dX7_step_18 : decode cX7_step 18 = .ok (.aload_n 0, 1) := by decide +kernel
theorem dX7_step_19 : decode cX7_step 19 = .ok (.getfield 7, 3) := by decide +kernel
theorem dX7_step_22 : decode cX7_step 22 = .ok (.iload_n 1, 1) := by decide +kernel
theorem dX7_step_23 : decode cX7_step 23 = .ok (.iaload, 1) := by decide +kernel
theorem dX7_step_24 : decode cX7_step 24 = .ok (.tableswitch 70 1 3 #[28, 54, 62], 28) := by decide +kernel
theorem dX7_step_52 : decode cX7_step 52 = .ok (.iload_n 2, 1) := by decide +kernel
theorem dX7_step_53 : decode cX7_step 53 = .ok (.ifCond .ne 17, 3) := by decide +kernel
theorem dX7_step_56 : decode cX7_step 56 = .ok (.iload_n 3, 1) := by decide +kernel
theorem dX7_step_57 : decode cX7_step 57 = .ok (.aload_n 0, 1) := by decide +kernel
theorem dX7_step_58 : decode cX7_step 58 = .ok (.getfield 13, 3) := by decide +kernel
theorem dX7_step_61 : decode cX7_step 61 = .ok (.iload_n 1, 1) := by decide +kernel
theorem dX7_step_62 : decode cX7_step 62 = .ok (.iaload, 1) := by decide +kernel
theorem dX7_step_63 : decode cX7_step 63 = .ok (.if_icmp .lt 7, 3) := by decide +kernel
theorem dX7_step_66 : decode cX7_step 66 = .ok (.iconst 1, 1) := by decide +kernel
theorem dX7_step_67 : decode cX7_step 67 = .ok (.goto 10, 3) := by decide +kernel
theorem dX7_step_70 : decode cX7_step 70 = .ok (.aload_n 0, 1) := by decide +kernel
theorem dX7_step_71 : decode cX7_step 71 = .ok (.iload 4, 2) := by decide +kernel
theorem dX7_step_73 : decode cX7_step 73 = .ok (.iconst 0, 1) := by decide +kernel
theorem dX7_step_74 : decode cX7_step 74 = .ok (.invokevirtual 145, 3) := by decide +kernel
theorem dX7_step_77 : decode cX7_step 77 = .ok (.ireturn, 1) := by decide +kernel
theorem dX7_step_78 : decode cX7_step 78 = .ok (.aload_n 0, 1) := by decide +kernel
theorem dX7_step_79 : decode cX7_step 79 = .ok (.iload 4, 2) := by decide +kernel
theorem dX7_step_81 : decode cX7_step 81 = .ok (.iload_n 2, 1) := by decide +kernel
theorem dX7_step_82 : decode cX7_step 82 = .ok (.invokevirtual 148, 3) := by decide +kernel
theorem dX7_step_85 : decode cX7_step 85 = .ok (.ireturn, 1) := by decide +kernel
theorem dX7_step_86 : decode cX7_step 86 = .ok (.aload_n 0, 1) := by decide +kernel
theorem dX7_step_87 : decode cX7_step 87 = .ok (.iload_n 1, 1) := by decide +kernel
theorem dX7_step_88 : decode cX7_step 88 = .ok (.iload_n 2, 1) := by decide +kernel
theorem dX7_step_89 : decode cX7_step 89 = .ok (.iload_n 3, 1) := by decide +kernel
theorem dX7_step_90 : decode cX7_step 90 = .ok (.invokevirtual 151, 3) := by decide +kernel
theorem dX7_step_93 : decode cX7_step 93 = .ok (.ireturn, 1) := by decide +kernel
theorem dX7_step_94 : decode cX7_step 94 = .ok (.aload_n 0, 1) := by decide +kernel
theorem dX7_step_95 : decode cX7_step 95 = .ok (.iload 4, 2) := by decide +kernel
theorem dX7_step_97 : decode cX7_step 97 = .ok (.iconst 0, 1) := by decide +kernel
theorem dX7_step_98 : decode cX7_step 98 = .ok (.invokevirtual 145, 3) := by decide +kernel
theorem dX7_step_101 : decode cX7_step 101 = .ok (.ireturn, 1) := by decide +kernel
theorem dX7_begin_0 : decode cX7_begin 0 = .ok (.aload_n 0, 1) := by decide +kernel
theorem dX7_begin_1 : decode cX7_begin 1 = .ok (.iconst 0, 1) := by decide +kernel
theorem dX7_begin_2 : decode cX7_begin 2 = .ok (.putfield 155, 3) := by decide +kernel
theorem dX7_begin_5 : decode cX7_begin 5 = .ok (.aload_n 0, 1) := by decide +kernel
theorem dX7_begin_6 : decode cX7_begin 6 = .ok (.iconst (-1), 1) := by decide +kernel
theorem dX7_begin_7 : decode cX7_begin 7 = .ok (.putfield 158, 3) := by decide +kernel
theorem dX7_begin_10 : decode cX7_begin 10 = .ok (.aload_n 0, 1) := by decide +kernel
theorem dX7_begin_11 : decode cX7_begin 11 = .ok (.iconst 0, 1) := by decide +kernel
theorem dX7_begin_12 : decode cX7_begin 12 = .ok (.putfield 161, 3) := by decide +kernel
theorem dX7_begin_15 : decode cX7_begin 15 = .ok (.aload_n 0, 1) := by decide +kernel
theorem dX7_begin_16 : decode cX7_begin 16 = .ok (.iconst 0, 1) := by decide +kernel
theorem dX7_begin_17 : decode cX7_begin 17 = .ok (.putfield 164, 3) := by decide +kernel
theorem dX7_begin_20 : decode cX7_begin 20 = .ok (.aload_n 0, 1) := by decide +kernel
theorem dX7_begin_21 : decode cX7_begin 21 = .ok (.iconst 0, 1) := by decide +kernel
theorem dX7_begin_22 : decode cX7_begin 22 = .ok (.putfield 167, 3) := by decide +kernel
theorem dX7_begin_25 : decode cX7_begin 25 = .ok (.iconst 0, 1) := by decide +kernel
theorem dX7_begin_26 : decode cX7_begin 26 = .ok (.istore_n 1, 1) := by decide +kernel
theorem dX7_begin_27 : decode cX7_begin 27 = .ok (.iload_n 1, 1) := by decide +kernel
theorem dX7_begin_28 : decode cX7_begin 28 = .ok (.iconst 4, 1) := by decide +kernel
theorem dX7_begin_29 : decode cX7_begin 29 = .ok (.if_icmp .ge 16, 3) := by decide +kernel
theorem dX7_begin_32 : decode cX7_begin 32 = .ok (.aload_n 0, 1) := by decide +kernel
theorem dX7_begin_33 : decode cX7_begin 33 = .ok (.getfield 32, 3) := by decide +kernel
theorem dX7_begin_36 : decode cX7_begin 36 = .ok (.iload_n 1, 1) := by decide +kernel
theorem dX7_begin_37 : decode cX7_begin 37 = .ok (.iconst 0, 1) := by decide +kernel
theorem dX7_begin_38 : decode cX7_begin 38 = .ok (.iastore, 1) := by decide +kernel
theorem dX7_begin_39 : decode cX7_begin 39 = .ok (.iinc 1 1, 3) := by decide +kernel
theorem dX7_begin_42 : decode cX7_begin 42 = .ok (.goto (-15), 3) := by decide +kernel
theorem dX7_begin_45 : decode cX7_begin 45 = .ok (.return_, 1) := by decide +kernel
theorem dX7_goOn_0 : decode cX7_goOn 0 = .ok (.aload_n 0, 1) := by decide +kernel
theorem dX7_goOn_1 : decode cX7_goOn 1 = .ok (.iload_n 1, 1) := by decide +kernel
theorem dX7_goOn_2 : decode cX7_goOn 2 = .ok (.aload_n 0, 1) := by decide +kernel
theorem dX7_goOn_3 : decode cX7_goOn 3 = .ok (.getfield 155, 3) := by decide +kernel
theorem dX7_goOn_6 : decode cX7_goOn 6 = .ok (.iload_n 2, 1) := by decide +kernel
theorem dX7_goOn_7 : decode cX7_goOn 7 = .ok (.invokevirtual 170, 3) := by decide +kernel
theorem dX7_goOn_10 : decode cX7_goOn 10 = .ok (.istore_n 3, 1) := by decide +kernel
theorem dX7_goOn_11 : decode cX7_goOn 11 = .ok (.aload_n 0, 1) := by decide +kernel
theorem dX7_goOn_12 : decode cX7_goOn 12 = .ok (.iload_n 3, 1) := by decide +kernel
theorem dX7_goOn_13 : decode cX7_goOn 13 = .ok (.putfield 155, 3) := by decide +kernel
theorem dX7_goOn_16 : decode cX7_goOn 16 = .ok (.iload_n 3, 1) := by decide +kernel
theorem dX7_goOn_17 : decode cX7_goOn 17 = .ok (.iconst (-1), 1) := by decide +kernel
theorem dX7_goOn_18 : decode cX7_goOn 18 = .ok (.if_icmp .eq 13, 3) := by decide +kernel
theorem dX7_goOn_21 : decode cX7_goOn 21 = .ok (.aload_n 0, 1) := by decide +kernel
theorem dX7_goOn_22 : decode cX7_goOn 22 = .ok (.dup, 1) := by decide +kernel
theorem dX7_goOn_23 : decode cX7_goOn 23 = .ok (.getfield 167, 3) := by decide +kernel
theorem dX7_goOn_26 : decode cX7_goOn 26 = .ok (.iconst 1, 1) := by decide +kernel
theorem dX7_goOn_27 : decode cX7_goOn 27 = .ok (.iadd, 1) := by decide +kernel
theorem dX7_goOn_28 : decode cX7_goOn 28 = .ok (.putfield 167, 3) := by decide +kernel
theorem dX7_goOn_31 : decode cX7_goOn 31 = .ok (.iload_n 3, 1) := by decide +kernel
theorem dX7_goOn_32 : decode cX7_goOn 32 = .ok (.iconst (-1), 1) := by decide +kernel
theorem dX7_goOn_33 : decode cX7_goOn 33 = .ok (.if_icmp .eq 86, 3) := by decide +kernel
theorem dX7_goOn_36 : decode cX7_goOn 36 = .ok (.aload_n 0, 1) := by decide +kernel
theorem dX7_goOn_37 : decode cX7_goOn 37 = .ok (.getfield 142, 3) := by decide +kernel
theorem dX7_goOn_40 : decode cX7_goOn 40 = .ok (.iconst (-1), 1) := by decide +kernel
theorem dX7_goOn_41 : decode cX7_goOn 41 = .ok (.if_icmp .eq 78, 3) := by decide +kernel
theorem dX7_goOn_44 : decode cX7_goOn 44 = .ok (.aload_n 0, 1) := by decide +kernel
theorem dX7_goOn_45 : decode cX7_goOn 45 = .ok (.getfield 158, 3) := by decide +kernel
theorem dX7_goOn_48 : decode cX7_goOn 48 = .ok (.iconst (-1), 1) := by decide +kernel
theorem dX7_goOn_49 : decode cX7_goOn 49 = .ok (.if_icmp .eq 52, 3) := by decide +kernel
theorem dX7_goOn_52 : decode cX7_goOn 52 = .ok (.aload_n 0, 1) := by decide +kernel
theorem dX7_goOn_53 : decode cX7_goOn 53 = .ok (.getfield 32, 3) := by decide +kernel
theorem dX7_goOn_56 : decode cX7_goOn 56 = .ok (.iconst 2, 1) := by decide +kernel
theorem dX7_goOn_57 : decode cX7_goOn 57 = .ok (.aload_n 0, 1) := by decide +kernel
theorem dX7_goOn_58 : decode cX7_goOn 58 = .ok (.getfield 158, 3) := by decide +kernel
theorem dX7_goOn_61 : decode cX7_goOn 61 = .ok (.imul, 1) := by decide +kernel
theorem dX7_goOn_62 : decode cX7_goOn 62 = .ok (.aload_n 0, 1) := by decide +kernel
theorem dX7_goOn_63 : decode cX7_goOn 63 = .ok (.getfield 142, 3) := by decide +kernel
theorem dX7_goOn_66 : decode cX7_goOn 66 = .ok (.iadd, 1) := by decide +kernel
theorem dX7_goOn_67 : decode cX7_goOn 67 = .ok (.dup2, 1) := by decide +kernel
theorem dX7_goOn_68 : decode cX7_goOn 68 = .ok (.iaload, 1) := by decide +kernel
theorem dX7_goOn_69 : decode cX7_goOn 69 = .ok (.iconst 1, 1) := by decide +kernel
theorem dX7_goOn_70 : decode cX7_goOn 70 = .ok (.iadd, 1) := by decide +kernel
theorem dX7_goOn_71 : decode cX7_goOn 71 = .ok (.iastore, 1) := by decide +kernel
theorem dX7_goOn_72 : decode cX7_goOn 72 = .ok (.aload_n 0, 1) := by decide +kernel
theorem dX7_goOn_73 : decode cX7_goOn 73 = .ok (.dup, 1) := by decide +kernel
theorem dX7_goOn_74 : decode cX7_goOn 74 = .ok (.getfield 164, 3) := by decide +kernel
theorem dX7_goOn_77 : decode cX7_goOn 77 = .ok (.aload_n 0, 1) := by decide +kernel
theorem dX7_goOn_78 : decode cX7_goOn 78 = .ok (.getfield 19, 3) := by decide +kernel
theorem dX7_goOn_81 : decode cX7_goOn 81 = .ok (.iconst 4, 1) := by decide +kernel
theorem dX7_goOn_82 : decode cX7_goOn 82 = .ok (.iload_n 1, 1) := by decide +kernel
theorem dX7_goOn_83 : decode cX7_goOn 83 = .ok (.imul, 1) := by decide +kernel
theorem dX7_goOn_84 : decode cX7_goOn 84 = .ok (.iconst 2, 1) := by decide +kernel
theorem dX7_goOn_85 : decode cX7_goOn 85 = .ok (.aload_n 0, 1) := by decide +kernel
theorem dX7_goOn_86 : decode cX7_goOn 86 = .ok (.getfield 158, 3) := by decide +kernel
theorem dX7_goOn_89 : decode cX7_goOn 89 = .ok (.imul, 1) := by decide +kernel
theorem dX7_goOn_90 : decode cX7_goOn 90 = .ok (.iadd, 1) := by decide +kernel
theorem dX7_goOn_91 : decode cX7_goOn 91 = .ok (.aload_n 0, 1) := by decide +kernel
theorem dX7_goOn_92 : decode cX7_goOn 92 = .ok (.getfield 142, 3) := by decide +kernel
theorem dX7_goOn_95 : decode cX7_goOn 95 = .ok (.iadd, 1) := by decide +kernel
theorem dX7_goOn_96 : decode cX7_goOn 96 = .ok (.iaload, 1) := by decide +kernel
theorem dX7_goOn_97 : decode cX7_goOn 97 = .ok (.iadd, 1) := by decide +kernel
theorem dX7_goOn_98 : decode cX7_goOn 98 = .ok (.putfield 164, 3) := by decide +kernel
theorem dX7_goOn_101 : decode cX7_goOn 101 = .ok (.aload_n 0, 1) := by decide +kernel
theorem dX7_goOn_102 : decode cX7_goOn 102 = .ok (.dup, 1) := by decide +kernel
theorem dX7_goOn_103 : decode cX7_goOn 103 = .ok (.getfield 161, 3) := by decide +kernel
theorem dX7_goOn_106 : decode cX7_goOn 106 = .ok (.iconst 1, 1) := by decide +kernel
theorem dX7_goOn_107 : decode cX7_goOn 107 = .ok (.iadd, 1) := by decide +kernel
theorem dX7_goOn_108 : decode cX7_goOn 108 = .ok (.putfield 161, 3) := by decide +kernel
theorem dX7_goOn_111 : decode cX7_goOn 111 = .ok (.aload_n 0, 1) := by decide +kernel
theorem dX7_goOn_112 : decode cX7_goOn 112 = .ok (.aload_n 0, 1) := by decide +kernel
theorem dX7_goOn_113 : decode cX7_goOn 113 = .ok (.getfield 142, 3) := by decide +kernel
theorem dX7_goOn_116 : decode cX7_goOn 116 = .ok (.putfield 158, 3) := by decide +kernel
theorem dX7_goOn_119 : decode cX7_goOn 119 = .ok (.return_, 1) := by decide +kernel
theorem dX7_goAlong_0 : decode cX7_goAlong 0 = .ok (.aload_n 0, 1) := by decide +kernel
theorem dX7_goAlong_1 : decode cX7_goAlong 1 = .ok (.invokevirtual 173, 3) := by decide +kernel
theorem dX7_goAlong_4 : decode cX7_goAlong 4 = .ok (.iconst 0, 1) := by decide +kernel
theorem dX7_goAlong_5 : decode cX7_goAlong 5 = .ok (.istore_n 3, 1) := by decide +kernel
theorem dX7_goAlong_6 : decode cX7_goAlong 6 = .ok (.iload_n 3, 1) := by decide +kernel
theorem dX7_goAlong_7 : decode cX7_goAlong 7 = .ok (.iload_n 2, 1) := by decide +kernel
theorem dX7_goAlong_8 : decode cX7_goAlong 8 = .ok (.if_icmp .ge 28, 3) := by decide +kernel
theorem dX7_goAlong_11 : decode cX7_goAlong 11 = .ok (.aload_n 0, 1) := by decide +kernel
theorem dX7_goAlong_12 : decode cX7_goAlong 12 = .ok (.getfield 155, 3) := by decide +kernel
theorem dX7_goAlong_15 : decode cX7_goAlong 15 = .ok (.iconst (-1), 1) := by decide +kernel
theorem dX7_goAlong_16 : decode cX7_goAlong 16 = .ok (.if_icmp .eq 20, 3) := by decide +kernel
theorem dX7_goAlong_19 : decode cX7_goAlong 19 = .ok (.aload_n 0, 1) := by decide +kernel
theorem dX7_goAlong_20 : decode cX7_goAlong 20 = .ok (.iload_n 1, 1) := by decide +kernel
theorem dX7_goAlong_21 : decode cX7_goAlong 21 = .ok (.aload_n 0, 1) := by decide +kernel
theorem dX7_goAlong_22 : decode cX7_goAlong 22 = .ok (.getfield 26, 3) := by decide +kernel
theorem dX7_goAlong_25 : decode cX7_goAlong 25 = .ok (.iload_n 3, 1) := by decide +kernel
theorem dX7_goAlong_26 : decode cX7_goAlong 26 = .ok (.iaload, 1) := by decide +kernel
theorem dX7_goAlong_27 : decode cX7_goAlong 27 = .ok (.invokevirtual 176, 3) := by decide +kernel
theorem dX7_goAlong_30 : decode cX7_goAlong 30 = .ok (.iinc 3 1, 3) := by decide +kernel
theorem dX7_goAlong_33 : decode cX7_goAlong 33 = .ok (.goto (-27), 3) := by decide +kernel
theorem dX7_goAlong_36 : decode cX7_goAlong 36 = .ok (.return_, 1) := by decide +kernel
theorem dX7_isAlive_0 : decode cX7_isAlive 0 = .ok (.aload_n 0, 1) := by decide +kernel
theorem dX7_isAlive_1 : decode cX7_isAlive 1 = .ok (.iload_n 1, 1) := by decide +kernel
theorem dX7_isAlive_2 : decode cX7_isAlive 2 = .ok (.aload_n 0, 1) := by decide +kernel
theorem dX7_isAlive_3 : decode cX7_isAlive 3 = .ok (.getfield 133, 3) := by decide +kernel
theorem dX7_isAlive_6 : decode cX7_isAlive 6 = .ok (.invokevirtual 180, 3) := by decide +kernel
theorem dX7_isAlive_9 : decode cX7_isAlive 9 = .ok (.aload_n 0, 1) := by decide +kernel
theorem dX7_isAlive_10 : decode cX7_isAlive 10 = .ok (.getfield 155, 3) := by decide +kernel
theorem dX7_isAlive_13 : decode cX7_isAlive 13 = .ok (.iconst (-1), 1) := by decide +kernel
theorem dX7_isAlive_14 : decode cX7_isAlive 14 = .ok (.if_icmp .eq 7, 3) := by decide +kernel
theorem dX7_isAlive_17 : decode cX7_isAlive 17 = .ok (.iconst 1, 1) := by decide +kernel
theorem dX7_isAlive_18 : decode cX7_isAlive 18 = .ok (.goto 4, 3) := by decide +kernel
theorem dX7_isAlive_21 : decode cX7_isAlive 21 = .ok (.iconst 0, 1) := by decide +kernel
theorem dX7_isAlive_22 : decode cX7_isAlive 22 = .ok (.ireturn, 1) := by decide +kernel
theorem dX7_isValid_0 : decode cX7_isValid 0 = .ok (.aload_n 0, 1) := by decide +kernel
theorem dX7_isValid_1 : decode cX7_isValid 1 = .ok (.iload_n 1, 1) := by decide +kernel
theorem dX7_isValid_2 : decode cX7_isValid 2 = .ok (.aload_n 0, 1) := by decide +kernel
theorem dX7_isValid_3 : decode cX7_isValid 3 = .ok (.getfield 133, 3) := by decide +kernel
theorem dX7_isValid_6 : decode cX7_isValid 6 = .ok (.invokevirtual 180, 3) := by decide +kernel
theorem dX7_isValid_9 : decode cX7_isValid 9 = .ok (.aload_n 0, 1) := by decide +kernel
theorem dX7_isValid_10 : decode cX7_isValid 10 = .ok (.getfield 155, 3) := by decide +kernel
theorem dX7_isValid_13 : decode cX7_isValid 13 = .ok (.ifCond .ne 7, 3) := by decide +kernel
theorem dX7_isValid_16 : decode cX7_isValid 16 = .ok (.iconst 1, 1) := by decide +kernel
theorem dX7_isValid_17 : decode cX7_isValid 17 = .ok (.goto 4, 3) := by decide +kernel
theorem dX7_isValid_20 : decode cX7_isValid 20 = .ok (.iconst 0, 1) := by decide +kernel
theorem dX7_isValid_21 : decode cX7_isValid 21 = .ok (.ireturn, 1) := by decide +kernel
theorem dX7_weightOf_0 : decode cX7_weightOf 0 = .ok (.aload_n 0, 1) := by decide +kernel
theorem dX7_weightOf_1 : decode cX7_weightOf 1 = .ok (.iload_n 1, 1) := by decide +kernel
theorem dX7_weightOf_2 : decode cX7_weightOf 2 = .ok (.aload_n 0, 1) := by decide +kernel
theorem dX7_weightOf_3 : decode cX7_weightOf 3 = .ok (.getfield 133, 3) := by decide +kernel
theorem dX7_weightOf_6 : decode cX7_weightOf 6 = .ok (.invokevirtual 180, 3) := by decide +kernel
theorem dX7_weightOf_9 : decode cX7_weightOf 9 = .ok (.aload_n 0, 1) := by decide +kernel
theorem dX7_weightOf_10 : decode cX7_weightOf 10 = .ok (.getfield 164, 3) := by decide +kernel
theorem dX7_weightOf_13 : decode cX7_weightOf 13 = .ok (.ireturn, 1) := by decide +kernel
theorem dX7_judgedNow_0 : decode cX7_judgedNow 0 = .ok (.iconst (-1), 1) := by decide +kernel
theorem dX7_judgedNow_1 : decode cX7_judgedNow 1 = .ok (.istore_n 1, 1) := by decide +kernel
theorem dX7_judgedNow_2 : decode cX7_judgedNow 2 = .ok (.iconst (-1), 1) := by decide +kernel
theorem dX7_judgedNow_3 : decode cX7_judgedNow 3 = .ok (.istore_n 2, 1) := by decide +kernel
theorem dX7_judgedNow_4 : decode cX7_judgedNow 4 = .ok (.iconst 0, 1) := by decide +kernel
theorem dX7_judgedNow_5 : decode cX7_judgedNow 5 = .ok (.istore_n 3, 1) := by decide +kernel
theorem dX7_judgedNow_6 : decode cX7_judgedNow 6 = .ok (.iload_n 3, 1) := by decide +kernel
theorem dX7_judgedNow_7 : decode cX7_judgedNow 7 = .ok (.aload_n 0, 1) := by decide +kernel
theorem dX7_judgedNow_8 : decode cX7_judgedNow 8 = .ok (.getfield 110, 3) := by decide +kernel
theorem dX7_judgedNow_11 : decode cX7_judgedNow 11 = .ok (.if_icmp .ge 32, 3) := by decide +kernel
theorem dX7_judgedNow_14 : decode cX7_judgedNow 14 = .ok (.aload_n 0, 1) := by decide +kernel
theorem dX7_judgedNow_15 : decode cX7_judgedNow 15 = .ok (.iload_n 3, 1) := by decide +kernel
theorem dX7_judgedNow_16 : decode cX7_judgedNow 16 = .ok (.invokevirtual 183, 3) := by decide +kernel
theorem dX7_judgedNow_19 : decode cX7_judgedNow 19 = .ok (.ifCond .eq 18, 3) := by decide +kernel
theorem dX7_judgedNow_22 : decode cX7_judgedNow 22 = .ok (.aload_n 0, 1) := by decide +kernel
theorem dX7_judgedNow_23 : decode cX7_judgedNow 23 = .ok (.getfield 164, 3) := by decide +kernel
theorem dX7_judgedNow_26 : decode cX7_judgedNow 26 = .ok (.iload_n 2, 1) := by decide +kernel
theorem dX7_judgedNow_27 : decode cX7_judgedNow 27 = .ok (.if_icmp .le 10, 3) := by decide +kernel
theorem dX7_judgedNow_30 : decode cX7_judgedNow 30 = .ok (.iload_n 3, 1) := by decide +kernel
theorem dX7_judgedNow_31 : decode cX7_judgedNow 31 = .ok (.istore_n 1, 1) := by decide +kernel
theorem dX7_judgedNow_32 : decode cX7_judgedNow 32 = .ok (.aload_n 0, 1) := by decide +kernel
theorem dX7_judgedNow_33 : decode cX7_judgedNow 33 = .ok (.getfield 164, 3) := by decide +kernel
theorem dX7_judgedNow_36 : decode cX7_judgedNow 36 = .ok (.istore_n 2, 1) := by decide +kernel
theorem dX7_judgedNow_37 : decode cX7_judgedNow 37 = .ok (.iinc 3 1, 3) := by decide +kernel
theorem dX7_judgedNow_40 : decode cX7_judgedNow 40 = .ok (.goto (-34), 3) := by decide +kernel
theorem dX7_judgedNow_43 : decode cX7_judgedNow 43 = .ok (.iload_n 1, 1) := by decide +kernel
theorem dX7_judgedNow_44 : decode cX7_judgedNow 44 = .ok (.ireturn, 1) := by decide +kernel
theorem dX7_rankKey_0 : decode cX7_rankKey 0 = .ok (.aload_n 0, 1) := by decide +kernel
theorem dX7_rankKey_1 : decode cX7_rankKey 1 = .ok (.iload_n 1, 1) := by decide +kernel
theorem dX7_rankKey_2 : decode cX7_rankKey 2 = .ok (.invokevirtual 183, 3) := by decide +kernel
theorem dX7_rankKey_5 : decode cX7_rankKey 5 = .ok (.ifCond .eq 7, 3) := by decide +kernel
theorem dX7_rankKey_8 : decode cX7_rankKey 8 = .ok (.iconst 2, 1) := by decide +kernel
theorem dX7_rankKey_9 : decode cX7_rankKey 9 = .ok (.goto 16, 3) := by decide +kernel
theorem dX7_rankKey_12 : decode cX7_rankKey 12 = .ok (.aload_n 0, 1) := by decide +kernel
theorem dX7_rankKey_13 : decode cX7_rankKey 13 = .ok (.getfield 155, 3) := by decide +kernel
theorem dX7_rankKey_16 : decode cX7_rankKey 16 = .ok (.iconst (-1), 1) := by decide +kernel
theorem dX7_rankKey_17 : decode cX7_rankKey 17 = .ok (.if_icmp .eq 7, 3) := by decide +kernel
theorem dX7_rankKey_20 : decode cX7_rankKey 20 = .ok (.iconst 1, 1) := by decide +kernel
theorem dX7_rankKey_21 : decode cX7_rankKey 21 = .ok (.goto 4, 3) := by decide +kernel
theorem dX7_rankKey_24 : decode cX7_rankKey 24 = .ok (.iconst 0, 1) := by decide +kernel
theorem dX7_rankKey_25 : decode cX7_rankKey 25 = .ok (.istore_n 2, 1) := by decide +kernel
theorem dX7_rankKey_26 : decode cX7_rankKey 26 = .ok (.sipush 1000, 3) := by decide +kernel
theorem dX7_rankKey_29 : decode cX7_rankKey 29 = .ok (.iload_n 2, 1) := by decide +kernel
theorem dX7_rankKey_30 : decode cX7_rankKey 30 = .ok (.imul, 1) := by decide +kernel
theorem dX7_rankKey_31 : decode cX7_rankKey 31 = .ok (.aload_n 0, 1) := by decide +kernel
theorem dX7_rankKey_32 : decode cX7_rankKey 32 = .ok (.getfield 164, 3) := by decide +kernel
theorem dX7_rankKey_35 : decode cX7_rankKey 35 = .ok (.iadd, 1) := by decide +kernel
theorem dX7_rankKey_36 : decode cX7_rankKey 36 = .ok (.ireturn, 1) := by decide +kernel
theorem dX7_isAhead_0 : decode cX7_isAhead 0 = .ok (.aload_n 0, 1) := by decide +kernel
theorem dX7_isAhead_1 : decode cX7_isAhead 1 = .ok (.iload_n 1, 1) := by decide +kernel
theorem dX7_isAhead_2 : decode cX7_isAhead 2 = .ok (.invokevirtual 186, 3) := by decide +kernel
theorem dX7_isAhead_5 : decode cX7_isAhead 5 = .ok (.istore_n 3, 1) := by decide +kernel
theorem dX7_isAhead_6 : decode cX7_isAhead 6 = .ok (.aload_n 0, 1) := by decide +kernel
theorem dX7_isAhead_7 : decode cX7_isAhead 7 = .ok (.iload_n 2, 1) := by decide +kernel
theorem dX7_isAhead_8 : decode cX7_isAhead 8 = .ok (.invokevirtual 186, 3) := by decide +kernel
theorem dX7_isAhead_11 : decode cX7_isAhead 11 = .ok (.istore 4, 2) := by decide +kernel
theorem dX7_isAhead_13 : decode cX7_isAhead 13 = .ok (.iload_n 3, 1) := by decide +kernel
theorem dX7_isAhead_14 : decode cX7_isAhead 14 = .ok (.iload 4, 2) := by decide +kernel
theorem dX7_isAhead_16 : decode cX7_isAhead 16 = .ok (.if_icmp .gt 14, 3) := by decide +kernel
theorem dX7_isAhead_19 : decode cX7_isAhead 19 = .ok (.iload_n 3, 1) := by decide +kernel
theorem dX7_isAhead_20 : decode cX7_isAhead 20 = .ok (.iload 4, 2) := by decide +kernel
theorem dX7_isAhead_22 : decode cX7_isAhead 22 = .ok (.if_icmp .ne 12, 3) := by decide +kernel
theorem dX7_isAhead_25 : decode cX7_isAhead 25 = .ok (.iload_n 1, 1) := by decide +kernel
theorem dX7_isAhead_26 : decode cX7_isAhead 26 = .ok (.iload_n 2, 1) := by decide +kernel
theorem dX7_isAhead_27 : decode cX7_isAhead 27 = .ok (.if_icmp .ge 7, 3) := by decide +kernel
theorem dX7_isAhead_30 : decode cX7_isAhead 30 = .ok (.iconst 1, 1) := by decide +kernel
theorem dX7_isAhead_31 : decode cX7_isAhead 31 = .ok (.goto 4, 3) := by decide +kernel
theorem dX7_isAhead_34 : decode cX7_isAhead 34 = .ok (.iconst 0, 1) := by decide +kernel
theorem dX7_isAhead_35 : decode cX7_isAhead 35 = .ok (.ireturn, 1) := by decide +kernel
theorem dX7_rankOf_0 : decode cX7_rankOf 0 = .ok (.iconst 0, 1) := by decide +kernel
theorem dX7_rankOf_1 : decode cX7_rankOf 1 = .ok (.istore_n 2, 1) := by decide +kernel
theorem dX7_rankOf_2 : decode cX7_rankOf 2 = .ok (.iconst 0, 1) := by decide +kernel
theorem dX7_rankOf_3 : decode cX7_rankOf 3 = .ok (.istore_n 3, 1) := by decide +kernel
theorem dX7_rankOf_4 : decode cX7_rankOf 4 = .ok (.iload_n 3, 1) := by decide +kernel
theorem dX7_rankOf_5 : decode cX7_rankOf 5 = .ok (.aload_n 0, 1) := by decide +kernel
theorem dX7_rankOf_6 : decode cX7_rankOf 6 = .ok (.getfield 110, 3) := by decide +kernel
theorem dX7_rankOf_9 : decode cX7_rankOf 9 = .ok (.if_icmp .ge 31, 3) := by decide +kernel
theorem dX7_rankOf_12 : decode cX7_rankOf 12 = .ok (.iload_n 2, 1) := by decide +kernel
theorem dX7_rankOf_13 : decode cX7_rankOf 13 = .ok (.iload_n 3, 1) := by decide +kernel
theorem dX7_rankOf_14 : decode cX7_rankOf 14 = .ok (.iload_n 1, 1) := by decide +kernel
theorem dX7_rankOf_15 : decode cX7_rankOf 15 = .ok (.if_icmp .eq 16, 3) := by decide +kernel
theorem dX7_rankOf_18 : decode cX7_rankOf 18 = .ok (.aload_n 0, 1) := by decide +kernel
theorem dX7_rankOf_19 : decode cX7_rankOf 19 = .ok (.iload_n 3, 1) := by decide +kernel
theorem dX7_rankOf_20 : decode cX7_rankOf 20 = .ok (.iload_n 1, 1) := by decide +kernel
theorem dX7_rankOf_21 : decode cX7_rankOf 21 = .ok (.invokevirtual 189, 3) := by decide +kernel
theorem dX7_rankOf_24 : decode cX7_rankOf 24 = .ok (.ifCond .eq 7, 3) := by decide +kernel
theorem dX7_rankOf_27 : decode cX7_rankOf 27 = .ok (.iconst 1, 1) := by decide +kernel
theorem dX7_rankOf_28 : decode cX7_rankOf 28 = .ok (.goto 4, 3) := by decide +kernel
theorem dX7_rankOf_31 : decode cX7_rankOf 31 = .ok (.iconst 0, 1) := by decide +kernel
theorem dX7_rankOf_32 : decode cX7_rankOf 32 = .ok (.iadd, 1) := by decide +kernel
theorem dX7_rankOf_33 : decode cX7_rankOf 33 = .ok (.istore_n 2, 1) := by decide +kernel
theorem dX7_rankOf_34 : decode cX7_rankOf 34 = .ok (.iinc 3 1, 3) := by decide +kernel
theorem dX7_rankOf_37 : decode cX7_rankOf 37 = .ok (.goto (-33), 3) := by decide +kernel
theorem dX7_rankOf_40 : decode cX7_rankOf 40 = .ok (.iload_n 2, 1) := by decide +kernel
theorem dX7_rankOf_41 : decode cX7_rankOf 41 = .ok (.ireturn, 1) := by decide +kernel
theorem dX7_placeOf_0 : decode cX7_placeOf 0 = .ok (.iconst 3, 1) := by decide +kernel
theorem dX7_placeOf_1 : decode cX7_placeOf 1 = .ok (.iload_n 0, 1) := by decide +kernel
theorem dX7_placeOf_2 : decode cX7_placeOf 2 = .ok (.imul, 1) := by decide +kernel
theorem dX7_placeOf_3 : decode cX7_placeOf 3 = .ok (.iload_n 1, 1) := by decide +kernel
theorem dX7_placeOf_4 : decode cX7_placeOf 4 = .ok (.iadd, 1) := by decide +kernel
theorem dX7_placeOf_5 : decode cX7_placeOf 5 = .ok (.iconst 1, 1) := by decide +kernel
theorem dX7_placeOf_6 : decode cX7_placeOf 6 = .ok (.iadd, 1) := by decide +kernel
theorem dX7_placeOf_7 : decode cX7_placeOf 7 = .ok (.ireturn, 1) := by decide +kernel
theorem dX7_gain_0 : decode cX7_gain 0 = .ok (.iload_n 2, 1) := by decide +kernel
theorem dX7_gain_1 : decode cX7_gain 1 = .ok (.iconst (-1), 1) := by decide +kernel
theorem dX7_gain_2 : decode cX7_gain 2 = .ok (.if_icmp .eq 11, 3) := by decide +kernel
theorem dX7_gain_5 : decode cX7_gain 5 = .ok (.aload_n 0, 1) := by decide +kernel
theorem dX7_gain_6 : decode cX7_gain 6 = .ok (.getfield 142, 3) := by decide +kernel
theorem dX7_gain_9 : decode cX7_gain 9 = .ok (.iconst (-1), 1) := by decide +kernel
theorem dX7_gain_10 : decode cX7_gain 10 = .ok (.if_icmp .ne 7, 3) := by decide +kernel
theorem dX7_gain_13 : decode cX7_gain 13 = .ok (.iconst 0, 1) := by decide +kernel
theorem dX7_gain_14 : decode cX7_gain 14 = .ok (.goto 20, 3) := by decide +kernel
theorem dX7_gain_17 : decode cX7_gain 17 = .ok (.aload_n 0, 1) := by decide +kernel
theorem dX7_gain_18 : decode cX7_gain 18 = .ok (.getfield 19, 3) := by decide +kernel
theorem dX7_gain_21 : decode cX7_gain 21 = .ok (.iconst 4, 1) := by decide +kernel
theorem dX7_gain_22 : decode cX7_gain 22 = .ok (.iload_n 1, 1) := by decide +kernel
theorem dX7_gain_23 : decode cX7_gain 23 = .ok (.imul, 1) := by decide +kernel
theorem dX7_gain_24 : decode cX7_gain 24 = .ok (.iconst 2, 1) := by decide +kernel
theorem dX7_gain_25 : decode cX7_gain 25 = .ok (.iload_n 2, 1) := by decide +kernel
theorem dX7_gain_26 : decode cX7_gain 26 = .ok (.imul, 1) := by decide +kernel
theorem dX7_gain_27 : decode cX7_gain 27 = .ok (.iadd, 1) := by decide +kernel
theorem dX7_gain_28 : decode cX7_gain 28 = .ok (.aload_n 0, 1) := by decide +kernel
theorem dX7_gain_29 : decode cX7_gain 29 = .ok (.getfield 142, 3) := by decide +kernel
theorem dX7_gain_32 : decode cX7_gain 32 = .ok (.iadd, 1) := by decide +kernel
theorem dX7_gain_33 : decode cX7_gain 33 = .ok (.iaload, 1) := by decide +kernel
theorem dX7_gain_34 : decode cX7_gain 34 = .ok (.ireturn, 1) := by decide +kernel
theorem dX7_placeBehind_0 : decode cX7_placeBehind 0 = .ok (.iload_n 2, 1) := by decide +kernel
theorem dX7_placeBehind_1 : decode cX7_placeBehind 1 = .ok (.iconst 3, 1) := by decide +kernel
theorem dX7_placeBehind_2 : decode cX7_placeBehind 2 = .ok (.irem, 1) := by decide +kernel
theorem dX7_placeBehind_3 : decode cX7_placeBehind 3 = .ok (.iconst 1, 1) := by decide +kernel
theorem dX7_placeBehind_4 : decode cX7_placeBehind 4 = .ok (.isub, 1) := by decide +kernel
theorem dX7_placeBehind_5 : decode cX7_placeBehind 5 = .ok (.istore 4, 2) := by decide +kernel
theorem dX7_placeBehind_7 : decode cX7_placeBehind 7 = .ok (.aload_n 0, 1) := by decide +kernel
theorem dX7_placeBehind_8 : decode cX7_placeBehind 8 = .ok (.iload_n 1, 1) := by decide +kernel
theorem dX7_placeBehind_9 : decode cX7_placeBehind 9 = .ok (.iload_n 2, 1) := by decide +kernel
theorem dX7_placeBehind_10 : decode cX7_placeBehind 10 = .ok (.iconst 3, 1) := by decide +kernel
theorem dX7_placeBehind_11 : decode cX7_placeBehind 11 = .ok (.idiv, 1) := by decide +kernel
theorem dX7_placeBehind_12 : decode cX7_placeBehind 12 = .ok (.iload_n 3, 1) := by decide +kernel
theorem dX7_placeBehind_13 : decode cX7_placeBehind 13 = .ok (.invokevirtual 170, 3) := by decide +kernel
theorem dX7_placeBehind_16 : decode cX7_placeBehind 16 = .ok (.istore 5, 2) := by decide +kernel
theorem dX7_placeBehind_18 : decode cX7_placeBehind 18 = .ok (.iload 5, 2) := by decide +kernel
theorem dX7_placeBehind_20 : decode cX7_placeBehind 20 = .ok (.iconst (-1), 1) := by decide +kernel
theorem dX7_placeBehind_21 : decode cX7_placeBehind 21 = .ok (.if_icmp .ne 5, 3) := by decide +kernel
theorem dX7_placeBehind_24 : decode cX7_placeBehind 24 = .ok (.iconst (-1), 1) := by decide +kernel
theorem dX7_placeBehind_25 : decode cX7_placeBehind 25 = .ok (.ireturn, 1) := by decide +kernel
theorem dX7_placeBehind_26 : decode cX7_placeBehind 26 = .ok (.aload_n 0, 1) := by decide +kernel
theorem dX7_placeBehind_27 : decode cX7_placeBehind 27 = .ok (.aload_n 0, 1) := by decide +kernel
theorem dX7_placeBehind_28 : decode cX7_placeBehind 28 = .ok (.iload_n 1, 1) := by decide +kernel
theorem dX7_placeBehind_29 : decode cX7_placeBehind 29 = .ok (.iload 4, 2) := by decide +kernel
theorem dX7_placeBehind_31 : decode cX7_placeBehind 31 = .ok (.invokevirtual 192, 3) := by decide +kernel
theorem dX7_placeBehind_34 : decode cX7_placeBehind 34 = .ok (.putfield 195, 3) := by decide +kernel
theorem dX7_placeBehind_37 : decode cX7_placeBehind 37 = .ok (.iload 5, 2) := by decide +kernel
theorem dX7_placeBehind_39 : decode cX7_placeBehind 39 = .ok (.aload_n 0, 1) := by decide +kernel
theorem dX7_placeBehind_40 : decode cX7_placeBehind 40 = .ok (.getfield 142, 3) := by decide +kernel
theorem dX7_placeBehind_43 : decode cX7_placeBehind 43 = .ok (.iconst (-1), 1) := by decide +kernel
theorem dX7_placeBehind_44 : decode cX7_placeBehind 44 = .ok (.if_icmp .ne 8, 3) := by decide +kernel
theorem dX7_placeBehind_47 : decode cX7_placeBehind 47 = .ok (.iload 4, 2) := by decide +kernel
theorem dX7_placeBehind_49 : decode cX7_placeBehind 49 = .ok (.goto 7, 3) := by decide +kernel
theorem dX7_placeBehind_52 : decode cX7_placeBehind 52 = .ok (.aload_n 0, 1) := by decide +kernel
theorem dX7_placeBehind_53 : decode cX7_placeBehind 53 = .ok (.getfield 142, 3) := by decide +kernel
theorem dX7_placeBehind_56 : decode cX7_placeBehind 56 = .ok (.invokestatic 198, 3) := by decide +kernel
theorem dX7_placeBehind_59 : decode cX7_placeBehind 59 = .ok (.ireturn, 1) := by decide +kernel
theorem dX7_moreBy_0 : decode cX7_moreBy 0 = .ok (.aload_n 0, 1) := by decide +kernel
theorem dX7_moreBy_1 : decode cX7_moreBy 1 = .ok (.iload_n 1, 1) := by decide +kernel
theorem dX7_moreBy_2 : decode cX7_moreBy 2 = .ok (.iload_n 3, 1) := by decide +kernel
theorem dX7_moreBy_3 : decode cX7_moreBy 3 = .ok (.bipush 15, 2) := by decide +kernel
theorem dX7_moreBy_5 : decode cX7_moreBy 5 = .ok (.idiv, 1) := by decide +kernel
theorem dX7_moreBy_6 : decode cX7_moreBy 6 = .ok (.iload 4, 2) := by decide +kernel
theorem dX7_moreBy_8 : decode cX7_moreBy 8 = .ok (.invokevirtual 201, 3) := by decide +kernel
theorem dX7_moreBy_11 : decode cX7_moreBy 11 = .ok (.istore 5, 2) := by decide +kernel
theorem dX7_moreBy_13 : decode cX7_moreBy 13 = .ok (.iload 5, 2) := by decide +kernel
theorem dX7_moreBy_15 : decode cX7_moreBy 15 = .ok (.iconst (-1), 1) := by decide +kernel
theorem dX7_moreBy_16 : decode cX7_moreBy 16 = .ok (.if_icmp .ne 6, 3) := by decide +kernel
theorem dX7_moreBy_19 : decode cX7_moreBy 19 = .ok (.ldc 204, 2) := by decide +kernel
theorem dX7_moreBy_21 : decode cX7_moreBy 21 = .ok (.ireturn, 1) := by decide +kernel
theorem dX7_moreBy_22 : decode cX7_moreBy 22 = .ok (.aload_n 0, 1) := by decide +kernel
theorem dX7_moreBy_23 : decode cX7_moreBy 23 = .ok (.getfield 195, 3) := by decide +kernel
theorem dX7_moreBy_26 : decode cX7_moreBy 26 = .ok (.istore 6, 2) := by decide +kernel
theorem dX7_moreBy_28 : decode cX7_moreBy 28 = .ok (.aload_n 0, 1) := by decide +kernel
theorem dX7_moreBy_29 : decode cX7_moreBy 29 = .ok (.iload_n 2, 1) := by decide +kernel
theorem dX7_moreBy_30 : decode cX7_moreBy 30 = .ok (.iload_n 3, 1) := by decide +kernel
theorem dX7_moreBy_31 : decode cX7_moreBy 31 = .ok (.bipush 15, 2) := by decide +kernel
theorem dX7_moreBy_33 : decode cX7_moreBy 33 = .ok (.irem, 1) := by decide +kernel
theorem dX7_moreBy_34 : decode cX7_moreBy 34 = .ok (.iload 4, 2) := by decide +kernel
theorem dX7_moreBy_36 : decode cX7_moreBy 36 = .ok (.invokevirtual 201, 3) := by decide +kernel
theorem dX7_moreBy_39 : decode cX7_moreBy 39 = .ok (.istore 7, 2) := by decide +kernel
theorem dX7_moreBy_41 : decode cX7_moreBy 41 = .ok (.iload 7, 2) := by decide +kernel
theorem dX7_moreBy_43 : decode cX7_moreBy 43 = .ok (.iconst (-1), 1) := by decide +kernel
theorem dX7_moreBy_44 : decode cX7_moreBy 44 = .ok (.if_icmp .eq 21, 3) := by decide +kernel
theorem dX7_moreBy_47 : decode cX7_moreBy 47 = .ok (.aload_n 0, 1) := by decide +kernel
theorem dX7_moreBy_48 : decode cX7_moreBy 48 = .ok (.getfield 35, 3) := by decide +kernel
theorem dX7_moreBy_51 : decode cX7_moreBy 51 = .ok (.bipush 15, 2) := by decide +kernel
theorem dX7_moreBy_53 : decode cX7_moreBy 53 = .ok (.iload 5, 2) := by decide +kernel
theorem dX7_moreBy_55 : decode cX7_moreBy 55 = .ok (.imul, 1) := by decide +kernel
theorem dX7_moreBy_56 : decode cX7_moreBy 56 = .ok (.iload 7, 2) := by decide +kernel
theorem dX7_moreBy_58 : decode cX7_moreBy 58 = .ok (.iadd, 1) := by decide +kernel
theorem dX7_moreBy_59 : decode cX7_moreBy 59 = .ok (.iaload, 1) := by decide +kernel
theorem dX7_moreBy_60 : decode cX7_moreBy 60 = .ok (.ldc 204, 2) := by decide +kernel
theorem dX7_moreBy_62 : decode cX7_moreBy 62 = .ok (.if_icmp .ne 6, 3) := by decide +kernel
theorem dX7_moreBy_65 : decode cX7_moreBy 65 = .ok (.ldc 204, 2) := by decide +kernel
theorem dX7_moreBy_67 : decode cX7_moreBy 67 = .ok (.ireturn, 1) := by decide +kernel
theorem dX7_moreBy_68 : decode cX7_moreBy 68 = .ok (.aload_n 0, 1) := by decide +kernel
theorem dX7_moreBy_69 : decode cX7_moreBy 69 = .ok (.getfield 35, 3) := by decide +kernel
theorem dX7_moreBy_72 : decode cX7_moreBy 72 = .ok (.bipush 15, 2) := by decide +kernel
theorem dX7_moreBy_74 : decode cX7_moreBy 74 = .ok (.iload 5, 2) := by decide +kernel
theorem dX7_moreBy_76 : decode cX7_moreBy 76 = .ok (.imul, 1) := by decide +kernel
theorem dX7_moreBy_77 : decode cX7_moreBy 77 = .ok (.iload 7, 2) := by decide +kernel
theorem dX7_moreBy_79 : decode cX7_moreBy 79 = .ok (.iadd, 1) := by decide +kernel
theorem dX7_moreBy_80 : decode cX7_moreBy 80 = .ok (.iaload, 1) := by decide +kernel
theorem dX7_moreBy_81 : decode cX7_moreBy 81 = .ok (.aload_n 0, 1) := by decide +kernel
theorem dX7_moreBy_82 : decode cX7_moreBy 82 = .ok (.getfield 195, 3) := by decide +kernel
theorem dX7_moreBy_85 : decode cX7_moreBy 85 = .ok (.iadd, 1) := by decide +kernel
theorem dX7_moreBy_86 : decode cX7_moreBy 86 = .ok (.iload 6, 2) := by decide +kernel
theorem dX7_moreBy_88 : decode cX7_moreBy 88 = .ok (.isub, 1) := by decide +kernel
theorem dX7_moreBy_89 : decode cX7_moreBy 89 = .ok (.ireturn, 1) := by decide +kernel
theorem dX7_isState_0 : decode cX7_isState 0 = .ok (.iload_n 0, 1) := by decide +kernel
theorem dX7_isState_1 : decode cX7_isState 1 = .ok (.iconst 2, 1) := by decide +kernel
theorem dX7_isState_2 : decode cX7_isState 2 = .ok (.if_icmp .eq 16, 3) := by decide +kernel
theorem dX7_isState_5 : decode cX7_isState 5 = .ok (.iload_n 1, 1) := by decide +kernel
theorem dX7_isState_6 : decode cX7_isState 6 = .ok (.ifCond .eq 12, 3) := by decide +kernel
theorem dX7_isState_9 : decode cX7_isState 9 = .ok (.iload_n 0, 1) := by decide +kernel
theorem dX7_isState_10 : decode cX7_isState 10 = .ok (.ifCond .eq 12, 3) := by decide +kernel
theorem dX7_isState_13 : decode cX7_isState 13 = .ok (.iload_n 1, 1) := by decide +kernel
theorem dX7_isState_14 : decode cX7_isState 14 = .ok (.iconst 1, 1) := by decide +kernel
theorem dX7_isState_15 : decode cX7_isState 15 = .ok (.if_icmp .ne 7, 3) := by decide +kernel
theorem dX7_isState_18 : decode cX7_isState 18 = .ok (.iconst 1, 1) := by decide +kernel
theorem dX7_isState_19 : decode cX7_isState 19 = .ok (.goto 4, 3) := by decide +kernel
theorem dX7_isState_22 : decode cX7_isState 22 = .ok (.iconst 0, 1) := by decide +kernel
theorem dX7_isState_23 : decode cX7_isState 23 = .ok (.ireturn, 1) := by decide +kernel
theorem dX7_goBack_0 : decode cX7_goBack 0 = .ok (.iconst 0, 1) := by decide +kernel
theorem dX7_goBack_1 : decode cX7_goBack 1 = .ok (.istore_n 3, 1) := by decide +kernel
theorem dX7_goBack_2 : decode cX7_goBack 2 = .ok (.iload_n 3, 1) := by decide +kernel
theorem dX7_goBack_3 : decode cX7_goBack 3 = .ok (.sipush 225, 3) := by decide +kernel
theorem dX7_goBack_6 : decode cX7_goBack 6 = .ok (.if_icmp .ge 118, 3) := by decide +kernel
theorem dX7_goBack_9 : decode cX7_goBack 9 = .ok (.aload_n 0, 1) := by decide +kernel
theorem dX7_goBack_10 : decode cX7_goBack 10 = .ok (.getfield 38, 3) := by decide +kernel
theorem dX7_goBack_13 : decode cX7_goBack 13 = .ok (.iload_n 3, 1) := by decide +kernel
theorem dX7_goBack_14 : decode cX7_goBack 14 = .ok (.ldc 204, 2) := by decide +kernel
theorem dX7_goBack_16 : decode cX7_goBack 16 = .ok (.iastore, 1) := by decide +kernel
theorem dX7_goBack_17 : decode cX7_goBack 17 = .ok (.aload_n 0, 1) := by decide +kernel
theorem dX7_goBack_18 : decode cX7_goBack 18 = .ok (.getfield 7, 3) := by decide +kernel
theorem dX7_goBack_21 : decode cX7_goBack 21 = .ok (.iload_n 1, 1) := by decide +kernel
theorem dX7_goBack_22 : decode cX7_goBack 22 = .ok (.iaload, 1) := by decide +kernel
theorem dX7_goBack_23 : decode cX7_goBack 23 = .ok (.iload_n 3, 1) := by decide +kernel
theorem dX7_goBack_24 : decode cX7_goBack 24 = .ok (.bipush 45, 2) := by decide +kernel
theorem dX7_goBack_26 : decode cX7_goBack 26 = .ok (.idiv, 1) := by decide +kernel
theorem dX7_goBack_27 : decode cX7_goBack 27 = .ok (.invokestatic 205, 3) := by decide +kernel
theorem dX7_goBack_30 : decode cX7_goBack 30 = .ok (.ifCond .eq 25, 3) := by decide +kernel
theorem dX7_goBack_33 : decode cX7_goBack 33 = .ok (.aload_n 0, 1) := by decide +kernel
theorem dX7_goBack_34 : decode cX7_goBack 34 = .ok (.getfield 7, 3) := by decide +kernel
theorem dX7_goBack_37 : decode cX7_goBack 37 = .ok (.iload_n 2, 1) := by decide +kernel
theorem dX7_goBack_38 : decode cX7_goBack 38 = .ok (.iaload, 1) := by decide +kernel
theorem dX7_goBack_39 : decode cX7_goBack 39 = .ok (.iload_n 3, 1) := by decide +kernel
theorem dX7_goBack_40 : decode cX7_goBack 40 = .ok (.bipush 15, 2) := by decide +kernel
theorem dX7_goBack_42 : decode cX7_goBack 42 = .ok (.irem, 1) := by decide +kernel
theorem dX7_goBack_43 : decode cX7_goBack 43 = .ok (.iconst 3, 1) := by decide +kernel
theorem dX7_goBack_44 : decode cX7_goBack 44 = .ok (.idiv, 1) := by decide +kernel
theorem dX7_goBack_45 : decode cX7_goBack 45 = .ok (.invokestatic 205, 3) := by decide +kernel
theorem dX7_goBack_48 : decode cX7_goBack 48 = .ok (.ifCond .eq 7, 3) := by decide +kernel
theorem dX7_goBack_51 : decode cX7_goBack 51 = .ok (.iconst 1, 1) := by decide +kernel
theorem dX7_goBack_52 : decode cX7_goBack 52 = .ok (.goto 4, 3) := by decide +kernel
theorem dX7_goBack_55 : decode cX7_goBack 55 = .ok (.iconst 0, 1) := by decide +kernel
theorem dX7_goBack_56 : decode cX7_goBack 56 = .ok (.istore 4, 2) := by decide +kernel
theorem dX7_goBack_58 : decode cX7_goBack 58 = .ok (.iconst 0, 1) := by decide +kernel
theorem dX7_goBack_59 : decode cX7_goBack 59 = .ok (.istore 5, 2) := by decide +kernel
theorem dX7_goBack_61 : decode cX7_goBack 61 = .ok (.iload 5, 2) := by decide +kernel
theorem dX7_goBack_63 : decode cX7_goBack 63 = .ok (.bipush 8, 2) := by decide +kernel
theorem dX7_goBack_65 : decode cX7_goBack 65 = .ok (.if_icmp .ge 53, 3) := by decide +kernel
theorem dX7_goBack_68 : decode cX7_goBack 68 = .ok (.iload 4, 2) := by decide +kernel
theorem dX7_goBack_70 : decode cX7_goBack 70 = .ok (.ifCond .eq 48, 3) := by decide +kernel
theorem dX7_goBack_73 : decode cX7_goBack 73 = .ok (.aload_n 0, 1) := by decide +kernel
theorem dX7_goBack_74 : decode cX7_goBack 74 = .ok (.iload_n 1, 1) := by decide +kernel
theorem dX7_goBack_75 : decode cX7_goBack 75 = .ok (.iload_n 2, 1) := by decide +kernel
theorem dX7_goBack_76 : decode cX7_goBack 76 = .ok (.iload_n 3, 1) := by decide +kernel
theorem dX7_goBack_77 : decode cX7_goBack 77 = .ok (.iload 5, 2) := by decide +kernel
theorem dX7_goBack_79 : decode cX7_goBack 79 = .ok (.invokevirtual 208, 3) := by decide +kernel
theorem dX7_goBack_82 : decode cX7_goBack 82 = .ok (.istore 6, 2) := by decide +kernel
theorem dX7_goBack_84 : decode cX7_goBack 84 = .ok (.aload_n 0, 1) := by decide +kernel
theorem dX7_goBack_85 : decode cX7_goBack 85 = .ok (.getfield 38, 3) := by decide +kernel
theorem dX7_goBack_88 : decode cX7_goBack 88 = .ok (.iload_n 3, 1) := by decide +kernel
theorem dX7_goBack_89 : decode cX7_goBack 89 = .ok (.iload 6, 2) := by decide +kernel
theorem dX7_goBack_91 : decode cX7_goBack 91 = .ok (.aload_n 0, 1) := by decide +kernel
theorem dX7_goBack_92 : decode cX7_goBack 92 = .ok (.getfield 38, 3) := by decide +kernel
theorem dX7_goBack_95 : decode cX7_goBack 95 = .ok (.iload_n 3, 1) := by decide +kernel
theorem dX7_goBack_96 : decode cX7_goBack 96 = .ok (.iaload, 1) := by decide +kernel
theorem dX7_goBack_97 : decode cX7_goBack 97 = .ok (.if_icmp .le 8, 3) := by decide +kernel
theorem dX7_goBack_100 : decode cX7_goBack 100 = .ok (.iload 6, 2) := by decide +kernel
theorem dX7_goBack_102 : decode cX7_goBack 102 = .ok (.goto 9, 3) := by decide +kernel
theorem dX7_goBack_105 : decode cX7_goBack 105 = .ok (.aload_n 0, 1) := by decide +kernel
theorem dX7_goBack_106 : decode cX7_goBack 106 = .ok (.getfield 38, 3) := by decide +kernel
theorem dX7_goBack_109 : decode cX7_goBack 109 = .ok (.iload_n 3, 1) := by decide +kernel
theorem dX7_goBack_110 : decode cX7_goBack 110 = .ok (.iaload, 1) := by decide +kernel
theorem dX7_goBack_111 : decode cX7_goBack 111 = .ok (.iastore, 1) := by decide +kernel
theorem dX7_goBack_112 : decode cX7_goBack 112 = .ok (.iinc 5 1, 3) := by decide +kernel
theorem dX7_goBack_115 : decode cX7_goBack 115 = .ok (.goto (-54), 3) := by decide +kernel
theorem dX7_goBack_118 : decode cX7_goBack 118 = .ok (.iinc 3 1, 3) := by decide +kernel
theorem dX7_goBack_121 : decode cX7_goBack 121 = .ok (.goto (-119), 3) := by decide +kernel
theorem dX7_goBack_124 : decode cX7_goBack 124 = .ok (.iconst 0, 1) := by decide +kernel
theorem dX7_goBack_125 : decode cX7_goBack 125 = .ok (.istore_n 3, 1) := by decide +kernel
theorem dX7_goBack_126 : decode cX7_goBack 126 = .ok (.iload_n 3, 1) := by decide +kernel
theorem dX7_goBack_127 : decode cX7_goBack 127 = .ok (.sipush 225, 3) := by decide +kernel
theorem dX7_goBack_130 : decode cX7_goBack 130 = .ok (.if_icmp .ge 21, 3) := by decide +kernel
theorem dX7_goBack_133 : decode cX7_goBack 133 = .ok (.aload_n 0, 1) := by decide +kernel
theorem dX7_goBack_134 : decode cX7_goBack 134 = .ok (.getfield 35, 3) := by decide +kernel
theorem dX7_goBack_137 : decode cX7_goBack 137 = .ok (.iload_n 3, 1) := by decide +kernel
theorem dX7_goBack_138 : decode cX7_goBack 138 = .ok (.aload_n 0, 1) := by decide +kernel
theorem dX7_goBack_139 : decode cX7_goBack 139 = .ok (.getfield 38, 3) := by decide +kernel
theorem dX7_goBack_142 : decode cX7_goBack 142 = .ok (.iload_n 3, 1) := by decide +kernel
theorem dX7_goBack_143 : decode cX7_goBack 143 = .ok (.iaload, 1) := by decide +kernel
theorem dX7_goBack_144 : decode cX7_goBack 144 = .ok (.iastore, 1) := by decide +kernel
theorem dX7_goBack_145 : decode cX7_goBack 145 = .ok (.iinc 3 1, 3) := by decide +kernel
theorem dX7_goBack_148 : decode cX7_goBack 148 = .ok (.goto (-22), 3) := by decide +kernel
theorem dX7_goBack_151 : decode cX7_goBack 151 = .ok (.return_, 1) := by decide +kernel
theorem dX7_beginBack_0 : decode cX7_beginBack 0 = .ok (.iconst 0, 1) := by decide +kernel
theorem dX7_beginBack_1 : decode cX7_beginBack 1 = .ok (.istore_n 1, 1) := by decide +kernel
theorem dX7_beginBack_2 : decode cX7_beginBack 2 = .ok (.iload_n 1, 1) := by decide +kernel
theorem dX7_beginBack_3 : decode cX7_beginBack 3 = .ok (.sipush 225, 3) := by decide +kernel
theorem dX7_beginBack_6 : decode cX7_beginBack 6 = .ok (.if_icmp .ge 37, 3) := by decide +kernel
theorem dX7_beginBack_9 : decode cX7_beginBack 9 = .ok (.aload_n 0, 1) := by decide +kernel
theorem dX7_beginBack_10 : decode cX7_beginBack 10 = .ok (.getfield 35, 3) := by decide +kernel
theorem dX7_beginBack_13 : decode cX7_beginBack 13 = .ok (.iload_n 1, 1) := by decide +kernel
theorem dX7_beginBack_14 : decode cX7_beginBack 14 = .ok (.iload_n 1, 1) := by decide +kernel
theorem dX7_beginBack_15 : decode cX7_beginBack 15 = .ok (.bipush 45, 2) := by decide +kernel
theorem dX7_beginBack_17 : decode cX7_beginBack 17 = .ok (.idiv, 1) := by decide +kernel
theorem dX7_beginBack_18 : decode cX7_beginBack 18 = .ok (.ifCond .ne 16, 3) := by decide +kernel
theorem dX7_beginBack_21 : decode cX7_beginBack 21 = .ok (.iload_n 1, 1) := by decide +kernel
theorem dX7_beginBack_22 : decode cX7_beginBack 22 = .ok (.bipush 15, 2) := by decide +kernel
theorem dX7_beginBack_24 : decode cX7_beginBack 24 = .ok (.irem, 1) := by decide +kernel
theorem dX7_beginBack_25 : decode cX7_beginBack 25 = .ok (.iconst 3, 1) := by decide +kernel
theorem dX7_beginBack_26 : decode cX7_beginBack 26 = .ok (.idiv, 1) := by decide +kernel
theorem dX7_beginBack_27 : decode cX7_beginBack 27 = .ok (.ifCond .ne 7, 3) := by decide +kernel
theorem dX7_beginBack_30 : decode cX7_beginBack 30 = .ok (.iconst 0, 1) := by decide +kernel
theorem dX7_beginBack_31 : decode cX7_beginBack 31 = .ok (.goto 5, 3) := by decide +kernel
theorem dX7_beginBack_34 : decode cX7_beginBack 34 = .ok (.ldc 204, 2) := by decide +kernel
theorem dX7_beginBack_36 : decode cX7_beginBack 36 = .ok (.iastore, 1) := by decide +kernel
theorem dX7_beginBack_37 : decode cX7_beginBack 37 = .ok (.iinc 1 1, 3) := by decide +kernel
theorem dX7_beginBack_40 : decode cX7_beginBack 40 = .ok (.goto (-38), 3) := by decide +kernel
theorem dX7_beginBack_43 : decode cX7_beginBack 43 = .ok (.return_, 1) := by decide +kernel
theorem dX7_canLose_0 : decode cX7_canLose 0 = .ok (.aload_n 0, 1) := by decide +kernel
theorem dX7_canLose_1 : decode cX7_canLose 1 = .ok (.iload_n 1, 1) := by decide +kernel
theorem dX7_canLose_2 : decode cX7_canLose 2 = .ok (.iload_n 3, 1) := by decide +kernel
theorem dX7_canLose_3 : decode cX7_canLose 3 = .ok (.invokevirtual 180, 3) := by decide +kernel
theorem dX7_canLose_6 : decode cX7_canLose 6 = .ok (.aload_n 0, 1) := by decide +kernel
theorem dX7_canLose_7 : decode cX7_canLose 7 = .ok (.getfield 155, 3) := by decide +kernel
theorem dX7_canLose_10 : decode cX7_canLose 10 = .ok (.iconst (-1), 1) := by decide +kernel
theorem dX7_canLose_11 : decode cX7_canLose 11 = .ok (.if_icmp .ne 5, 3) := by decide +kernel
theorem dX7_canLose_14 : decode cX7_canLose 14 = .ok (.iconst 0, 1) := by decide +kernel
theorem dX7_canLose_15 : decode cX7_canLose 15 = .ok (.ireturn, 1) := by decide +kernel
theorem dX7_canLose_16 : decode cX7_canLose 16 = .ok (.aload_n 0, 1) := by decide +kernel
theorem dX7_canLose_17 : decode cX7_canLose 17 = .ok (.getfield 155, 3) := by decide +kernel
theorem dX7_canLose_20 : decode cX7_canLose 20 = .ok (.aload_n 0, 1) := by decide +kernel
theorem dX7_canLose_21 : decode cX7_canLose 21 = .ok (.getfield 158, 3) := by decide +kernel
theorem dX7_canLose_24 : decode cX7_canLose 24 = .ok (.invokestatic 198, 3) := by decide +kernel
theorem dX7_canLose_27 : decode cX7_canLose 27 = .ok (.istore 4, 2) := by decide +kernel
theorem dX7_canLose_29 : decode cX7_canLose 29 = .ok (.aload_n 0, 1) := by decide +kernel
theorem dX7_canLose_30 : decode cX7_canLose 30 = .ok (.getfield 164, 3) := by decide +kernel
theorem dX7_canLose_33 : decode cX7_canLose 33 = .ok (.istore 5, 2) := by decide +kernel
theorem dX7_canLose_35 : decode cX7_canLose 35 = .ok (.aload_n 0, 1) := by decide +kernel
theorem dX7_canLose_36 : decode cX7_canLose 36 = .ok (.iload_n 2, 1) := by decide +kernel
theorem dX7_canLose_37 : decode cX7_canLose 37 = .ok (.iload_n 3, 1) := by decide +kernel
theorem dX7_canLose_38 : decode cX7_canLose 38 = .ok (.invokevirtual 180, 3) := by decide +kernel
theorem dX7_canLose_41 : decode cX7_canLose 41 = .ok (.aload_n 0, 1) := by decide +kernel
theorem dX7_canLose_42 : decode cX7_canLose 42 = .ok (.getfield 155, 3) := by decide +kernel
theorem dX7_canLose_45 : decode cX7_canLose 45 = .ok (.iconst (-1), 1) := by decide +kernel
theorem dX7_canLose_46 : decode cX7_canLose 46 = .ok (.if_icmp .ne 5, 3) := by decide +kernel
theorem dX7_canLose_49 : decode cX7_canLose 49 = .ok (.iconst 0, 1) := by decide +kernel
theorem dX7_canLose_50 : decode cX7_canLose 50 = .ok (.ireturn, 1) := by decide +kernel
theorem dX7_canLose_51 : decode cX7_canLose 51 = .ok (.aload_n 0, 1) := by decide +kernel
theorem dX7_canLose_52 : decode cX7_canLose 52 = .ok (.getfield 35, 3) := by decide +kernel
theorem dX7_canLose_55 : decode cX7_canLose 55 = .ok (.bipush 15, 2) := by decide +kernel
theorem dX7_canLose_57 : decode cX7_canLose 57 = .ok (.iload 4, 2) := by decide +kernel
theorem dX7_canLose_59 : decode cX7_canLose 59 = .ok (.imul, 1) := by decide +kernel
theorem dX7_canLose_60 : decode cX7_canLose 60 = .ok (.aload_n 0, 1) := by decide +kernel
theorem dX7_canLose_61 : decode cX7_canLose 61 = .ok (.getfield 155, 3) := by decide +kernel
theorem dX7_canLose_64 : decode cX7_canLose 64 = .ok (.aload_n 0, 1) := by decide +kernel
theorem dX7_canLose_65 : decode cX7_canLose 65 = .ok (.getfield 158, 3) := by decide +kernel
theorem dX7_canLose_68 : decode cX7_canLose 68 = .ok (.invokestatic 198, 3) := by decide +kernel
theorem dX7_canLose_71 : decode cX7_canLose 71 = .ok (.iadd, 1) := by decide +kernel
theorem dX7_canLose_72 : decode cX7_canLose 72 = .ok (.iaload, 1) := by decide +kernel
theorem dX7_canLose_73 : decode cX7_canLose 73 = .ok (.istore 6, 2) := by decide +kernel
theorem dX7_canLose_75 : decode cX7_canLose 75 = .ok (.iload 6, 2) := by decide +kernel
theorem dX7_canLose_77 : decode cX7_canLose 77 = .ok (.ldc 204, 2) := by decide +kernel
theorem dX7_canLose_79 : decode cX7_canLose 79 = .ok (.if_icmp .ne 5, 3) := by decide +kernel
theorem dX7_canLose_82 : decode cX7_canLose 82 = .ok (.iconst 0, 1) := by decide +kernel
theorem dX7_canLose_83 : decode cX7_canLose 83 = .ok (.ireturn, 1) := by decide +kernel
theorem dX7_canLose_84 : decode cX7_canLose 84 = .ok (.aload_n 0, 1) := by decide +kernel
theorem dX7_canLose_85 : decode cX7_canLose 85 = .ok (.getfield 164, 3) := by decide +kernel
theorem dX7_canLose_88 : decode cX7_canLose 88 = .ok (.iload 6, 2) := by decide +kernel
theorem dX7_canLose_90 : decode cX7_canLose 90 = .ok (.iadd, 1) := by decide +kernel
theorem dX7_canLose_91 : decode cX7_canLose 91 = .ok (.iload 5, 2) := by decide +kernel
theorem dX7_canLose_93 : decode cX7_canLose 93 = .ok (.isub, 1) := by decide +kernel
theorem dX7_canLose_94 : decode cX7_canLose 94 = .ok (.istore 7, 2) := by decide +kernel
theorem dX7_canLose_96 : decode cX7_canLose 96 = .ok (.iload 7, 2) := by decide +kernel
theorem dX7_canLose_98 : decode cX7_canLose 98 = .ok (.ifCond .gt 13, 3) := by decide +kernel
theorem dX7_canLose_101 : decode cX7_canLose 101 = .ok (.iload 7, 2) := by decide +kernel
theorem dX7_canLose_103 : decode cX7_canLose 103 = .ok (.ifCond .ne 12, 3) := by decide +kernel
theorem dX7_canLose_106 : decode cX7_canLose 106 = .ok (.iload_n 2, 1) := by decide +kernel
theorem dX7_canLose_107 : decode cX7_canLose 107 = .ok (.iload_n 1, 1) := by decide +kernel
theorem dX7_canLose_108 : decode cX7_canLose 108 = .ok (.if_icmp .ge 7, 3) := by decide +kernel
theorem dX7_canLose_111 : decode cX7_canLose 111 = .ok (.iconst 1, 1) := by decide +kernel
theorem dX7_canLose_112 : decode cX7_canLose 112 = .ok (.goto 4, 3) := by decide +kernel
theorem dX7_canLose_115 : decode cX7_canLose 115 = .ok (.iconst 0, 1) := by decide +kernel
theorem dX7_canLose_116 : decode cX7_canLose 116 = .ok (.ireturn, 1) := by decide +kernel
theorem dX7_layLoses_0 : decode cX7_layLoses 0 = .ok (.aload_n 0, 1) := by decide +kernel
theorem dX7_layLoses_1 : decode cX7_layLoses 1 = .ok (.invokevirtual 212, 3) := by decide +kernel
theorem dX7_layLoses_4 : decode cX7_layLoses 4 = .ok (.iconst 0, 1) := by decide +kernel
theorem dX7_layLoses_5 : decode cX7_layLoses 5 = .ok (.istore_n 3, 1) := by decide +kernel
theorem dX7_layLoses_6 : decode cX7_layLoses 6 = .ok (.iload_n 3, 1) := by decide +kernel
theorem dX7_layLoses_7 : decode cX7_layLoses 7 = .ok (.aload_n 0, 1) := by decide +kernel
theorem dX7_layLoses_8 : decode cX7_layLoses 8 = .ok (.getfield 22, 3) := by decide +kernel
theorem dX7_layLoses_11 : decode cX7_layLoses 11 = .ok (.if_icmp .gt 69, 3) := by decide +kernel
theorem dX7_layLoses_14 : decode cX7_layLoses 14 = .ok (.iload_n 3, 1) := by decide +kernel
theorem dX7_layLoses_15 : decode cX7_layLoses 15 = .ok (.ifCond .le 9, 3) := by decide +kernel
theorem dX7_layLoses_18 : decode cX7_layLoses 18 = .ok (.aload_n 0, 1) := by decide +kernel
theorem dX7_layLoses_19 : decode cX7_layLoses 19 = .ok (.iload_n 1, 1) := by decide +kernel
theorem dX7_layLoses_20 : decode cX7_layLoses 20 = .ok (.iload_n 2, 1) := by decide +kernel
theorem dX7_layLoses_21 : decode cX7_layLoses 21 = .ok (.invokevirtual 215, 3) := by decide +kernel
theorem dX7_layLoses_24 : decode cX7_layLoses 24 = .ok (.aload_n 0, 1) := by decide +kernel
theorem dX7_layLoses_25 : decode cX7_layLoses 25 = .ok (.getfield 22, 3) := by decide +kernel
theorem dX7_layLoses_28 : decode cX7_layLoses 28 = .ok (.iload_n 3, 1) := by decide +kernel
theorem dX7_layLoses_29 : decode cX7_layLoses 29 = .ok (.isub, 1) := by decide +kernel
theorem dX7_layLoses_30 : decode cX7_layLoses 30 = .ok (.istore 4, 2) := by decide +kernel
theorem dX7_layLoses_32 : decode cX7_layLoses 32 = .ok (.iload 4, 2) := by decide +kernel
theorem dX7_layLoses_34 : decode cX7_layLoses 34 = .ok (.aload_n 0, 1) := by decide +kernel
theorem dX7_layLoses_35 : decode cX7_layLoses 35 = .ok (.getfield 133, 3) := by decide +kernel
theorem dX7_layLoses_38 : decode cX7_layLoses 38 = .ok (.if_icmp .gt 36, 3) := by decide +kernel
theorem dX7_layLoses_41 : decode cX7_layLoses 41 = .ok (.aload_n 0, 1) := by decide +kernel
theorem dX7_layLoses_42 : decode cX7_layLoses 42 = .ok (.getfield 41, 3) := by decide +kernel
theorem dX7_layLoses_45 : decode cX7_layLoses 45 = .ok (.iload 4, 2) := by decide +kernel
theorem dX7_layLoses_47 : decode cX7_layLoses 47 = .ok (.aload_n 0, 1) := by decide +kernel
theorem dX7_layLoses_48 : decode cX7_layLoses 48 = .ok (.getfield 41, 3) := by decide +kernel
theorem dX7_layLoses_51 : decode cX7_layLoses 51 = .ok (.iload 4, 2) := by decide +kernel
theorem dX7_layLoses_53 : decode cX7_layLoses 53 = .ok (.baload, 1) := by decide +kernel
theorem dX7_layLoses_54 : decode cX7_layLoses 54 = .ok (.ifCond .eq 18, 3) := by decide +kernel
theorem dX7_layLoses_57 : decode cX7_layLoses 57 = .ok (.aload_n 0, 1) := by decide +kernel
theorem dX7_layLoses_58 : decode cX7_layLoses 58 = .ok (.iload_n 1, 1) := by decide +kernel
theorem dX7_layLoses_59 : decode cX7_layLoses 59 = .ok (.iload_n 2, 1) := by decide +kernel
theorem dX7_layLoses_60 : decode cX7_layLoses 60 = .ok (.iload 4, 2) := by decide +kernel
theorem dX7_layLoses_62 : decode cX7_layLoses 62 = .ok (.invokevirtual 218, 3) := by decide +kernel
theorem dX7_layLoses_65 : decode cX7_layLoses 65 = .ok (.ifCond .ne 7, 3) := by decide +kernel
theorem dX7_layLoses_68 : decode cX7_layLoses 68 = .ok (.iconst 1, 1) := by decide +kernel
theorem dX7_layLoses_69 : decode cX7_layLoses 69 = .ok (.goto 4, 3) := by decide +kernel
theorem dX7_layLoses_72 : decode cX7_layLoses 72 = .ok (.iconst 0, 1) := by decide +kernel
theorem dX7_layLoses_73 : decode cX7_layLoses 73 = .ok (.bastore, 1) := by decide +kernel
theorem dX7_layLoses_74 : decode cX7_layLoses 74 = .ok (.iinc 3 1, 3) := by decide +kernel
theorem dX7_layLoses_77 : decode cX7_layLoses 77 = .ok (.goto (-71), 3) := by decide +kernel
theorem dX7_layLoses_80 : decode cX7_layLoses 80 = .ok (.return_, 1) := by decide +kernel
theorem dX7_layCan_0 : decode cX7_layCan 0 = .ok (.iconst 0, 1) := by decide +kernel
theorem dX7_layCan_1 : decode cX7_layCan 1 = .ok (.istore_n 2, 1) := by decide +kernel
theorem dX7_layCan_2 : decode cX7_layCan 2 = .ok (.iload_n 2, 1) := by decide +kernel
theorem dX7_layCan_3 : decode cX7_layCan 3 = .ok (.iconst 5, 1) := by decide +kernel
theorem dX7_layCan_4 : decode cX7_layCan 4 = .ok (.if_icmp .ge 24, 3) := by decide +kernel
theorem dX7_layCan_7 : decode cX7_layCan 7 = .ok (.aload_n 0, 1) := by decide +kernel
theorem dX7_layCan_8 : decode cX7_layCan 8 = .ok (.getfield 45, 3) := by decide +kernel
theorem dX7_layCan_11 : decode cX7_layCan 11 = .ok (.iload_n 2, 1) := by decide +kernel
theorem dX7_layCan_12 : decode cX7_layCan 12 = .ok (.iload_n 2, 1) := by decide +kernel
theorem dX7_layCan_13 : decode cX7_layCan 13 = .ok (.ifCond .ne 7, 3) := by decide +kernel
theorem dX7_layCan_16 : decode cX7_layCan 16 = .ok (.iconst 1, 1) := by decide +kernel
theorem dX7_layCan_17 : decode cX7_layCan 17 = .ok (.goto 4, 3) := by decide +kernel
theorem dX7_layCan_20 : decode cX7_layCan 20 = .ok (.iconst 0, 1) := by decide +kernel
theorem dX7_layCan_21 : decode cX7_layCan 21 = .ok (.bastore, 1) := by decide +kernel
theorem dX7_layCan_22 : decode cX7_layCan 22 = .ok (.iinc 2 1, 3) := by decide +kernel
theorem dX7_layCan_25 : decode cX7_layCan 25 = .ok (.goto (-23), 3) := by decide +kernel
theorem dX7_layCan_28 : decode cX7_layCan 28 = .ok (.iconst 0, 1) := by decide +kernel
theorem dX7_layCan_29 : decode cX7_layCan 29 = .ok (.istore_n 2, 1) := by decide +kernel
theorem dX7_layCan_30 : decode cX7_layCan 30 = .ok (.iload_n 2, 1) := by decide +kernel
theorem dX7_layCan_31 : decode cX7_layCan 31 = .ok (.aload_n 0, 1) := by decide +kernel
theorem dX7_layCan_32 : decode cX7_layCan 32 = .ok (.getfield 22, 3) := by decide +kernel
theorem dX7_layCan_35 : decode cX7_layCan 35 = .ok (.if_icmp .gt 66, 3) := by decide +kernel
theorem dX7_layCan_38 : decode cX7_layCan 38 = .ok (.aload_n 0, 1) := by decide +kernel
theorem dX7_layCan_39 : decode cX7_layCan 39 = .ok (.getfield 22, 3) := by decide +kernel
theorem dX7_layCan_42 : decode cX7_layCan 42 = .ok (.iload_n 2, 1) := by decide +kernel
theorem dX7_layCan_43 : decode cX7_layCan 43 = .ok (.isub, 1) := by decide +kernel
theorem dX7_layCan_44 : decode cX7_layCan 44 = .ok (.istore_n 3, 1) := by decide +kernel
theorem dX7_layCan_45 : decode cX7_layCan 45 = .ok (.iload_n 3, 1) := by decide +kernel
theorem dX7_layCan_46 : decode cX7_layCan 46 = .ok (.aload_n 0, 1) := by decide +kernel
theorem dX7_layCan_47 : decode cX7_layCan 47 = .ok (.getfield 133, 3) := by decide +kernel
theorem dX7_layCan_50 : decode cX7_layCan 50 = .ok (.if_icmp .gt 40, 3) := by decide +kernel
theorem dX7_layCan_53 : decode cX7_layCan 53 = .ok (.aload_n 0, 1) := by decide +kernel
theorem dX7_layCan_54 : decode cX7_layCan 54 = .ok (.iload_n 1, 1) := by decide +kernel
theorem dX7_layCan_55 : decode cX7_layCan 55 = .ok (.iload_n 3, 1) := by decide +kernel
theorem dX7_layCan_56 : decode cX7_layCan 56 = .ok (.invokevirtual 180, 3) := by decide +kernel
theorem dX7_layCan_59 : decode cX7_layCan 59 = .ok (.aload_n 0, 1) := by decide +kernel
theorem dX7_layCan_60 : decode cX7_layCan 60 = .ok (.getfield 41, 3) := by decide +kernel
theorem dX7_layCan_63 : decode cX7_layCan 63 = .ok (.iload_n 3, 1) := by decide +kernel
theorem dX7_layCan_64 : decode cX7_layCan 64 = .ok (.aload_n 0, 1) := by decide +kernel
theorem dX7_layCan_65 : decode cX7_layCan 65 = .ok (.getfield 155, 3) := by decide +kernel
theorem dX7_layCan_68 : decode cX7_layCan 68 = .ok (.iconst (-1), 1) := by decide +kernel
theorem dX7_layCan_69 : decode cX7_layCan 69 = .ok (.if_icmp .eq 19, 3) := by decide +kernel
theorem dX7_layCan_72 : decode cX7_layCan 72 = .ok (.aload_n 0, 1) := by decide +kernel
theorem dX7_layCan_73 : decode cX7_layCan 73 = .ok (.getfield 45, 3) := by decide +kernel
theorem dX7_layCan_76 : decode cX7_layCan 76 = .ok (.aload_n 0, 1) := by decide +kernel
theorem dX7_layCan_77 : decode cX7_layCan 77 = .ok (.getfield 155, 3) := by decide +kernel
theorem dX7_layCan_80 : decode cX7_layCan 80 = .ok (.baload, 1) := by decide +kernel
theorem dX7_layCan_81 : decode cX7_layCan 81 = .ok (.ifCond .eq 7, 3) := by decide +kernel
theorem dX7_layCan_84 : decode cX7_layCan 84 = .ok (.iconst 1, 1) := by decide +kernel
theorem dX7_layCan_85 : decode cX7_layCan 85 = .ok (.goto 4, 3) := by decide +kernel
theorem dX7_layCan_88 : decode cX7_layCan 88 = .ok (.iconst 0, 1) := by decide +kernel
theorem dX7_layCan_89 : decode cX7_layCan 89 = .ok (.bastore, 1) := by decide +kernel
theorem dX7_layCan_90 : decode cX7_layCan 90 = .ok (.aload_n 0, 1) := by decide +kernel
theorem dX7_layCan_91 : decode cX7_layCan 91 = .ok (.iload_n 1, 1) := by decide +kernel
theorem dX7_layCan_92 : decode cX7_layCan 92 = .ok (.invokevirtual 221, 3) := by decide +kernel
theorem dX7_layCan_95 : decode cX7_layCan 95 = .ok (.iinc 2 1, 3) := by decide +kernel
theorem dX7_layCan_98 : decode cX7_layCan 98 = .ok (.goto (-68), 3) := by decide +kernel
theorem dX7_layCan_101 : decode cX7_layCan 101 = .ok (.return_, 1) := by decide +kernel
theorem dX7_goBackCan_0 : decode cX7_goBackCan 0 = .ok (.iconst 0, 1) := by decide +kernel
theorem dX7_goBackCan_1 : decode cX7_goBackCan 1 = .ok (.istore_n 2, 1) := by decide +kernel
theorem dX7_goBackCan_2 : decode cX7_goBackCan 2 = .ok (.iload_n 2, 1) := by decide +kernel
theorem dX7_goBackCan_3 : decode cX7_goBackCan 3 = .ok (.iconst 5, 1) := by decide +kernel
theorem dX7_goBackCan_4 : decode cX7_goBackCan 4 = .ok (.if_icmp .ge 88, 3) := by decide +kernel
theorem dX7_goBackCan_7 : decode cX7_goBackCan 7 = .ok (.aload_n 0, 1) := by decide +kernel
theorem dX7_goBackCan_8 : decode cX7_goBackCan 8 = .ok (.getfield 48, 3) := by decide +kernel
theorem dX7_goBackCan_11 : decode cX7_goBackCan 11 = .ok (.iload_n 2, 1) := by decide +kernel
theorem dX7_goBackCan_12 : decode cX7_goBackCan 12 = .ok (.iconst 0, 1) := by decide +kernel
theorem dX7_goBackCan_13 : decode cX7_goBackCan 13 = .ok (.bastore, 1) := by decide +kernel
theorem dX7_goBackCan_14 : decode cX7_goBackCan 14 = .ok (.iconst 0, 1) := by decide +kernel
theorem dX7_goBackCan_15 : decode cX7_goBackCan 15 = .ok (.istore_n 3, 1) := by decide +kernel
theorem dX7_goBackCan_16 : decode cX7_goBackCan 16 = .ok (.iload_n 3, 1) := by decide +kernel
theorem dX7_goBackCan_17 : decode cX7_goBackCan 17 = .ok (.bipush 8, 2) := by decide +kernel
theorem dX7_goBackCan_19 : decode cX7_goBackCan 19 = .ok (.if_icmp .ge 67, 3) := by decide +kernel
theorem dX7_goBackCan_22 : decode cX7_goBackCan 22 = .ok (.aload_n 0, 1) := by decide +kernel
theorem dX7_goBackCan_23 : decode cX7_goBackCan 23 = .ok (.getfield 7, 3) := by decide +kernel
theorem dX7_goBackCan_26 : decode cX7_goBackCan 26 = .ok (.iload_n 1, 1) := by decide +kernel
theorem dX7_goBackCan_27 : decode cX7_goBackCan 27 = .ok (.iaload, 1) := by decide +kernel
theorem dX7_goBackCan_28 : decode cX7_goBackCan 28 = .ok (.iload_n 2, 1) := by decide +kernel
theorem dX7_goBackCan_29 : decode cX7_goBackCan 29 = .ok (.invokestatic 205, 3) := by decide +kernel
theorem dX7_goBackCan_32 : decode cX7_goBackCan 32 = .ok (.ifCond .eq 54, 3) := by decide +kernel
theorem dX7_goBackCan_35 : decode cX7_goBackCan 35 = .ok (.aload_n 0, 1) := by decide +kernel
theorem dX7_goBackCan_36 : decode cX7_goBackCan 36 = .ok (.iload_n 1, 1) := by decide +kernel
theorem dX7_goBackCan_37 : decode cX7_goBackCan 37 = .ok (.iload_n 2, 1) := by decide +kernel
theorem dX7_goBackCan_38 : decode cX7_goBackCan 38 = .ok (.iload_n 3, 1) := by decide +kernel
theorem dX7_goBackCan_39 : decode cX7_goBackCan 39 = .ok (.invokevirtual 170, 3) := by decide +kernel
theorem dX7_goBackCan_42 : decode cX7_goBackCan 42 = .ok (.istore 4, 2) := by decide +kernel
theorem dX7_goBackCan_44 : decode cX7_goBackCan 44 = .ok (.aload_n 0, 1) := by decide +kernel
theorem dX7_goBackCan_45 : decode cX7_goBackCan 45 = .ok (.getfield 48, 3) := by decide +kernel
theorem dX7_goBackCan_48 : decode cX7_goBackCan 48 = .ok (.iload_n 2, 1) := by decide +kernel
theorem dX7_goBackCan_49 : decode cX7_goBackCan 49 = .ok (.aload_n 0, 1) := by decide +kernel
theorem dX7_goBackCan_50 : decode cX7_goBackCan 50 = .ok (.getfield 48, 3) := by decide +kernel
theorem dX7_goBackCan_53 : decode cX7_goBackCan 53 = .ok (.iload_n 2, 1) := by decide +kernel
theorem dX7_goBackCan_54 : decode cX7_goBackCan 54 = .ok (.baload, 1) := by decide +kernel
theorem dX7_goBackCan_55 : decode cX7_goBackCan 55 = .ok (.ifCond .ne 19, 3) := by decide +kernel
theorem dX7_goBackCan_58 : decode cX7_goBackCan 58 = .ok (.iload 4, 2) := by decide +kernel
theorem dX7_goBackCan_60 : decode cX7_goBackCan 60 = .ok (.iconst (-1), 1) := by decide +kernel
theorem dX7_goBackCan_61 : decode cX7_goBackCan 61 = .ok (.if_icmp .eq 17, 3) := by decide +kernel
theorem dX7_goBackCan_64 : decode cX7_goBackCan 64 = .ok (.aload_n 0, 1) := by decide +kernel
theorem dX7_goBackCan_65 : decode cX7_goBackCan 65 = .ok (.getfield 45, 3) := by decide +kernel
theorem dX7_goBackCan_68 : decode cX7_goBackCan 68 = .ok (.iload 4, 2) := by decide +kernel
theorem dX7_goBackCan_70 : decode cX7_goBackCan 70 = .ok (.baload, 1) := by decide +kernel
theorem dX7_goBackCan_71 : decode cX7_goBackCan 71 = .ok (.ifCond .eq 7, 3) := by decide +kernel
theorem dX7_goBackCan_74 : decode cX7_goBackCan 74 = .ok (.iconst 1, 1) := by decide +kernel
theorem dX7_goBackCan_75 : decode cX7_goBackCan 75 = .ok (.goto 4, 3) := by decide +kernel
theorem dX7_goBackCan_78 : decode cX7_goBackCan 78 = .ok (.iconst 0, 1) := by decide +kernel
theorem dX7_goBackCan_79 : decode cX7_goBackCan 79 = .ok (.bastore, 1) := by decide +kernel
theorem dX7_goBackCan_80 : decode cX7_goBackCan 80 = .ok (.iinc 3 1, 3) := by decide +kernel
theorem dX7_goBackCan_83 : decode cX7_goBackCan 83 = .ok (.goto (-67), 3) := by decide +kernel
theorem dX7_goBackCan_86 : decode cX7_goBackCan 86 = .ok (.iinc 2 1, 3) := by decide +kernel
theorem dX7_goBackCan_89 : decode cX7_goBackCan 89 = .ok (.goto (-87), 3) := by decide +kernel
theorem dX7_goBackCan_92 : decode cX7_goBackCan 92 = .ok (.iconst 0, 1) := by decide +kernel
theorem dX7_goBackCan_93 : decode cX7_goBackCan 93 = .ok (.istore_n 2, 1) := by decide +kernel
theorem dX7_goBackCan_94 : decode cX7_goBackCan 94 = .ok (.iload_n 2, 1) := by decide +kernel
theorem dX7_goBackCan_95 : decode cX7_goBackCan 95 = .ok (.iconst 5, 1) := by decide +kernel
theorem dX7_goBackCan_96 : decode cX7_goBackCan 96 = .ok (.if_icmp .ge 21, 3) := by decide +kernel
theorem dX7_goBackCan_99 : decode cX7_goBackCan 99 = .ok (.aload_n 0, 1) := by decide +kernel
theorem dX7_goBackCan_100 : decode cX7_goBackCan 100 = .ok (.getfield 45, 3) := by decide +kernel
theorem dX7_goBackCan_103 : decode cX7_goBackCan 103 = .ok (.iload_n 2, 1) := by decide +kernel
theorem dX7_goBackCan_104 : decode cX7_goBackCan 104 = .ok (.aload_n 0, 1) := by decide +kernel
theorem dX7_goBackCan_105 : decode cX7_goBackCan 105 = .ok (.getfield 48, 3) := by decide +kernel
theorem dX7_goBackCan_108 : decode cX7_goBackCan 108 = .ok (.iload_n 2, 1) := by decide +kernel
theorem dX7_goBackCan_109 : decode cX7_goBackCan 109 = .ok (.baload, 1) := by decide +kernel
theorem dX7_goBackCan_110 : decode cX7_goBackCan 110 = .ok (.bastore, 1) := by decide +kernel
theorem dX7_goBackCan_111 : decode cX7_goBackCan 111 = .ok (.iinc 2 1, 3) := by decide +kernel
theorem dX7_goBackCan_114 : decode cX7_goBackCan 114 = .ok (.goto (-20), 3) := by decide +kernel
theorem dX7_goBackCan_117 : decode cX7_goBackCan 117 = .ok (.return_, 1) := by decide +kernel
theorem dX7_sureAt_0 : decode cX7_sureAt 0 = .ok (.aload_n 0, 1) := by decide +kernel
theorem dX7_sureAt_1 : decode cX7_sureAt 1 = .ok (.iload_n 1, 1) := by decide +kernel
theorem dX7_sureAt_2 : decode cX7_sureAt 2 = .ok (.invokevirtual 224, 3) := by decide +kernel
theorem dX7_sureAt_5 : decode cX7_sureAt 5 = .ok (.iconst 0, 1) := by decide +kernel
theorem dX7_sureAt_6 : decode cX7_sureAt 6 = .ok (.istore_n 2, 1) := by decide +kernel
theorem dX7_sureAt_7 : decode cX7_sureAt 7 = .ok (.iload_n 2, 1) := by decide +kernel
theorem dX7_sureAt_8 : decode cX7_sureAt 8 = .ok (.aload_n 0, 1) := by decide +kernel
theorem dX7_sureAt_9 : decode cX7_sureAt 9 = .ok (.getfield 110, 3) := by decide +kernel
theorem dX7_sureAt_12 : decode cX7_sureAt 12 = .ok (.if_icmp .ge 20, 3) := by decide +kernel
theorem dX7_sureAt_15 : decode cX7_sureAt 15 = .ok (.iload_n 2, 1) := by decide +kernel
theorem dX7_sureAt_16 : decode cX7_sureAt 16 = .ok (.iload_n 1, 1) := by decide +kernel
theorem dX7_sureAt_17 : decode cX7_sureAt 17 = .ok (.if_icmp .eq 9, 3) := by decide +kernel
theorem dX7_sureAt_20 : decode cX7_sureAt 20 = .ok (.aload_n 0, 1) := by decide +kernel
theorem dX7_sureAt_21 : decode cX7_sureAt 21 = .ok (.iload_n 1, 1) := by decide +kernel
theorem dX7_sureAt_22 : decode cX7_sureAt 22 = .ok (.iload_n 2, 1) := by decide +kernel
theorem dX7_sureAt_23 : decode cX7_sureAt 23 = .ok (.invokevirtual 227, 3) := by decide +kernel
theorem dX7_sureAt_26 : decode cX7_sureAt 26 = .ok (.iinc 2 1, 3) := by decide +kernel
theorem dX7_sureAt_29 : decode cX7_sureAt 29 = .ok (.goto (-22), 3) := by decide +kernel
theorem dX7_sureAt_32 : decode cX7_sureAt 32 = .ok (.iconst 0, 1) := by decide +kernel
theorem dX7_sureAt_33 : decode cX7_sureAt 33 = .ok (.istore_n 2, 1) := by decide +kernel
theorem dX7_sureAt_34 : decode cX7_sureAt 34 = .ok (.iload_n 2, 1) := by decide +kernel
theorem dX7_sureAt_35 : decode cX7_sureAt 35 = .ok (.aload_n 0, 1) := by decide +kernel
theorem dX7_sureAt_36 : decode cX7_sureAt 36 = .ok (.getfield 133, 3) := by decide +kernel
theorem dX7_sureAt_39 : decode cX7_sureAt 39 = .ok (.if_icmp .gt 20, 3) := by decide +kernel
theorem dX7_sureAt_42 : decode cX7_sureAt 42 = .ok (.aload_n 0, 1) := by decide +kernel
theorem dX7_sureAt_43 : decode cX7_sureAt 43 = .ok (.getfield 41, 3) := by decide +kernel
theorem dX7_sureAt_46 : decode cX7_sureAt 46 = .ok (.iload_n 2, 1) := by decide +kernel
theorem dX7_sureAt_47 : decode cX7_sureAt 47 = .ok (.baload, 1) := by decide +kernel
theorem dX7_sureAt_48 : decode cX7_sureAt 48 = .ok (.ifCond .eq 5, 3) := by decide +kernel
theorem dX7_sureAt_51 : decode cX7_sureAt 51 = .ok (.iload_n 2, 1) := by decide +kernel
theorem dX7_sureAt_52 : decode cX7_sureAt 52 = .ok (.ireturn, 1) := by decide +kernel
theorem dX7_sureAt_53 : decode cX7_sureAt 53 = .ok (.iinc 2 1, 3) := by decide +kernel
theorem dX7_sureAt_56 : decode cX7_sureAt 56 = .ok (.goto (-22), 3) := by decide +kernel
theorem dX7_sureAt_59 : decode cX7_sureAt 59 = .ok (.iconst (-1), 1) := by decide +kernel
theorem dX7_sureAt_60 : decode cX7_sureAt 60 = .ok (.ireturn, 1) := by decide +kernel
theorem dX7_signsOf_0 : decode cX7_signsOf 0 = .ok (.aload_n 0, 1) := by decide +kernel
theorem dX7_signsOf_1 : decode cX7_signsOf 1 = .ok (.iload_n 1, 1) := by decide +kernel
theorem dX7_signsOf_2 : decode cX7_signsOf 2 = .ok (.aload_n 0, 1) := by decide +kernel
theorem dX7_signsOf_3 : decode cX7_signsOf 3 = .ok (.getfield 133, 3) := by decide +kernel
theorem dX7_signsOf_6 : decode cX7_signsOf 6 = .ok (.invokevirtual 180, 3) := by decide +kernel
theorem dX7_signsOf_9 : decode cX7_signsOf 9 = .ok (.aload_n 0, 1) := by decide +kernel
theorem dX7_signsOf_10 : decode cX7_signsOf 10 = .ok (.getfield 161, 3) := by decide +kernel
theorem dX7_signsOf_13 : decode cX7_signsOf 13 = .ok (.ireturn, 1) := by decide +kernel
theorem dX7_firstBad_0 : decode cX7_firstBad 0 = .ok (.aload_n 0, 1) := by decide +kernel
theorem dX7_firstBad_1 : decode cX7_firstBad 1 = .ok (.iload_n 1, 1) := by decide +kernel
theorem dX7_firstBad_2 : decode cX7_firstBad 2 = .ok (.aload_n 0, 1) := by decide +kernel
theorem dX7_firstBad_3 : decode cX7_firstBad 3 = .ok (.getfield 133, 3) := by decide +kernel
theorem dX7_firstBad_6 : decode cX7_firstBad 6 = .ok (.invokevirtual 180, 3) := by decide +kernel
theorem dX7_firstBad_9 : decode cX7_firstBad 9 = .ok (.aload_n 0, 1) := by decide +kernel
theorem dX7_firstBad_10 : decode cX7_firstBad 10 = .ok (.getfield 155, 3) := by decide +kernel
theorem dX7_firstBad_13 : decode cX7_firstBad 13 = .ok (.iconst (-1), 1) := by decide +kernel
theorem dX7_firstBad_14 : decode cX7_firstBad 14 = .ok (.if_icmp .ne 10, 3) := by decide +kernel
theorem dX7_firstBad_17 : decode cX7_firstBad 17 = .ok (.aload_n 0, 1) := by decide +kernel
theorem dX7_firstBad_18 : decode cX7_firstBad 18 = .ok (.getfield 167, 3) := by decide +kernel
theorem dX7_firstBad_21 : decode cX7_firstBad 21 = .ok (.goto 4, 3) := by decide +kernel
theorem dX7_firstBad_24 : decode cX7_firstBad 24 = .ok (.iconst (-1), 1) := by decide +kernel
theorem dX7_firstBad_25 : decode cX7_firstBad 25 = .ok (.ireturn, 1) := by decide +kernel
theorem dX7_aboutNow_0 : decode cX7_aboutNow 0 = .ok (.iload_n 2, 1) := by decide +kernel
theorem dX7_aboutNow_1 : decode cX7_aboutNow 1 = .ok (.tableswitch 102 0 6 #[43, 50, 64, 78, 84, 90, 96], 43) := by decide +kernel
theorem dX7_aboutNow_44 : decode cX7_aboutNow 44 = .ok (.aload_n 0, 1) := by decide +kernel
theorem dX7_aboutNow_45 : decode cX7_aboutNow 45 = .ok (.getfield 7, 3) := by decide +kernel
theorem dX7_aboutNow_48 : decode cX7_aboutNow 48 = .ok (.iload_n 1, 1) := by decide +kernel
theorem dX7_aboutNow_49 : decode cX7_aboutNow 49 = .ok (.iaload, 1) := by decide +kernel
theorem dX7_aboutNow_50 : decode cX7_aboutNow 50 = .ok (.ireturn, 1) := by decide +kernel
theorem dX7_aboutNow_51 : decode cX7_aboutNow 51 = .ok (.aload_n 0, 1) := by decide +kernel
theorem dX7_aboutNow_52 : decode cX7_aboutNow 52 = .ok (.iload_n 1, 1) := by decide +kernel
theorem dX7_aboutNow_53 : decode cX7_aboutNow 53 = .ok (.invokevirtual 230, 3) := by decide +kernel
theorem dX7_aboutNow_56 : decode cX7_aboutNow 56 = .ok (.ifCond .eq 7, 3) := by decide +kernel
theorem dX7_aboutNow_59 : decode cX7_aboutNow 59 = .ok (.iconst 1, 1) := by decide +kernel
theorem dX7_aboutNow_60 : decode cX7_aboutNow 60 = .ok (.goto 4, 3) := by decide +kernel
theorem dX7_aboutNow_63 : decode cX7_aboutNow 63 = .ok (.iconst 0, 1) := by decide +kernel
theorem dX7_aboutNow_64 : decode cX7_aboutNow 64 = .ok (.ireturn, 1) := by decide +kernel
theorem dX7_aboutNow_65 : decode cX7_aboutNow 65 = .ok (.aload_n 0, 1) := by decide +kernel
theorem dX7_aboutNow_66 : decode cX7_aboutNow 66 = .ok (.iload_n 1, 1) := by decide +kernel
theorem dX7_aboutNow_67 : decode cX7_aboutNow 67 = .ok (.invokevirtual 183, 3) := by decide +kernel
theorem dX7_aboutNow_70 : decode cX7_aboutNow 70 = .ok (.ifCond .eq 7, 3) := by decide +kernel
theorem dX7_aboutNow_73 : decode cX7_aboutNow 73 = .ok (.iconst 1, 1) := by decide +kernel
theorem dX7_aboutNow_74 : decode cX7_aboutNow 74 = .ok (.goto 4, 3) := by decide +kernel
theorem dX7_aboutNow_77 : decode cX7_aboutNow 77 = .ok (.iconst 0, 1) := by decide +kernel
theorem dX7_aboutNow_78 : decode cX7_aboutNow 78 = .ok (.ireturn, 1) := by decide +kernel
theorem dX7_aboutNow_79 : decode cX7_aboutNow 79 = .ok (.aload_n 0, 1) := by decide +kernel
theorem dX7_aboutNow_80 : decode cX7_aboutNow 80 = .ok (.iload_n 1, 1) := by decide +kernel
theorem dX7_aboutNow_81 : decode cX7_aboutNow 81 = .ok (.invokevirtual 233, 3) := by decide +kernel
theorem dX7_aboutNow_84 : decode cX7_aboutNow 84 = .ok (.ireturn, 1) := by decide +kernel
theorem dX7_aboutNow_85 : decode cX7_aboutNow 85 = .ok (.aload_n 0, 1) := by decide +kernel
theorem dX7_aboutNow_86 : decode cX7_aboutNow 86 = .ok (.iload_n 1, 1) := by decide +kernel
theorem dX7_aboutNow_87 : decode cX7_aboutNow 87 = .ok (.invokevirtual 236, 3) := by decide +kernel
theorem dX7_aboutNow_90 : decode cX7_aboutNow 90 = .ok (.ireturn, 1) := by decide +kernel
theorem dX7_aboutNow_91 : decode cX7_aboutNow 91 = .ok (.aload_n 0, 1) := by decide +kernel
theorem dX7_aboutNow_92 : decode cX7_aboutNow 92 = .ok (.iload_n 1, 1) := by decide +kernel
theorem dX7_aboutNow_93 : decode cX7_aboutNow 93 = .ok (.invokevirtual 239, 3) := by decide +kernel
theorem dX7_aboutNow_96 : decode cX7_aboutNow 96 = .ok (.ireturn, 1) := by decide +kernel
theorem dX7_aboutNow_97 : decode cX7_aboutNow 97 = .ok (.aload_n 0, 1) := by decide +kernel
theorem dX7_aboutNow_98 : decode cX7_aboutNow 98 = .ok (.iload_n 1, 1) := by decide +kernel
theorem dX7_aboutNow_99 : decode cX7_aboutNow 99 = .ok (.invokevirtual 242, 3) := by decide +kernel
theorem dX7_aboutNow_102 : decode cX7_aboutNow 102 = .ok (.ireturn, 1) := by decide +kernel
theorem dX7_aboutNow_103 : decode cX7_aboutNow 103 = .ok (.aload_n 0, 1) := by decide +kernel
theorem dX7_aboutNow_104 : decode cX7_aboutNow 104 = .ok (.iload_n 1, 1) := by decide +kernel
theorem dX7_aboutNow_105 : decode cX7_aboutNow 105 = .ok (.invokevirtual 245, 3) := by decide +kernel
theorem dX7_aboutNow_108 : decode cX7_aboutNow 108 = .ok (.ireturn, 1) := by decide +kernel
theorem dX7_about_0 : decode cX7_about 0 = .ok (.aload_n 0, 1) := by decide +kernel
theorem dX7_about_1 : decode cX7_about 1 = .ok (.iload_n 1, 1) := by decide +kernel
theorem dX7_about_2 : decode cX7_about 2 = .ok (.invokevirtual 126, 3) := by decide +kernel
theorem dX7_about_5 : decode cX7_about 5 = .ok (.ifCond .ne 8, 3) := by decide +kernel
theorem dX7_about_8 : decode cX7_about 8 = .ok (.bipush (-101), 2) := by decide +kernel
theorem dX7_about_10 : decode cX7_about 10 = .ok (.goto 24, 3) := by decide +kernel
theorem dX7_about_13 : decode cX7_about 13 = .ok (.iload_n 2, 1) := by decide +kernel
theorem dX7_about_14 : decode cX7_about 14 = .ok (.iconst 0, 1) := by decide +kernel
theorem dX7_about_15 : decode cX7_about 15 = .ok (.bipush 7, 2) := by decide +kernel
theorem dX7_about_17 : decode cX7_about 17 = .ok (.invokestatic 75, 3) := by decide +kernel
theorem dX7_about_20 : decode cX7_about 20 = .ok (.ifCond .eq 12, 3) := by decide +kernel
theorem dX7_about_23 : decode cX7_about 23 = .ok (.aload_n 0, 1) := by decide +kernel
theorem dX7_about_24 : decode cX7_about 24 = .ok (.iload_n 1, 1) := by decide +kernel
theorem dX7_about_25 : decode cX7_about 25 = .ok (.iload_n 2, 1) := by decide +kernel
theorem dX7_about_26 : decode cX7_about 26 = .ok (.invokevirtual 248, 3) := by decide +kernel
theorem dX7_about_29 : decode cX7_about 29 = .ok (.goto 5, 3) := by decide +kernel
theorem dX7_about_32 : decode cX7_about 32 = .ok (.bipush (-102), 2) := by decide +kernel
theorem dX7_about_34 : decode cX7_about 34 = .ok (.ireturn, 1) := by decide +kernel
theorem dX7_points_0 : decode cX7_points 0 = .ok (.aload_n 0, 1) := by decide +kernel
theorem dX7_points_1 : decode cX7_points 1 = .ok (.iload_n 1, 1) := by decide +kernel
theorem dX7_points_2 : decode cX7_points 2 = .ok (.invokevirtual 126, 3) := by decide +kernel
theorem dX7_points_5 : decode cX7_points 5 = .ok (.ifCond .ne 8, 3) := by decide +kernel
theorem dX7_points_8 : decode cX7_points 8 = .ok (.bipush (-101), 2) := by decide +kernel
theorem dX7_points_10 : decode cX7_points 10 = .ok (.goto 27, 3) := by decide +kernel
theorem dX7_points_13 : decode cX7_points 13 = .ok (.iload_n 2, 1) := by decide +kernel
theorem dX7_points_14 : decode cX7_points 14 = .ok (.iconst 0, 1) := by decide +kernel
theorem dX7_points_15 : decode cX7_points 15 = .ok (.iconst 3, 1) := by decide +kernel
theorem dX7_points_16 : decode cX7_points 16 = .ok (.invokestatic 75, 3) := by decide +kernel
