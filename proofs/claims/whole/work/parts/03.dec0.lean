theorem dX0_init_0 : decode cX0_init 0 = .ok (.aload_n 0, 1) := by decide +kernel
theorem dX0_init_1 : decode cX0_init 1 = .ok (.invokespecial 3, 3) := by decide +kernel
theorem dX0_init_4 : decode cX0_init 4 = .ok (.aload_n 0, 1) := by decide +kernel
theorem dX0_init_5 : decode cX0_init 5 = .ok (.bipush 22, 2) := by decide +kernel
theorem dX0_init_7 : decode cX0_init 7 = .ok (.newarray .int, 2) := by decide +kernel
theorem dX0_init_9 : decode cX0_init 9 = .ok (.putfield 9, 3) := by decide +kernel
theorem dX0_init_12 : decode cX0_init 12 = .ok (.aload_n 0, 1) := by decide +kernel
theorem dX0_init_13 : decode cX0_init 13 = .ok (.bipush 40, 2) := by decide +kernel
theorem dX0_init_15 : decode cX0_init 15 = .ok (.newarray .int, 2) := by decide +kernel
theorem dX0_init_17 : decode cX0_init 17 = .ok (.putfield 15, 3) := by decide +kernel
theorem dX0_init_20 : decode cX0_init 20 = .ok (.aload_n 0, 1) := by decide +kernel
theorem dX0_init_21 : decode cX0_init 21 = .ok (.bipush 120, 2) := by decide +kernel
theorem dX0_init_23 : decode cX0_init 23 = .ok (.newarray .int, 2) := by decide +kernel
theorem dX0_init_25 : decode cX0_init 25 = .ok (.putfield 18, 3) := by decide +kernel
theorem dX0_init_28 : decode cX0_init 28 = .ok (.aload_n 0, 1) := by decide +kernel
theorem dX0_init_29 : decode cX0_init 29 = .ok (.bipush 120, 2) := by decide +kernel
theorem dX0_init_31 : decode cX0_init 31 = .ok (.newarray .int, 2) := by decide +kernel
theorem dX0_init_33 : decode cX0_init 33 = .ok (.putfield 21, 3) := by decide +kernel
theorem dX0_init_36 : decode cX0_init 36 = .ok (.aload_n 0, 1) := by decide +kernel
theorem dX0_init_37 : decode cX0_init 37 = .ok (.iconst 5, 1) := by decide +kernel
theorem dX0_init_38 : decode cX0_init 38 = .ok (.newarray .int, 2) := by decide +kernel
theorem dX0_init_40 : decode cX0_init 40 = .ok (.putfield 24, 3) := by decide +kernel
theorem dX0_init_43 : decode cX0_init 43 = .ok (.aload_n 0, 1) := by decide +kernel
theorem dX0_init_44 : decode cX0_init 44 = .ok (.iconst 5, 1) := by decide +kernel
theorem dX0_init_45 : decode cX0_init 45 = .ok (.newarray .int, 2) := by decide +kernel
theorem dX0_init_47 : decode cX0_init 47 = .ok (.putfield 27, 3) := by decide +kernel
theorem dX0_init_50 : decode cX0_init 50 = .ok (.return_, 1) := by decide +kernel
theorem dX0_load_0 : decode cX0_load 0 = .ok (.aload_n 0, 1) := by decide +kernel
theorem dX0_load_1 : decode cX0_load 1 = .ok (.iload_n 2, 1) := by decide +kernel
theorem dX0_load_2 : decode cX0_load 2 = .ok (.aload_n 1, 1) := by decide +kernel
theorem dX0_load_3 : decode cX0_load 3 = .ok (.arraylength, 1) := by decide +kernel
theorem dX0_load_4 : decode cX0_load 4 = .ok (.invokestatic 30, 3) := by decide +kernel
theorem dX0_load_7 : decode cX0_load 7 = .ok (.bipush 22, 2) := by decide +kernel
theorem dX0_load_9 : decode cX0_load 9 = .ok (.invokestatic 30, 3) := by decide +kernel
theorem dX0_load_12 : decode cX0_load 12 = .ok (.putfield 36, 3) := by decide +kernel
theorem dX0_load_15 : decode cX0_load 15 = .ok (.iconst 0, 1) := by decide +kernel
theorem dX0_load_16 : decode cX0_load 16 = .ok (.istore_n 3, 1) := by decide +kernel
theorem dX0_load_17 : decode cX0_load 17 = .ok (.iload_n 3, 1) := by decide +kernel
theorem dX0_load_18 : decode cX0_load 18 = .ok (.aload_n 0, 1) := by decide +kernel
theorem dX0_load_19 : decode cX0_load 19 = .ok (.getfield 36, 3) := by decide +kernel
theorem dX0_load_22 : decode cX0_load 22 = .ok (.if_icmp .ge 18, 3) := by decide +kernel
theorem dX0_load_25 : decode cX0_load 25 = .ok (.aload_n 0, 1) := by decide +kernel
theorem dX0_load_26 : decode cX0_load 26 = .ok (.getfield 9, 3) := by decide +kernel
theorem dX0_load_29 : decode cX0_load 29 = .ok (.iload_n 3, 1) := by decide +kernel
theorem dX0_load_30 : decode cX0_load 30 = .ok (.aload_n 1, 1) := by decide +kernel
theorem dX0_load_31 : decode cX0_load 31 = .ok (.iload_n 3, 1) := by decide +kernel
theorem dX0_load_32 : decode cX0_load 32 = .ok (.iaload, 1) := by decide +kernel
theorem dX0_load_33 : decode cX0_load 33 = .ok (.iastore, 1) := by decide +kernel
theorem dX0_load_34 : decode cX0_load 34 = .ok (.iinc 3 1, 3) := by decide +kernel
theorem dX0_load_37 : decode cX0_load 37 = .ok (.goto (-20), 3) := by decide +kernel
theorem dX0_load_40 : decode cX0_load 40 = .ok (.aload_n 0, 1) := by decide +kernel
theorem dX0_load_41 : decode cX0_load 41 = .ok (.aload_n 0, 1) := by decide +kernel
theorem dX0_load_42 : decode cX0_load 42 = .ok (.getfield 9, 3) := by decide +kernel
theorem dX0_load_45 : decode cX0_load 45 = .ok (.iconst 0, 1) := by decide +kernel
theorem dX0_load_46 : decode cX0_load 46 = .ok (.iaload, 1) := by decide +kernel
theorem dX0_load_47 : decode cX0_load 47 = .ok (.invokestatic 40, 3) := by decide +kernel
theorem dX0_load_50 : decode cX0_load 50 = .ok (.putfield 46, 3) := by decide +kernel
theorem dX0_load_53 : decode cX0_load 53 = .ok (.aload_n 0, 1) := by decide +kernel
theorem dX0_load_54 : decode cX0_load 54 = .ok (.aload_n 0, 1) := by decide +kernel
theorem dX0_load_55 : decode cX0_load 55 = .ok (.getfield 9, 3) := by decide +kernel
theorem dX0_load_58 : decode cX0_load 58 = .ok (.iconst 1, 1) := by decide +kernel
theorem dX0_load_59 : decode cX0_load 59 = .ok (.iaload, 1) := by decide +kernel
theorem dX0_load_60 : decode cX0_load 60 = .ok (.bipush 48, 2) := by decide +kernel
theorem dX0_load_62 : decode cX0_load 62 = .ok (.isub, 1) := by decide +kernel
theorem dX0_load_63 : decode cX0_load 63 = .ok (.putfield 49, 3) := by decide +kernel
theorem dX0_load_66 : decode cX0_load 66 = .ok (.aload_n 0, 1) := by decide +kernel
theorem dX0_load_67 : decode cX0_load 67 = .ok (.aload_n 0, 1) := by decide +kernel
theorem dX0_load_68 : decode cX0_load 68 = .ok (.getfield 46, 3) := by decide +kernel
theorem dX0_load_71 : decode cX0_load 71 = .ok (.invokestatic 52, 3) := by decide +kernel
theorem dX0_load_74 : decode cX0_load 74 = .ok (.putfield 55, 3) := by decide +kernel
theorem dX0_load_77 : decode cX0_load 77 = .ok (.iconst 0, 1) := by decide +kernel
theorem dX0_load_78 : decode cX0_load 78 = .ok (.istore_n 3, 1) := by decide +kernel
theorem dX0_load_79 : decode cX0_load 79 = .ok (.iload_n 3, 1) := by decide +kernel
theorem dX0_load_80 : decode cX0_load 80 = .ok (.iconst 5, 1) := by decide +kernel
theorem dX0_load_81 : decode cX0_load 81 = .ok (.if_icmp .ge 69, 3) := by decide +kernel
theorem dX0_load_84 : decode cX0_load 84 = .ok (.iconst 0, 1) := by decide +kernel
theorem dX0_load_85 : decode cX0_load 85 = .ok (.istore 4, 2) := by decide +kernel
theorem dX0_load_87 : decode cX0_load 87 = .ok (.iload 4, 2) := by decide +kernel
theorem dX0_load_89 : decode cX0_load 89 = .ok (.bipush 8, 2) := by decide +kernel
theorem dX0_load_91 : decode cX0_load 91 = .ok (.if_icmp .ge 53, 3) := by decide +kernel
theorem dX0_load_94 : decode cX0_load 94 = .ok (.iload_n 3, 1) := by decide +kernel
theorem dX0_load_95 : decode cX0_load 95 = .ok (.aload_n 0, 1) := by decide +kernel
theorem dX0_load_96 : decode cX0_load 96 = .ok (.getfield 55, 3) := by decide +kernel
theorem dX0_load_99 : decode cX0_load 99 = .ok (.if_icmp .ge 13, 3) := by decide +kernel
theorem dX0_load_102 : decode cX0_load 102 = .ok (.aload_n 0, 1) := by decide +kernel
theorem dX0_load_103 : decode cX0_load 103 = .ok (.iload_n 3, 1) := by decide +kernel
theorem dX0_load_104 : decode cX0_load 104 = .ok (.iload 4, 2) := by decide +kernel
theorem dX0_load_106 : decode cX0_load 106 = .ok (.invokevirtual 58, 3) := by decide +kernel
theorem dX0_load_109 : decode cX0_load 109 = .ok (.goto 4, 3) := by decide +kernel
theorem dX0_load_112 : decode cX0_load 112 = .ok (.iconst (-1), 1) := by decide +kernel
theorem dX0_load_113 : decode cX0_load 113 = .ok (.istore 5, 2) := by decide +kernel
theorem dX0_load_115 : decode cX0_load 115 = .ok (.aload_n 0, 1) := by decide +kernel
theorem dX0_load_116 : decode cX0_load 116 = .ok (.getfield 15, 3) := by decide +kernel
theorem dX0_load_119 : decode cX0_load 119 = .ok (.iload_n 3, 1) := by decide +kernel
theorem dX0_load_120 : decode cX0_load 120 = .ok (.bipush 8, 2) := by decide +kernel
theorem dX0_load_122 : decode cX0_load 122 = .ok (.imul, 1) := by decide +kernel
theorem dX0_load_123 : decode cX0_load 123 = .ok (.iload 4, 2) := by decide +kernel
theorem dX0_load_125 : decode cX0_load 125 = .ok (.iadd, 1) := by decide +kernel
theorem dX0_load_126 : decode cX0_load 126 = .ok (.iload 5, 2) := by decide +kernel
theorem dX0_load_128 : decode cX0_load 128 = .ok (.iastore, 1) := by decide +kernel
theorem dX0_load_129 : decode cX0_load 129 = .ok (.aload_n 0, 1) := by decide +kernel
theorem dX0_load_130 : decode cX0_load 130 = .ok (.iload_n 3, 1) := by decide +kernel
theorem dX0_load_131 : decode cX0_load 131 = .ok (.iload 4, 2) := by decide +kernel
theorem dX0_load_133 : decode cX0_load 133 = .ok (.iload 5, 2) := by decide +kernel
theorem dX0_load_135 : decode cX0_load 135 = .ok (.invokevirtual 61, 3) := by decide +kernel
theorem dX0_load_138 : decode cX0_load 138 = .ok (.iinc 4 1, 3) := by decide +kernel
theorem dX0_load_141 : decode cX0_load 141 = .ok (.goto (-54), 3) := by decide +kernel
theorem dX0_load_144 : decode cX0_load 144 = .ok (.iinc 3 1, 3) := by decide +kernel
theorem dX0_load_147 : decode cX0_load 147 = .ok (.goto (-68), 3) := by decide +kernel
theorem dX0_load_150 : decode cX0_load 150 = .ok (.return_, 1) := by decide +kernel
theorem dX0_modesOf_0 : decode cX0_modesOf 0 = .ok (.iload_n 0, 1) := by decide +kernel
theorem dX0_modesOf_1 : decode cX0_modesOf 1 = .ok (.iconst 2, 1) := by decide +kernel
theorem dX0_modesOf_2 : decode cX0_modesOf 2 = .ok (.if_icmp .ne 5, 3) := by decide +kernel
theorem dX0_modesOf_5 : decode cX0_modesOf 5 = .ok (.iconst 5, 1) := by decide +kernel
theorem dX0_modesOf_6 : decode cX0_modesOf 6 = .ok (.ireturn, 1) := by decide +kernel
theorem dX0_modesOf_7 : decode cX0_modesOf 7 = .ok (.iload_n 0, 1) := by decide +kernel
theorem dX0_modesOf_8 : decode cX0_modesOf 8 = .ok (.ifCond .ne 7, 3) := by decide +kernel
theorem dX0_modesOf_11 : decode cX0_modesOf 11 = .ok (.iconst 1, 1) := by decide +kernel
theorem dX0_modesOf_12 : decode cX0_modesOf 12 = .ok (.goto 4, 3) := by decide +kernel
theorem dX0_modesOf_15 : decode cX0_modesOf 15 = .ok (.iconst 2, 1) := by decide +kernel
theorem dX0_modesOf_16 : decode cX0_modesOf 16 = .ok (.ireturn, 1) := by decide +kernel
theorem dX0_layOut_0 : decode cX0_layOut 0 = .ok (.iconst 0, 1) := by decide +kernel
theorem dX0_layOut_1 : decode cX0_layOut 1 = .ok (.istore 4, 2) := by decide +kernel
theorem dX0_layOut_3 : decode cX0_layOut 3 = .ok (.iload 4, 2) := by decide +kernel
theorem dX0_layOut_5 : decode cX0_layOut 5 = .ok (.iconst 3, 1) := by decide +kernel
theorem dX0_layOut_6 : decode cX0_layOut 6 = .ok (.if_icmp .ge 98, 3) := by decide +kernel
theorem dX0_layOut_9 : decode cX0_layOut 9 = .ok (.iload_n 1, 1) := by decide +kernel
theorem dX0_layOut_10 : decode cX0_layOut 10 = .ok (.iconst 3, 1) := by decide +kernel
theorem dX0_layOut_11 : decode cX0_layOut 11 = .ok (.imul, 1) := by decide +kernel
theorem dX0_layOut_12 : decode cX0_layOut 12 = .ok (.iload 4, 2) := by decide +kernel
theorem dX0_layOut_14 : decode cX0_layOut 14 = .ok (.iadd, 1) := by decide +kernel
theorem dX0_layOut_15 : decode cX0_layOut 15 = .ok (.bipush 8, 2) := by decide +kernel
theorem dX0_layOut_17 : decode cX0_layOut 17 = .ok (.imul, 1) := by decide +kernel
theorem dX0_layOut_18 : decode cX0_layOut 18 = .ok (.iload_n 2, 1) := by decide +kernel
theorem dX0_layOut_19 : decode cX0_layOut 19 = .ok (.iadd, 1) := by decide +kernel
theorem dX0_layOut_20 : decode cX0_layOut 20 = .ok (.istore 5, 2) := by decide +kernel
theorem dX0_layOut_22 : decode cX0_layOut 22 = .ok (.iload_n 3, 1) := by decide +kernel
theorem dX0_layOut_23 : decode cX0_layOut 23 = .ok (.iconst (-1), 1) := by decide +kernel
theorem dX0_layOut_24 : decode cX0_layOut 24 = .ok (.if_icmp .eq 13, 3) := by decide +kernel
theorem dX0_layOut_27 : decode cX0_layOut 27 = .ok (.iload_n 3, 1) := by decide +kernel
theorem dX0_layOut_28 : decode cX0_layOut 28 = .ok (.iconst 3, 1) := by decide +kernel
theorem dX0_layOut_29 : decode cX0_layOut 29 = .ok (.irem, 1) := by decide +kernel
theorem dX0_layOut_30 : decode cX0_layOut 30 = .ok (.ifCond .eq 7, 3) := by decide +kernel
theorem dX0_layOut_33 : decode cX0_layOut 33 = .ok (.iconst 1, 1) := by decide +kernel
theorem dX0_layOut_34 : decode cX0_layOut 34 = .ok (.goto 4, 3) := by decide +kernel
theorem dX0_layOut_37 : decode cX0_layOut 37 = .ok (.iconst 0, 1) := by decide +kernel
theorem dX0_layOut_38 : decode cX0_layOut 38 = .ok (.istore 6, 2) := by decide +kernel
theorem dX0_layOut_40 : decode cX0_layOut 40 = .ok (.aload_n 0, 1) := by decide +kernel
theorem dX0_layOut_41 : decode cX0_layOut 41 = .ok (.getfield 18, 3) := by decide +kernel
theorem dX0_layOut_44 : decode cX0_layOut 44 = .ok (.iload 5, 2) := by decide +kernel
theorem dX0_layOut_46 : decode cX0_layOut 46 = .ok (.iload_n 3, 1) := by decide +kernel
theorem dX0_layOut_47 : decode cX0_layOut 47 = .ok (.iconst (-1), 1) := by decide +kernel
theorem dX0_layOut_48 : decode cX0_layOut 48 = .ok (.if_icmp .eq 8, 3) := by decide +kernel
theorem dX0_layOut_51 : decode cX0_layOut 51 = .ok (.iload 6, 2) := by decide +kernel
theorem dX0_layOut_53 : decode cX0_layOut 53 = .ok (.ifCond .eq 7, 3) := by decide +kernel
theorem dX0_layOut_56 : decode cX0_layOut 56 = .ok (.iload_n 3, 1) := by decide +kernel
theorem dX0_layOut_57 : decode cX0_layOut 57 = .ok (.goto 7, 3) := by decide +kernel
theorem dX0_layOut_60 : decode cX0_layOut 60 = .ok (.iload_n 3, 1) := by decide +kernel
theorem dX0_layOut_61 : decode cX0_layOut 61 = .ok (.iload 4, 2) := by decide +kernel
theorem dX0_layOut_63 : decode cX0_layOut 63 = .ok (.iadd, 1) := by decide +kernel
theorem dX0_layOut_64 : decode cX0_layOut 64 = .ok (.iastore, 1) := by decide +kernel
theorem dX0_layOut_65 : decode cX0_layOut 65 = .ok (.aload_n 0, 1) := by decide +kernel
theorem dX0_layOut_66 : decode cX0_layOut 66 = .ok (.getfield 21, 3) := by decide +kernel
theorem dX0_layOut_69 : decode cX0_layOut 69 = .ok (.iload 5, 2) := by decide +kernel
theorem dX0_layOut_71 : decode cX0_layOut 71 = .ok (.iload 6, 2) := by decide +kernel
theorem dX0_layOut_73 : decode cX0_layOut 73 = .ok (.ifCond .eq 23, 3) := by decide +kernel
theorem dX0_layOut_76 : decode cX0_layOut 76 = .ok (.iload 4, 2) := by decide +kernel
theorem dX0_layOut_78 : decode cX0_layOut 78 = .ok (.ifCond .eq 18, 3) := by decide +kernel
theorem dX0_layOut_81 : decode cX0_layOut 81 = .ok (.aload_n 0, 1) := by decide +kernel
theorem dX0_layOut_82 : decode cX0_layOut 82 = .ok (.iload 4, 2) := by decide +kernel
theorem dX0_layOut_84 : decode cX0_layOut 84 = .ok (.iload_n 3, 1) := by decide +kernel
theorem dX0_layOut_85 : decode cX0_layOut 85 = .ok (.iconst 3, 1) := by decide +kernel
theorem dX0_layOut_86 : decode cX0_layOut 86 = .ok (.irem, 1) := by decide +kernel
theorem dX0_layOut_87 : decode cX0_layOut 87 = .ok (.invokestatic 65, 3) := by decide +kernel
theorem dX0_layOut_90 : decode cX0_layOut 90 = .ok (.invokevirtual 68, 3) := by decide +kernel
theorem dX0_layOut_93 : decode cX0_layOut 93 = .ok (.goto 4, 3) := by decide +kernel
theorem dX0_layOut_96 : decode cX0_layOut 96 = .ok (.iconst 0, 1) := by decide +kernel
theorem dX0_layOut_97 : decode cX0_layOut 97 = .ok (.iastore, 1) := by decide +kernel
theorem dX0_layOut_98 : decode cX0_layOut 98 = .ok (.iinc 4 1, 3) := by decide +kernel
theorem dX0_layOut_101 : decode cX0_layOut 101 = .ok (.goto (-98), 3) := by decide +kernel
theorem dX0_layOut_104 : decode cX0_layOut 104 = .ok (.return_, 1) := by decide +kernel
theorem dX0_moveOf_0 : decode cX0_moveOf 0 = .ok (.aload_n 0, 1) := by decide +kernel
theorem dX0_moveOf_1 : decode cX0_moveOf 1 = .ok (.getfield 46, 3) := by decide +kernel
theorem dX0_moveOf_4 : decode cX0_moveOf 4 = .ok (.tableswitch 124 0 3 #[32, 43, 70, 97], 32) := by decide +kernel
theorem dX0_moveOf_36 : decode cX0_moveOf 36 = .ok (.iconst 0, 1) := by decide +kernel
theorem dX0_moveOf_37 : decode cX0_moveOf 37 = .ok (.aload_n 0, 1) := by decide +kernel
theorem dX0_moveOf_38 : decode cX0_moveOf 38 = .ok (.iconst 0, 1) := by decide +kernel
theorem dX0_moveOf_39 : decode cX0_moveOf 39 = .ok (.iload_n 2, 1) := by decide +kernel
theorem dX0_moveOf_40 : decode cX0_moveOf 40 = .ok (.invokevirtual 71, 3) := by decide +kernel
theorem dX0_moveOf_43 : decode cX0_moveOf 43 = .ok (.invokestatic 74, 3) := by decide +kernel
theorem dX0_moveOf_46 : decode cX0_moveOf 46 = .ok (.ireturn, 1) := by decide +kernel
theorem dX0_moveOf_47 : decode cX0_moveOf 47 = .ok (.iload_n 1, 1) := by decide +kernel
theorem dX0_moveOf_48 : decode cX0_moveOf 48 = .ok (.ifCond .ne 15, 3) := by decide +kernel
theorem dX0_moveOf_51 : decode cX0_moveOf 51 = .ok (.iload_n 2, 1) := by decide +kernel
theorem dX0_moveOf_52 : decode cX0_moveOf 52 = .ok (.aload_n 0, 1) := by decide +kernel
theorem dX0_moveOf_53 : decode cX0_moveOf 53 = .ok (.getfield 49, 3) := by decide +kernel
theorem dX0_moveOf_56 : decode cX0_moveOf 56 = .ok (.if_icmp .lt 7, 3) := by decide +kernel
theorem dX0_moveOf_59 : decode cX0_moveOf 59 = .ok (.iconst 3, 1) := by decide +kernel
theorem dX0_moveOf_60 : decode cX0_moveOf 60 = .ok (.goto 13, 3) := by decide +kernel
theorem dX0_moveOf_63 : decode cX0_moveOf 63 = .ok (.iconst 0, 1) := by decide +kernel
theorem dX0_moveOf_64 : decode cX0_moveOf 64 = .ok (.aload_n 0, 1) := by decide +kernel
theorem dX0_moveOf_65 : decode cX0_moveOf 65 = .ok (.iconst 0, 1) := by decide +kernel
theorem dX0_moveOf_66 : decode cX0_moveOf 66 = .ok (.iload_n 2, 1) := by decide +kernel
theorem dX0_moveOf_67 : decode cX0_moveOf 67 = .ok (.invokevirtual 71, 3) := by decide +kernel
theorem dX0_moveOf_70 : decode cX0_moveOf 70 = .ok (.invokestatic 74, 3) := by decide +kernel
theorem dX0_moveOf_73 : decode cX0_moveOf 73 = .ok (.ireturn, 1) := by decide +kernel
theorem dX0_moveOf_74 : decode cX0_moveOf 74 = .ok (.iload_n 1, 1) := by decide +kernel
theorem dX0_moveOf_75 : decode cX0_moveOf 75 = .ok (.ifCond .ne 15, 3) := by decide +kernel
theorem dX0_moveOf_78 : decode cX0_moveOf 78 = .ok (.aload_n 0, 1) := by decide +kernel
theorem dX0_moveOf_79 : decode cX0_moveOf 79 = .ok (.iconst 0, 1) := by decide +kernel
theorem dX0_moveOf_80 : decode cX0_moveOf 80 = .ok (.iload_n 2, 1) := by decide +kernel
theorem dX0_moveOf_81 : decode cX0_moveOf 81 = .ok (.invokevirtual 71, 3) := by decide +kernel
theorem dX0_moveOf_84 : decode cX0_moveOf 84 = .ok (.invokestatic 77, 3) := by decide +kernel
theorem dX0_moveOf_87 : decode cX0_moveOf 87 = .ok (.goto 13, 3) := by decide +kernel
theorem dX0_moveOf_90 : decode cX0_moveOf 90 = .ok (.iload_n 1, 1) := by decide +kernel
theorem dX0_moveOf_91 : decode cX0_moveOf 91 = .ok (.aload_n 0, 1) := by decide +kernel
theorem dX0_moveOf_92 : decode cX0_moveOf 92 = .ok (.iconst 0, 1) := by decide +kernel
theorem dX0_moveOf_93 : decode cX0_moveOf 93 = .ok (.iload_n 2, 1) := by decide +kernel
theorem dX0_moveOf_94 : decode cX0_moveOf 94 = .ok (.invokevirtual 71, 3) := by decide +kernel
theorem dX0_moveOf_97 : decode cX0_moveOf 97 = .ok (.invokestatic 80, 3) := by decide +kernel
theorem dX0_moveOf_100 : decode cX0_moveOf 100 = .ok (.ireturn, 1) := by decide +kernel
theorem dX0_moveOf_101 : decode cX0_moveOf 101 = .ok (.iload_n 2, 1) := by decide +kernel
theorem dX0_moveOf_102 : decode cX0_moveOf 102 = .ok (.aload_n 0, 1) := by decide +kernel
theorem dX0_moveOf_103 : decode cX0_moveOf 103 = .ok (.getfield 49, 3) := by decide +kernel
theorem dX0_moveOf_106 : decode cX0_moveOf 106 = .ok (.if_icmp .ne 11, 3) := by decide +kernel
theorem dX0_moveOf_109 : decode cX0_moveOf 109 = .ok (.iconst 1, 1) := by decide +kernel
theorem dX0_moveOf_110 : decode cX0_moveOf 110 = .ok (.iload_n 1, 1) := by decide +kernel
theorem dX0_moveOf_111 : decode cX0_moveOf 111 = .ok (.isub, 1) := by decide +kernel
theorem dX0_moveOf_112 : decode cX0_moveOf 112 = .ok (.iconst 3, 1) := by decide +kernel
theorem dX0_moveOf_113 : decode cX0_moveOf 113 = .ok (.imul, 1) := by decide +kernel
theorem dX0_moveOf_114 : decode cX0_moveOf 114 = .ok (.goto 13, 3) := by decide +kernel
theorem dX0_moveOf_117 : decode cX0_moveOf 117 = .ok (.iload_n 1, 1) := by decide +kernel
theorem dX0_moveOf_118 : decode cX0_moveOf 118 = .ok (.aload_n 0, 1) := by decide +kernel
theorem dX0_moveOf_119 : decode cX0_moveOf 119 = .ok (.iload_n 1, 1) := by decide +kernel
theorem dX0_moveOf_120 : decode cX0_moveOf 120 = .ok (.iload_n 2, 1) := by decide +kernel
theorem dX0_moveOf_121 : decode cX0_moveOf 121 = .ok (.invokevirtual 71, 3) := by decide +kernel
theorem dX0_moveOf_124 : decode cX0_moveOf 124 = .ok (.invokestatic 74, 3) := by decide +kernel
theorem dX0_moveOf_127 : decode cX0_moveOf 127 = .ok (.ireturn, 1) := by decide +kernel
theorem dX0_moveOf_128 : decode cX0_moveOf 128 = .ok (.iconst (-1), 1) := by decide +kernel
theorem dX0_moveOf_129 : decode cX0_moveOf 129 = .ok (.ireturn, 1) := by decide +kernel
theorem dX0_signMove_0 : decode cX0_signMove 0 = .ok (.iload_n 1, 1) := by decide +kernel
theorem dX0_signMove_1 : decode cX0_signMove 1 = .ok (.bipush 97, 2) := by decide +kernel
theorem dX0_signMove_3 : decode cX0_signMove 3 = .ok (.if_icmp .ne 9, 3) := by decide +kernel
theorem dX0_signMove_6 : decode cX0_signMove 6 = .ok (.iload_n 0, 1) := by decide +kernel
theorem dX0_signMove_7 : decode cX0_signMove 7 = .ok (.iconst 3, 1) := by decide +kernel
theorem dX0_signMove_8 : decode cX0_signMove 8 = .ok (.imul, 1) := by decide +kernel
theorem dX0_signMove_9 : decode cX0_signMove 9 = .ok (.iconst 1, 1) := by decide +kernel
theorem dX0_signMove_10 : decode cX0_signMove 10 = .ok (.iadd, 1) := by decide +kernel
theorem dX0_signMove_11 : decode cX0_signMove 11 = .ok (.ireturn, 1) := by decide +kernel
theorem dX0_signMove_12 : decode cX0_signMove 12 = .ok (.iload_n 1, 1) := by decide +kernel
theorem dX0_signMove_13 : decode cX0_signMove 13 = .ok (.bipush 98, 2) := by decide +kernel
theorem dX0_signMove_15 : decode cX0_signMove 15 = .ok (.if_icmp .ne 11, 3) := by decide +kernel
theorem dX0_signMove_18 : decode cX0_signMove 18 = .ok (.iload_n 0, 1) := by decide +kernel
theorem dX0_signMove_19 : decode cX0_signMove 19 = .ok (.iconst 3, 1) := by decide +kernel
theorem dX0_signMove_20 : decode cX0_signMove 20 = .ok (.imul, 1) := by decide +kernel
theorem dX0_signMove_21 : decode cX0_signMove 21 = .ok (.iconst 2, 1) := by decide +kernel
theorem dX0_signMove_22 : decode cX0_signMove 22 = .ok (.iadd, 1) := by decide +kernel
theorem dX0_signMove_23 : decode cX0_signMove 23 = .ok (.goto 4, 3) := by decide +kernel
theorem dX0_signMove_26 : decode cX0_signMove 26 = .ok (.iconst (-1), 1) := by decide +kernel
theorem dX0_signMove_27 : decode cX0_signMove 27 = .ok (.ireturn, 1) := by decide +kernel
theorem dX0_beginMove_0 : decode cX0_beginMove 0 = .ok (.iload_n 0, 1) := by decide +kernel
theorem dX0_beginMove_1 : decode cX0_beginMove 1 = .ok (.tableswitch 42 99 102 #[31, 33, 36, 39], 31) := by decide +kernel
theorem dX0_beginMove_32 : decode cX0_beginMove 32 = .ok (.iconst 3, 1) := by decide +kernel
theorem dX0_beginMove_33 : decode cX0_beginMove 33 = .ok (.ireturn, 1) := by decide +kernel
theorem dX0_beginMove_34 : decode cX0_beginMove 34 = .ok (.bipush 6, 2) := by decide +kernel
theorem dX0_beginMove_36 : decode cX0_beginMove 36 = .ok (.ireturn, 1) := by decide +kernel
theorem dX0_beginMove_37 : decode cX0_beginMove 37 = .ok (.bipush 9, 2) := by decide +kernel
theorem dX0_beginMove_39 : decode cX0_beginMove 39 = .ok (.ireturn, 1) := by decide +kernel
theorem dX0_beginMove_40 : decode cX0_beginMove 40 = .ok (.bipush 12, 2) := by decide +kernel
theorem dX0_beginMove_42 : decode cX0_beginMove 42 = .ok (.ireturn, 1) := by decide +kernel
theorem dX0_beginMove_43 : decode cX0_beginMove 43 = .ok (.iconst 0, 1) := by decide +kernel
theorem dX0_beginMove_44 : decode cX0_beginMove 44 = .ok (.iload_n 0, 1) := by decide +kernel
theorem dX0_beginMove_45 : decode cX0_beginMove 45 = .ok (.invokestatic 74, 3) := by decide +kernel
theorem dX0_beginMove_48 : decode cX0_beginMove 48 = .ok (.ireturn, 1) := by decide +kernel
theorem dX0_wantedMove_0 : decode cX0_wantedMove 0 = .ok (.iload_n 1, 1) := by decide +kernel
theorem dX0_wantedMove_1 : decode cX0_wantedMove 1 = .ok (.bipush 43, 2) := by decide +kernel
theorem dX0_wantedMove_3 : decode cX0_wantedMove 3 = .ok (.if_icmp .eq 5, 3) := by decide +kernel
theorem dX0_wantedMove_6 : decode cX0_wantedMove 6 = .ok (.iconst (-1), 1) := by decide +kernel
theorem dX0_wantedMove_7 : decode cX0_wantedMove 7 = .ok (.ireturn, 1) := by decide +kernel
theorem dX0_wantedMove_8 : decode cX0_wantedMove 8 = .ok (.iload_n 0, 1) := by decide +kernel
theorem dX0_wantedMove_9 : decode cX0_wantedMove 9 = .ok (.tableswitch 40 1 4 #[31, 33, 35, 37], 31) := by decide +kernel
theorem dX0_wantedMove_40 : decode cX0_wantedMove 40 = .ok (.iconst 1, 1) := by decide +kernel
theorem dX0_wantedMove_41 : decode cX0_wantedMove 41 = .ok (.ireturn, 1) := by decide +kernel
theorem dX0_wantedMove_42 : decode cX0_wantedMove 42 = .ok (.iconst 2, 1) := by decide +kernel
theorem dX0_wantedMove_43 : decode cX0_wantedMove 43 = .ok (.ireturn, 1) := by decide +kernel
theorem dX0_wantedMove_44 : decode cX0_wantedMove 44 = .ok (.iconst 3, 1) := by decide +kernel
theorem dX0_wantedMove_45 : decode cX0_wantedMove 45 = .ok (.ireturn, 1) := by decide +kernel
theorem dX0_wantedMove_46 : decode cX0_wantedMove 46 = .ok (.bipush 6, 2) := by decide +kernel
theorem dX0_wantedMove_48 : decode cX0_wantedMove 48 = .ok (.ireturn, 1) := by decide +kernel
theorem dX0_wantedMove_49 : decode cX0_wantedMove 49 = .ok (.iconst (-1), 1) := by decide +kernel
theorem dX0_wantedMove_50 : decode cX0_wantedMove 50 = .ok (.ireturn, 1) := by decide +kernel
theorem dX0_markOf_0 : decode cX0_markOf 0 = .ok (.aload_n 0, 1) := by decide +kernel
theorem dX0_markOf_1 : decode cX0_markOf 1 = .ok (.getfield 46, 3) := by decide +kernel
theorem dX0_markOf_4 : decode cX0_markOf 4 = .ok (.invokestatic 83, 3) := by decide +kernel
theorem dX0_markOf_7 : decode cX0_markOf 7 = .ok (.iload_n 1, 1) := by decide +kernel
theorem dX0_markOf_8 : decode cX0_markOf 8 = .ok (.bipush 8, 2) := by decide +kernel
theorem dX0_markOf_10 : decode cX0_markOf 10 = .ok (.imul, 1) := by decide +kernel
theorem dX0_markOf_11 : decode cX0_markOf 11 = .ok (.iadd, 1) := by decide +kernel
theorem dX0_markOf_12 : decode cX0_markOf 12 = .ok (.iload_n 2, 1) := by decide +kernel
theorem dX0_markOf_13 : decode cX0_markOf 13 = .ok (.iadd, 1) := by decide +kernel
theorem dX0_markOf_14 : decode cX0_markOf 14 = .ok (.istore_n 3, 1) := by decide +kernel
theorem dX0_markOf_15 : decode cX0_markOf 15 = .ok (.iload_n 3, 1) := by decide +kernel
theorem dX0_markOf_16 : decode cX0_markOf 16 = .ok (.ifCond .lt 20, 3) := by decide +kernel
theorem dX0_markOf_19 : decode cX0_markOf 19 = .ok (.iload_n 3, 1) := by decide +kernel
theorem dX0_markOf_20 : decode cX0_markOf 20 = .ok (.aload_n 0, 1) := by decide +kernel
theorem dX0_markOf_21 : decode cX0_markOf 21 = .ok (.getfield 36, 3) := by decide +kernel
theorem dX0_markOf_24 : decode cX0_markOf 24 = .ok (.if_icmp .ge 12, 3) := by decide +kernel
theorem dX0_markOf_27 : decode cX0_markOf 27 = .ok (.aload_n 0, 1) := by decide +kernel
theorem dX0_markOf_28 : decode cX0_markOf 28 = .ok (.getfield 9, 3) := by decide +kernel
theorem dX0_markOf_31 : decode cX0_markOf 31 = .ok (.iload_n 3, 1) := by decide +kernel
theorem dX0_markOf_32 : decode cX0_markOf 32 = .ok (.iaload, 1) := by decide +kernel
theorem dX0_markOf_33 : decode cX0_markOf 33 = .ok (.goto 5, 3) := by decide +kernel
theorem dX0_markOf_36 : decode cX0_markOf 36 = .ok (.bipush 33, 2) := by decide +kernel
theorem dX0_markOf_38 : decode cX0_markOf 38 = .ok (.ireturn, 1) := by decide +kernel
theorem dX0_kind_0 : decode cX0_kind 0 = .ok (.aload_n 0, 1) := by decide +kernel
theorem dX0_kind_1 : decode cX0_kind 1 = .ok (.getfield 46, 3) := by decide +kernel
theorem dX0_kind_4 : decode cX0_kind 4 = .ok (.ireturn, 1) := by decide +kernel
theorem dX0_textLength_0 : decode cX0_textLength 0 = .ok (.aload_n 0, 1) := by decide +kernel
theorem dX0_textLength_1 : decode cX0_textLength 1 = .ok (.getfield 36, 3) := by decide +kernel
theorem dX0_textLength_4 : decode cX0_textLength 4 = .ok (.ireturn, 1) := by decide +kernel
theorem dX0_textAt_0 : decode cX0_textAt 0 = .ok (.iload_n 1, 1) := by decide +kernel
theorem dX0_textAt_1 : decode cX0_textAt 1 = .ok (.ifCond .lt 20, 3) := by decide +kernel
theorem dX0_textAt_4 : decode cX0_textAt 4 = .ok (.iload_n 1, 1) := by decide +kernel
theorem dX0_textAt_5 : decode cX0_textAt 5 = .ok (.aload_n 0, 1) := by decide +kernel
theorem dX0_textAt_6 : decode cX0_textAt 6 = .ok (.getfield 36, 3) := by decide +kernel
theorem dX0_textAt_9 : decode cX0_textAt 9 = .ok (.if_icmp .ge 12, 3) := by decide +kernel
theorem dX0_textAt_12 : decode cX0_textAt 12 = .ok (.aload_n 0, 1) := by decide +kernel
theorem dX0_textAt_13 : decode cX0_textAt 13 = .ok (.getfield 9, 3) := by decide +kernel
theorem dX0_textAt_16 : decode cX0_textAt 16 = .ok (.iload_n 1, 1) := by decide +kernel
theorem dX0_textAt_17 : decode cX0_textAt 17 = .ok (.iaload, 1) := by decide +kernel
theorem dX0_textAt_18 : decode cX0_textAt 18 = .ok (.goto 5, 3) := by decide +kernel
theorem dX0_textAt_21 : decode cX0_textAt 21 = .ok (.bipush (-101), 2) := by decide +kernel
theorem dX0_textAt_23 : decode cX0_textAt 23 = .ok (.ireturn, 1) := by decide +kernel
theorem dX0_pointsOf_0 : decode cX0_pointsOf 0 = .ok (.aload_n 0, 1) := by decide +kernel
theorem dX0_pointsOf_1 : decode cX0_pointsOf 1 = .ok (.getfield 46, 3) := by decide +kernel
theorem dX0_pointsOf_4 : decode cX0_pointsOf 4 = .ok (.invokestatic 86, 3) := by decide +kernel
theorem dX0_pointsOf_7 : decode cX0_pointsOf 7 = .ok (.iload_n 1, 1) := by decide +kernel
theorem dX0_pointsOf_8 : decode cX0_pointsOf 8 = .ok (.iadd, 1) := by decide +kernel
theorem dX0_pointsOf_9 : decode cX0_pointsOf 9 = .ok (.istore_n 2, 1) := by decide +kernel
theorem dX0_pointsOf_10 : decode cX0_pointsOf 10 = .ok (.iload_n 2, 1) := by decide +kernel
theorem dX0_pointsOf_11 : decode cX0_pointsOf 11 = .ok (.ifCond .lt 23, 3) := by decide +kernel
theorem dX0_pointsOf_14 : decode cX0_pointsOf 14 = .ok (.iload_n 2, 1) := by decide +kernel
theorem dX0_pointsOf_15 : decode cX0_pointsOf 15 = .ok (.aload_n 0, 1) := by decide +kernel
theorem dX0_pointsOf_16 : decode cX0_pointsOf 16 = .ok (.getfield 36, 3) := by decide +kernel
theorem dX0_pointsOf_19 : decode cX0_pointsOf 19 = .ok (.if_icmp .ge 15, 3) := by decide +kernel
theorem dX0_pointsOf_22 : decode cX0_pointsOf 22 = .ok (.aload_n 0, 1) := by decide +kernel
theorem dX0_pointsOf_23 : decode cX0_pointsOf 23 = .ok (.getfield 9, 3) := by decide +kernel
theorem dX0_pointsOf_26 : decode cX0_pointsOf 26 = .ok (.iload_n 2, 1) := by decide +kernel
theorem dX0_pointsOf_27 : decode cX0_pointsOf 27 = .ok (.iaload, 1) := by decide +kernel
theorem dX0_pointsOf_28 : decode cX0_pointsOf 28 = .ok (.bipush 48, 2) := by decide +kernel
theorem dX0_pointsOf_30 : decode cX0_pointsOf 30 = .ok (.isub, 1) := by decide +kernel
theorem dX0_pointsOf_31 : decode cX0_pointsOf 31 = .ok (.goto 4, 3) := by decide +kernel
theorem dX0_pointsOf_34 : decode cX0_pointsOf 34 = .ok (.iconst 0, 1) := by decide +kernel
theorem dX0_pointsOf_35 : decode cX0_pointsOf 35 = .ok (.ireturn, 1) := by decide +kernel
theorem dX0_states_0 : decode cX0_states 0 = .ok (.aload_n 0, 1) := by decide +kernel
theorem dX0_states_1 : decode cX0_states 1 = .ok (.getfield 55, 3) := by decide +kernel
theorem dX0_states_4 : decode cX0_states 4 = .ok (.iconst 3, 1) := by decide +kernel
theorem dX0_states_5 : decode cX0_states 5 = .ok (.imul, 1) := by decide +kernel
theorem dX0_states_6 : decode cX0_states 6 = .ok (.ireturn, 1) := by decide +kernel
theorem dX0_modes_0 : decode cX0_modes 0 = .ok (.aload_n 0, 1) := by decide +kernel
theorem dX0_modes_1 : decode cX0_modes 1 = .ok (.getfield 55, 3) := by decide +kernel
theorem dX0_modes_4 : decode cX0_modes 4 = .ok (.ireturn, 1) := by decide +kernel
theorem dX0_sortPair_0 : decode cX0_sortPair 0 = .ok (.iload_n 0, 1) := by decide +kernel
theorem dX0_sortPair_1 : decode cX0_sortPair 1 = .ok (.iconst 1, 1) := by decide +kernel
theorem dX0_sortPair_2 : decode cX0_sortPair 2 = .ok (.isub, 1) := by decide +kernel
theorem dX0_sortPair_3 : decode cX0_sortPair 3 = .ok (.iconst 2, 1) := by decide +kernel
theorem dX0_sortPair_4 : decode cX0_sortPair 4 = .ok (.imul, 1) := by decide +kernel
theorem dX0_sortPair_5 : decode cX0_sortPair 5 = .ok (.iload_n 1, 1) := by decide +kernel
theorem dX0_sortPair_6 : decode cX0_sortPair 6 = .ok (.iadd, 1) := by decide +kernel
theorem dX0_sortPair_7 : decode cX0_sortPair 7 = .ok (.iconst 1, 1) := by decide +kernel
theorem dX0_sortPair_8 : decode cX0_sortPair 8 = .ok (.isub, 1) := by decide +kernel
theorem dX0_sortPair_9 : decode cX0_sortPair 9 = .ok (.ireturn, 1) := by decide +kernel
theorem dX0_modeOf_0 : decode cX0_modeOf 0 = .ok (.iload_n 0, 1) := by decide +kernel
theorem dX0_modeOf_1 : decode cX0_modeOf 1 = .ok (.iconst 3, 1) := by decide +kernel
theorem dX0_modeOf_2 : decode cX0_modeOf 2 = .ok (.idiv, 1) := by decide +kernel
theorem dX0_modeOf_3 : decode cX0_modeOf 3 = .ok (.ireturn, 1) := by decide +kernel
theorem dX0_moveIn_0 : decode cX0_moveIn 0 = .ok (.iload_n 1, 1) := by decide +kernel
theorem dX0_moveIn_1 : decode cX0_moveIn 1 = .ok (.ifCond .lt 18, 3) := by decide +kernel
theorem dX0_moveIn_4 : decode cX0_moveIn 4 = .ok (.iload_n 1, 1) := by decide +kernel
theorem dX0_moveIn_5 : decode cX0_moveIn 5 = .ok (.iconst 5, 1) := by decide +kernel
theorem dX0_moveIn_6 : decode cX0_moveIn 6 = .ok (.if_icmp .ge 13, 3) := by decide +kernel
theorem dX0_moveIn_9 : decode cX0_moveIn 9 = .ok (.iload_n 2, 1) := by decide +kernel
theorem dX0_moveIn_10 : decode cX0_moveIn 10 = .ok (.ifCond .lt 9, 3) := by decide +kernel
theorem dX0_moveIn_13 : decode cX0_moveIn 13 = .ok (.iload_n 2, 1) := by decide +kernel
theorem dX0_moveIn_14 : decode cX0_moveIn 14 = .ok (.bipush 8, 2) := by decide +kernel
theorem dX0_moveIn_16 : decode cX0_moveIn 16 = .ok (.if_icmp .lt 5, 3) := by decide +kernel
theorem dX0_moveIn_19 : decode cX0_moveIn 19 = .ok (.iconst (-1), 1) := by decide +kernel
theorem dX0_moveIn_20 : decode cX0_moveIn 20 = .ok (.ireturn, 1) := by decide +kernel
theorem dX0_moveIn_21 : decode cX0_moveIn 21 = .ok (.aload_n 0, 1) := by decide +kernel
theorem dX0_moveIn_22 : decode cX0_moveIn 22 = .ok (.getfield 15, 3) := by decide +kernel
theorem dX0_moveIn_25 : decode cX0_moveIn 25 = .ok (.iload_n 1, 1) := by decide +kernel
theorem dX0_moveIn_26 : decode cX0_moveIn 26 = .ok (.bipush 8, 2) := by decide +kernel
theorem dX0_moveIn_28 : decode cX0_moveIn 28 = .ok (.imul, 1) := by decide +kernel
theorem dX0_moveIn_29 : decode cX0_moveIn 29 = .ok (.iload_n 2, 1) := by decide +kernel
theorem dX0_moveIn_30 : decode cX0_moveIn 30 = .ok (.iadd, 1) := by decide +kernel
theorem dX0_moveIn_31 : decode cX0_moveIn 31 = .ok (.iaload, 1) := by decide +kernel
theorem dX0_moveIn_32 : decode cX0_moveIn 32 = .ok (.ireturn, 1) := by decide +kernel
theorem dX0_nextMode_0 : decode cX0_nextMode 0 = .ok (.aload_n 0, 1) := by decide +kernel
theorem dX0_nextMode_1 : decode cX0_nextMode 1 = .ok (.iload_n 1, 1) := by decide +kernel
theorem dX0_nextMode_2 : decode cX0_nextMode 2 = .ok (.iload_n 2, 1) := by decide +kernel
theorem dX0_nextMode_3 : decode cX0_nextMode 3 = .ok (.invokevirtual 89, 3) := by decide +kernel
theorem dX0_nextMode_6 : decode cX0_nextMode 6 = .ok (.istore_n 3, 1) := by decide +kernel
theorem dX0_nextMode_7 : decode cX0_nextMode 7 = .ok (.iload_n 3, 1) := by decide +kernel
theorem dX0_nextMode_8 : decode cX0_nextMode 8 = .ok (.iconst (-1), 1) := by decide +kernel
theorem dX0_nextMode_9 : decode cX0_nextMode 9 = .ok (.if_icmp .ne 7, 3) := by decide +kernel
theorem dX0_nextMode_12 : decode cX0_nextMode 12 = .ok (.iconst (-1), 1) := by decide +kernel
theorem dX0_nextMode_13 : decode cX0_nextMode 13 = .ok (.goto 6, 3) := by decide +kernel
theorem dX0_nextMode_16 : decode cX0_nextMode 16 = .ok (.iload_n 3, 1) := by decide +kernel
theorem dX0_nextMode_17 : decode cX0_nextMode 17 = .ok (.iconst 3, 1) := by decide +kernel
theorem dX0_nextMode_18 : decode cX0_nextMode 18 = .ok (.idiv, 1) := by decide +kernel
theorem dX0_nextMode_19 : decode cX0_nextMode 19 = .ok (.ireturn, 1) := by decide +kernel
theorem dX0_sortEnded_0 : decode cX0_sortEnded 0 = .ok (.aload_n 0, 1) := by decide +kernel
theorem dX0_sortEnded_1 : decode cX0_sortEnded 1 = .ok (.iload_n 1, 1) := by decide +kernel
theorem dX0_sortEnded_2 : decode cX0_sortEnded 2 = .ok (.iload_n 2, 1) := by decide +kernel
theorem dX0_sortEnded_3 : decode cX0_sortEnded 3 = .ok (.invokevirtual 89, 3) := by decide +kernel
theorem dX0_sortEnded_6 : decode cX0_sortEnded 6 = .ok (.istore_n 3, 1) := by decide +kernel
theorem dX0_sortEnded_7 : decode cX0_sortEnded 7 = .ok (.iload_n 3, 1) := by decide +kernel
theorem dX0_sortEnded_8 : decode cX0_sortEnded 8 = .ok (.iconst (-1), 1) := by decide +kernel
theorem dX0_sortEnded_9 : decode cX0_sortEnded 9 = .ok (.if_icmp .ne 7, 3) := by decide +kernel
theorem dX0_sortEnded_12 : decode cX0_sortEnded 12 = .ok (.iconst 0, 1) := by decide +kernel
theorem dX0_sortEnded_13 : decode cX0_sortEnded 13 = .ok (.goto 6, 3) := by decide +kernel
theorem dX0_sortEnded_16 : decode cX0_sortEnded 16 = .ok (.iload_n 3, 1) := by decide +kernel
theorem dX0_sortEnded_17 : decode cX0_sortEnded 17 = .ok (.iconst 3, 1) := by decide +kernel
theorem dX0_sortEnded_18 : decode cX0_sortEnded 18 = .ok (.irem, 1) := by decide +kernel
theorem dX0_sortEnded_19 : decode cX0_sortEnded 19 = .ok (.ireturn, 1) := by decide +kernel
theorem dX0_nextState_0 : decode cX0_nextState 0 = .ok (.iload_n 1, 1) := by decide +kernel
theorem dX0_nextState_1 : decode cX0_nextState 1 = .ok (.ifCond .lt 19, 3) := by decide +kernel
theorem dX0_nextState_4 : decode cX0_nextState 4 = .ok (.iload_n 1, 1) := by decide +kernel
theorem dX0_nextState_5 : decode cX0_nextState 5 = .ok (.bipush 15, 2) := by decide +kernel
theorem dX0_nextState_7 : decode cX0_nextState 7 = .ok (.if_icmp .ge 13, 3) := by decide +kernel
theorem dX0_nextState_10 : decode cX0_nextState 10 = .ok (.iload_n 2, 1) := by decide +kernel
theorem dX0_nextState_11 : decode cX0_nextState 11 = .ok (.ifCond .lt 9, 3) := by decide +kernel
theorem dX0_nextState_14 : decode cX0_nextState 14 = .ok (.iload_n 2, 1) := by decide +kernel
theorem dX0_nextState_15 : decode cX0_nextState 15 = .ok (.bipush 8, 2) := by decide +kernel
theorem dX0_nextState_17 : decode cX0_nextState 17 = .ok (.if_icmp .lt 5, 3) := by decide +kernel
theorem dX0_nextState_20 : decode cX0_nextState 20 = .ok (.iconst (-1), 1) := by decide +kernel
theorem dX0_nextState_21 : decode cX0_nextState 21 = .ok (.ireturn, 1) := by decide +kernel
theorem dX0_nextState_22 : decode cX0_nextState 22 = .ok (.aload_n 0, 1) := by decide +kernel
theorem dX0_nextState_23 : decode cX0_nextState 23 = .ok (.getfield 18, 3) := by decide +kernel
theorem dX0_nextState_26 : decode cX0_nextState 26 = .ok (.iload_n 1, 1) := by decide +kernel
theorem dX0_nextState_27 : decode cX0_nextState 27 = .ok (.bipush 8, 2) := by decide +kernel
theorem dX0_nextState_29 : decode cX0_nextState 29 = .ok (.imul, 1) := by decide +kernel
theorem dX0_nextState_30 : decode cX0_nextState 30 = .ok (.iload_n 2, 1) := by decide +kernel
theorem dX0_nextState_31 : decode cX0_nextState 31 = .ok (.iadd, 1) := by decide +kernel
theorem dX0_nextState_32 : decode cX0_nextState 32 = .ok (.iaload, 1) := by decide +kernel
theorem dX0_nextState_33 : decode cX0_nextState 33 = .ok (.ireturn, 1) := by decide +kernel
theorem dX0_gain_0 : decode cX0_gain 0 = .ok (.iload_n 1, 1) := by decide +kernel
theorem dX0_gain_1 : decode cX0_gain 1 = .ok (.ifCond .lt 19, 3) := by decide +kernel
theorem dX0_gain_4 : decode cX0_gain 4 = .ok (.iload_n 1, 1) := by decide +kernel
theorem dX0_gain_5 : decode cX0_gain 5 = .ok (.bipush 15, 2) := by decide +kernel
theorem dX0_gain_7 : decode cX0_gain 7 = .ok (.if_icmp .ge 13, 3) := by decide +kernel
theorem dX0_gain_10 : decode cX0_gain 10 = .ok (.iload_n 2, 1) := by decide +kernel
theorem dX0_gain_11 : decode cX0_gain 11 = .ok (.ifCond .lt 9, 3) := by decide +kernel
theorem dX0_gain_14 : decode cX0_gain 14 = .ok (.iload_n 2, 1) := by decide +kernel
theorem dX0_gain_15 : decode cX0_gain 15 = .ok (.bipush 8, 2) := by decide +kernel
theorem dX0_gain_17 : decode cX0_gain 17 = .ok (.if_icmp .lt 5, 3) := by decide +kernel
theorem dX0_gain_20 : decode cX0_gain 20 = .ok (.iconst 0, 1) := by decide +kernel
theorem dX0_gain_21 : decode cX0_gain 21 = .ok (.ireturn, 1) := by decide +kernel
theorem dX0_gain_22 : decode cX0_gain 22 = .ok (.aload_n 0, 1) := by decide +kernel
theorem dX0_gain_23 : decode cX0_gain 23 = .ok (.getfield 21, 3) := by decide +kernel
theorem dX0_gain_26 : decode cX0_gain 26 = .ok (.iload_n 1, 1) := by decide +kernel
theorem dX0_gain_27 : decode cX0_gain 27 = .ok (.bipush 8, 2) := by decide +kernel
theorem dX0_gain_29 : decode cX0_gain 29 = .ok (.imul, 1) := by decide +kernel
theorem dX0_gain_30 : decode cX0_gain 30 = .ok (.iload_n 2, 1) := by decide +kernel
theorem dX0_gain_31 : decode cX0_gain 31 = .ok (.iadd, 1) := by decide +kernel
theorem dX0_gain_32 : decode cX0_gain 32 = .ok (.iaload, 1) := by decide +kernel
theorem dX0_gain_33 : decode cX0_gain 33 = .ok (.ireturn, 1) := by decide +kernel
theorem dX0_validRows_0 : decode cX0_validRows 0 = .ok (.aload_n 0, 1) := by decide +kernel
theorem dX0_validRows_1 : decode cX0_validRows 1 = .ok (.getfield 24, 3) := by decide +kernel
theorem dX0_validRows_4 : decode cX0_validRows 4 = .ok (.iconst 0, 1) := by decide +kernel
theorem dX0_validRows_5 : decode cX0_validRows 5 = .ok (.invokestatic 92, 3) := by decide +kernel
theorem dX0_validRows_8 : decode cX0_validRows 8 = .ok (.aload_n 0, 1) := by decide +kernel
theorem dX0_validRows_9 : decode cX0_validRows 9 = .ok (.getfield 24, 3) := by decide +kernel
theorem dX0_validRows_12 : decode cX0_validRows 12 = .ok (.iconst 0, 1) := by decide +kernel
theorem dX0_validRows_13 : decode cX0_validRows 13 = .ok (.iconst 1, 1) := by decide +kernel
theorem dX0_validRows_14 : decode cX0_validRows 14 = .ok (.iastore, 1) := by decide +kernel
theorem dX0_validRows_15 : decode cX0_validRows 15 = .ok (.iconst 0, 1) := by decide +kernel
theorem dX0_validRows_16 : decode cX0_validRows 16 = .ok (.istore_n 2, 1) := by decide +kernel
theorem dX0_validRows_17 : decode cX0_validRows 17 = .ok (.iload_n 2, 1) := by decide +kernel
theorem dX0_validRows_18 : decode cX0_validRows 18 = .ok (.iload_n 1, 1) := by decide +kernel
theorem dX0_validRows_19 : decode cX0_validRows 19 = .ok (.if_icmp .ge 13, 3) := by decide +kernel
theorem dX0_validRows_22 : decode cX0_validRows 22 = .ok (.aload_n 0, 1) := by decide +kernel
theorem dX0_validRows_23 : decode cX0_validRows 23 = .ok (.invokevirtual 98, 3) := by decide +kernel
theorem dX0_validRows_26 : decode cX0_validRows 26 = .ok (.iinc 2 1, 3) := by decide +kernel
theorem dX0_validRows_29 : decode cX0_validRows 29 = .ok (.goto (-12), 3) := by decide +kernel
theorem dX0_validRows_32 : decode cX0_validRows 32 = .ok (.aload_n 0, 1) := by decide +kernel
theorem dX0_validRows_33 : decode cX0_validRows 33 = .ok (.getfield 24, 3) := by decide +kernel
theorem dX0_validRows_36 : decode cX0_validRows 36 = .ok (.iconst 0, 1) := by decide +kernel
theorem dX0_validRows_37 : decode cX0_validRows 37 = .ok (.iaload, 1) := by decide +kernel
theorem dX0_validRows_38 : decode cX0_validRows 38 = .ok (.ireturn, 1) := by decide +kernel
theorem dX0_lengthenWays_0 : decode cX0_lengthenWays 0 = .ok (.aload_n 0, 1) := by decide +kernel
theorem dX0_lengthenWays_1 : decode cX0_lengthenWays 1 = .ok (.getfield 27, 3) := by decide +kernel
theorem dX0_lengthenWays_4 : decode cX0_lengthenWays 4 = .ok (.iconst 0, 1) := by decide +kernel
theorem dX0_lengthenWays_5 : decode cX0_lengthenWays 5 = .ok (.invokestatic 92, 3) := by decide +kernel
theorem dX0_lengthenWays_8 : decode cX0_lengthenWays 8 = .ok (.iconst 0, 1) := by decide +kernel
theorem dX0_lengthenWays_9 : decode cX0_lengthenWays 9 = .ok (.istore_n 1, 1) := by decide +kernel
theorem dX0_lengthenWays_10 : decode cX0_lengthenWays 10 = .ok (.iload_n 1, 1) := by decide +kernel
theorem dX0_lengthenWays_11 : decode cX0_lengthenWays 11 = .ok (.aload_n 0, 1) := by decide +kernel
theorem dX0_lengthenWays_12 : decode cX0_lengthenWays 12 = .ok (.getfield 55, 3) := by decide +kernel
theorem dX0_lengthenWays_15 : decode cX0_lengthenWays 15 = .ok (.if_icmp .ge 54, 3) := by decide +kernel
theorem dX0_lengthenWays_18 : decode cX0_lengthenWays 18 = .ok (.iconst 0, 1) := by decide +kernel
theorem dX0_lengthenWays_19 : decode cX0_lengthenWays 19 = .ok (.istore_n 2, 1) := by decide +kernel
theorem dX0_lengthenWays_20 : decode cX0_lengthenWays 20 = .ok (.iload_n 2, 1) := by decide +kernel
theorem dX0_lengthenWays_21 : decode cX0_lengthenWays 21 = .ok (.bipush 8, 2) := by decide +kernel
theorem dX0_lengthenWays_23 : decode cX0_lengthenWays 23 = .ok (.if_icmp .ge 40, 3) := by decide +kernel
theorem dX0_lengthenWays_26 : decode cX0_lengthenWays 26 = .ok (.aload_n 0, 1) := by decide +kernel
theorem dX0_lengthenWays_27 : decode cX0_lengthenWays 27 = .ok (.iload_n 1, 1) := by decide +kernel
theorem dX0_lengthenWays_28 : decode cX0_lengthenWays 28 = .ok (.iload_n 2, 1) := by decide +kernel
theorem dX0_lengthenWays_29 : decode cX0_lengthenWays 29 = .ok (.invokevirtual 101, 3) := by decide +kernel
theorem dX0_lengthenWays_32 : decode cX0_lengthenWays 32 = .ok (.istore_n 3, 1) := by decide +kernel
theorem dX0_lengthenWays_33 : decode cX0_lengthenWays 33 = .ok (.iload_n 3, 1) := by decide +kernel
theorem dX0_lengthenWays_34 : decode cX0_lengthenWays 34 = .ok (.ifCond .lt 23, 3) := by decide +kernel
theorem dX0_lengthenWays_37 : decode cX0_lengthenWays 37 = .ok (.iload_n 3, 1) := by decide +kernel
theorem dX0_lengthenWays_38 : decode cX0_lengthenWays 38 = .ok (.iconst 5, 1) := by decide +kernel
theorem dX0_lengthenWays_39 : decode cX0_lengthenWays 39 = .ok (.if_icmp .ge 18, 3) := by decide +kernel
theorem dX0_lengthenWays_42 : decode cX0_lengthenWays 42 = .ok (.aload_n 0, 1) := by decide +kernel
theorem dX0_lengthenWays_43 : decode cX0_lengthenWays 43 = .ok (.getfield 27, 3) := by decide +kernel
theorem dX0_lengthenWays_46 : decode cX0_lengthenWays 46 = .ok (.iload_n 3, 1) := by decide +kernel
theorem dX0_lengthenWays_47 : decode cX0_lengthenWays 47 = .ok (.dup2, 1) := by decide +kernel
theorem dX0_lengthenWays_48 : decode cX0_lengthenWays 48 = .ok (.iaload, 1) := by decide +kernel
theorem dX0_lengthenWays_49 : decode cX0_lengthenWays 49 = .ok (.aload_n 0, 1) := by decide +kernel
theorem dX0_lengthenWays_50 : decode cX0_lengthenWays 50 = .ok (.getfield 24, 3) := by decide +kernel
theorem dX0_lengthenWays_53 : decode cX0_lengthenWays 53 = .ok (.iload_n 1, 1) := by decide +kernel
theorem dX0_lengthenWays_54 : decode cX0_lengthenWays 54 = .ok (.iaload, 1) := by decide +kernel
theorem dX0_lengthenWays_55 : decode cX0_lengthenWays 55 = .ok (.iadd, 1) := by decide +kernel
theorem dX0_lengthenWays_56 : decode cX0_lengthenWays 56 = .ok (.iastore, 1) := by decide +kernel
theorem dX0_lengthenWays_57 : decode cX0_lengthenWays 57 = .ok (.iinc 2 1, 3) := by decide +kernel
theorem dX0_lengthenWays_60 : decode cX0_lengthenWays 60 = .ok (.goto (-40), 3) := by decide +kernel
theorem dX0_lengthenWays_63 : decode cX0_lengthenWays 63 = .ok (.iinc 1 1, 3) := by decide +kernel
theorem dX0_lengthenWays_66 : decode cX0_lengthenWays 66 = .ok (.goto (-56), 3) := by decide +kernel
theorem dX0_lengthenWays_69 : decode cX0_lengthenWays 69 = .ok (.aload_n 0, 1) := by decide +kernel
theorem dX0_lengthenWays_70 : decode cX0_lengthenWays 70 = .ok (.getfield 27, 3) := by decide +kernel
theorem dX0_lengthenWays_73 : decode cX0_lengthenWays 73 = .ok (.iconst 0, 1) := by decide +kernel
theorem dX0_lengthenWays_74 : decode cX0_lengthenWays 74 = .ok (.aload_n 0, 1) := by decide +kernel
theorem dX0_lengthenWays_75 : decode cX0_lengthenWays 75 = .ok (.getfield 24, 3) := by decide +kernel
theorem dX0_lengthenWays_78 : decode cX0_lengthenWays 78 = .ok (.iconst 0, 1) := by decide +kernel
theorem dX0_lengthenWays_79 : decode cX0_lengthenWays 79 = .ok (.iconst 5, 1) := by decide +kernel
theorem dX0_lengthenWays_80 : decode cX0_lengthenWays 80 = .ok (.invokestatic 104, 3) := by decide +kernel
theorem dX0_lengthenWays_83 : decode cX0_lengthenWays 83 = .ok (.return_, 1) := by decide +kernel
theorem dX1_init_0 : decode cX1_init 0 = .ok (.aload_n 0, 1) := by decide +kernel
theorem dX1_init_1 : decode cX1_init 1 = .ok (.invokespecial 3, 3) := by decide +kernel
theorem dX1_init_4 : decode cX1_init 4 = .ok (.aload_n 0, 1) := by decide +kernel
theorem dX1_init_5 : decode cX1_init 5 = .ok (.bipush 41, 2) := by decide +kernel
theorem dX1_init_7 : decode cX1_init 7 = .ok (.newarray .int, 2) := by decide +kernel
theorem dX1_init_9 : decode cX1_init 9 = .ok (.putfield 9, 3) := by decide +kernel
theorem dX1_init_12 : decode cX1_init 12 = .ok (.aload_n 0, 1) := by decide +kernel
theorem dX1_init_13 : decode cX1_init 13 = .ok (.bipush 41, 2) := by decide +kernel
theorem dX1_init_15 : decode cX1_init 15 = .ok (.newarray .int, 2) := by decide +kernel
theorem dX1_init_17 : decode cX1_init 17 = .ok (.putfield 15, 3) := by decide +kernel
theorem dX1_init_20 : decode cX1_init 20 = .ok (.aload_n 0, 1) := by decide +kernel
theorem dX1_init_21 : decode cX1_init 21 = .ok (.bipush 41, 2) := by decide +kernel
theorem dX1_init_23 : decode cX1_init 23 = .ok (.newarray .int, 2) := by decide +kernel
theorem dX1_init_25 : decode cX1_init 25 = .ok (.putfield 18, 3) := by decide +kernel
theorem dX1_init_28 : decode cX1_init 28 = .ok (.aload_n 0, 1) := by decide +kernel
theorem dX1_init_29 : decode cX1_init 29 = .ok (.bipush 41, 2) := by decide +kernel
theorem dX1_init_31 : decode cX1_init 31 = .ok (.newarray .int, 2) := by decide +kernel
theorem dX1_init_33 : decode cX1_init 33 = .ok (.putfield 21, 3) := by decide +kernel
theorem dX1_init_36 : decode cX1_init 36 = .ok (.aload_n 0, 1) := by decide +kernel
theorem dX1_init_37 : decode cX1_init 37 = .ok (.bipush 41, 2) := by decide +kernel
theorem dX1_init_39 : decode cX1_init 39 = .ok (.newarray .int, 2) := by decide +kernel
theorem dX1_init_41 : decode cX1_init 41 = .ok (.putfield 24, 3) := by decide +kernel
theorem dX1_init_44 : decode cX1_init 44 = .ok (.return_, 1) := by decide +kernel
theorem dX1_divide_0 : decode cX1_divide 0 = .ok (.iload 4, 2) := by decide +kernel
theorem dX1_divide_2 : decode cX1_divide 2 = .ok (.aload_n 3, 1) := by decide +kernel
theorem dX1_divide_3 : decode cX1_divide 3 = .ok (.arraylength, 1) := by decide +kernel
theorem dX1_divide_4 : decode cX1_divide 4 = .ok (.invokestatic 27, 3) := by decide +kernel
theorem dX1_divide_7 : decode cX1_divide 7 = .ok (.bipush 40, 2) := by decide +kernel
theorem dX1_divide_9 : decode cX1_divide 9 = .ok (.invokestatic 27, 3) := by decide +kernel
theorem dX1_divide_12 : decode cX1_divide 12 = .ok (.istore 5, 2) := by decide +kernel
theorem dX1_divide_14 : decode cX1_divide 14 = .ok (.aload_n 0, 1) := by decide +kernel
theorem dX1_divide_15 : decode cX1_divide 15 = .ok (.getfield 9, 3) := by decide +kernel
theorem dX1_divide_18 : decode cX1_divide 18 = .ok (.iload 5, 2) := by decide +kernel
theorem dX1_divide_20 : decode cX1_divide 20 = .ok (.iconst 0, 1) := by decide +kernel
theorem dX1_divide_21 : decode cX1_divide 21 = .ok (.iastore, 1) := by decide +kernel
theorem dX1_divide_22 : decode cX1_divide 22 = .ok (.aload_n 0, 1) := by decide +kernel
theorem dX1_divide_23 : decode cX1_divide 23 = .ok (.getfield 15, 3) := by decide +kernel
theorem dX1_divide_26 : decode cX1_divide 26 = .ok (.iload 5, 2) := by decide +kernel
theorem dX1_divide_28 : decode cX1_divide 28 = .ok (.iconst 0, 1) := by decide +kernel
theorem dX1_divide_29 : decode cX1_divide 29 = .ok (.iastore, 1) := by decide +kernel
theorem dX1_divide_30 : decode cX1_divide 30 = .ok (.iload 5, 2) := by decide +kernel
theorem dX1_divide_32 : decode cX1_divide 32 = .ok (.iconst 1, 1) := by decide +kernel
theorem dX1_divide_33 : decode cX1_divide 33 = .ok (.isub, 1) := by decide +kernel
theorem dX1_divide_34 : decode cX1_divide 34 = .ok (.istore 6, 2) := by decide +kernel
theorem dX1_divide_36 : decode cX1_divide 36 = .ok (.iload 6, 2) := by decide +kernel
theorem dX1_divide_38 : decode cX1_divide 38 = .ok (.ifCond .lt 54, 3) := by decide +kernel
theorem dX1_divide_41 : decode cX1_divide 41 = .ok (.aload_n 0, 1) := by decide +kernel
theorem dX1_divide_42 : decode cX1_divide 42 = .ok (.getfield 15, 3) := by decide +kernel
theorem dX1_divide_45 : decode cX1_divide 45 = .ok (.iload 6, 2) := by decide +kernel
theorem dX1_divide_47 : decode cX1_divide 47 = .ok (.iconst (-1), 1) := by decide +kernel
theorem dX1_divide_48 : decode cX1_divide 48 = .ok (.iastore, 1) := by decide +kernel
theorem dX1_divide_49 : decode cX1_divide 49 = .ok (.iconst 0, 1) := by decide +kernel
theorem dX1_divide_50 : decode cX1_divide 50 = .ok (.istore 7, 2) := by decide +kernel
theorem dX1_divide_52 : decode cX1_divide 52 = .ok (.iload 7, 2) := by decide +kernel
theorem dX1_divide_54 : decode cX1_divide 54 = .ok (.iload_n 2, 1) := by decide +kernel
theorem dX1_divide_55 : decode cX1_divide 55 = .ok (.if_icmp .ge 31, 3) := by decide +kernel
theorem dX1_divide_58 : decode cX1_divide 58 = .ok (.iload 7, 2) := by decide +kernel
theorem dX1_divide_60 : decode cX1_divide 60 = .ok (.aload_n 1, 1) := by decide +kernel
theorem dX1_divide_61 : decode cX1_divide 61 = .ok (.arraylength, 1) := by decide +kernel
theorem dX1_divide_62 : decode cX1_divide 62 = .ok (.if_icmp .ge 24, 3) := by decide +kernel
theorem dX1_divide_65 : decode cX1_divide 65 = .ok (.aload_n 0, 1) := by decide +kernel
theorem dX1_divide_66 : decode cX1_divide 66 = .ok (.aload_n 1, 1) := by decide +kernel
theorem dX1_divide_67 : decode cX1_divide 67 = .ok (.iload 7, 2) := by decide +kernel
theorem dX1_divide_69 : decode cX1_divide 69 = .ok (.aaload, 1) := by decide +kernel
theorem dX1_divide_70 : decode cX1_divide 70 = .ok (.iload 7, 2) := by decide +kernel
theorem dX1_divide_72 : decode cX1_divide 72 = .ok (.aload_n 3, 1) := by decide +kernel
theorem dX1_divide_73 : decode cX1_divide 73 = .ok (.iload 6, 2) := by decide +kernel
theorem dX1_divide_75 : decode cX1_divide 75 = .ok (.iload 5, 2) := by decide +kernel
theorem dX1_divide_77 : decode cX1_divide 77 = .ok (.invokevirtual 33, 3) := by decide +kernel
theorem dX1_divide_80 : decode cX1_divide 80 = .ok (.iinc 7 1, 3) := by decide +kernel
theorem dX1_divide_83 : decode cX1_divide 83 = .ok (.goto (-31), 3) := by decide +kernel
theorem dX1_divide_86 : decode cX1_divide 86 = .ok (.iinc 6 (-1), 3) := by decide +kernel
theorem dX1_divide_89 : decode cX1_divide 89 = .ok (.goto (-53), 3) := by decide +kernel
theorem dX1_divide_92 : decode cX1_divide 92 = .ok (.aload_n 0, 1) := by decide +kernel
theorem dX1_divide_93 : decode cX1_divide 93 = .ok (.getfield 15, 3) := by decide +kernel
theorem dX1_divide_96 : decode cX1_divide 96 = .ok (.iconst 0, 1) := by decide +kernel
theorem dX1_divide_97 : decode cX1_divide 97 = .ok (.iaload, 1) := by decide +kernel
theorem dX1_divide_98 : decode cX1_divide 98 = .ok (.iconst (-1), 1) := by decide +kernel
theorem dX1_divide_99 : decode cX1_divide 99 = .ok (.if_icmp .eq 7, 3) := by decide +kernel
theorem dX1_divide_102 : decode cX1_divide 102 = .ok (.iconst 1, 1) := by decide +kernel
theorem dX1_divide_103 : decode cX1_divide 103 = .ok (.goto 4, 3) := by decide +kernel
theorem dX1_divide_106 : decode cX1_divide 106 = .ok (.iconst 0, 1) := by decide +kernel
theorem dX1_divide_107 : decode cX1_divide 107 = .ok (.ireturn, 1) := by decide +kernel
theorem dX1_tryPieces_0 : decode cX1_tryPieces 0 = .ok (.iconst 0, 1) := by decide +kernel
theorem dX1_tryPieces_1 : decode cX1_tryPieces 1 = .ok (.istore 6, 2) := by decide +kernel
theorem dX1_tryPieces_3 : decode cX1_tryPieces 3 = .ok (.iconst 0, 1) := by decide +kernel
theorem dX1_tryPieces_4 : decode cX1_tryPieces 4 = .ok (.istore 7, 2) := by decide +kernel
theorem dX1_tryPieces_6 : decode cX1_tryPieces 6 = .ok (.iload 4, 2) := by decide +kernel
theorem dX1_tryPieces_8 : decode cX1_tryPieces 8 = .ok (.istore 8, 2) := by decide +kernel
theorem dX1_tryPieces_10 : decode cX1_tryPieces 10 = .ok (.iload 8, 2) := by decide +kernel
theorem dX1_tryPieces_12 : decode cX1_tryPieces 12 = .ok (.iload 5, 2) := by decide +kernel
theorem dX1_tryPieces_14 : decode cX1_tryPieces 14 = .ok (.if_icmp .ge 71, 3) := by decide +kernel
theorem dX1_tryPieces_17 : decode cX1_tryPieces 17 = .ok (.iload 6, 2) := by decide +kernel
theorem dX1_tryPieces_19 : decode cX1_tryPieces 19 = .ok (.iconst (-1), 1) := by decide +kernel
theorem dX1_tryPieces_20 : decode cX1_tryPieces 20 = .ok (.if_icmp .eq 65, 3) := by decide +kernel
theorem dX1_tryPieces_23 : decode cX1_tryPieces 23 = .ok (.iload 7, 2) := by decide +kernel
theorem dX1_tryPieces_25 : decode cX1_tryPieces 25 = .ok (.aload_n 1, 1) := by decide +kernel
theorem dX1_tryPieces_26 : decode cX1_tryPieces 26 = .ok (.iload 6, 2) := by decide +kernel
theorem dX1_tryPieces_28 : decode cX1_tryPieces 28 = .ok (.aload_n 3, 1) := by decide +kernel
theorem dX1_tryPieces_29 : decode cX1_tryPieces 29 = .ok (.iload 8, 2) := by decide +kernel
theorem dX1_tryPieces_31 : decode cX1_tryPieces 31 = .ok (.iaload, 1) := by decide +kernel
theorem dX1_tryPieces_32 : decode cX1_tryPieces 32 = .ok (.invokevirtual 37, 3) := by decide +kernel
theorem dX1_tryPieces_35 : decode cX1_tryPieces 35 = .ok (.iadd, 1) := by decide +kernel
theorem dX1_tryPieces_36 : decode cX1_tryPieces 36 = .ok (.istore 7, 2) := by decide +kernel
theorem dX1_tryPieces_38 : decode cX1_tryPieces 38 = .ok (.aload_n 1, 1) := by decide +kernel
theorem dX1_tryPieces_39 : decode cX1_tryPieces 39 = .ok (.iload 6, 2) := by decide +kernel
theorem dX1_tryPieces_41 : decode cX1_tryPieces 41 = .ok (.aload_n 3, 1) := by decide +kernel
theorem dX1_tryPieces_42 : decode cX1_tryPieces 42 = .ok (.iload 8, 2) := by decide +kernel
theorem dX1_tryPieces_44 : decode cX1_tryPieces 44 = .ok (.iaload, 1) := by decide +kernel
theorem dX1_tryPieces_45 : decode cX1_tryPieces 45 = .ok (.invokevirtual 42, 3) := by decide +kernel
theorem dX1_tryPieces_48 : decode cX1_tryPieces 48 = .ok (.istore 6, 2) := by decide +kernel
theorem dX1_tryPieces_50 : decode cX1_tryPieces 50 = .ok (.iload 6, 2) := by decide +kernel
theorem dX1_tryPieces_52 : decode cX1_tryPieces 52 = .ok (.iconst (-1), 1) := by decide +kernel
theorem dX1_tryPieces_53 : decode cX1_tryPieces 53 = .ok (.if_icmp .eq 26, 3) := by decide +kernel
theorem dX1_tryPieces_56 : decode cX1_tryPieces 56 = .ok (.iload 6, 2) := by decide +kernel
theorem dX1_tryPieces_58 : decode cX1_tryPieces 58 = .ok (.invokestatic 45, 3) := by decide +kernel
theorem dX1_tryPieces_61 : decode cX1_tryPieces 61 = .ok (.ifCond .ne 18, 3) := by decide +kernel
theorem dX1_tryPieces_64 : decode cX1_tryPieces 64 = .ok (.aload_n 0, 1) := by decide +kernel
theorem dX1_tryPieces_65 : decode cX1_tryPieces 65 = .ok (.iload 4, 2) := by decide +kernel
theorem dX1_tryPieces_67 : decode cX1_tryPieces 67 = .ok (.iload 8, 2) := by decide +kernel
theorem dX1_tryPieces_69 : decode cX1_tryPieces 69 = .ok (.iconst 1, 1) := by decide +kernel
theorem dX1_tryPieces_70 : decode cX1_tryPieces 70 = .ok (.iadd, 1) := by decide +kernel
theorem dX1_tryPieces_71 : decode cX1_tryPieces 71 = .ok (.iload_n 2, 1) := by decide +kernel
theorem dX1_tryPieces_72 : decode cX1_tryPieces 72 = .ok (.iload 7, 2) := by decide +kernel
theorem dX1_tryPieces_74 : decode cX1_tryPieces 74 = .ok (.iload 5, 2) := by decide +kernel
theorem dX1_tryPieces_76 : decode cX1_tryPieces 76 = .ok (.invokevirtual 49, 3) := by decide +kernel
theorem dX1_tryPieces_79 : decode cX1_tryPieces 79 = .ok (.iinc 8 1, 3) := by decide +kernel
theorem dX1_tryPieces_82 : decode cX1_tryPieces 82 = .ok (.goto (-72), 3) := by decide +kernel
theorem dX1_tryPieces_85 : decode cX1_tryPieces 85 = .ok (.return_, 1) := by decide +kernel
theorem dX1_tryPiece_0 : decode cX1_tryPiece 0 = .ok (.aload_n 0, 1) := by decide +kernel
theorem dX1_tryPiece_1 : decode cX1_tryPiece 1 = .ok (.getfield 15, 3) := by decide +kernel
theorem dX1_tryPiece_4 : decode cX1_tryPiece 4 = .ok (.iload_n 2, 1) := by decide +kernel
theorem dX1_tryPiece_5 : decode cX1_tryPiece 5 = .ok (.iaload, 1) := by decide +kernel
theorem dX1_tryPiece_6 : decode cX1_tryPiece 6 = .ok (.iconst (-1), 1) := by decide +kernel
theorem dX1_tryPiece_7 : decode cX1_tryPiece 7 = .ok (.if_icmp .ne 4, 3) := by decide +kernel
theorem dX1_tryPiece_10 : decode cX1_tryPiece 10 = .ok (.return_, 1) := by decide +kernel
theorem dX1_tryPiece_11 : decode cX1_tryPiece 11 = .ok (.iload 4, 2) := by decide +kernel
theorem dX1_tryPiece_13 : decode cX1_tryPiece 13 = .ok (.iload_n 2, 1) := by decide +kernel
theorem dX1_tryPiece_14 : decode cX1_tryPiece 14 = .ok (.iload 5, 2) := by decide +kernel
theorem dX1_tryPiece_16 : decode cX1_tryPiece 16 = .ok (.if_icmp .ge 15, 3) := by decide +kernel
theorem dX1_tryPiece_19 : decode cX1_tryPiece 19 = .ok (.aload_n 0, 1) := by decide +kernel
theorem dX1_tryPiece_20 : decode cX1_tryPiece 20 = .ok (.getfield 9, 3) := by decide +kernel
theorem dX1_tryPiece_23 : decode cX1_tryPiece 23 = .ok (.iload_n 2, 1) := by decide +kernel
theorem dX1_tryPiece_24 : decode cX1_tryPiece 24 = .ok (.iaload, 1) := by decide +kernel
theorem dX1_tryPiece_25 : decode cX1_tryPiece 25 = .ok (.bipush 7, 2) := by decide +kernel
theorem dX1_tryPiece_27 : decode cX1_tryPiece 27 = .ok (.isub, 1) := by decide +kernel
theorem dX1_tryPiece_28 : decode cX1_tryPiece 28 = .ok (.goto 4, 3) := by decide +kernel
theorem dX1_tryPiece_31 : decode cX1_tryPiece 31 = .ok (.iconst 0, 1) := by decide +kernel
theorem dX1_tryPiece_32 : decode cX1_tryPiece 32 = .ok (.iadd, 1) := by decide +kernel
theorem dX1_tryPiece_33 : decode cX1_tryPiece 33 = .ok (.istore 6, 2) := by decide +kernel
theorem dX1_tryPiece_35 : decode cX1_tryPiece 35 = .ok (.aload_n 0, 1) := by decide +kernel
theorem dX1_tryPiece_36 : decode cX1_tryPiece 36 = .ok (.getfield 15, 3) := by decide +kernel
theorem dX1_tryPiece_39 : decode cX1_tryPiece 39 = .ok (.iload_n 2, 1) := by decide +kernel
theorem dX1_tryPiece_40 : decode cX1_tryPiece 40 = .ok (.iaload, 1) := by decide +kernel
theorem dX1_tryPiece_41 : decode cX1_tryPiece 41 = .ok (.iconst 1, 1) := by decide +kernel
theorem dX1_tryPiece_42 : decode cX1_tryPiece 42 = .ok (.iadd, 1) := by decide +kernel
theorem dX1_tryPiece_43 : decode cX1_tryPiece 43 = .ok (.istore 7, 2) := by decide +kernel
theorem dX1_tryPiece_45 : decode cX1_tryPiece 45 = .ok (.aload_n 0, 1) := by decide +kernel
theorem dX1_tryPiece_46 : decode cX1_tryPiece 46 = .ok (.iload_n 1, 1) := by decide +kernel
theorem dX1_tryPiece_47 : decode cX1_tryPiece 47 = .ok (.iload 6, 2) := by decide +kernel
theorem dX1_tryPiece_49 : decode cX1_tryPiece 49 = .ok (.iload 7, 2) := by decide +kernel
theorem dX1_tryPiece_51 : decode cX1_tryPiece 51 = .ok (.iload_n 2, 1) := by decide +kernel
theorem dX1_tryPiece_52 : decode cX1_tryPiece 52 = .ok (.iload_n 3, 1) := by decide +kernel
theorem dX1_tryPiece_53 : decode cX1_tryPiece 53 = .ok (.invokevirtual 53, 3) := by decide +kernel
theorem dX1_tryPiece_56 : decode cX1_tryPiece 56 = .ok (.ifCond .eq 41, 3) := by decide +kernel
theorem dX1_tryPiece_59 : decode cX1_tryPiece 59 = .ok (.aload_n 0, 1) := by decide +kernel
theorem dX1_tryPiece_60 : decode cX1_tryPiece 60 = .ok (.getfield 9, 3) := by decide +kernel
theorem dX1_tryPiece_63 : decode cX1_tryPiece 63 = .ok (.iload_n 1, 1) := by decide +kernel
theorem dX1_tryPiece_64 : decode cX1_tryPiece 64 = .ok (.iload 6, 2) := by decide +kernel
theorem dX1_tryPiece_66 : decode cX1_tryPiece 66 = .ok (.iastore, 1) := by decide +kernel
theorem dX1_tryPiece_67 : decode cX1_tryPiece 67 = .ok (.aload_n 0, 1) := by decide +kernel
theorem dX1_tryPiece_68 : decode cX1_tryPiece 68 = .ok (.getfield 15, 3) := by decide +kernel
theorem dX1_tryPiece_71 : decode cX1_tryPiece 71 = .ok (.iload_n 1, 1) := by decide +kernel
theorem dX1_tryPiece_72 : decode cX1_tryPiece 72 = .ok (.iload 7, 2) := by decide +kernel
theorem dX1_tryPiece_74 : decode cX1_tryPiece 74 = .ok (.iastore, 1) := by decide +kernel
theorem dX1_tryPiece_75 : decode cX1_tryPiece 75 = .ok (.aload_n 0, 1) := by decide +kernel
theorem dX1_tryPiece_76 : decode cX1_tryPiece 76 = .ok (.getfield 18, 3) := by decide +kernel
theorem dX1_tryPiece_79 : decode cX1_tryPiece 79 = .ok (.iload_n 1, 1) := by decide +kernel
theorem dX1_tryPiece_80 : decode cX1_tryPiece 80 = .ok (.iload_n 2, 1) := by decide +kernel
theorem dX1_tryPiece_81 : decode cX1_tryPiece 81 = .ok (.iastore, 1) := by decide +kernel
theorem dX1_tryPiece_82 : decode cX1_tryPiece 82 = .ok (.aload_n 0, 1) := by decide +kernel
theorem dX1_tryPiece_83 : decode cX1_tryPiece 83 = .ok (.getfield 21, 3) := by decide +kernel
theorem dX1_tryPiece_86 : decode cX1_tryPiece 86 = .ok (.iload_n 1, 1) := by decide +kernel
theorem dX1_tryPiece_87 : decode cX1_tryPiece 87 = .ok (.iload_n 3, 1) := by decide +kernel
theorem dX1_tryPiece_88 : decode cX1_tryPiece 88 = .ok (.iastore, 1) := by decide +kernel
theorem dX1_tryPiece_89 : decode cX1_tryPiece 89 = .ok (.aload_n 0, 1) := by decide +kernel
theorem dX1_tryPiece_90 : decode cX1_tryPiece 90 = .ok (.getfield 24, 3) := by decide +kernel
theorem dX1_tryPiece_93 : decode cX1_tryPiece 93 = .ok (.iload_n 1, 1) := by decide +kernel
theorem dX1_tryPiece_94 : decode cX1_tryPiece 94 = .ok (.iload 4, 2) := by decide +kernel
theorem dX1_tryPiece_96 : decode cX1_tryPiece 96 = .ok (.iastore, 1) := by decide +kernel
theorem dX1_tryPiece_97 : decode cX1_tryPiece 97 = .ok (.return_, 1) := by decide +kernel
theorem dX1_isBetter_0 : decode cX1_isBetter 0 = .ok (.aload_n 0, 1) := by decide +kernel
theorem dX1_isBetter_1 : decode cX1_isBetter 1 = .ok (.getfield 15, 3) := by decide +kernel
theorem dX1_isBetter_4 : decode cX1_isBetter 4 = .ok (.iload_n 1, 1) := by decide +kernel
theorem dX1_isBetter_5 : decode cX1_isBetter 5 = .ok (.iaload, 1) := by decide +kernel
theorem dX1_isBetter_6 : decode cX1_isBetter 6 = .ok (.iconst (-1), 1) := by decide +kernel
theorem dX1_isBetter_7 : decode cX1_isBetter 7 = .ok (.if_icmp .ne 5, 3) := by decide +kernel
theorem dX1_isBetter_10 : decode cX1_isBetter 10 = .ok (.iconst 1, 1) := by decide +kernel
theorem dX1_isBetter_11 : decode cX1_isBetter 11 = .ok (.ireturn, 1) := by decide +kernel
theorem dX1_isBetter_12 : decode cX1_isBetter 12 = .ok (.iload_n 2, 1) := by decide +kernel
theorem dX1_isBetter_13 : decode cX1_isBetter 13 = .ok (.aload_n 0, 1) := by decide +kernel
theorem dX1_isBetter_14 : decode cX1_isBetter 14 = .ok (.getfield 9, 3) := by decide +kernel
theorem dX1_isBetter_17 : decode cX1_isBetter 17 = .ok (.iload_n 1, 1) := by decide +kernel
theorem dX1_isBetter_18 : decode cX1_isBetter 18 = .ok (.iaload, 1) := by decide +kernel
theorem dX1_isBetter_19 : decode cX1_isBetter 19 = .ok (.if_icmp .eq 19, 3) := by decide +kernel
theorem dX1_isBetter_22 : decode cX1_isBetter 22 = .ok (.iload_n 2, 1) := by decide +kernel
theorem dX1_isBetter_23 : decode cX1_isBetter 23 = .ok (.aload_n 0, 1) := by decide +kernel
theorem dX1_isBetter_24 : decode cX1_isBetter 24 = .ok (.getfield 9, 3) := by decide +kernel
theorem dX1_isBetter_27 : decode cX1_isBetter 27 = .ok (.iload_n 1, 1) := by decide +kernel
theorem dX1_isBetter_28 : decode cX1_isBetter 28 = .ok (.iaload, 1) := by decide +kernel
theorem dX1_isBetter_29 : decode cX1_isBetter 29 = .ok (.if_icmp .le 7, 3) := by decide +kernel
theorem dX1_isBetter_32 : decode cX1_isBetter 32 = .ok (.iconst 1, 1) := by decide +kernel
theorem dX1_isBetter_33 : decode cX1_isBetter 33 = .ok (.goto 4, 3) := by decide +kernel
theorem dX1_isBetter_36 : decode cX1_isBetter 36 = .ok (.iconst 0, 1) := by decide +kernel
theorem dX1_isBetter_37 : decode cX1_isBetter 37 = .ok (.ireturn, 1) := by decide +kernel
theorem dX1_isBetter_38 : decode cX1_isBetter 38 = .ok (.iload_n 3, 1) := by decide +kernel
theorem dX1_isBetter_39 : decode cX1_isBetter 39 = .ok (.aload_n 0, 1) := by decide +kernel
theorem dX1_isBetter_40 : decode cX1_isBetter 40 = .ok (.getfield 15, 3) := by decide +kernel
theorem dX1_isBetter_43 : decode cX1_isBetter 43 = .ok (.iload_n 1, 1) := by decide +kernel
theorem dX1_isBetter_44 : decode cX1_isBetter 44 = .ok (.iaload, 1) := by decide +kernel
theorem dX1_isBetter_45 : decode cX1_isBetter 45 = .ok (.if_icmp .eq 19, 3) := by decide +kernel
theorem dX1_isBetter_48 : decode cX1_isBetter 48 = .ok (.iload_n 3, 1) := by decide +kernel
theorem dX1_isBetter_49 : decode cX1_isBetter 49 = .ok (.aload_n 0, 1) := by decide +kernel
theorem dX1_isBetter_50 : decode cX1_isBetter 50 = .ok (.getfield 15, 3) := by decide +kernel
theorem dX1_isBetter_53 : decode cX1_isBetter 53 = .ok (.iload_n 1, 1) := by decide +kernel
theorem dX1_isBetter_54 : decode cX1_isBetter 54 = .ok (.iaload, 1) := by decide +kernel
theorem dX1_isBetter_55 : decode cX1_isBetter 55 = .ok (.if_icmp .ge 7, 3) := by decide +kernel
theorem dX1_isBetter_58 : decode cX1_isBetter 58 = .ok (.iconst 1, 1) := by decide +kernel
theorem dX1_isBetter_59 : decode cX1_isBetter 59 = .ok (.goto 4, 3) := by decide +kernel
theorem dX1_isBetter_62 : decode cX1_isBetter 62 = .ok (.iconst 0, 1) := by decide +kernel
theorem dX1_isBetter_63 : decode cX1_isBetter 63 = .ok (.ireturn, 1) := by decide +kernel
theorem dX1_isBetter_64 : decode cX1_isBetter 64 = .ok (.iload 4, 2) := by decide +kernel
theorem dX1_isBetter_66 : decode cX1_isBetter 66 = .ok (.aload_n 0, 1) := by decide +kernel
theorem dX1_isBetter_67 : decode cX1_isBetter 67 = .ok (.getfield 18, 3) := by decide +kernel
theorem dX1_isBetter_70 : decode cX1_isBetter 70 = .ok (.iload_n 1, 1) := by decide +kernel
theorem dX1_isBetter_71 : decode cX1_isBetter 71 = .ok (.iaload, 1) := by decide +kernel
theorem dX1_isBetter_72 : decode cX1_isBetter 72 = .ok (.if_icmp .eq 22, 3) := by decide +kernel
theorem dX1_isBetter_75 : decode cX1_isBetter 75 = .ok (.iload 4, 2) := by decide +kernel
theorem dX1_isBetter_77 : decode cX1_isBetter 77 = .ok (.aload_n 0, 1) := by decide +kernel
theorem dX1_isBetter_78 : decode cX1_isBetter 78 = .ok (.getfield 18, 3) := by decide +kernel
theorem dX1_isBetter_81 : decode cX1_isBetter 81 = .ok (.iload_n 1, 1) := by decide +kernel
theorem dX1_isBetter_82 : decode cX1_isBetter 82 = .ok (.iaload, 1) := by decide +kernel
theorem dX1_isBetter_83 : decode cX1_isBetter 83 = .ok (.if_icmp .ge 7, 3) := by decide +kernel
theorem dX1_isBetter_86 : decode cX1_isBetter 86 = .ok (.iconst 1, 1) := by decide +kernel
theorem dX1_isBetter_87 : decode cX1_isBetter 87 = .ok (.goto 23, 3) := by decide +kernel
theorem dX1_isBetter_90 : decode cX1_isBetter 90 = .ok (.iconst 0, 1) := by decide +kernel
theorem dX1_isBetter_91 : decode cX1_isBetter 91 = .ok (.goto 19, 3) := by decide +kernel
theorem dX1_isBetter_94 : decode cX1_isBetter 94 = .ok (.iload 5, 2) := by decide +kernel
theorem dX1_isBetter_96 : decode cX1_isBetter 96 = .ok (.aload_n 0, 1) := by decide +kernel
theorem dX1_isBetter_97 : decode cX1_isBetter 97 = .ok (.getfield 21, 3) := by decide +kernel
theorem dX1_isBetter_100 : decode cX1_isBetter 100 = .ok (.iload_n 1, 1) := by decide +kernel
theorem dX1_isBetter_101 : decode cX1_isBetter 101 = .ok (.iaload, 1) := by decide +kernel
theorem dX1_isBetter_102 : decode cX1_isBetter 102 = .ok (.if_icmp .ge 7, 3) := by decide +kernel
theorem dX1_isBetter_105 : decode cX1_isBetter 105 = .ok (.iconst 1, 1) := by decide +kernel
theorem dX1_isBetter_106 : decode cX1_isBetter 106 = .ok (.goto 4, 3) := by decide +kernel
theorem dX1_isBetter_109 : decode cX1_isBetter 109 = .ok (.iconst 0, 1) := by decide +kernel
theorem dX1_isBetter_110 : decode cX1_isBetter 110 = .ok (.ireturn, 1) := by decide +kernel
theorem dX1_worth_0 : decode cX1_worth 0 = .ok (.aload_n 0, 1) := by decide +kernel
theorem dX1_worth_1 : decode cX1_worth 1 = .ok (.getfield 9, 3) := by decide +kernel
theorem dX1_worth_4 : decode cX1_worth 4 = .ok (.iconst 0, 1) := by decide +kernel
theorem dX1_worth_5 : decode cX1_worth 5 = .ok (.iaload, 1) := by decide +kernel
theorem dX1_worth_6 : decode cX1_worth 6 = .ok (.ireturn, 1) := by decide +kernel
theorem dX1_pieceCount_0 : decode cX1_pieceCount 0 = .ok (.aload_n 0, 1) := by decide +kernel
theorem dX1_pieceCount_1 : decode cX1_pieceCount 1 = .ok (.getfield 15, 3) := by decide +kernel
theorem dX1_pieceCount_4 : decode cX1_pieceCount 4 = .ok (.iconst 0, 1) := by decide +kernel
theorem dX1_pieceCount_5 : decode cX1_pieceCount 5 = .ok (.iaload, 1) := by decide +kernel
theorem dX1_pieceCount_6 : decode cX1_pieceCount 6 = .ok (.ireturn, 1) := by decide +kernel
theorem dX1_propertyOf_0 : decode cX1_propertyOf 0 = .ok (.iconst 0, 1) := by decide +kernel
theorem dX1_propertyOf_1 : decode cX1_propertyOf 1 = .ok (.istore_n 3, 1) := by decide +kernel
theorem dX1_propertyOf_2 : decode cX1_propertyOf 2 = .ok (.iconst 0, 1) := by decide +kernel
theorem dX1_propertyOf_3 : decode cX1_propertyOf 3 = .ok (.istore 4, 2) := by decide +kernel
theorem dX1_propertyOf_5 : decode cX1_propertyOf 5 = .ok (.iload 4, 2) := by decide +kernel
theorem dX1_propertyOf_7 : decode cX1_propertyOf 7 = .ok (.iload_n 1, 1) := by decide +kernel
theorem dX1_propertyOf_8 : decode cX1_propertyOf 8 = .ok (.if_icmp .ge 22, 3) := by decide +kernel
theorem dX1_propertyOf_11 : decode cX1_propertyOf 11 = .ok (.iload_n 3, 1) := by decide +kernel
theorem dX1_propertyOf_12 : decode cX1_propertyOf 12 = .ok (.bipush 40, 2) := by decide +kernel
theorem dX1_propertyOf_14 : decode cX1_propertyOf 14 = .ok (.if_icmp .ge 16, 3) := by decide +kernel
theorem dX1_propertyOf_17 : decode cX1_propertyOf 17 = .ok (.aload_n 0, 1) := by decide +kernel
theorem dX1_propertyOf_18 : decode cX1_propertyOf 18 = .ok (.getfield 18, 3) := by decide +kernel
theorem dX1_propertyOf_21 : decode cX1_propertyOf 21 = .ok (.iload_n 3, 1) := by decide +kernel
theorem dX1_propertyOf_22 : decode cX1_propertyOf 22 = .ok (.iaload, 1) := by decide +kernel
theorem dX1_propertyOf_23 : decode cX1_propertyOf 23 = .ok (.istore_n 3, 1) := by decide +kernel
theorem dX1_propertyOf_24 : decode cX1_propertyOf 24 = .ok (.iinc 4 1, 3) := by decide +kernel
theorem dX1_propertyOf_27 : decode cX1_propertyOf 27 = .ok (.goto (-22), 3) := by decide +kernel
theorem dX1_propertyOf_30 : decode cX1_propertyOf 30 = .ok (.iload_n 2, 1) := by decide +kernel
theorem dX1_propertyOf_31 : decode cX1_propertyOf 31 = .ok (.lookupswitch 39 #[(0, 25), (1, 32)], 25) := by decide +kernel
theorem dX1_propertyOf_56 : decode cX1_propertyOf 56 = .ok (.aload_n 0, 1) := by decide +kernel
theorem dX1_propertyOf_57 : decode cX1_propertyOf 57 = .ok (.getfield 18, 3) := by decide +kernel
theorem dX1_propertyOf_60 : decode cX1_propertyOf 60 = .ok (.iload_n 3, 1) := by decide +kernel
theorem dX1_propertyOf_61 : decode cX1_propertyOf 61 = .ok (.iaload, 1) := by decide +kernel
theorem dX1_propertyOf_62 : decode cX1_propertyOf 62 = .ok (.ireturn, 1) := by decide +kernel
theorem dX1_propertyOf_63 : decode cX1_propertyOf 63 = .ok (.aload_n 0, 1) := by decide +kernel
theorem dX1_propertyOf_64 : decode cX1_propertyOf 64 = .ok (.getfield 21, 3) := by decide +kernel
theorem dX1_propertyOf_67 : decode cX1_propertyOf 67 = .ok (.iload_n 3, 1) := by decide +kernel
theorem dX1_propertyOf_68 : decode cX1_propertyOf 68 = .ok (.iaload, 1) := by decide +kernel
theorem dX1_propertyOf_69 : decode cX1_propertyOf 69 = .ok (.ireturn, 1) := by decide +kernel
theorem dX1_propertyOf_70 : decode cX1_propertyOf 70 = .ok (.aload_n 0, 1) := by decide +kernel
theorem dX1_propertyOf_71 : decode cX1_propertyOf 71 = .ok (.getfield 24, 3) := by decide +kernel
theorem dX1_propertyOf_74 : decode cX1_propertyOf 74 = .ok (.iload_n 3, 1) := by decide +kernel
theorem dX1_propertyOf_75 : decode cX1_propertyOf 75 = .ok (.iaload, 1) := by decide +kernel
theorem dX1_propertyOf_76 : decode cX1_propertyOf 76 = .ok (.ireturn, 1) := by decide +kernel
theorem dX2_kindOf_0 : decode cX2_kindOf 0 = .ok (.iload_n 0, 1) := by decide +kernel
theorem dX2_kindOf_1 : decode cX2_kindOf 1 = .ok (.lookupswitch 51 #[(99, 47), (102, 43), (112, 45), (116, 49)], 43) := by decide +kernel
theorem dX2_kindOf_44 : decode cX2_kindOf 44 = .ok (.iconst 0, 1) := by decide +kernel
theorem dX2_kindOf_45 : decode cX2_kindOf 45 = .ok (.ireturn, 1) := by decide +kernel
theorem dX2_kindOf_46 : decode cX2_kindOf 46 = .ok (.iconst 1, 1) := by decide +kernel
theorem dX2_kindOf_47 : decode cX2_kindOf 47 = .ok (.ireturn, 1) := by decide +kernel
theorem dX2_kindOf_48 : decode cX2_kindOf 48 = .ok (.iconst 2, 1) := by decide +kernel
theorem dX2_kindOf_49 : decode cX2_kindOf 49 = .ok (.ireturn, 1) := by decide +kernel
theorem dX2_kindOf_50 : decode cX2_kindOf 50 = .ok (.iconst 3, 1) := by decide +kernel
theorem dX2_kindOf_51 : decode cX2_kindOf 51 = .ok (.ireturn, 1) := by decide +kernel
theorem dX2_kindOf_52 : decode cX2_kindOf 52 = .ok (.iconst (-1), 1) := by decide +kernel
theorem dX2_kindOf_53 : decode cX2_kindOf 53 = .ok (.ireturn, 1) := by decide +kernel
theorem dX2_marksBegin_0 : decode cX2_marksBegin 0 = .ok (.iload_n 0, 1) := by decide +kernel
theorem dX2_marksBegin_1 : decode cX2_marksBegin 1 = .ok (.iconst 1, 1) := by decide +kernel
theorem dX2_marksBegin_2 : decode cX2_marksBegin 2 = .ok (.if_icmp .eq 8, 3) := by decide +kernel
theorem dX2_marksBegin_5 : decode cX2_marksBegin 5 = .ok (.iload_n 0, 1) := by decide +kernel
theorem dX2_marksBegin_6 : decode cX2_marksBegin 6 = .ok (.iconst 3, 1) := by decide +kernel
theorem dX2_marksBegin_7 : decode cX2_marksBegin 7 = .ok (.if_icmp .ne 7, 3) := by decide +kernel
theorem dX2_marksBegin_10 : decode cX2_marksBegin 10 = .ok (.iconst 2, 1) := by decide +kernel
theorem dX2_marksBegin_11 : decode cX2_marksBegin 11 = .ok (.goto 4, 3) := by decide +kernel
theorem dX2_marksBegin_14 : decode cX2_marksBegin 14 = .ok (.iconst 1, 1) := by decide +kernel
theorem dX2_marksBegin_15 : decode cX2_marksBegin 15 = .ok (.ireturn, 1) := by decide +kernel
theorem dX2_pointsBegin_0 : decode cX2_pointsBegin 0 = .ok (.iload_n 0, 1) := by decide +kernel
theorem dX2_pointsBegin_1 : decode cX2_pointsBegin 1 = .ok (.invokestatic 9, 3) := by decide +kernel
theorem dX2_pointsBegin_4 : decode cX2_pointsBegin 4 = .ok (.iload_n 0, 1) := by decide +kernel
theorem dX2_pointsBegin_5 : decode cX2_pointsBegin 5 = .ok (.iconst 3, 1) := by decide +kernel
theorem dX2_pointsBegin_6 : decode cX2_pointsBegin 6 = .ok (.if_icmp .ne 8, 3) := by decide +kernel
theorem dX2_pointsBegin_9 : decode cX2_pointsBegin 9 = .ok (.bipush 16, 2) := by decide +kernel
theorem dX2_pointsBegin_11 : decode cX2_pointsBegin 11 = .ok (.goto 5, 3) := by decide +kernel
theorem dX2_pointsBegin_14 : decode cX2_pointsBegin 14 = .ok (.bipush 8, 2) := by decide +kernel
theorem dX2_pointsBegin_16 : decode cX2_pointsBegin 16 = .ok (.iadd, 1) := by decide +kernel
theorem dX2_pointsBegin_17 : decode cX2_pointsBegin 17 = .ok (.ireturn, 1) := by decide +kernel
theorem dX2_textLength_0 : decode cX2_textLength 0 = .ok (.iload_n 0, 1) := by decide +kernel
theorem dX2_textLength_1 : decode cX2_textLength 1 = .ok (.invokestatic 15, 3) := by decide +kernel
theorem dX2_textLength_4 : decode cX2_textLength 4 = .ok (.iconst 4, 1) := by decide +kernel
theorem dX2_textLength_5 : decode cX2_textLength 5 = .ok (.iadd, 1) := by decide +kernel
theorem dX2_textLength_6 : decode cX2_textLength 6 = .ok (.ireturn, 1) := by decide +kernel
theorem dX2_firstFault_0 : decode cX2_firstFault 0 = .ok (.iload_n 1, 1) := by decide +kernel
theorem dX2_firstFault_1 : decode cX2_firstFault 1 = .ok (.ifCond .le 9, 3) := by decide +kernel
theorem dX2_firstFault_4 : decode cX2_firstFault 4 = .ok (.aload_n 0, 1) := by decide +kernel
theorem dX2_firstFault_5 : decode cX2_firstFault 5 = .ok (.arraylength, 1) := by decide +kernel
theorem dX2_firstFault_6 : decode cX2_firstFault 6 = .ok (.iload_n 1, 1) := by decide +kernel
theorem dX2_firstFault_7 : decode cX2_firstFault 7 = .ok (.if_icmp .ge 5, 3) := by decide +kernel
theorem dX2_firstFault_10 : decode cX2_firstFault 10 = .ok (.iconst 0, 1) := by decide +kernel
theorem dX2_firstFault_11 : decode cX2_firstFault 11 = .ok (.ireturn, 1) := by decide +kernel
theorem dX2_firstFault_12 : decode cX2_firstFault 12 = .ok (.aload_n 0, 1) := by decide +kernel
theorem dX2_firstFault_13 : decode cX2_firstFault 13 = .ok (.iconst 0, 1) := by decide +kernel
theorem dX2_firstFault_14 : decode cX2_firstFault 14 = .ok (.iaload, 1) := by decide +kernel
theorem dX2_firstFault_15 : decode cX2_firstFault 15 = .ok (.invokestatic 18, 3) := by decide +kernel
theorem dX2_firstFault_18 : decode cX2_firstFault 18 = .ok (.istore_n 2, 1) := by decide +kernel
theorem dX2_firstFault_19 : decode cX2_firstFault 19 = .ok (.iload_n 2, 1) := by decide +kernel
theorem dX2_firstFault_20 : decode cX2_firstFault 20 = .ok (.iconst (-1), 1) := by decide +kernel
theorem dX2_firstFault_21 : decode cX2_firstFault 21 = .ok (.if_icmp .ne 5, 3) := by decide +kernel
theorem dX2_firstFault_24 : decode cX2_firstFault 24 = .ok (.iconst 0, 1) := by decide +kernel
theorem dX2_firstFault_25 : decode cX2_firstFault 25 = .ok (.ireturn, 1) := by decide +kernel
theorem dX2_firstFault_26 : decode cX2_firstFault 26 = .ok (.iconst 1, 1) := by decide +kernel
theorem dX2_firstFault_27 : decode cX2_firstFault 27 = .ok (.istore_n 3, 1) := by decide +kernel
theorem dX2_firstFault_28 : decode cX2_firstFault 28 = .ok (.iload_n 3, 1) := by decide +kernel
theorem dX2_firstFault_29 : decode cX2_firstFault 29 = .ok (.iload_n 1, 1) := by decide +kernel
theorem dX2_firstFault_30 : decode cX2_firstFault 30 = .ok (.if_icmp .ge 22, 3) := by decide +kernel
theorem dX2_firstFault_33 : decode cX2_firstFault 33 = .ok (.iload_n 2, 1) := by decide +kernel
theorem dX2_firstFault_34 : decode cX2_firstFault 34 = .ok (.iload_n 3, 1) := by decide +kernel
theorem dX2_firstFault_35 : decode cX2_firstFault 35 = .ok (.aload_n 0, 1) := by decide +kernel
theorem dX2_firstFault_36 : decode cX2_firstFault 36 = .ok (.iload_n 3, 1) := by decide +kernel
theorem dX2_firstFault_37 : decode cX2_firstFault 37 = .ok (.iaload, 1) := by decide +kernel
theorem dX2_firstFault_38 : decode cX2_firstFault 38 = .ok (.invokestatic 21, 3) := by decide +kernel
theorem dX2_firstFault_41 : decode cX2_firstFault 41 = .ok (.ifCond .ne 5, 3) := by decide +kernel
theorem dX2_firstFault_44 : decode cX2_firstFault 44 = .ok (.iload_n 3, 1) := by decide +kernel
theorem dX2_firstFault_45 : decode cX2_firstFault 45 = .ok (.ireturn, 1) := by decide +kernel
theorem dX2_firstFault_46 : decode cX2_firstFault 46 = .ok (.iinc 3 1, 3) := by decide +kernel
theorem dX2_firstFault_49 : decode cX2_firstFault 49 = .ok (.goto (-21), 3) := by decide +kernel
theorem dX2_firstFault_52 : decode cX2_firstFault 52 = .ok (.iload_n 1, 1) := by decide +kernel
theorem dX2_firstFault_53 : decode cX2_firstFault 53 = .ok (.ireturn, 1) := by decide +kernel
theorem dX2_isWhole_0 : decode cX2_isWhole 0 = .ok (.iload_n 1, 1) := by decide +kernel
theorem dX2_isWhole_1 : decode cX2_isWhole 1 = .ok (.ifCond .le 9, 3) := by decide +kernel
theorem dX2_isWhole_4 : decode cX2_isWhole 4 = .ok (.aload_n 0, 1) := by decide +kernel
theorem dX2_isWhole_5 : decode cX2_isWhole 5 = .ok (.arraylength, 1) := by decide +kernel
theorem dX2_isWhole_6 : decode cX2_isWhole 6 = .ok (.iload_n 1, 1) := by decide +kernel
theorem dX2_isWhole_7 : decode cX2_isWhole 7 = .ok (.if_icmp .ge 5, 3) := by decide +kernel
theorem dX2_isWhole_10 : decode cX2_isWhole 10 = .ok (.iconst 0, 1) := by decide +kernel
theorem dX2_isWhole_11 : decode cX2_isWhole 11 = .ok (.ireturn, 1) := by decide +kernel
theorem dX2_isWhole_12 : decode cX2_isWhole 12 = .ok (.aload_n 0, 1) := by decide +kernel
theorem dX2_isWhole_13 : decode cX2_isWhole 13 = .ok (.iconst 0, 1) := by decide +kernel
theorem dX2_isWhole_14 : decode cX2_isWhole 14 = .ok (.iaload, 1) := by decide +kernel
theorem dX2_isWhole_15 : decode cX2_isWhole 15 = .ok (.invokestatic 18, 3) := by decide +kernel
theorem dX2_isWhole_18 : decode cX2_isWhole 18 = .ok (.istore_n 2, 1) := by decide +kernel
theorem dX2_isWhole_19 : decode cX2_isWhole 19 = .ok (.iload_n 2, 1) := by decide +kernel
theorem dX2_isWhole_20 : decode cX2_isWhole 20 = .ok (.iconst (-1), 1) := by decide +kernel
theorem dX2_isWhole_21 : decode cX2_isWhole 21 = .ok (.if_icmp .eq 24, 3) := by decide +kernel
theorem dX2_isWhole_24 : decode cX2_isWhole 24 = .ok (.iload_n 1, 1) := by decide +kernel
theorem dX2_isWhole_25 : decode cX2_isWhole 25 = .ok (.iload_n 2, 1) := by decide +kernel
theorem dX2_isWhole_26 : decode cX2_isWhole 26 = .ok (.invokestatic 25, 3) := by decide +kernel
theorem dX2_isWhole_29 : decode cX2_isWhole 29 = .ok (.if_icmp .ne 16, 3) := by decide +kernel
theorem dX2_isWhole_32 : decode cX2_isWhole 32 = .ok (.aload_n 0, 1) := by decide +kernel
theorem dX2_isWhole_33 : decode cX2_isWhole 33 = .ok (.iload_n 1, 1) := by decide +kernel
theorem dX2_isWhole_34 : decode cX2_isWhole 34 = .ok (.invokestatic 28, 3) := by decide +kernel
theorem dX2_isWhole_37 : decode cX2_isWhole 37 = .ok (.iload_n 1, 1) := by decide +kernel
theorem dX2_isWhole_38 : decode cX2_isWhole 38 = .ok (.if_icmp .ne 7, 3) := by decide +kernel
theorem dX2_isWhole_41 : decode cX2_isWhole 41 = .ok (.iconst 1, 1) := by decide +kernel
theorem dX2_isWhole_42 : decode cX2_isWhole 42 = .ok (.goto 4, 3) := by decide +kernel
theorem dX2_isWhole_45 : decode cX2_isWhole 45 = .ok (.iconst 0, 1) := by decide +kernel
theorem dX2_isWhole_46 : decode cX2_isWhole 46 = .ok (.ireturn, 1) := by decide +kernel
theorem dX2_fits_0 : decode cX2_fits 0 = .ok (.iload_n 1, 1) := by decide +kernel
theorem dX2_fits_1 : decode cX2_fits 1 = .ok (.iload_n 0, 1) := by decide +kernel
theorem dX2_fits_2 : decode cX2_fits 2 = .ok (.invokestatic 9, 3) := by decide +kernel
theorem dX2_fits_5 : decode cX2_fits 5 = .ok (.if_icmp .ge 31, 3) := by decide +kernel
theorem dX2_fits_8 : decode cX2_fits 8 = .ok (.iload_n 2, 1) := by decide +kernel
theorem dX2_fits_9 : decode cX2_fits 9 = .ok (.iload_n 0, 1) := by decide +kernel
theorem dX2_fits_10 : decode cX2_fits 10 = .ok (.iconst 1, 1) := by decide +kernel
theorem dX2_fits_11 : decode cX2_fits 11 = .ok (.if_icmp .ne 8, 3) := by decide +kernel
theorem dX2_fits_14 : decode cX2_fits 14 = .ok (.bipush 49, 2) := by decide +kernel
theorem dX2_fits_16 : decode cX2_fits 16 = .ok (.goto 5, 3) := by decide +kernel
theorem dX2_fits_19 : decode cX2_fits 19 = .ok (.bipush 48, 2) := by decide +kernel
theorem dX2_fits_21 : decode cX2_fits 21 = .ok (.if_icmp .lt 13, 3) := by decide +kernel
theorem dX2_fits_24 : decode cX2_fits 24 = .ok (.iload_n 2, 1) := by decide +kernel
theorem dX2_fits_25 : decode cX2_fits 25 = .ok (.bipush 55, 2) := by decide +kernel
theorem dX2_fits_27 : decode cX2_fits 27 = .ok (.if_icmp .gt 7, 3) := by decide +kernel
theorem dX2_fits_30 : decode cX2_fits 30 = .ok (.iconst 1, 1) := by decide +kernel
theorem dX2_fits_31 : decode cX2_fits 31 = .ok (.goto 4, 3) := by decide +kernel
theorem dX2_fits_34 : decode cX2_fits 34 = .ok (.iconst 0, 1) := by decide +kernel
theorem dX2_fits_35 : decode cX2_fits 35 = .ok (.ireturn, 1) := by decide +kernel
theorem dX2_fits_36 : decode cX2_fits 36 = .ok (.iload_n 1, 1) := by decide +kernel
theorem dX2_fits_37 : decode cX2_fits 37 = .ok (.iload_n 0, 1) := by decide +kernel
theorem dX2_fits_38 : decode cX2_fits 38 = .ok (.invokestatic 15, 3) := by decide +kernel
theorem dX2_fits_41 : decode cX2_fits 41 = .ok (.if_icmp .ge 9, 3) := by decide +kernel
theorem dX2_fits_44 : decode cX2_fits 44 = .ok (.iload_n 0, 1) := by decide +kernel
theorem dX2_fits_45 : decode cX2_fits 45 = .ok (.iload_n 2, 1) := by decide +kernel
theorem dX2_fits_46 : decode cX2_fits 46 = .ok (.invokestatic 32, 3) := by decide +kernel
theorem dX2_fits_49 : decode cX2_fits 49 = .ok (.ireturn, 1) := by decide +kernel
theorem dX2_fits_50 : decode cX2_fits 50 = .ok (.iload_n 1, 1) := by decide +kernel
theorem dX2_fits_51 : decode cX2_fits 51 = .ok (.iload_n 0, 1) := by decide +kernel
theorem dX2_fits_52 : decode cX2_fits 52 = .ok (.invokestatic 25, 3) := by decide +kernel
theorem dX2_fits_55 : decode cX2_fits 55 = .ok (.if_icmp .ge 19, 3) := by decide +kernel
theorem dX2_fits_58 : decode cX2_fits 58 = .ok (.iload_n 2, 1) := by decide +kernel
theorem dX2_fits_59 : decode cX2_fits 59 = .ok (.bipush 48, 2) := by decide +kernel
theorem dX2_fits_61 : decode cX2_fits 61 = .ok (.if_icmp .lt 13, 3) := by decide +kernel
theorem dX2_fits_64 : decode cX2_fits 64 = .ok (.iload_n 2, 1) := by decide +kernel
theorem dX2_fits_65 : decode cX2_fits 65 = .ok (.bipush 57, 2) := by decide +kernel
theorem dX2_fits_67 : decode cX2_fits 67 = .ok (.if_icmp .gt 7, 3) := by decide +kernel
theorem dX2_fits_70 : decode cX2_fits 70 = .ok (.iconst 1, 1) := by decide +kernel
theorem dX2_fits_71 : decode cX2_fits 71 = .ok (.goto 4, 3) := by decide +kernel
theorem dX2_fits_74 : decode cX2_fits 74 = .ok (.iconst 0, 1) := by decide +kernel
theorem dX2_fits_75 : decode cX2_fits 75 = .ok (.ireturn, 1) := by decide +kernel
theorem dX2_isMark_0 : decode cX2_isMark 0 = .ok (.iload_n 1, 1) := by decide +kernel
theorem dX2_isMark_1 : decode cX2_isMark 1 = .ok (.bipush 97, 2) := by decide +kernel
theorem dX2_isMark_3 : decode cX2_isMark 3 = .ok (.if_icmp .eq 15, 3) := by decide +kernel
theorem dX2_isMark_6 : decode cX2_isMark 6 = .ok (.iload_n 1, 1) := by decide +kernel
theorem dX2_isMark_7 : decode cX2_isMark 7 = .ok (.bipush 98, 2) := by decide +kernel
theorem dX2_isMark_9 : decode cX2_isMark 9 = .ok (.if_icmp .eq 9, 3) := by decide +kernel
theorem dX2_isMark_12 : decode cX2_isMark 12 = .ok (.iload_n 1, 1) := by decide +kernel
theorem dX2_isMark_13 : decode cX2_isMark 13 = .ok (.bipush 33, 2) := by decide +kernel
theorem dX2_isMark_15 : decode cX2_isMark 15 = .ok (.if_icmp .ne 5, 3) := by decide +kernel
theorem dX2_isMark_18 : decode cX2_isMark 18 = .ok (.iconst 1, 1) := by decide +kernel
theorem dX2_isMark_19 : decode cX2_isMark 19 = .ok (.ireturn, 1) := by decide +kernel
theorem dX2_isMark_20 : decode cX2_isMark 20 = .ok (.iload_n 0, 1) := by decide +kernel
theorem dX2_isMark_21 : decode cX2_isMark 21 = .ok (.iconst 2, 1) := by decide +kernel
theorem dX2_isMark_22 : decode cX2_isMark 22 = .ok (.if_icmp .ne 25, 3) := by decide +kernel
theorem dX2_isMark_25 : decode cX2_isMark 25 = .ok (.iload_n 1, 1) := by decide +kernel
theorem dX2_isMark_26 : decode cX2_isMark 26 = .ok (.bipush 43, 2) := by decide +kernel
theorem dX2_isMark_28 : decode cX2_isMark 28 = .ok (.if_icmp .eq 15, 3) := by decide +kernel
theorem dX2_isMark_31 : decode cX2_isMark 31 = .ok (.iload_n 1, 1) := by decide +kernel
theorem dX2_isMark_32 : decode cX2_isMark 32 = .ok (.bipush 99, 2) := by decide +kernel
theorem dX2_isMark_34 : decode cX2_isMark 34 = .ok (.if_icmp .lt 13, 3) := by decide +kernel
theorem dX2_isMark_37 : decode cX2_isMark 37 = .ok (.iload_n 1, 1) := by decide +kernel
theorem dX2_isMark_38 : decode cX2_isMark 38 = .ok (.bipush 102, 2) := by decide +kernel
theorem dX2_isMark_40 : decode cX2_isMark 40 = .ok (.if_icmp .gt 7, 3) := by decide +kernel
theorem dX2_isMark_43 : decode cX2_isMark 43 = .ok (.iconst 1, 1) := by decide +kernel
theorem dX2_isMark_44 : decode cX2_isMark 44 = .ok (.goto 4, 3) := by decide +kernel
theorem dX2_isMark_47 : decode cX2_isMark 47 = .ok (.iconst 0, 1) := by decide +kernel
theorem dX2_isMark_48 : decode cX2_isMark 48 = .ok (.ireturn, 1) := by decide +kernel
theorem dX3_init_0 : decode cX3_init 0 = .ok (.aload_n 0, 1) := by decide +kernel
theorem dX3_init_1 : decode cX3_init 1 = .ok (.invokespecial 3, 3) := by decide +kernel
theorem dX3_init_4 : decode cX3_init 4 = .ok (.aload_n 0, 1) := by decide +kernel
theorem dX3_init_5 : decode cX3_init 5 = .ok (.sipush 225, 3) := by decide +kernel
theorem dX3_init_8 : decode cX3_init 8 = .ok (.newarray .int, 2) := by decide +kernel
theorem dX3_init_10 : decode cX3_init 10 = .ok (.putfield 9, 3) := by decide +kernel
theorem dX3_init_13 : decode cX3_init 13 = .ok (.aload_n 0, 1) := by decide +kernel
theorem dX3_init_14 : decode cX3_init 14 = .ok (.sipush 225, 3) := by decide +kernel
theorem dX3_init_17 : decode cX3_init 17 = .ok (.newarray .int, 2) := by decide +kernel
theorem dX3_init_19 : decode cX3_init 19 = .ok (.putfield 15, 3) := by decide +kernel
theorem dX3_init_22 : decode cX3_init 22 = .ok (.return_, 1) := by decide +kernel
theorem dX3_lastHope_0 : decode cX3_lastHope 0 = .ok (.iconst 1, 1) := by decide +kernel
theorem dX3_lastHope_1 : decode cX3_lastHope 1 = .ok (.istore_n 3, 1) := by decide +kernel
theorem dX3_lastHope_2 : decode cX3_lastHope 2 = .ok (.iload_n 2, 1) := by decide +kernel
theorem dX3_lastHope_3 : decode cX3_lastHope 3 = .ok (.istore 4, 2) := by decide +kernel
theorem dX3_lastHope_5 : decode cX3_lastHope 5 = .ok (.iload 4, 2) := by decide +kernel
theorem dX3_lastHope_7 : decode cX3_lastHope 7 = .ok (.ifCond .lt 48, 3) := by decide +kernel
theorem dX3_lastHope_10 : decode cX3_lastHope 10 = .ok (.aload_n 1, 1) := by decide +kernel
theorem dX3_lastHope_11 : decode cX3_lastHope 11 = .ok (.iload 4, 2) := by decide +kernel
theorem dX3_lastHope_13 : decode cX3_lastHope 13 = .ok (.invokevirtual 18, 3) := by decide +kernel
theorem dX3_lastHope_16 : decode cX3_lastHope 16 = .ok (.istore 5, 2) := by decide +kernel
theorem dX3_lastHope_18 : decode cX3_lastHope 18 = .ok (.iload 5, 2) := by decide +kernel
theorem dX3_lastHope_20 : decode cX3_lastHope 20 = .ok (.iconst (-1), 1) := by decide +kernel
theorem dX3_lastHope_21 : decode cX3_lastHope 21 = .ok (.if_icmp .eq 19, 3) := by decide +kernel
theorem dX3_lastHope_24 : decode cX3_lastHope 24 = .ok (.iload_n 3, 1) := by decide +kernel
theorem dX3_lastHope_25 : decode cX3_lastHope 25 = .ok (.iload 5, 2) := by decide +kernel
theorem dX3_lastHope_27 : decode cX3_lastHope 27 = .ok (.invokestatic 24, 3) := by decide +kernel
theorem dX3_lastHope_30 : decode cX3_lastHope 30 = .ok (.ishr, 1) := by decide +kernel
theorem dX3_lastHope_31 : decode cX3_lastHope 31 = .ok (.iconst 1, 1) := by decide +kernel
theorem dX3_lastHope_32 : decode cX3_lastHope 32 = .ok (.iand, 1) := by decide +kernel
theorem dX3_lastHope_33 : decode cX3_lastHope 33 = .ok (.iconst 1, 1) := by decide +kernel
theorem dX3_lastHope_34 : decode cX3_lastHope 34 = .ok (.if_icmp .ne 6, 3) := by decide +kernel
theorem dX3_lastHope_37 : decode cX3_lastHope 37 = .ok (.iload 4, 2) := by decide +kernel
theorem dX3_lastHope_39 : decode cX3_lastHope 39 = .ok (.ireturn, 1) := by decide +kernel
theorem dX3_lastHope_40 : decode cX3_lastHope 40 = .ok (.aload_n 1, 1) := by decide +kernel
theorem dX3_lastHope_41 : decode cX3_lastHope 41 = .ok (.getfield 29, 3) := by decide +kernel
theorem dX3_lastHope_44 : decode cX3_lastHope 44 = .ok (.iload_n 3, 1) := by decide +kernel
theorem dX3_lastHope_45 : decode cX3_lastHope 45 = .ok (.invokestatic 33, 3) := by decide +kernel
theorem dX3_lastHope_48 : decode cX3_lastHope 48 = .ok (.istore_n 3, 1) := by decide +kernel
theorem dX3_lastHope_49 : decode cX3_lastHope 49 = .ok (.iinc 4 (-1), 3) := by decide +kernel
theorem dX3_lastHope_52 : decode cX3_lastHope 52 = .ok (.goto (-47), 3) := by decide +kernel
theorem dX3_lastHope_55 : decode cX3_lastHope 55 = .ok (.iconst (-1), 1) := by decide +kernel
theorem dX3_lastHope_56 : decode cX3_lastHope 56 = .ok (.ireturn, 1) := by decide +kernel
theorem dX3_oneUnitEarlier_0 : decode cX3_oneUnitEarlier 0 = .ok (.iconst 0, 1) := by decide +kernel
theorem dX3_oneUnitEarlier_1 : decode cX3_oneUnitEarlier 1 = .ok (.istore_n 2, 1) := by decide +kernel
theorem dX3_oneUnitEarlier_2 : decode cX3_oneUnitEarlier 2 = .ok (.aload_n 0, 1) := by decide +kernel
theorem dX3_oneUnitEarlier_3 : decode cX3_oneUnitEarlier 3 = .ok (.invokevirtual 37, 3) := by decide +kernel
theorem dX3_oneUnitEarlier_6 : decode cX3_oneUnitEarlier 6 = .ok (.istore_n 3, 1) := by decide +kernel
theorem dX3_oneUnitEarlier_7 : decode cX3_oneUnitEarlier 7 = .ok (.iconst 0, 1) := by decide +kernel
theorem dX3_oneUnitEarlier_8 : decode cX3_oneUnitEarlier 8 = .ok (.istore 4, 2) := by decide +kernel
theorem dX3_oneUnitEarlier_10 : decode cX3_oneUnitEarlier 10 = .ok (.iload 4, 2) := by decide +kernel
theorem dX3_oneUnitEarlier_12 : decode cX3_oneUnitEarlier 12 = .ok (.iload_n 3, 1) := by decide +kernel
theorem dX3_oneUnitEarlier_13 : decode cX3_oneUnitEarlier 13 = .ok (.if_icmp .ge 58, 3) := by decide +kernel
theorem dX3_oneUnitEarlier_16 : decode cX3_oneUnitEarlier 16 = .ok (.iconst 0, 1) := by decide +kernel
theorem dX3_oneUnitEarlier_17 : decode cX3_oneUnitEarlier 17 = .ok (.istore 5, 2) := by decide +kernel
theorem dX3_oneUnitEarlier_19 : decode cX3_oneUnitEarlier 19 = .ok (.iload 5, 2) := by decide +kernel
theorem dX3_oneUnitEarlier_21 : decode cX3_oneUnitEarlier 21 = .ok (.bipush 8, 2) := by decide +kernel
theorem dX3_oneUnitEarlier_23 : decode cX3_oneUnitEarlier 23 = .ok (.if_icmp .ge 42, 3) := by decide +kernel
theorem dX3_oneUnitEarlier_26 : decode cX3_oneUnitEarlier 26 = .ok (.aload_n 0, 1) := by decide +kernel
theorem dX3_oneUnitEarlier_27 : decode cX3_oneUnitEarlier 27 = .ok (.iload 4, 2) := by decide +kernel
theorem dX3_oneUnitEarlier_29 : decode cX3_oneUnitEarlier 29 = .ok (.iload 5, 2) := by decide +kernel
theorem dX3_oneUnitEarlier_31 : decode cX3_oneUnitEarlier 31 = .ok (.invokevirtual 41, 3) := by decide +kernel
theorem dX3_oneUnitEarlier_34 : decode cX3_oneUnitEarlier 34 = .ok (.istore 6, 2) := by decide +kernel
theorem dX3_oneUnitEarlier_36 : decode cX3_oneUnitEarlier 36 = .ok (.iload 6, 2) := by decide +kernel
theorem dX3_oneUnitEarlier_38 : decode cX3_oneUnitEarlier 38 = .ok (.iconst (-1), 1) := by decide +kernel
theorem dX3_oneUnitEarlier_39 : decode cX3_oneUnitEarlier 39 = .ok (.if_icmp .eq 20, 3) := by decide +kernel
theorem dX3_oneUnitEarlier_42 : decode cX3_oneUnitEarlier 42 = .ok (.iload_n 1, 1) := by decide +kernel
theorem dX3_oneUnitEarlier_43 : decode cX3_oneUnitEarlier 43 = .ok (.iload 6, 2) := by decide +kernel
theorem dX3_oneUnitEarlier_45 : decode cX3_oneUnitEarlier 45 = .ok (.ishr, 1) := by decide +kernel
theorem dX3_oneUnitEarlier_46 : decode cX3_oneUnitEarlier 46 = .ok (.iconst 1, 1) := by decide +kernel
theorem dX3_oneUnitEarlier_47 : decode cX3_oneUnitEarlier 47 = .ok (.iand, 1) := by decide +kernel
theorem dX3_oneUnitEarlier_48 : decode cX3_oneUnitEarlier 48 = .ok (.iconst 1, 1) := by decide +kernel
theorem dX3_oneUnitEarlier_49 : decode cX3_oneUnitEarlier 49 = .ok (.if_icmp .ne 10, 3) := by decide +kernel
theorem dX3_oneUnitEarlier_52 : decode cX3_oneUnitEarlier 52 = .ok (.iload_n 2, 1) := by decide +kernel
theorem dX3_oneUnitEarlier_53 : decode cX3_oneUnitEarlier 53 = .ok (.iconst 1, 1) := by decide +kernel
theorem dX3_oneUnitEarlier_54 : decode cX3_oneUnitEarlier 54 = .ok (.iload 4, 2) := by decide +kernel
theorem dX3_oneUnitEarlier_56 : decode cX3_oneUnitEarlier 56 = .ok (.ishl, 1) := by decide +kernel
theorem dX3_oneUnitEarlier_57 : decode cX3_oneUnitEarlier 57 = .ok (.ior, 1) := by decide +kernel
theorem dX3_oneUnitEarlier_58 : decode cX3_oneUnitEarlier 58 = .ok (.istore_n 2, 1) := by decide +kernel
theorem dX3_oneUnitEarlier_59 : decode cX3_oneUnitEarlier 59 = .ok (.iinc 5 1, 3) := by decide +kernel
theorem dX3_oneUnitEarlier_62 : decode cX3_oneUnitEarlier 62 = .ok (.goto (-43), 3) := by decide +kernel
theorem dX3_oneUnitEarlier_65 : decode cX3_oneUnitEarlier 65 = .ok (.iinc 4 1, 3) := by decide +kernel
theorem dX3_oneUnitEarlier_68 : decode cX3_oneUnitEarlier 68 = .ok (.goto (-58), 3) := by decide +kernel
theorem dX3_oneUnitEarlier_71 : decode cX3_oneUnitEarlier 71 = .ok (.iload_n 2, 1) := by decide +kernel
theorem dX3_oneUnitEarlier_72 : decode cX3_oneUnitEarlier 72 = .ok (.ireturn, 1) := by decide +kernel
theorem dX3_lastBeaten_0 : decode cX3_lastBeaten 0 = .ok (.iload 4, 2) := by decide +kernel
theorem dX3_lastBeaten_2 : decode cX3_lastBeaten 2 = .ok (.ifCond .eq 7, 3) := by decide +kernel
theorem dX3_lastBeaten_5 : decode cX3_lastBeaten 5 = .ok (.iconst 0, 1) := by decide +kernel
theorem dX3_lastBeaten_6 : decode cX3_lastBeaten 6 = .ok (.goto 4, 3) := by decide +kernel
theorem dX3_lastBeaten_9 : decode cX3_lastBeaten 9 = .ok (.iconst 1, 1) := by decide +kernel
theorem dX3_lastBeaten_10 : decode cX3_lastBeaten 10 = .ok (.istore 5, 2) := by decide +kernel
theorem dX3_lastBeaten_12 : decode cX3_lastBeaten 12 = .ok (.aload_n 0, 1) := by decide +kernel
theorem dX3_lastBeaten_13 : decode cX3_lastBeaten 13 = .ok (.invokevirtual 45, 3) := by decide +kernel
theorem dX3_lastBeaten_16 : decode cX3_lastBeaten 16 = .ok (.iload_n 3, 1) := by decide +kernel
theorem dX3_lastBeaten_17 : decode cX3_lastBeaten 17 = .ok (.istore 6, 2) := by decide +kernel
theorem dX3_lastBeaten_19 : decode cX3_lastBeaten 19 = .ok (.iload 6, 2) := by decide +kernel
theorem dX3_lastBeaten_21 : decode cX3_lastBeaten 21 = .ok (.ifCond .lt 70, 3) := by decide +kernel
theorem dX3_lastBeaten_24 : decode cX3_lastBeaten 24 = .ok (.aload_n 0, 1) := by decide +kernel
theorem dX3_lastBeaten_25 : decode cX3_lastBeaten 25 = .ok (.aload_n 1, 1) := by decide +kernel
theorem dX3_lastBeaten_26 : decode cX3_lastBeaten 26 = .ok (.iload 6, 2) := by decide +kernel
theorem dX3_lastBeaten_28 : decode cX3_lastBeaten 28 = .ok (.invokevirtual 18, 3) := by decide +kernel
theorem dX3_lastBeaten_31 : decode cX3_lastBeaten 31 = .ok (.aload_n 2, 1) := by decide +kernel
theorem dX3_lastBeaten_32 : decode cX3_lastBeaten 32 = .ok (.iload 6, 2) := by decide +kernel
theorem dX3_lastBeaten_34 : decode cX3_lastBeaten 34 = .ok (.invokevirtual 18, 3) := by decide +kernel
theorem dX3_lastBeaten_37 : decode cX3_lastBeaten 37 = .ok (.invokevirtual 48, 3) := by decide +kernel
theorem dX3_lastBeaten_40 : decode cX3_lastBeaten 40 = .ok (.istore 7, 2) := by decide +kernel
theorem dX3_lastBeaten_42 : decode cX3_lastBeaten 42 = .ok (.iload 7, 2) := by decide +kernel
theorem dX3_lastBeaten_44 : decode cX3_lastBeaten 44 = .ok (.ldc 51, 2) := by decide +kernel
theorem dX3_lastBeaten_46 : decode cX3_lastBeaten 46 = .ok (.if_icmp .eq 27, 3) := by decide +kernel
theorem dX3_lastBeaten_49 : decode cX3_lastBeaten 49 = .ok (.aload_n 2, 1) := by decide +kernel
theorem dX3_lastBeaten_50 : decode cX3_lastBeaten 50 = .ok (.iload 6, 2) := by decide +kernel
theorem dX3_lastBeaten_52 : decode cX3_lastBeaten 52 = .ok (.invokevirtual 52, 3) := by decide +kernel
theorem dX3_lastBeaten_55 : decode cX3_lastBeaten 55 = .ok (.aload_n 1, 1) := by decide +kernel
theorem dX3_lastBeaten_56 : decode cX3_lastBeaten 56 = .ok (.iload 6, 2) := by decide +kernel
theorem dX3_lastBeaten_58 : decode cX3_lastBeaten 58 = .ok (.invokevirtual 52, 3) := by decide +kernel
theorem dX3_lastBeaten_61 : decode cX3_lastBeaten 61 = .ok (.isub, 1) := by decide +kernel
theorem dX3_lastBeaten_62 : decode cX3_lastBeaten 62 = .ok (.iload 7, 2) := by decide +kernel
theorem dX3_lastBeaten_64 : decode cX3_lastBeaten 64 = .ok (.iadd, 1) := by decide +kernel
theorem dX3_lastBeaten_65 : decode cX3_lastBeaten 65 = .ok (.iload 5, 2) := by decide +kernel
theorem dX3_lastBeaten_67 : decode cX3_lastBeaten 67 = .ok (.if_icmp .lt 6, 3) := by decide +kernel
theorem dX3_lastBeaten_70 : decode cX3_lastBeaten 70 = .ok (.iload 6, 2) := by decide +kernel
theorem dX3_lastBeaten_72 : decode cX3_lastBeaten 72 = .ok (.ireturn, 1) := by decide +kernel
theorem dX3_lastBeaten_73 : decode cX3_lastBeaten 73 = .ok (.aload_n 0, 1) := by decide +kernel
theorem dX3_lastBeaten_74 : decode cX3_lastBeaten 74 = .ok (.aload_n 1, 1) := by decide +kernel
theorem dX3_lastBeaten_75 : decode cX3_lastBeaten 75 = .ok (.getfield 29, 3) := by decide +kernel
theorem dX3_lastBeaten_78 : decode cX3_lastBeaten 78 = .ok (.aload_n 2, 1) := by decide +kernel
theorem dX3_lastBeaten_79 : decode cX3_lastBeaten 79 = .ok (.getfield 29, 3) := by decide +kernel
theorem dX3_lastBeaten_82 : decode cX3_lastBeaten 82 = .ok (.invokevirtual 55, 3) := by decide +kernel
theorem dX3_lastBeaten_85 : decode cX3_lastBeaten 85 = .ok (.iinc 6 (-1), 3) := by decide +kernel
theorem dX3_lastBeaten_88 : decode cX3_lastBeaten 88 = .ok (.goto (-69), 3) := by decide +kernel
theorem dX3_lastBeaten_91 : decode cX3_lastBeaten 91 = .ok (.iconst (-1), 1) := by decide +kernel
theorem dX3_lastBeaten_92 : decode cX3_lastBeaten 92 = .ok (.ireturn, 1) := by decide +kernel
theorem dX3_beginAtEnd_0 : decode cX3_beginAtEnd 0 = .ok (.aload_n 0, 1) := by decide +kernel
theorem dX3_beginAtEnd_1 : decode cX3_beginAtEnd 1 = .ok (.getfield 9, 3) := by decide +kernel
theorem dX3_beginAtEnd_4 : decode cX3_beginAtEnd 4 = .ok (.ldc 51, 2) := by decide +kernel
theorem dX3_beginAtEnd_6 : decode cX3_beginAtEnd 6 = .ok (.invokestatic 59, 3) := by decide +kernel
theorem dX3_beginAtEnd_9 : decode cX3_beginAtEnd 9 = .ok (.iconst 0, 1) := by decide +kernel
theorem dX3_beginAtEnd_10 : decode cX3_beginAtEnd 10 = .ok (.istore_n 1, 1) := by decide +kernel
theorem dX3_beginAtEnd_11 : decode cX3_beginAtEnd 11 = .ok (.iload_n 1, 1) := by decide +kernel
theorem dX3_beginAtEnd_12 : decode cX3_beginAtEnd 12 = .ok (.iconst 3, 1) := by decide +kernel
theorem dX3_beginAtEnd_13 : decode cX3_beginAtEnd 13 = .ok (.if_icmp .ge 34, 3) := by decide +kernel
theorem dX3_beginAtEnd_16 : decode cX3_beginAtEnd 16 = .ok (.iconst 0, 1) := by decide +kernel
theorem dX3_beginAtEnd_17 : decode cX3_beginAtEnd 17 = .ok (.istore_n 2, 1) := by decide +kernel
theorem dX3_beginAtEnd_18 : decode cX3_beginAtEnd 18 = .ok (.iload_n 2, 1) := by decide +kernel
theorem dX3_beginAtEnd_19 : decode cX3_beginAtEnd 19 = .ok (.iconst 3, 1) := by decide +kernel
theorem dX3_beginAtEnd_20 : decode cX3_beginAtEnd 20 = .ok (.if_icmp .ge 21, 3) := by decide +kernel
theorem dX3_beginAtEnd_23 : decode cX3_beginAtEnd 23 = .ok (.aload_n 0, 1) := by decide +kernel
theorem dX3_beginAtEnd_24 : decode cX3_beginAtEnd 24 = .ok (.getfield 9, 3) := by decide +kernel
theorem dX3_beginAtEnd_27 : decode cX3_beginAtEnd 27 = .ok (.iload_n 1, 1) := by decide +kernel
theorem dX3_beginAtEnd_28 : decode cX3_beginAtEnd 28 = .ok (.bipush 15, 2) := by decide +kernel
theorem dX3_beginAtEnd_30 : decode cX3_beginAtEnd 30 = .ok (.imul, 1) := by decide +kernel
theorem dX3_beginAtEnd_31 : decode cX3_beginAtEnd 31 = .ok (.iload_n 2, 1) := by decide +kernel
theorem dX3_beginAtEnd_32 : decode cX3_beginAtEnd 32 = .ok (.iadd, 1) := by decide +kernel
theorem dX3_beginAtEnd_33 : decode cX3_beginAtEnd 33 = .ok (.iconst 0, 1) := by decide +kernel
theorem dX3_beginAtEnd_34 : decode cX3_beginAtEnd 34 = .ok (.iastore, 1) := by decide +kernel
theorem dX3_beginAtEnd_35 : decode cX3_beginAtEnd 35 = .ok (.iinc 2 1, 3) := by decide +kernel
theorem dX3_beginAtEnd_38 : decode cX3_beginAtEnd 38 = .ok (.goto (-20), 3) := by decide +kernel
theorem dX3_beginAtEnd_41 : decode cX3_beginAtEnd 41 = .ok (.iinc 1 1, 3) := by decide +kernel
theorem dX3_beginAtEnd_44 : decode cX3_beginAtEnd 44 = .ok (.goto (-33), 3) := by decide +kernel
theorem dX3_beginAtEnd_47 : decode cX3_beginAtEnd 47 = .ok (.return_, 1) := by decide +kernel
theorem dX3_leadAt_0 : decode cX3_leadAt 0 = .ok (.iload_n 1, 1) := by decide +kernel
theorem dX3_leadAt_1 : decode cX3_leadAt 1 = .ok (.ifCond .lt 19, 3) := by decide +kernel
theorem dX3_leadAt_4 : decode cX3_leadAt 4 = .ok (.iload_n 1, 1) := by decide +kernel
theorem dX3_leadAt_5 : decode cX3_leadAt 5 = .ok (.bipush 15, 2) := by decide +kernel
theorem dX3_leadAt_7 : decode cX3_leadAt 7 = .ok (.if_icmp .ge 13, 3) := by decide +kernel
theorem dX3_leadAt_10 : decode cX3_leadAt 10 = .ok (.iload_n 2, 1) := by decide +kernel
theorem dX3_leadAt_11 : decode cX3_leadAt 11 = .ok (.ifCond .lt 9, 3) := by decide +kernel
theorem dX3_leadAt_14 : decode cX3_leadAt 14 = .ok (.iload_n 2, 1) := by decide +kernel
theorem dX3_leadAt_15 : decode cX3_leadAt 15 = .ok (.bipush 15, 2) := by decide +kernel
theorem dX3_leadAt_17 : decode cX3_leadAt 17 = .ok (.if_icmp .lt 6, 3) := by decide +kernel
theorem dX3_leadAt_20 : decode cX3_leadAt 20 = .ok (.ldc 51, 2) := by decide +kernel
theorem dX3_leadAt_22 : decode cX3_leadAt 22 = .ok (.ireturn, 1) := by decide +kernel
theorem dX3_leadAt_23 : decode cX3_leadAt 23 = .ok (.aload_n 0, 1) := by decide +kernel
theorem dX3_leadAt_24 : decode cX3_leadAt 24 = .ok (.getfield 9, 3) := by decide +kernel
theorem dX3_leadAt_27 : decode cX3_leadAt 27 = .ok (.iload_n 1, 1) := by decide +kernel
theorem dX3_leadAt_28 : decode cX3_leadAt 28 = .ok (.bipush 15, 2) := by decide +kernel
theorem dX3_leadAt_30 : decode cX3_leadAt 30 = .ok (.imul, 1) := by decide +kernel
theorem dX3_leadAt_31 : decode cX3_leadAt 31 = .ok (.iload_n 2, 1) := by decide +kernel
theorem dX3_leadAt_32 : decode cX3_leadAt 32 = .ok (.iadd, 1) := by decide +kernel
theorem dX3_leadAt_33 : decode cX3_leadAt 33 = .ok (.iaload, 1) := by decide +kernel
theorem dX3_leadAt_34 : decode cX3_leadAt 34 = .ok (.ireturn, 1) := by decide +kernel
theorem dX3_lengthen_0 : decode cX3_lengthen 0 = .ok (.aload_n 0, 1) := by decide +kernel
theorem dX3_lengthen_1 : decode cX3_lengthen 1 = .ok (.getfield 15, 3) := by decide +kernel
theorem dX3_lengthen_4 : decode cX3_lengthen 4 = .ok (.ldc 51, 2) := by decide +kernel
theorem dX3_lengthen_6 : decode cX3_lengthen 6 = .ok (.invokestatic 59, 3) := by decide +kernel
theorem dX3_lengthen_9 : decode cX3_lengthen 9 = .ok (.aload_n 1, 1) := by decide +kernel
theorem dX3_lengthen_10 : decode cX3_lengthen 10 = .ok (.invokevirtual 65, 3) := by decide +kernel
theorem dX3_lengthen_13 : decode cX3_lengthen 13 = .ok (.bipush 15, 2) := by decide +kernel
theorem dX3_lengthen_15 : decode cX3_lengthen 15 = .ok (.invokestatic 68, 3) := by decide +kernel
theorem dX3_lengthen_18 : decode cX3_lengthen 18 = .ok (.istore_n 3, 1) := by decide +kernel
theorem dX3_lengthen_19 : decode cX3_lengthen 19 = .ok (.iconst 0, 1) := by decide +kernel
theorem dX3_lengthen_20 : decode cX3_lengthen 20 = .ok (.istore 4, 2) := by decide +kernel
theorem dX3_lengthen_22 : decode cX3_lengthen 22 = .ok (.iload 4, 2) := by decide +kernel
theorem dX3_lengthen_24 : decode cX3_lengthen 24 = .ok (.iload_n 3, 1) := by decide +kernel
theorem dX3_lengthen_25 : decode cX3_lengthen 25 = .ok (.if_icmp .ge 60, 3) := by decide +kernel
theorem dX3_lengthen_28 : decode cX3_lengthen 28 = .ok (.iconst 0, 1) := by decide +kernel
theorem dX3_lengthen_29 : decode cX3_lengthen 29 = .ok (.istore 5, 2) := by decide +kernel
theorem dX3_lengthen_31 : decode cX3_lengthen 31 = .ok (.iload 5, 2) := by decide +kernel
theorem dX3_lengthen_33 : decode cX3_lengthen 33 = .ok (.bipush 8, 2) := by decide +kernel
theorem dX3_lengthen_35 : decode cX3_lengthen 35 = .ok (.if_icmp .ge 44, 3) := by decide +kernel
theorem dX3_lengthen_38 : decode cX3_lengthen 38 = .ok (.aload_n 1, 1) := by decide +kernel
theorem dX3_lengthen_39 : decode cX3_lengthen 39 = .ok (.iload 4, 2) := by decide +kernel
theorem dX3_lengthen_41 : decode cX3_lengthen 41 = .ok (.iload 5, 2) := by decide +kernel
theorem dX3_lengthen_43 : decode cX3_lengthen 43 = .ok (.invokevirtual 73, 3) := by decide +kernel
theorem dX3_lengthen_46 : decode cX3_lengthen 46 = .ok (.istore 6, 2) := by decide +kernel
theorem dX3_lengthen_48 : decode cX3_lengthen 48 = .ok (.iload 6, 2) := by decide +kernel
theorem dX3_lengthen_50 : decode cX3_lengthen 50 = .ok (.iconst (-1), 1) := by decide +kernel
theorem dX3_lengthen_51 : decode cX3_lengthen 51 = .ok (.if_icmp .eq 22, 3) := by decide +kernel
theorem dX3_lengthen_54 : decode cX3_lengthen 54 = .ok (.aload_n 0, 1) := by decide +kernel
theorem dX3_lengthen_55 : decode cX3_lengthen 55 = .ok (.iload 5, 2) := by decide +kernel
theorem dX3_lengthen_57 : decode cX3_lengthen 57 = .ok (.iload 4, 2) := by decide +kernel
theorem dX3_lengthen_59 : decode cX3_lengthen 59 = .ok (.iload 6, 2) := by decide +kernel
theorem dX3_lengthen_61 : decode cX3_lengthen 61 = .ok (.aload_n 1, 1) := by decide +kernel
theorem dX3_lengthen_62 : decode cX3_lengthen 62 = .ok (.iload 4, 2) := by decide +kernel
theorem dX3_lengthen_64 : decode cX3_lengthen 64 = .ok (.iload 5, 2) := by decide +kernel
theorem dX3_lengthen_66 : decode cX3_lengthen 66 = .ok (.invokevirtual 76, 3) := by decide +kernel
theorem dX3_lengthen_69 : decode cX3_lengthen 69 = .ok (.aload_n 2, 1) := by decide +kernel
theorem dX3_lengthen_70 : decode cX3_lengthen 70 = .ok (.invokevirtual 79, 3) := by decide +kernel
theorem dX3_lengthen_73 : decode cX3_lengthen 73 = .ok (.iinc 5 1, 3) := by decide +kernel
theorem dX3_lengthen_76 : decode cX3_lengthen 76 = .ok (.goto (-45), 3) := by decide +kernel
theorem dX3_lengthen_79 : decode cX3_lengthen 79 = .ok (.iinc 4 1, 3) := by decide +kernel
theorem dX3_lengthen_82 : decode cX3_lengthen 82 = .ok (.goto (-60), 3) := by decide +kernel
theorem dX3_lengthen_85 : decode cX3_lengthen 85 = .ok (.aload_n 0, 1) := by decide +kernel
theorem dX3_lengthen_86 : decode cX3_lengthen 86 = .ok (.getfield 15, 3) := by decide +kernel
theorem dX3_lengthen_89 : decode cX3_lengthen 89 = .ok (.iconst 0, 1) := by decide +kernel
theorem dX3_lengthen_90 : decode cX3_lengthen 90 = .ok (.aload_n 0, 1) := by decide +kernel
theorem dX3_lengthen_91 : decode cX3_lengthen 91 = .ok (.getfield 9, 3) := by decide +kernel
theorem dX3_lengthen_94 : decode cX3_lengthen 94 = .ok (.iconst 0, 1) := by decide +kernel
theorem dX3_lengthen_95 : decode cX3_lengthen 95 = .ok (.aload_n 0, 1) := by decide +kernel
theorem dX3_lengthen_96 : decode cX3_lengthen 96 = .ok (.getfield 9, 3) := by decide +kernel
theorem dX3_lengthen_99 : decode cX3_lengthen 99 = .ok (.arraylength, 1) := by decide +kernel
theorem dX3_lengthen_100 : decode cX3_lengthen 100 = .ok (.invokestatic 83, 3) := by decide +kernel
theorem dX3_lengthen_103 : decode cX3_lengthen 103 = .ok (.return_, 1) := by decide +kernel
theorem dX3_lengthenBy_0 : decode cX3_lengthenBy 0 = .ok (.aload 5, 2) := by decide +kernel
theorem dX3_lengthenBy_2 : decode cX3_lengthenBy 2 = .ok (.invokevirtual 65, 3) := by decide +kernel
theorem dX3_lengthenBy_5 : decode cX3_lengthenBy 5 = .ok (.bipush 15, 2) := by decide +kernel
theorem dX3_lengthenBy_7 : decode cX3_lengthenBy 7 = .ok (.invokestatic 68, 3) := by decide +kernel
theorem dX3_lengthenBy_10 : decode cX3_lengthenBy 10 = .ok (.istore 6, 2) := by decide +kernel
theorem dX3_lengthenBy_12 : decode cX3_lengthenBy 12 = .ok (.iconst 0, 1) := by decide +kernel
theorem dX3_lengthenBy_13 : decode cX3_lengthenBy 13 = .ok (.istore 7, 2) := by decide +kernel
theorem dX3_lengthenBy_15 : decode cX3_lengthenBy 15 = .ok (.iload 7, 2) := by decide +kernel
theorem dX3_lengthenBy_17 : decode cX3_lengthenBy 17 = .ok (.iload 6, 2) := by decide +kernel
theorem dX3_lengthenBy_19 : decode cX3_lengthenBy 19 = .ok (.if_icmp .ge 75, 3) := by decide +kernel
theorem dX3_lengthenBy_22 : decode cX3_lengthenBy 22 = .ok (.aload_n 0, 1) := by decide +kernel
theorem dX3_lengthenBy_23 : decode cX3_lengthenBy 23 = .ok (.iload_n 3, 1) := by decide +kernel
theorem dX3_lengthenBy_24 : decode cX3_lengthenBy 24 = .ok (.aload 5, 2) := by decide +kernel
theorem dX3_lengthenBy_26 : decode cX3_lengthenBy 26 = .ok (.iload 7, 2) := by decide +kernel
theorem dX3_lengthenBy_28 : decode cX3_lengthenBy 28 = .ok (.iload_n 1, 1) := by decide +kernel
theorem dX3_lengthenBy_29 : decode cX3_lengthenBy 29 = .ok (.invokevirtual 73, 3) := by decide +kernel
theorem dX3_lengthenBy_32 : decode cX3_lengthenBy 32 = .ok (.invokevirtual 48, 3) := by decide +kernel
theorem dX3_lengthenBy_35 : decode cX3_lengthenBy 35 = .ok (.istore 8, 2) := by decide +kernel
theorem dX3_lengthenBy_37 : decode cX3_lengthenBy 37 = .ok (.iload 8, 2) := by decide +kernel
theorem dX3_lengthenBy_39 : decode cX3_lengthenBy 39 = .ok (.ldc 51, 2) := by decide +kernel
theorem dX3_lengthenBy_41 : decode cX3_lengthenBy 41 = .ok (.if_icmp .eq 47, 3) := by decide +kernel
theorem dX3_lengthenBy_44 : decode cX3_lengthenBy 44 = .ok (.iload 8, 2) := by decide +kernel
theorem dX3_lengthenBy_46 : decode cX3_lengthenBy 46 = .ok (.aload 5, 2) := by decide +kernel
theorem dX3_lengthenBy_48 : decode cX3_lengthenBy 48 = .ok (.iload 7, 2) := by decide +kernel
theorem dX3_lengthenBy_50 : decode cX3_lengthenBy 50 = .ok (.iload_n 1, 1) := by decide +kernel
theorem dX3_lengthenBy_51 : decode cX3_lengthenBy 51 = .ok (.invokevirtual 76, 3) := by decide +kernel
theorem dX3_lengthenBy_54 : decode cX3_lengthenBy 54 = .ok (.iadd, 1) := by decide +kernel
theorem dX3_lengthenBy_55 : decode cX3_lengthenBy 55 = .ok (.iload 4, 2) := by decide +kernel
theorem dX3_lengthenBy_57 : decode cX3_lengthenBy 57 = .ok (.isub, 1) := by decide +kernel
theorem dX3_lengthenBy_58 : decode cX3_lengthenBy 58 = .ok (.istore 9, 2) := by decide +kernel
theorem dX3_lengthenBy_60 : decode cX3_lengthenBy 60 = .ok (.iload_n 2, 1) := by decide +kernel
theorem dX3_lengthenBy_61 : decode cX3_lengthenBy 61 = .ok (.bipush 15, 2) := by decide +kernel
theorem dX3_lengthenBy_63 : decode cX3_lengthenBy 63 = .ok (.imul, 1) := by decide +kernel
theorem dX3_lengthenBy_64 : decode cX3_lengthenBy 64 = .ok (.iload 7, 2) := by decide +kernel
theorem dX3_lengthenBy_66 : decode cX3_lengthenBy 66 = .ok (.iadd, 1) := by decide +kernel
theorem dX3_lengthenBy_67 : decode cX3_lengthenBy 67 = .ok (.istore 10, 2) := by decide +kernel
theorem dX3_lengthenBy_69 : decode cX3_lengthenBy 69 = .ok (.aload_n 0, 1) := by decide +kernel
theorem dX3_lengthenBy_70 : decode cX3_lengthenBy 70 = .ok (.getfield 15, 3) := by decide +kernel
theorem dX3_lengthenBy_73 : decode cX3_lengthenBy 73 = .ok (.iload 10, 2) := by decide +kernel
theorem dX3_lengthenBy_75 : decode cX3_lengthenBy 75 = .ok (.aload_n 0, 1) := by decide +kernel
theorem dX3_lengthenBy_76 : decode cX3_lengthenBy 76 = .ok (.getfield 15, 3) := by decide +kernel
theorem dX3_lengthenBy_79 : decode cX3_lengthenBy 79 = .ok (.iload 10, 2) := by decide +kernel
theorem dX3_lengthenBy_81 : decode cX3_lengthenBy 81 = .ok (.iaload, 1) := by decide +kernel
theorem dX3_lengthenBy_82 : decode cX3_lengthenBy 82 = .ok (.iload 9, 2) := by decide +kernel
theorem dX3_lengthenBy_84 : decode cX3_lengthenBy 84 = .ok (.invokestatic 89, 3) := by decide +kernel
theorem dX3_lengthenBy_87 : decode cX3_lengthenBy 87 = .ok (.iastore, 1) := by decide +kernel
theorem dX3_lengthenBy_88 : decode cX3_lengthenBy 88 = .ok (.iinc 7 1, 3) := by decide +kernel
theorem dX3_lengthenBy_91 : decode cX3_lengthenBy 91 = .ok (.goto (-76), 3) := by decide +kernel
theorem dX3_lengthenBy_94 : decode cX3_lengthenBy 94 = .ok (.return_, 1) := by decide +kernel
theorem dX4_init_0 : decode cX4_init 0 = .ok (.aload_n 0, 1) := by decide +kernel
theorem dX4_init_1 : decode cX4_init 1 = .ok (.invokespecial 5, 3) := by decide +kernel
theorem dX4_init_4 : decode cX4_init 4 = .ok (.aload_n 0, 1) := by decide +kernel
theorem dX4_init_5 : decode cX4_init 5 = .ok (.bipush 30, 2) := by decide +kernel
theorem dX4_init_7 : decode cX4_init 7 = .ok (.newarray .int, 2) := by decide +kernel
theorem dX4_init_9 : decode cX4_init 9 = .ok (.putfield 11, 3) := by decide +kernel
theorem dX4_init_12 : decode cX4_init 12 = .ok (.aload_n 0, 1) := by decide +kernel
theorem dX4_init_13 : decode cX4_init 13 = .ok (.bipush 30, 2) := by decide +kernel
theorem dX4_init_15 : decode cX4_init 15 = .ok (.newarray .int, 2) := by decide +kernel
theorem dX4_init_17 : decode cX4_init 17 = .ok (.putfield 15, 3) := by decide +kernel
theorem dX4_init_20 : decode cX4_init 20 = .ok (.aload_n 0, 1) := by decide +kernel
theorem dX4_init_21 : decode cX4_init 21 = .ok (.bipush 30, 2) := by decide +kernel
theorem dX4_init_23 : decode cX4_init 23 = .ok (.newarray .int, 2) := by decide +kernel
theorem dX4_init_25 : decode cX4_init 25 = .ok (.putfield 18, 3) := by decide +kernel
theorem dX4_init_28 : decode cX4_init 28 = .ok (.aload_n 0, 1) := by decide +kernel
theorem dX4_init_29 : decode cX4_init 29 = .ok (.bipush 30, 2) := by decide +kernel
theorem dX4_init_31 : decode cX4_init 31 = .ok (.newarray .int, 2) := by decide +kernel
theorem dX4_init_33 : decode cX4_init 33 = .ok (.putfield 21, 3) := by decide +kernel
theorem dX4_init_36 : decode cX4_init 36 = .ok (.return_, 1) := by decide +kernel
theorem dX4_search_0 : decode cX4_search 0 = .ok (.aload_n 0, 1) := by decide +kernel
theorem dX4_search_1 : decode cX4_search 1 = .ok (.getfield 15, 3) := by decide +kernel
theorem dX4_search_4 : decode cX4_search 4 = .ok (.bipush (-2), 2) := by decide +kernel
theorem dX4_search_6 : decode cX4_search 6 = .ok (.invokestatic 24, 3) := by decide +kernel
theorem dX4_search_9 : decode cX4_search 9 = .ok (.aload_n 0, 1) := by decide +kernel
theorem dX4_search_10 : decode cX4_search 10 = .ok (.iconst 0, 1) := by decide +kernel
theorem dX4_search_11 : decode cX4_search 11 = .ok (.putfield 30, 3) := by decide +kernel
theorem dX4_search_14 : decode cX4_search 14 = .ok (.aload_n 0, 1) := by decide +kernel
theorem dX4_search_15 : decode cX4_search 15 = .ok (.iconst 0, 1) := by decide +kernel
theorem dX4_search_16 : decode cX4_search 16 = .ok (.putfield 34, 3) := by decide +kernel
theorem dX4_search_19 : decode cX4_search 19 = .ok (.aload_n 0, 1) := by decide +kernel
theorem dX4_search_20 : decode cX4_search 20 = .ok (.iconst 0, 1) := by decide +kernel
theorem dX4_search_21 : decode cX4_search 21 = .ok (.iconst (-1), 1) := by decide +kernel
theorem dX4_search_22 : decode cX4_search 22 = .ok (.iconst 0, 1) := by decide +kernel
theorem dX4_search_23 : decode cX4_search 23 = .ok (.invokevirtual 37, 3) := by decide +kernel
theorem dX4_search_26 : decode cX4_search 26 = .ok (.iconst 0, 1) := by decide +kernel
theorem dX4_search_27 : decode cX4_search 27 = .ok (.istore_n 3, 1) := by decide +kernel
theorem dX4_search_28 : decode cX4_search 28 = .ok (.iload_n 3, 1) := by decide +kernel
theorem dX4_search_29 : decode cX4_search 29 = .ok (.aload_n 0, 1) := by decide +kernel
theorem dX4_search_30 : decode cX4_search 30 = .ok (.getfield 30, 3) := by decide +kernel
theorem dX4_search_33 : decode cX4_search 33 = .ok (.if_icmp .ge 47, 3) := by decide +kernel
theorem dX4_search_36 : decode cX4_search 36 = .ok (.iload_n 3, 1) := by decide +kernel
theorem dX4_search_37 : decode cX4_search 37 = .ok (.bipush 30, 2) := by decide +kernel
theorem dX4_search_39 : decode cX4_search 39 = .ok (.if_icmp .ge 41, 3) := by decide +kernel
theorem dX4_search_42 : decode cX4_search 42 = .ok (.aload_n 0, 1) := by decide +kernel
theorem dX4_search_43 : decode cX4_search 43 = .ok (.getfield 11, 3) := by decide +kernel
theorem dX4_search_46 : decode cX4_search 46 = .ok (.iload_n 3, 1) := by decide +kernel
theorem dX4_search_47 : decode cX4_search 47 = .ok (.iaload, 1) := by decide +kernel
theorem dX4_search_48 : decode cX4_search 48 = .ok (.istore 4, 2) := by decide +kernel
theorem dX4_search_50 : decode cX4_search 50 = .ok (.iload 4, 2) := by decide +kernel
theorem dX4_search_52 : decode cX4_search 52 = .ok (.invokestatic 41, 3) := by decide +kernel
theorem dX4_search_55 : decode cX4_search 55 = .ok (.ifCond .eq 11, 3) := by decide +kernel
theorem dX4_search_58 : decode cX4_search 58 = .ok (.aload_n 0, 1) := by decide +kernel
theorem dX4_search_59 : decode cX4_search 59 = .ok (.iload 4, 2) := by decide +kernel
theorem dX4_search_61 : decode cX4_search 61 = .ok (.invokevirtual 45, 3) := by decide +kernel
theorem dX4_search_64 : decode cX4_search 64 = .ok (.iconst 1, 1) := by decide +kernel
theorem dX4_search_65 : decode cX4_search 65 = .ok (.ireturn, 1) := by decide +kernel
theorem dX4_search_66 : decode cX4_search 66 = .ok (.aload_n 0, 1) := by decide +kernel
theorem dX4_search_67 : decode cX4_search 67 = .ok (.iload 4, 2) := by decide +kernel
theorem dX4_search_69 : decode cX4_search 69 = .ok (.aload_n 1, 1) := by decide +kernel
theorem dX4_search_70 : decode cX4_search 70 = .ok (.aload_n 2, 1) := by decide +kernel
theorem dX4_search_71 : decode cX4_search 71 = .ok (.invokevirtual 49, 3) := by decide +kernel
theorem dX4_search_74 : decode cX4_search 74 = .ok (.iinc 3 1, 3) := by decide +kernel
theorem dX4_search_77 : decode cX4_search 77 = .ok (.goto (-49), 3) := by decide +kernel
theorem dX4_search_80 : decode cX4_search 80 = .ok (.iconst 0, 1) := by decide +kernel
theorem dX4_search_81 : decode cX4_search 81 = .ok (.ireturn, 1) := by decide +kernel
theorem dX4_parts_0 : decode cX4_parts 0 = .ok (.iload_n 0, 1) := by decide +kernel
theorem dX4_parts_1 : decode cX4_parts 1 = .ok (.bipush 6, 2) := by decide +kernel
theorem dX4_parts_3 : decode cX4_parts 3 = .ok (.idiv, 1) := by decide +kernel
theorem dX4_parts_4 : decode cX4_parts 4 = .ok (.ifCond .ne 14, 3) := by decide +kernel
theorem dX4_parts_7 : decode cX4_parts 7 = .ok (.iload_n 0, 1) := by decide +kernel
theorem dX4_parts_8 : decode cX4_parts 8 = .ok (.bipush 6, 2) := by decide +kernel
theorem dX4_parts_10 : decode cX4_parts 10 = .ok (.irem, 1) := by decide +kernel
theorem dX4_parts_11 : decode cX4_parts 11 = .ok (.ifCond .eq 7, 3) := by decide +kernel
theorem dX4_parts_14 : decode cX4_parts 14 = .ok (.iconst 1, 1) := by decide +kernel
theorem dX4_parts_15 : decode cX4_parts 15 = .ok (.goto 4, 3) := by decide +kernel
theorem dX4_parts_18 : decode cX4_parts 18 = .ok (.iconst 0, 1) := by decide +kernel
theorem dX4_parts_19 : decode cX4_parts 19 = .ok (.ireturn, 1) := by decide +kernel
theorem dX4_expand_0 : decode cX4_expand 0 = .ok (.iconst 0, 1) := by decide +kernel
theorem dX4_expand_1 : decode cX4_expand 1 = .ok (.istore 4, 2) := by decide +kernel
theorem dX4_expand_3 : decode cX4_expand 3 = .ok (.iload 4, 2) := by decide +kernel
theorem dX4_expand_5 : decode cX4_expand 5 = .ok (.bipush 8, 2) := by decide +kernel
theorem dX4_expand_7 : decode cX4_expand 7 = .ok (.if_icmp .ge 64, 3) := by decide +kernel
theorem dX4_expand_10 : decode cX4_expand 10 = .ok (.aload_n 2, 1) := by decide +kernel
theorem dX4_expand_11 : decode cX4_expand 11 = .ok (.iload_n 1, 1) := by decide +kernel
theorem dX4_expand_12 : decode cX4_expand 12 = .ok (.bipush 6, 2) := by decide +kernel
theorem dX4_expand_14 : decode cX4_expand 14 = .ok (.idiv, 1) := by decide +kernel
theorem dX4_expand_15 : decode cX4_expand 15 = .ok (.iload 4, 2) := by decide +kernel
theorem dX4_expand_17 : decode cX4_expand 17 = .ok (.invokevirtual 53, 3) := by decide +kernel
theorem dX4_expand_20 : decode cX4_expand 20 = .ok (.istore 5, 2) := by decide +kernel
theorem dX4_expand_22 : decode cX4_expand 22 = .ok (.iload 5, 2) := by decide +kernel
theorem dX4_expand_24 : decode cX4_expand 24 = .ok (.iconst (-1), 1) := by decide +kernel
theorem dX4_expand_25 : decode cX4_expand 25 = .ok (.if_icmp .eq 40, 3) := by decide +kernel
theorem dX4_expand_28 : decode cX4_expand 28 = .ok (.aload_n 3, 1) := by decide +kernel
theorem dX4_expand_29 : decode cX4_expand 29 = .ok (.iload_n 1, 1) := by decide +kernel
theorem dX4_expand_30 : decode cX4_expand 30 = .ok (.bipush 6, 2) := by decide +kernel
theorem dX4_expand_32 : decode cX4_expand 32 = .ok (.irem, 1) := by decide +kernel
theorem dX4_expand_33 : decode cX4_expand 33 = .ok (.iload 4, 2) := by decide +kernel
theorem dX4_expand_35 : decode cX4_expand 35 = .ok (.invokevirtual 53, 3) := by decide +kernel
theorem dX4_expand_38 : decode cX4_expand 38 = .ok (.istore 6, 2) := by decide +kernel
theorem dX4_expand_40 : decode cX4_expand 40 = .ok (.aload_n 0, 1) := by decide +kernel
theorem dX4_expand_41 : decode cX4_expand 41 = .ok (.iload 5, 2) := by decide +kernel
theorem dX4_expand_43 : decode cX4_expand 43 = .ok (.bipush 6, 2) := by decide +kernel
theorem dX4_expand_45 : decode cX4_expand 45 = .ok (.imul, 1) := by decide +kernel
theorem dX4_expand_46 : decode cX4_expand 46 = .ok (.iload 6, 2) := by decide +kernel
theorem dX4_expand_48 : decode cX4_expand 48 = .ok (.iconst (-1), 1) := by decide +kernel
theorem dX4_expand_49 : decode cX4_expand 49 = .ok (.if_icmp .ne 7, 3) := by decide +kernel
theorem dX4_expand_52 : decode cX4_expand 52 = .ok (.iconst 5, 1) := by decide +kernel
theorem dX4_expand_53 : decode cX4_expand 53 = .ok (.goto 5, 3) := by decide +kernel
theorem dX4_expand_56 : decode cX4_expand 56 = .ok (.iload 6, 2) := by decide +kernel
theorem dX4_expand_58 : decode cX4_expand 58 = .ok (.iadd, 1) := by decide +kernel
theorem dX4_expand_59 : decode cX4_expand 59 = .ok (.iload_n 1, 1) := by decide +kernel
theorem dX4_expand_60 : decode cX4_expand 60 = .ok (.iload 4, 2) := by decide +kernel
theorem dX4_expand_62 : decode cX4_expand 62 = .ok (.invokevirtual 37, 3) := by decide +kernel
theorem dX4_expand_65 : decode cX4_expand 65 = .ok (.iinc 4 1, 3) := by decide +kernel
theorem dX4_expand_68 : decode cX4_expand 68 = .ok (.goto (-65), 3) := by decide +kernel
theorem dX4_expand_71 : decode cX4_expand 71 = .ok (.return_, 1) := by decide +kernel
theorem dX4_reach_0 : decode cX4_reach 0 = .ok (.iload_n 1, 1) := by decide +kernel
theorem dX4_reach_1 : decode cX4_reach 1 = .ok (.ifCond .lt 63, 3) := by decide +kernel
theorem dX4_reach_4 : decode cX4_reach 4 = .ok (.iload_n 1, 1) := by decide +kernel
theorem dX4_reach_5 : decode cX4_reach 5 = .ok (.bipush 30, 2) := by decide +kernel
theorem dX4_reach_7 : decode cX4_reach 7 = .ok (.if_icmp .ge 57, 3) := by decide +kernel
theorem dX4_reach_10 : decode cX4_reach 10 = .ok (.aload_n 0, 1) := by decide +kernel
theorem dX4_reach_11 : decode cX4_reach 11 = .ok (.getfield 15, 3) := by decide +kernel
theorem dX4_reach_14 : decode cX4_reach 14 = .ok (.iload_n 1, 1) := by decide +kernel
theorem dX4_reach_15 : decode cX4_reach 15 = .ok (.iaload, 1) := by decide +kernel
theorem dX4_reach_16 : decode cX4_reach 16 = .ok (.bipush (-2), 2) := by decide +kernel
theorem dX4_reach_18 : decode cX4_reach 18 = .ok (.if_icmp .ne 46, 3) := by decide +kernel
theorem dX4_reach_21 : decode cX4_reach 21 = .ok (.aload_n 0, 1) := by decide +kernel
theorem dX4_reach_22 : decode cX4_reach 22 = .ok (.getfield 30, 3) := by decide +kernel
theorem dX4_reach_25 : decode cX4_reach 25 = .ok (.bipush 30, 2) := by decide +kernel
theorem dX4_reach_27 : decode cX4_reach 27 = .ok (.if_icmp .ge 37, 3) := by decide +kernel
theorem dX4_reach_30 : decode cX4_reach 30 = .ok (.aload_n 0, 1) := by decide +kernel
theorem dX4_reach_31 : decode cX4_reach 31 = .ok (.getfield 15, 3) := by decide +kernel
theorem dX4_reach_34 : decode cX4_reach 34 = .ok (.iload_n 1, 1) := by decide +kernel
theorem dX4_reach_35 : decode cX4_reach 35 = .ok (.iload_n 2, 1) := by decide +kernel
theorem dX4_reach_36 : decode cX4_reach 36 = .ok (.iastore, 1) := by decide +kernel
theorem dX4_reach_37 : decode cX4_reach 37 = .ok (.aload_n 0, 1) := by decide +kernel
theorem dX4_reach_38 : decode cX4_reach 38 = .ok (.getfield 18, 3) := by decide +kernel
theorem dX4_reach_41 : decode cX4_reach 41 = .ok (.iload_n 1, 1) := by decide +kernel
theorem dX4_reach_42 : decode cX4_reach 42 = .ok (.iload_n 3, 1) := by decide +kernel
theorem dX4_reach_43 : decode cX4_reach 43 = .ok (.iastore, 1) := by decide +kernel
theorem dX4_reach_44 : decode cX4_reach 44 = .ok (.aload_n 0, 1) := by decide +kernel
theorem dX4_reach_45 : decode cX4_reach 45 = .ok (.getfield 11, 3) := by decide +kernel
theorem dX4_reach_48 : decode cX4_reach 48 = .ok (.aload_n 0, 1) := by decide +kernel
theorem dX4_reach_49 : decode cX4_reach 49 = .ok (.getfield 30, 3) := by decide +kernel
theorem dX4_reach_52 : decode cX4_reach 52 = .ok (.iload_n 1, 1) := by decide +kernel
theorem dX4_reach_53 : decode cX4_reach 53 = .ok (.iastore, 1) := by decide +kernel
theorem dX4_reach_54 : decode cX4_reach 54 = .ok (.aload_n 0, 1) := by decide +kernel
theorem dX4_reach_55 : decode cX4_reach 55 = .ok (.dup, 1) := by decide +kernel
theorem dX4_reach_56 : decode cX4_reach 56 = .ok (.getfield 30, 3) := by decide +kernel
theorem dX4_reach_59 : decode cX4_reach 59 = .ok (.iconst 1, 1) := by decide +kernel
theorem dX4_reach_60 : decode cX4_reach 60 = .ok (.iadd, 1) := by decide +kernel
theorem dX4_reach_61 : decode cX4_reach 61 = .ok (.putfield 30, 3) := by decide +kernel
theorem dX4_reach_64 : decode cX4_reach 64 = .ok (.return_, 1) := by decide +kernel
theorem dX4_writeRow_0 : decode cX4_writeRow 0 = .ok (.iconst 0, 1) := by decide +kernel
theorem dX4_writeRow_1 : decode cX4_writeRow 1 = .ok (.istore_n 2, 1) := by decide +kernel
theorem dX4_writeRow_2 : decode cX4_writeRow 2 = .ok (.iload_n 1, 1) := by decide +kernel
theorem dX4_writeRow_3 : decode cX4_writeRow 3 = .ok (.istore_n 3, 1) := by decide +kernel
theorem dX4_writeRow_4 : decode cX4_writeRow 4 = .ok (.iload_n 2, 1) := by decide +kernel
theorem dX4_writeRow_5 : decode cX4_writeRow 5 = .ok (.bipush 30, 2) := by decide +kernel
theorem dX4_writeRow_7 : decode cX4_writeRow 7 = .ok (.if_icmp .ge 36, 3) := by decide +kernel
theorem dX4_writeRow_10 : decode cX4_writeRow 10 = .ok (.iload_n 3, 1) := by decide +kernel
theorem dX4_writeRow_11 : decode cX4_writeRow 11 = .ok (.ifCond .lt 32, 3) := by decide +kernel
theorem dX4_writeRow_14 : decode cX4_writeRow 14 = .ok (.iload_n 3, 1) := by decide +kernel
theorem dX4_writeRow_15 : decode cX4_writeRow 15 = .ok (.bipush 30, 2) := by decide +kernel
theorem dX4_writeRow_17 : decode cX4_writeRow 17 = .ok (.if_icmp .ge 26, 3) := by decide +kernel
theorem dX4_writeRow_20 : decode cX4_writeRow 20 = .ok (.aload_n 0, 1) := by decide +kernel
theorem dX4_writeRow_21 : decode cX4_writeRow 21 = .ok (.getfield 15, 3) := by decide +kernel
theorem dX4_writeRow_24 : decode cX4_writeRow 24 = .ok (.iload_n 3, 1) := by decide +kernel
theorem dX4_writeRow_25 : decode cX4_writeRow 25 = .ok (.iaload, 1) := by decide +kernel
theorem dX4_writeRow_26 : decode cX4_writeRow 26 = .ok (.iconst (-1), 1) := by decide +kernel
theorem dX4_writeRow_27 : decode cX4_writeRow 27 = .ok (.if_icmp .eq 16, 3) := by decide +kernel
theorem dX4_writeRow_30 : decode cX4_writeRow 30 = .ok (.iinc 2 1, 3) := by decide +kernel
theorem dX4_writeRow_33 : decode cX4_writeRow 33 = .ok (.aload_n 0, 1) := by decide +kernel
theorem dX4_writeRow_34 : decode cX4_writeRow 34 = .ok (.getfield 15, 3) := by decide +kernel
theorem dX4_writeRow_37 : decode cX4_writeRow 37 = .ok (.iload_n 3, 1) := by decide +kernel
theorem dX4_writeRow_38 : decode cX4_writeRow 38 = .ok (.iaload, 1) := by decide +kernel
theorem dX4_writeRow_39 : decode cX4_writeRow 39 = .ok (.istore_n 3, 1) := by decide +kernel
theorem dX4_writeRow_40 : decode cX4_writeRow 40 = .ok (.goto (-36), 3) := by decide +kernel
theorem dX4_writeRow_43 : decode cX4_writeRow 43 = .ok (.iload_n 1, 1) := by decide +kernel
theorem dX4_writeRow_44 : decode cX4_writeRow 44 = .ok (.istore_n 3, 1) := by decide +kernel
theorem dX4_writeRow_45 : decode cX4_writeRow 45 = .ok (.iload_n 2, 1) := by decide +kernel
theorem dX4_writeRow_46 : decode cX4_writeRow 46 = .ok (.iconst 1, 1) := by decide +kernel
theorem dX4_writeRow_47 : decode cX4_writeRow 47 = .ok (.isub, 1) := by decide +kernel
theorem dX4_writeRow_48 : decode cX4_writeRow 48 = .ok (.istore 4, 2) := by decide +kernel
theorem dX4_writeRow_50 : decode cX4_writeRow 50 = .ok (.iload 4, 2) := by decide +kernel
theorem dX4_writeRow_52 : decode cX4_writeRow 52 = .ok (.ifCond .lt 39, 3) := by decide +kernel
theorem dX4_writeRow_55 : decode cX4_writeRow 55 = .ok (.iload_n 3, 1) := by decide +kernel
theorem dX4_writeRow_56 : decode cX4_writeRow 56 = .ok (.ifCond .lt 35, 3) := by decide +kernel
theorem dX4_writeRow_59 : decode cX4_writeRow 59 = .ok (.iload_n 3, 1) := by decide +kernel
theorem dX4_writeRow_60 : decode cX4_writeRow 60 = .ok (.bipush 30, 2) := by decide +kernel
theorem dX4_writeRow_62 : decode cX4_writeRow 62 = .ok (.if_icmp .ge 29, 3) := by decide +kernel
theorem dX4_writeRow_65 : decode cX4_writeRow 65 = .ok (.aload_n 0, 1) := by decide +kernel
theorem dX4_writeRow_66 : decode cX4_writeRow 66 = .ok (.getfield 21, 3) := by decide +kernel
theorem dX4_writeRow_69 : decode cX4_writeRow 69 = .ok (.iload 4, 2) := by decide +kernel
theorem dX4_writeRow_71 : decode cX4_writeRow 71 = .ok (.aload_n 0, 1) := by decide +kernel
theorem dX4_writeRow_72 : decode cX4_writeRow 72 = .ok (.getfield 18, 3) := by decide +kernel
theorem dX4_writeRow_75 : decode cX4_writeRow 75 = .ok (.iload_n 3, 1) := by decide +kernel
theorem dX4_writeRow_76 : decode cX4_writeRow 76 = .ok (.iaload, 1) := by decide +kernel
theorem dX4_writeRow_77 : decode cX4_writeRow 77 = .ok (.iastore, 1) := by decide +kernel
theorem dX4_writeRow_78 : decode cX4_writeRow 78 = .ok (.aload_n 0, 1) := by decide +kernel
theorem dX4_writeRow_79 : decode cX4_writeRow 79 = .ok (.getfield 15, 3) := by decide +kernel
theorem dX4_writeRow_82 : decode cX4_writeRow 82 = .ok (.iload_n 3, 1) := by decide +kernel
theorem dX4_writeRow_83 : decode cX4_writeRow 83 = .ok (.iaload, 1) := by decide +kernel
theorem dX4_writeRow_84 : decode cX4_writeRow 84 = .ok (.istore_n 3, 1) := by decide +kernel
theorem dX4_writeRow_85 : decode cX4_writeRow 85 = .ok (.iinc 4 (-1), 3) := by decide +kernel
theorem dX4_writeRow_88 : decode cX4_writeRow 88 = .ok (.goto (-38), 3) := by decide +kernel
theorem dX4_writeRow_91 : decode cX4_writeRow 91 = .ok (.aload_n 0, 1) := by decide +kernel
theorem dX4_writeRow_92 : decode cX4_writeRow 92 = .ok (.iload_n 2, 1) := by decide +kernel
theorem dX4_writeRow_93 : decode cX4_writeRow 93 = .ok (.putfield 34, 3) := by decide +kernel
theorem dX4_writeRow_96 : decode cX4_writeRow 96 = .ok (.return_, 1) := by decide +kernel
theorem dX4_rowLength_0 : decode cX4_rowLength 0 = .ok (.aload_n 0, 1) := by decide +kernel
theorem dX4_rowLength_1 : decode cX4_rowLength 1 = .ok (.getfield 34, 3) := by decide +kernel
theorem dX4_rowLength_4 : decode cX4_rowLength 4 = .ok (.ireturn, 1) := by decide +kernel
theorem dX4_rowUnit_0 : decode cX4_rowUnit 0 = .ok (.iload_n 1, 1) := by decide +kernel
theorem dX4_rowUnit_1 : decode cX4_rowUnit 1 = .ok (.ifCond .lt 26, 3) := by decide +kernel
theorem dX4_rowUnit_4 : decode cX4_rowUnit 4 = .ok (.iload_n 1, 1) := by decide +kernel
theorem dX4_rowUnit_5 : decode cX4_rowUnit 5 = .ok (.aload_n 0, 1) := by decide +kernel
