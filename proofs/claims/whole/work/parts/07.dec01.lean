theorem d_AutomatonMaker_copyParts_52 : decode b_AutomatonMaker_copyParts 52 = .ok (.getfield 102, 3) := by decide +kernel
theorem d_AutomatonMaker_copyParts_55 : decode b_AutomatonMaker_copyParts 55 = .ok (.iload 4, 2) := by decide +kernel
theorem d_AutomatonMaker_copyParts_57 : decode b_AutomatonMaker_copyParts 57 = .ok (.bipush 10, 2) := by decide +kernel
theorem d_AutomatonMaker_copyParts_59 : decode b_AutomatonMaker_copyParts 59 = .ok (.imul, 1) := by decide +kernel
theorem d_AutomatonMaker_copyParts_60 : decode b_AutomatonMaker_copyParts 60 = .ok (.iload 6, 2) := by decide +kernel
theorem d_AutomatonMaker_copyParts_62 : decode b_AutomatonMaker_copyParts 62 = .ok (.iadd, 1) := by decide +kernel
theorem d_AutomatonMaker_copyParts_63 : decode b_AutomatonMaker_copyParts 63 = .ok (.aload_n 0, 1) := by decide +kernel
theorem d_AutomatonMaker_copyParts_64 : decode b_AutomatonMaker_copyParts 64 = .ok (.getfield 26, 3) := by decide +kernel
theorem d_AutomatonMaker_copyParts_67 : decode b_AutomatonMaker_copyParts 67 = .ok (.aload_n 0, 1) := by decide +kernel
theorem d_AutomatonMaker_copyParts_68 : decode b_AutomatonMaker_copyParts 68 = .ok (.getfield 20, 3) := by decide +kernel
theorem d_AutomatonMaker_copyParts_71 : decode b_AutomatonMaker_copyParts 71 = .ok (.iload 5, 2) := by decide +kernel
theorem d_AutomatonMaker_copyParts_73 : decode b_AutomatonMaker_copyParts 73 = .ok (.bipush 9, 2) := by decide +kernel
theorem d_AutomatonMaker_copyParts_75 : decode b_AutomatonMaker_copyParts 75 = .ok (.imul, 1) := by decide +kernel
theorem d_AutomatonMaker_copyParts_76 : decode b_AutomatonMaker_copyParts 76 = .ok (.iload 6, 2) := by decide +kernel
theorem d_AutomatonMaker_copyParts_78 : decode b_AutomatonMaker_copyParts 78 = .ok (.iadd, 1) := by decide +kernel
theorem d_AutomatonMaker_copyParts_79 : decode b_AutomatonMaker_copyParts 79 = .ok (.iaload, 1) := by decide +kernel
theorem d_AutomatonMaker_copyParts_80 : decode b_AutomatonMaker_copyParts 80 = .ok (.iaload, 1) := by decide +kernel
theorem d_AutomatonMaker_copyParts_81 : decode b_AutomatonMaker_copyParts 81 = .ok (.iastore, 1) := by decide +kernel
theorem d_AutomatonMaker_copyParts_82 : decode b_AutomatonMaker_copyParts 82 = .ok (.iinc 6 1, 3) := by decide +kernel
theorem d_AutomatonMaker_copyParts_85 : decode b_AutomatonMaker_copyParts 85 = .ok (.goto (-41), 3) := by decide +kernel
theorem d_AutomatonMaker_copyParts_88 : decode b_AutomatonMaker_copyParts 88 = .ok (.aload_n 2, 1) := by decide +kernel
theorem d_AutomatonMaker_copyParts_89 : decode b_AutomatonMaker_copyParts 89 = .ok (.getfield 102, 3) := by decide +kernel
theorem d_AutomatonMaker_copyParts_92 : decode b_AutomatonMaker_copyParts 92 = .ok (.iload 4, 2) := by decide +kernel
theorem d_AutomatonMaker_copyParts_94 : decode b_AutomatonMaker_copyParts 94 = .ok (.bipush 10, 2) := by decide +kernel
theorem d_AutomatonMaker_copyParts_96 : decode b_AutomatonMaker_copyParts 96 = .ok (.imul, 1) := by decide +kernel
theorem d_AutomatonMaker_copyParts_97 : decode b_AutomatonMaker_copyParts 97 = .ok (.bipush 9, 2) := by decide +kernel
theorem d_AutomatonMaker_copyParts_99 : decode b_AutomatonMaker_copyParts 99 = .ok (.iadd, 1) := by decide +kernel
theorem d_AutomatonMaker_copyParts_100 : decode b_AutomatonMaker_copyParts 100 = .ok (.aload_n 0, 1) := by decide +kernel
theorem d_AutomatonMaker_copyParts_101 : decode b_AutomatonMaker_copyParts 101 = .ok (.aload_n 1, 1) := by decide +kernel
theorem d_AutomatonMaker_copyParts_102 : decode b_AutomatonMaker_copyParts 102 = .ok (.iload 5, 2) := by decide +kernel
theorem d_AutomatonMaker_copyParts_104 : decode b_AutomatonMaker_copyParts 104 = .ok (.invokevirtual 85, 3) := by decide +kernel
theorem d_AutomatonMaker_copyParts_107 : decode b_AutomatonMaker_copyParts 107 = .ok (.ifCond .eq 7, 3) := by decide +kernel
theorem d_AutomatonMaker_copyParts_110 : decode b_AutomatonMaker_copyParts 110 = .ok (.iconst 1, 1) := by decide +kernel
theorem d_AutomatonMaker_copyParts_111 : decode b_AutomatonMaker_copyParts 111 = .ok (.goto 4, 3) := by decide +kernel
theorem d_AutomatonMaker_copyParts_114 : decode b_AutomatonMaker_copyParts 114 = .ok (.iconst 0, 1) := by decide +kernel
theorem d_AutomatonMaker_copyParts_115 : decode b_AutomatonMaker_copyParts 115 = .ok (.iastore, 1) := by decide +kernel
theorem d_AutomatonMaker_copyParts_116 : decode b_AutomatonMaker_copyParts 116 = .ok (.iinc 4 1, 3) := by decide +kernel
theorem d_AutomatonMaker_copyParts_119 : decode b_AutomatonMaker_copyParts 119 = .ok (.iinc 5 1, 3) := by decide +kernel
theorem d_AutomatonMaker_copyParts_122 : decode b_AutomatonMaker_copyParts 122 = .ok (.goto (-111), 3) := by decide +kernel
theorem d_AutomatonMaker_copyParts_125 : decode b_AutomatonMaker_copyParts 125 = .ok (.aload_n 2, 1) := by decide +kernel
theorem d_AutomatonMaker_copyParts_126 : decode b_AutomatonMaker_copyParts 126 = .ok (.iload 4, 2) := by decide +kernel
theorem d_AutomatonMaker_copyParts_128 : decode b_AutomatonMaker_copyParts 128 = .ok (.putfield 105, 3) := by decide +kernel
theorem d_AutomatonMaker_copyParts_131 : decode b_AutomatonMaker_copyParts 131 = .ok (.return_, 1) := by decide +kernel
theorem d_AutomatonMaker_make_0 : decode b_AutomatonMaker_make 0 = .ok (.aload_n 0, 1) := by decide +kernel
theorem d_AutomatonMaker_make_1 : decode b_AutomatonMaker_make 1 = .ok (.aload_n 1, 1) := by decide +kernel
theorem d_AutomatonMaker_make_2 : decode b_AutomatonMaker_make 2 = .ok (.invokevirtual 39, 3) := by decide +kernel
theorem d_AutomatonMaker_make_5 : decode b_AutomatonMaker_make 5 = .ok (.aload_n 0, 1) := by decide +kernel
theorem d_AutomatonMaker_make_6 : decode b_AutomatonMaker_make 6 = .ok (.aload_n 1, 1) := by decide +kernel
theorem d_AutomatonMaker_make_7 : decode b_AutomatonMaker_make 7 = .ok (.invokevirtual 43, 3) := by decide +kernel
theorem d_AutomatonMaker_make_10 : decode b_AutomatonMaker_make 10 = .ok (.istore_n 3, 1) := by decide +kernel
theorem d_AutomatonMaker_make_11 : decode b_AutomatonMaker_make 11 = .ok (.iconst 0, 1) := by decide +kernel
theorem d_AutomatonMaker_make_12 : decode b_AutomatonMaker_make 12 = .ok (.istore 4, 2) := by decide +kernel
theorem d_AutomatonMaker_make_14 : decode b_AutomatonMaker_make 14 = .ok (.iload 4, 2) := by decide +kernel
theorem d_AutomatonMaker_make_16 : decode b_AutomatonMaker_make 16 = .ok (.aload_n 0, 1) := by decide +kernel
theorem d_AutomatonMaker_make_17 : decode b_AutomatonMaker_make 17 = .ok (.getfield 47, 3) := by decide +kernel
theorem d_AutomatonMaker_make_20 : decode b_AutomatonMaker_make 20 = .ok (.if_icmp .ge 27, 3) := by decide +kernel
theorem d_AutomatonMaker_make_23 : decode b_AutomatonMaker_make 23 = .ok (.aload_n 0, 1) := by decide +kernel
theorem d_AutomatonMaker_make_24 : decode b_AutomatonMaker_make 24 = .ok (.invokevirtual 51, 3) := by decide +kernel
theorem d_AutomatonMaker_make_27 : decode b_AutomatonMaker_make 27 = .ok (.istore 5, 2) := by decide +kernel
theorem d_AutomatonMaker_make_29 : decode b_AutomatonMaker_make 29 = .ok (.iload 5, 2) := by decide +kernel
theorem d_AutomatonMaker_make_31 : decode b_AutomatonMaker_make 31 = .ok (.iload_n 3, 1) := by decide +kernel
theorem d_AutomatonMaker_make_32 : decode b_AutomatonMaker_make 32 = .ok (.if_icmp .ne 6, 3) := by decide +kernel
theorem d_AutomatonMaker_make_35 : decode b_AutomatonMaker_make 35 = .ok (.goto 12, 3) := by decide +kernel
theorem d_AutomatonMaker_make_38 : decode b_AutomatonMaker_make 38 = .ok (.iload 5, 2) := by decide +kernel
theorem d_AutomatonMaker_make_40 : decode b_AutomatonMaker_make 40 = .ok (.istore_n 3, 1) := by decide +kernel
theorem d_AutomatonMaker_make_41 : decode b_AutomatonMaker_make 41 = .ok (.iinc 4 1, 3) := by decide +kernel
theorem d_AutomatonMaker_make_44 : decode b_AutomatonMaker_make 44 = .ok (.goto (-30), 3) := by decide +kernel
theorem d_AutomatonMaker_make_47 : decode b_AutomatonMaker_make 47 = .ok (.aload_n 0, 1) := by decide +kernel
theorem d_AutomatonMaker_make_48 : decode b_AutomatonMaker_make 48 = .ok (.aload_n 1, 1) := by decide +kernel
theorem d_AutomatonMaker_make_49 : decode b_AutomatonMaker_make 49 = .ok (.aload_n 2, 1) := by decide +kernel
theorem d_AutomatonMaker_make_50 : decode b_AutomatonMaker_make 50 = .ok (.iload_n 3, 1) := by decide +kernel
theorem d_AutomatonMaker_make_51 : decode b_AutomatonMaker_make 51 = .ok (.invokevirtual 55, 3) := by decide +kernel
theorem d_AutomatonMaker_make_54 : decode b_AutomatonMaker_make 54 = .ok (.return_, 1) := by decide +kernel
theorem d_AutomatonMaker_wordsOf_0 : decode b_AutomatonMaker_wordsOf 0 = .ok (.sipush 1025, 3) := by decide +kernel
theorem d_AutomatonMaker_wordsOf_3 : decode b_AutomatonMaker_wordsOf 3 = .ok (.aload_n 1, 1) := by decide +kernel
theorem d_AutomatonMaker_wordsOf_4 : decode b_AutomatonMaker_wordsOf 4 = .ok (.getfield 105, 3) := by decide +kernel
theorem d_AutomatonMaker_wordsOf_7 : decode b_AutomatonMaker_wordsOf 7 = .ok (.invokestatic 106, 3) := by decide +kernel
theorem d_AutomatonMaker_wordsOf_10 : decode b_AutomatonMaker_wordsOf 10 = .ok (.istore_n 3, 1) := by decide +kernel
theorem d_AutomatonMaker_wordsOf_11 : decode b_AutomatonMaker_wordsOf 11 = .ok (.iconst 0, 1) := by decide +kernel
theorem d_AutomatonMaker_wordsOf_12 : decode b_AutomatonMaker_wordsOf 12 = .ok (.istore 4, 2) := by decide +kernel
theorem d_AutomatonMaker_wordsOf_14 : decode b_AutomatonMaker_wordsOf 14 = .ok (.iload 4, 2) := by decide +kernel
theorem d_AutomatonMaker_wordsOf_16 : decode b_AutomatonMaker_wordsOf 16 = .ok (.iload_n 3, 1) := by decide +kernel
theorem d_AutomatonMaker_wordsOf_17 : decode b_AutomatonMaker_wordsOf 17 = .ok (.if_icmp .ge 25, 3) := by decide +kernel
theorem d_AutomatonMaker_wordsOf_20 : decode b_AutomatonMaker_wordsOf 20 = .ok (.aload_n 0, 1) := by decide +kernel
theorem d_AutomatonMaker_wordsOf_21 : decode b_AutomatonMaker_wordsOf 21 = .ok (.getfield 32, 3) := by decide +kernel
theorem d_AutomatonMaker_wordsOf_24 : decode b_AutomatonMaker_wordsOf 24 = .ok (.iload 4, 2) := by decide +kernel
theorem d_AutomatonMaker_wordsOf_26 : decode b_AutomatonMaker_wordsOf 26 = .ok (.aload_n 1, 1) := by decide +kernel
theorem d_AutomatonMaker_wordsOf_27 : decode b_AutomatonMaker_wordsOf 27 = .ok (.iload 4, 2) := by decide +kernel
theorem d_AutomatonMaker_wordsOf_29 : decode b_AutomatonMaker_wordsOf 29 = .ok (.bipush 9, 2) := by decide +kernel
theorem d_AutomatonMaker_wordsOf_31 : decode b_AutomatonMaker_wordsOf 31 = .ok (.invokevirtual 109, 3) := by decide +kernel
theorem d_AutomatonMaker_wordsOf_34 : decode b_AutomatonMaker_wordsOf 34 = .ok (.i2l, 1) := by decide +kernel
theorem d_AutomatonMaker_wordsOf_35 : decode b_AutomatonMaker_wordsOf 35 = .ok (.lastore, 1) := by decide +kernel
theorem d_AutomatonMaker_wordsOf_36 : decode b_AutomatonMaker_wordsOf 36 = .ok (.iinc 4 1, 3) := by decide +kernel
theorem d_AutomatonMaker_wordsOf_39 : decode b_AutomatonMaker_wordsOf 39 = .ok (.goto (-25), 3) := by decide +kernel
theorem d_AutomatonMaker_wordsOf_42 : decode b_AutomatonMaker_wordsOf 42 = .ok (.iconst 0, 1) := by decide +kernel
theorem d_AutomatonMaker_wordsOf_43 : decode b_AutomatonMaker_wordsOf 43 = .ok (.istore 4, 2) := by decide +kernel
theorem d_AutomatonMaker_wordsOf_45 : decode b_AutomatonMaker_wordsOf 45 = .ok (.iload 4, 2) := by decide +kernel
theorem d_AutomatonMaker_wordsOf_47 : decode b_AutomatonMaker_wordsOf 47 = .ok (.iload_n 2, 1) := by decide +kernel
theorem d_AutomatonMaker_wordsOf_48 : decode b_AutomatonMaker_wordsOf 48 = .ok (.if_icmp .ge 90, 3) := by decide +kernel
theorem d_AutomatonMaker_wordsOf_51 : decode b_AutomatonMaker_wordsOf 51 = .ok (.iconst 0, 1) := by decide +kernel
theorem d_AutomatonMaker_wordsOf_52 : decode b_AutomatonMaker_wordsOf 52 = .ok (.istore 5, 2) := by decide +kernel
theorem d_AutomatonMaker_wordsOf_54 : decode b_AutomatonMaker_wordsOf 54 = .ok (.iload 5, 2) := by decide +kernel
theorem d_AutomatonMaker_wordsOf_56 : decode b_AutomatonMaker_wordsOf 56 = .ok (.iload_n 3, 1) := by decide +kernel
theorem d_AutomatonMaker_wordsOf_57 : decode b_AutomatonMaker_wordsOf 57 = .ok (.if_icmp .ge 55, 3) := by decide +kernel
theorem d_AutomatonMaker_wordsOf_60 : decode b_AutomatonMaker_wordsOf 60 = .ok (.lconst 0, 1) := by decide +kernel
theorem d_AutomatonMaker_wordsOf_61 : decode b_AutomatonMaker_wordsOf 61 = .ok (.lstore 6, 2) := by decide +kernel
theorem d_AutomatonMaker_wordsOf_63 : decode b_AutomatonMaker_wordsOf 63 = .ok (.iconst 0, 1) := by decide +kernel
theorem d_AutomatonMaker_wordsOf_64 : decode b_AutomatonMaker_wordsOf 64 = .ok (.istore 8, 2) := by decide +kernel
theorem d_AutomatonMaker_wordsOf_66 : decode b_AutomatonMaker_wordsOf 66 = .ok (.iload 8, 2) := by decide +kernel
theorem d_AutomatonMaker_wordsOf_68 : decode b_AutomatonMaker_wordsOf 68 = .ok (.bipush 9, 2) := by decide +kernel
theorem d_AutomatonMaker_wordsOf_70 : decode b_AutomatonMaker_wordsOf 70 = .ok (.if_icmp .ge 27, 3) := by decide +kernel
theorem d_AutomatonMaker_wordsOf_73 : decode b_AutomatonMaker_wordsOf 73 = .ok (.lload 6, 2) := by decide +kernel
theorem d_AutomatonMaker_wordsOf_75 : decode b_AutomatonMaker_wordsOf 75 = .ok (.aload_n 0, 1) := by decide +kernel
theorem d_AutomatonMaker_wordsOf_76 : decode b_AutomatonMaker_wordsOf 76 = .ok (.getfield 32, 3) := by decide +kernel
theorem d_AutomatonMaker_wordsOf_79 : decode b_AutomatonMaker_wordsOf 79 = .ok (.aload_n 1, 1) := by decide +kernel
theorem d_AutomatonMaker_wordsOf_80 : decode b_AutomatonMaker_wordsOf 80 = .ok (.iload 5, 2) := by decide +kernel
theorem d_AutomatonMaker_wordsOf_82 : decode b_AutomatonMaker_wordsOf 82 = .ok (.iload 8, 2) := by decide +kernel
theorem d_AutomatonMaker_wordsOf_84 : decode b_AutomatonMaker_wordsOf 84 = .ok (.invokevirtual 109, 3) := by decide +kernel
theorem d_AutomatonMaker_wordsOf_87 : decode b_AutomatonMaker_wordsOf 87 = .ok (.laload, 1) := by decide +kernel
theorem d_AutomatonMaker_wordsOf_88 : decode b_AutomatonMaker_wordsOf 88 = .ok (.ladd, 1) := by decide +kernel
theorem d_AutomatonMaker_wordsOf_89 : decode b_AutomatonMaker_wordsOf 89 = .ok (.lstore 6, 2) := by decide +kernel
theorem d_AutomatonMaker_wordsOf_91 : decode b_AutomatonMaker_wordsOf 91 = .ok (.iinc 8 1, 3) := by decide +kernel
theorem d_AutomatonMaker_wordsOf_94 : decode b_AutomatonMaker_wordsOf 94 = .ok (.goto (-28), 3) := by decide +kernel
theorem d_AutomatonMaker_wordsOf_97 : decode b_AutomatonMaker_wordsOf 97 = .ok (.aload_n 0, 1) := by decide +kernel
theorem d_AutomatonMaker_wordsOf_98 : decode b_AutomatonMaker_wordsOf 98 = .ok (.getfield 36, 3) := by decide +kernel
theorem d_AutomatonMaker_wordsOf_101 : decode b_AutomatonMaker_wordsOf 101 = .ok (.iload 5, 2) := by decide +kernel
theorem d_AutomatonMaker_wordsOf_103 : decode b_AutomatonMaker_wordsOf 103 = .ok (.lload 6, 2) := by decide +kernel
theorem d_AutomatonMaker_wordsOf_105 : decode b_AutomatonMaker_wordsOf 105 = .ok (.lastore, 1) := by decide +kernel
theorem d_AutomatonMaker_wordsOf_106 : decode b_AutomatonMaker_wordsOf 106 = .ok (.iinc 5 1, 3) := by decide +kernel
theorem d_AutomatonMaker_wordsOf_109 : decode b_AutomatonMaker_wordsOf 109 = .ok (.goto (-55), 3) := by decide +kernel
theorem d_AutomatonMaker_wordsOf_112 : decode b_AutomatonMaker_wordsOf 112 = .ok (.aload_n 0, 1) := by decide +kernel
theorem d_AutomatonMaker_wordsOf_113 : decode b_AutomatonMaker_wordsOf 113 = .ok (.getfield 32, 3) := by decide +kernel
theorem d_AutomatonMaker_wordsOf_116 : decode b_AutomatonMaker_wordsOf 116 = .ok (.astore 5, 2) := by decide +kernel
theorem d_AutomatonMaker_wordsOf_118 : decode b_AutomatonMaker_wordsOf 118 = .ok (.aload_n 0, 1) := by decide +kernel
theorem d_AutomatonMaker_wordsOf_119 : decode b_AutomatonMaker_wordsOf 119 = .ok (.aload_n 0, 1) := by decide +kernel
theorem d_AutomatonMaker_wordsOf_120 : decode b_AutomatonMaker_wordsOf 120 = .ok (.getfield 36, 3) := by decide +kernel
theorem d_AutomatonMaker_wordsOf_123 : decode b_AutomatonMaker_wordsOf 123 = .ok (.putfield 32, 3) := by decide +kernel
theorem d_AutomatonMaker_wordsOf_126 : decode b_AutomatonMaker_wordsOf 126 = .ok (.aload_n 0, 1) := by decide +kernel
theorem d_AutomatonMaker_wordsOf_127 : decode b_AutomatonMaker_wordsOf 127 = .ok (.aload 5, 2) := by decide +kernel
theorem d_AutomatonMaker_wordsOf_129 : decode b_AutomatonMaker_wordsOf 129 = .ok (.putfield 36, 3) := by decide +kernel
theorem d_AutomatonMaker_wordsOf_132 : decode b_AutomatonMaker_wordsOf 132 = .ok (.iinc 4 1, 3) := by decide +kernel
theorem d_AutomatonMaker_wordsOf_135 : decode b_AutomatonMaker_wordsOf 135 = .ok (.goto (-90), 3) := by decide +kernel
theorem d_AutomatonMaker_wordsOf_138 : decode b_AutomatonMaker_wordsOf 138 = .ok (.aload_n 0, 1) := by decide +kernel
theorem d_AutomatonMaker_wordsOf_139 : decode b_AutomatonMaker_wordsOf 139 = .ok (.getfield 32, 3) := by decide +kernel
theorem d_AutomatonMaker_wordsOf_142 : decode b_AutomatonMaker_wordsOf 142 = .ok (.iconst 0, 1) := by decide +kernel
theorem d_AutomatonMaker_wordsOf_143 : decode b_AutomatonMaker_wordsOf 143 = .ok (.laload, 1) := by decide +kernel
theorem d_AutomatonMaker_wordsOf_144 : decode b_AutomatonMaker_wordsOf 144 = .ok (.lreturn, 1) := by decide +kernel
theorem d_History_init_0 : decode b_History_init 0 = .ok (.aload_n 0, 1) := by decide +kernel
theorem d_History_init_1 : decode b_History_init 1 = .ok (.invokespecial 1, 3) := by decide +kernel
theorem d_History_init_4 : decode b_History_init 4 = .ok (.aload_n 0, 1) := by decide +kernel
theorem d_History_init_5 : decode b_History_init 5 = .ok (.sipush 200, 3) := by decide +kernel
theorem d_History_init_8 : decode b_History_init 8 = .ok (.newarray .int, 2) := by decide +kernel
theorem d_History_init_10 : decode b_History_init 10 = .ok (.putfield 9, 3) := by decide +kernel
theorem d_History_init_13 : decode b_History_init 13 = .ok (.aload_n 0, 1) := by decide +kernel
theorem d_History_init_14 : decode b_History_init 14 = .ok (.sipush 200, 3) := by decide +kernel
theorem d_History_init_17 : decode b_History_init 17 = .ok (.newarray .int, 2) := by decide +kernel
theorem d_History_init_19 : decode b_History_init 19 = .ok (.putfield 13, 3) := by decide +kernel
theorem d_History_init_22 : decode b_History_init 22 = .ok (.aload_n 0, 1) := by decide +kernel
theorem d_History_init_23 : decode b_History_init 23 = .ok (.sipush 200, 3) := by decide +kernel
theorem d_History_init_26 : decode b_History_init 26 = .ok (.newarray .int, 2) := by decide +kernel
theorem d_History_init_28 : decode b_History_init 28 = .ok (.putfield 16, 3) := by decide +kernel
theorem d_History_init_31 : decode b_History_init 31 = .ok (.return_, 1) := by decide +kernel
theorem d_History_keep_0 : decode b_History_keep 0 = .ok (.aload_n 0, 1) := by decide +kernel
theorem d_History_keep_1 : decode b_History_keep 1 = .ok (.aload_n 0, 1) := by decide +kernel
theorem d_History_keep_2 : decode b_History_keep 2 = .ok (.getfield 19, 3) := by decide +kernel
theorem d_History_keep_5 : decode b_History_keep 5 = .ok (.iconst 1, 1) := by decide +kernel
theorem d_History_keep_6 : decode b_History_keep 6 = .ok (.iadd, 1) := by decide +kernel
theorem d_History_keep_7 : decode b_History_keep 7 = .ok (.sipush 200, 3) := by decide +kernel
theorem d_History_keep_10 : decode b_History_keep 10 = .ok (.irem, 1) := by decide +kernel
theorem d_History_keep_11 : decode b_History_keep 11 = .ok (.putfield 19, 3) := by decide +kernel
theorem d_History_keep_14 : decode b_History_keep 14 = .ok (.aload_n 0, 1) := by decide +kernel
theorem d_History_keep_15 : decode b_History_keep 15 = .ok (.getfield 9, 3) := by decide +kernel
theorem d_History_keep_18 : decode b_History_keep 18 = .ok (.aload_n 0, 1) := by decide +kernel
theorem d_History_keep_19 : decode b_History_keep 19 = .ok (.getfield 19, 3) := by decide +kernel
theorem d_History_keep_22 : decode b_History_keep 22 = .ok (.iload_n 1, 1) := by decide +kernel
theorem d_History_keep_23 : decode b_History_keep 23 = .ok (.iastore, 1) := by decide +kernel
theorem d_History_keep_24 : decode b_History_keep 24 = .ok (.aload_n 0, 1) := by decide +kernel
theorem d_History_keep_25 : decode b_History_keep 25 = .ok (.getfield 13, 3) := by decide +kernel
theorem d_History_keep_28 : decode b_History_keep 28 = .ok (.aload_n 0, 1) := by decide +kernel
theorem d_History_keep_29 : decode b_History_keep 29 = .ok (.getfield 19, 3) := by decide +kernel
theorem d_History_keep_32 : decode b_History_keep 32 = .ok (.iload_n 2, 1) := by decide +kernel
theorem d_History_keep_33 : decode b_History_keep 33 = .ok (.iastore, 1) := by decide +kernel
theorem d_History_keep_34 : decode b_History_keep 34 = .ok (.aload_n 0, 1) := by decide +kernel
theorem d_History_keep_35 : decode b_History_keep 35 = .ok (.getfield 16, 3) := by decide +kernel
theorem d_History_keep_38 : decode b_History_keep 38 = .ok (.aload_n 0, 1) := by decide +kernel
theorem d_History_keep_39 : decode b_History_keep 39 = .ok (.getfield 19, 3) := by decide +kernel
theorem d_History_keep_42 : decode b_History_keep 42 = .ok (.iload_n 3, 1) := by decide +kernel
theorem d_History_keep_43 : decode b_History_keep 43 = .ok (.iastore, 1) := by decide +kernel
theorem d_History_keep_44 : decode b_History_keep 44 = .ok (.aload_n 0, 1) := by decide +kernel
theorem d_History_keep_45 : decode b_History_keep 45 = .ok (.sipush 200, 3) := by decide +kernel
theorem d_History_keep_48 : decode b_History_keep 48 = .ok (.aload_n 0, 1) := by decide +kernel
theorem d_History_keep_49 : decode b_History_keep 49 = .ok (.getfield 23, 3) := by decide +kernel
theorem d_History_keep_52 : decode b_History_keep 52 = .ok (.iconst 1, 1) := by decide +kernel
theorem d_History_keep_53 : decode b_History_keep 53 = .ok (.iadd, 1) := by decide +kernel
theorem d_History_keep_54 : decode b_History_keep 54 = .ok (.invokestatic 26, 3) := by decide +kernel
theorem d_History_keep_57 : decode b_History_keep 57 = .ok (.putfield 23, 3) := by decide +kernel
theorem d_History_keep_60 : decode b_History_keep 60 = .ok (.return_, 1) := by decide +kernel
theorem d_History_dropNewest_0 : decode b_History_dropNewest 0 = .ok (.aload_n 0, 1) := by decide +kernel
theorem d_History_dropNewest_1 : decode b_History_dropNewest 1 = .ok (.aload_n 0, 1) := by decide +kernel
theorem d_History_dropNewest_2 : decode b_History_dropNewest 2 = .ok (.getfield 19, 3) := by decide +kernel
theorem d_History_dropNewest_5 : decode b_History_dropNewest 5 = .ok (.sipush 200, 3) := by decide +kernel
theorem d_History_dropNewest_8 : decode b_History_dropNewest 8 = .ok (.iadd, 1) := by decide +kernel
theorem d_History_dropNewest_9 : decode b_History_dropNewest 9 = .ok (.iconst 1, 1) := by decide +kernel
theorem d_History_dropNewest_10 : decode b_History_dropNewest 10 = .ok (.isub, 1) := by decide +kernel
theorem d_History_dropNewest_11 : decode b_History_dropNewest 11 = .ok (.sipush 200, 3) := by decide +kernel
theorem d_History_dropNewest_14 : decode b_History_dropNewest 14 = .ok (.irem, 1) := by decide +kernel
theorem d_History_dropNewest_15 : decode b_History_dropNewest 15 = .ok (.putfield 19, 3) := by decide +kernel
theorem d_History_dropNewest_18 : decode b_History_dropNewest 18 = .ok (.aload_n 0, 1) := by decide +kernel
theorem d_History_dropNewest_19 : decode b_History_dropNewest 19 = .ok (.dup, 1) := by decide +kernel
theorem d_History_dropNewest_20 : decode b_History_dropNewest 20 = .ok (.getfield 23, 3) := by decide +kernel
theorem d_History_dropNewest_23 : decode b_History_dropNewest 23 = .ok (.iconst 1, 1) := by decide +kernel
theorem d_History_dropNewest_24 : decode b_History_dropNewest 24 = .ok (.isub, 1) := by decide +kernel
theorem d_History_dropNewest_25 : decode b_History_dropNewest 25 = .ok (.putfield 23, 3) := by decide +kernel
theorem d_History_dropNewest_28 : decode b_History_dropNewest 28 = .ok (.return_, 1) := by decide +kernel
theorem d_Judge_init_0 : decode b_Judge_init 0 = .ok (.aload_n 0, 1) := by decide +kernel
theorem d_Judge_init_1 : decode b_Judge_init 1 = .ok (.invokespecial 3, 3) := by decide +kernel
theorem d_Judge_init_4 : decode b_Judge_init 4 = .ok (.aload_n 0, 1) := by decide +kernel
theorem d_Judge_init_5 : decode b_Judge_init 5 = .ok (.aload_n 1, 1) := by decide +kernel
theorem d_Judge_init_6 : decode b_Judge_init 6 = .ok (.putfield 9, 3) := by decide +kernel
theorem d_Judge_init_9 : decode b_Judge_init 9 = .ok (.return_, 1) := by decide +kernel
theorem d_Judge_unfairness_0 : decode b_Judge_unfairness 0 = .ok (.aload_n 0, 1) := by decide +kernel
theorem d_Judge_unfairness_1 : decode b_Judge_unfairness 1 = .ok (.getfield 9, 3) := by decide +kernel
theorem d_Judge_unfairness_4 : decode b_Judge_unfairness 4 = .ok (.getfield 95, 3) := by decide +kernel
theorem d_Judge_unfairness_7 : decode b_Judge_unfairness 7 = .ok (.iconst 0, 1) := by decide +kernel
theorem d_Judge_unfairness_8 : decode b_Judge_unfairness 8 = .ok (.aaload, 1) := by decide +kernel
theorem d_Judge_unfairness_9 : decode b_Judge_unfairness 9 = .ok (.iload_n 1, 1) := by decide +kernel
theorem d_Judge_unfairness_10 : decode b_Judge_unfairness 10 = .ok (.iaload, 1) := by decide +kernel
theorem d_Judge_unfairness_11 : decode b_Judge_unfairness 11 = .ok (.istore_n 2, 1) := by decide +kernel
theorem d_Judge_unfairness_12 : decode b_Judge_unfairness 12 = .ok (.iload_n 2, 1) := by decide +kernel
theorem d_Judge_unfairness_13 : decode b_Judge_unfairness 13 = .ok (.istore_n 3, 1) := by decide +kernel
theorem d_Judge_unfairness_14 : decode b_Judge_unfairness 14 = .ok (.iconst 1, 1) := by decide +kernel
theorem d_Judge_unfairness_15 : decode b_Judge_unfairness 15 = .ok (.istore 4, 2) := by decide +kernel
theorem d_Judge_unfairness_17 : decode b_Judge_unfairness 17 = .ok (.iload 4, 2) := by decide +kernel
theorem d_Judge_unfairness_19 : decode b_Judge_unfairness 19 = .ok (.aload_n 0, 1) := by decide +kernel
theorem d_Judge_unfairness_20 : decode b_Judge_unfairness 20 = .ok (.getfield 9, 3) := by decide +kernel
theorem d_Judge_unfairness_23 : decode b_Judge_unfairness 23 = .ok (.getfield 37, 3) := by decide +kernel
theorem d_Judge_unfairness_26 : decode b_Judge_unfairness 26 = .ok (.if_icmp .ge 43, 3) := by decide +kernel
theorem d_Judge_unfairness_29 : decode b_Judge_unfairness 29 = .ok (.iload_n 2, 1) := by decide +kernel
theorem d_Judge_unfairness_30 : decode b_Judge_unfairness 30 = .ok (.aload_n 0, 1) := by decide +kernel
theorem d_Judge_unfairness_31 : decode b_Judge_unfairness 31 = .ok (.getfield 9, 3) := by decide +kernel
theorem d_Judge_unfairness_34 : decode b_Judge_unfairness 34 = .ok (.getfield 95, 3) := by decide +kernel
theorem d_Judge_unfairness_37 : decode b_Judge_unfairness 37 = .ok (.iload 4, 2) := by decide +kernel
theorem d_Judge_unfairness_39 : decode b_Judge_unfairness 39 = .ok (.aaload, 1) := by decide +kernel
theorem d_Judge_unfairness_40 : decode b_Judge_unfairness 40 = .ok (.iload_n 1, 1) := by decide +kernel
theorem d_Judge_unfairness_41 : decode b_Judge_unfairness 41 = .ok (.iaload, 1) := by decide +kernel
theorem d_Judge_unfairness_42 : decode b_Judge_unfairness 42 = .ok (.invokestatic 72, 3) := by decide +kernel
theorem d_Judge_unfairness_45 : decode b_Judge_unfairness 45 = .ok (.istore_n 2, 1) := by decide +kernel
theorem d_Judge_unfairness_46 : decode b_Judge_unfairness 46 = .ok (.iload_n 3, 1) := by decide +kernel
theorem d_Judge_unfairness_47 : decode b_Judge_unfairness 47 = .ok (.aload_n 0, 1) := by decide +kernel
theorem d_Judge_unfairness_48 : decode b_Judge_unfairness 48 = .ok (.getfield 9, 3) := by decide +kernel
theorem d_Judge_unfairness_51 : decode b_Judge_unfairness 51 = .ok (.getfield 95, 3) := by decide +kernel
theorem d_Judge_unfairness_54 : decode b_Judge_unfairness 54 = .ok (.iload 4, 2) := by decide +kernel
theorem d_Judge_unfairness_56 : decode b_Judge_unfairness 56 = .ok (.aaload, 1) := by decide +kernel
theorem d_Judge_unfairness_57 : decode b_Judge_unfairness 57 = .ok (.iload_n 1, 1) := by decide +kernel
theorem d_Judge_unfairness_58 : decode b_Judge_unfairness 58 = .ok (.iaload, 1) := by decide +kernel
theorem d_Judge_unfairness_59 : decode b_Judge_unfairness 59 = .ok (.invokestatic 78, 3) := by decide +kernel
theorem d_Judge_unfairness_62 : decode b_Judge_unfairness 62 = .ok (.istore_n 3, 1) := by decide +kernel
theorem d_Judge_unfairness_63 : decode b_Judge_unfairness 63 = .ok (.iinc 4 1, 3) := by decide +kernel
theorem d_Judge_unfairness_66 : decode b_Judge_unfairness 66 = .ok (.goto (-49), 3) := by decide +kernel
theorem d_Judge_unfairness_69 : decode b_Judge_unfairness 69 = .ok (.iload_n 2, 1) := by decide +kernel
theorem d_Judge_unfairness_70 : decode b_Judge_unfairness 70 = .ok (.iload_n 3, 1) := by decide +kernel
theorem d_Judge_unfairness_71 : decode b_Judge_unfairness 71 = .ok (.isub, 1) := by decide +kernel
theorem d_Judge_unfairness_72 : decode b_Judge_unfairness 72 = .ok (.i2l, 1) := by decide +kernel
theorem d_Judge_unfairness_73 : decode b_Judge_unfairness 73 = .ok (.lreturn, 1) := by decide +kernel
theorem d_Judge_outside_0 : decode b_Judge_outside 0 = .ok (.lconst 0, 1) := by decide +kernel
theorem d_Judge_outside_1 : decode b_Judge_outside 1 = .ok (.aload_n 3, 1) := by decide +kernel
theorem d_Judge_outside_2 : decode b_Judge_outside 2 = .ok (.getfield 47, 3) := by decide +kernel
theorem d_Judge_outside_5 : decode b_Judge_outside 5 = .ok (.i2l, 1) := by decide +kernel
theorem d_Judge_outside_6 : decode b_Judge_outside 6 = .ok (.lload_n 1, 1) := by decide +kernel
theorem d_Judge_outside_7 : decode b_Judge_outside 7 = .ok (.lsub, 1) := by decide +kernel
theorem d_Judge_outside_8 : decode b_Judge_outside 8 = .ok (.invokestatic 89, 3) := by decide +kernel
theorem d_Judge_outside_11 : decode b_Judge_outside 11 = .ok (.lconst 0, 1) := by decide +kernel
theorem d_Judge_outside_12 : decode b_Judge_outside 12 = .ok (.lload_n 1, 1) := by decide +kernel
theorem d_Judge_outside_13 : decode b_Judge_outside 13 = .ok (.aload_n 3, 1) := by decide +kernel
theorem d_Judge_outside_14 : decode b_Judge_outside 14 = .ok (.getfield 92, 3) := by decide +kernel
theorem d_Judge_outside_17 : decode b_Judge_outside 17 = .ok (.i2l, 1) := by decide +kernel
theorem d_Judge_outside_18 : decode b_Judge_outside 18 = .ok (.lsub, 1) := by decide +kernel
theorem d_Judge_outside_19 : decode b_Judge_outside 19 = .ok (.invokestatic 89, 3) := by decide +kernel
theorem d_Judge_outside_22 : decode b_Judge_outside 22 = .ok (.ladd, 1) := by decide +kernel
theorem d_Judge_outside_23 : decode b_Judge_outside 23 = .ok (.lreturn, 1) := by decide +kernel
theorem d_Judge_coverAmiss_0 : decode b_Judge_coverAmiss 0 = .ok (.aload_n 0, 1) := by decide +kernel
theorem d_Judge_coverAmiss_1 : decode b_Judge_coverAmiss 1 = .ok (.aload_n 0, 1) := by decide +kernel
theorem d_Judge_coverAmiss_2 : decode b_Judge_coverAmiss 2 = .ok (.getfield 9, 3) := by decide +kernel
theorem d_Judge_coverAmiss_5 : decode b_Judge_coverAmiss 5 = .ok (.getfield 81, 3) := by decide +kernel
theorem d_Judge_coverAmiss_8 : decode b_Judge_coverAmiss 8 = .ok (.iload_n 2, 1) := by decide +kernel
theorem d_Judge_coverAmiss_9 : decode b_Judge_coverAmiss 9 = .ok (.aaload, 1) := by decide +kernel
theorem d_Judge_coverAmiss_10 : decode b_Judge_coverAmiss 10 = .ok (.aload_n 1, 1) := by decide +kernel
theorem d_Judge_coverAmiss_11 : decode b_Judge_coverAmiss 11 = .ok (.getfield 21, 3) := by decide +kernel
theorem d_Judge_coverAmiss_14 : decode b_Judge_coverAmiss 14 = .ok (.iaload, 1) := by decide +kernel
theorem d_Judge_coverAmiss_15 : decode b_Judge_coverAmiss 15 = .ok (.i2l, 1) := by decide +kernel
theorem d_Judge_coverAmiss_16 : decode b_Judge_coverAmiss 16 = .ok (.aload_n 1, 1) := by decide +kernel
theorem d_Judge_coverAmiss_17 : decode b_Judge_coverAmiss 17 = .ok (.invokevirtual 85, 3) := by decide +kernel
theorem d_Judge_coverAmiss_20 : decode b_Judge_coverAmiss 20 = .ok (.lreturn, 1) := by decide +kernel
theorem d_Roster_letterOf_0 : decode b_Roster_letterOf 0 = .ok (.aload_n 0, 1) := by decide +kernel
theorem d_Roster_letterOf_1 : decode b_Roster_letterOf 1 = .ok (.getfield 33, 3) := by decide +kernel
theorem d_Roster_letterOf_4 : decode b_Roster_letterOf 4 = .ok (.iload_n 1, 1) := by decide +kernel
theorem d_Roster_letterOf_5 : decode b_Roster_letterOf 5 = .ok (.aaload, 1) := by decide +kernel
theorem d_Roster_letterOf_6 : decode b_Roster_letterOf 6 = .ok (.bipush 7, 2) := by decide +kernel
theorem d_Roster_letterOf_8 : decode b_Roster_letterOf 8 = .ok (.iload_n 2, 1) := by decide +kernel
theorem d_Roster_letterOf_9 : decode b_Roster_letterOf 9 = .ok (.iadd, 1) := by decide +kernel
theorem d_Roster_letterOf_10 : decode b_Roster_letterOf 10 = .ok (.iaload, 1) := by decide +kernel
theorem d_Roster_letterOf_11 : decode b_Roster_letterOf 11 = .ok (.ireturn, 1) := by decide +kernel
theorem d_Judge_unskilled_0 : decode b_Judge_unskilled 0 = .ok (.lconst 0, 1) := by decide +kernel
theorem d_Judge_unskilled_1 : decode b_Judge_unskilled 1 = .ok (.lstore 4, 2) := by decide +kernel
theorem d_Judge_unskilled_3 : decode b_Judge_unskilled 3 = .ok (.iload_n 2, 1) := by decide +kernel
theorem d_Judge_unskilled_4 : decode b_Judge_unskilled 4 = .ok (.istore 6, 2) := by decide +kernel
theorem d_Judge_unskilled_6 : decode b_Judge_unskilled 6 = .ok (.iload 6, 2) := by decide +kernel
theorem d_Judge_unskilled_8 : decode b_Judge_unskilled 8 = .ok (.iload_n 3, 1) := by decide +kernel
theorem d_Judge_unskilled_9 : decode b_Judge_unskilled 9 = .ok (.if_icmp .gt 57, 3) := by decide +kernel
theorem d_Judge_unskilled_12 : decode b_Judge_unskilled 12 = .ok (.aload_n 0, 1) := by decide +kernel
theorem d_Judge_unskilled_13 : decode b_Judge_unskilled 13 = .ok (.getfield 9, 3) := by decide +kernel
theorem d_Judge_unskilled_16 : decode b_Judge_unskilled 16 = .ok (.iload_n 1, 1) := by decide +kernel
theorem d_Judge_unskilled_17 : decode b_Judge_unskilled 17 = .ok (.iload 6, 2) := by decide +kernel
theorem d_Judge_unskilled_19 : decode b_Judge_unskilled 19 = .ok (.invokevirtual 98, 3) := by decide +kernel
theorem d_Judge_unskilled_22 : decode b_Judge_unskilled 22 = .ok (.istore 7, 2) := by decide +kernel
theorem d_Judge_unskilled_24 : decode b_Judge_unskilled 24 = .ok (.iload 7, 2) := by decide +kernel
theorem d_Judge_unskilled_26 : decode b_Judge_unskilled 26 = .ok (.ifCond .eq 34, 3) := by decide +kernel
theorem d_Judge_unskilled_29 : decode b_Judge_unskilled 29 = .ok (.aload_n 0, 1) := by decide +kernel
theorem d_Judge_unskilled_30 : decode b_Judge_unskilled 30 = .ok (.getfield 9, 3) := by decide +kernel
theorem d_Judge_unskilled_33 : decode b_Judge_unskilled 33 = .ok (.getfield 101, 3) := by decide +kernel
theorem d_Judge_unskilled_36 : decode b_Judge_unskilled 36 = .ok (.iload_n 1, 1) := by decide +kernel
theorem d_Judge_unskilled_37 : decode b_Judge_unskilled 37 = .ok (.iaload, 1) := by decide +kernel
theorem d_Judge_unskilled_38 : decode b_Judge_unskilled 38 = .ok (.aload_n 0, 1) := by decide +kernel
theorem d_Judge_unskilled_39 : decode b_Judge_unskilled 39 = .ok (.getfield 9, 3) := by decide +kernel
theorem d_Judge_unskilled_42 : decode b_Judge_unskilled 42 = .ok (.getfield 105, 3) := by decide +kernel
theorem d_Judge_unskilled_45 : decode b_Judge_unskilled 45 = .ok (.iload 7, 2) := by decide +kernel
theorem d_Judge_unskilled_47 : decode b_Judge_unskilled 47 = .ok (.iaload, 1) := by decide +kernel
theorem d_Judge_unskilled_48 : decode b_Judge_unskilled 48 = .ok (.ishr, 1) := by decide +kernel
theorem d_Judge_unskilled_49 : decode b_Judge_unskilled 49 = .ok (.iconst 1, 1) := by decide +kernel
theorem d_Judge_unskilled_50 : decode b_Judge_unskilled 50 = .ok (.iand, 1) := by decide +kernel
theorem d_Judge_unskilled_51 : decode b_Judge_unskilled 51 = .ok (.ifCond .ne 9, 3) := by decide +kernel
theorem d_Judge_unskilled_54 : decode b_Judge_unskilled 54 = .ok (.lload 4, 2) := by decide +kernel
theorem d_Judge_unskilled_56 : decode b_Judge_unskilled 56 = .ok (.lconst 1, 1) := by decide +kernel
theorem d_Judge_unskilled_57 : decode b_Judge_unskilled 57 = .ok (.ladd, 1) := by decide +kernel
theorem d_Judge_unskilled_58 : decode b_Judge_unskilled 58 = .ok (.lstore 4, 2) := by decide +kernel
theorem d_Judge_unskilled_60 : decode b_Judge_unskilled 60 = .ok (.iinc 6 1, 3) := by decide +kernel
theorem d_Judge_unskilled_63 : decode b_Judge_unskilled 63 = .ok (.goto (-57), 3) := by decide +kernel
theorem d_Judge_unskilled_66 : decode b_Judge_unskilled 66 = .ok (.lload 4, 2) := by decide +kernel
theorem d_Judge_unskilled_68 : decode b_Judge_unskilled 68 = .ok (.lreturn, 1) := by decide +kernel
theorem d_Roster_gap_0 : decode b_Roster_gap 0 = .ok (.iload_n 3, 1) := by decide +kernel
theorem d_Roster_gap_1 : decode b_Roster_gap 1 = .ok (.sipush 1440, 3) := by decide +kernel
theorem d_Roster_gap_4 : decode b_Roster_gap 4 = .ok (.imul, 1) := by decide +kernel
theorem d_Roster_gap_5 : decode b_Roster_gap 5 = .ok (.aload_n 0, 1) := by decide +kernel
theorem d_Roster_gap_6 : decode b_Roster_gap 6 = .ok (.getfield 9, 3) := by decide +kernel
theorem d_Roster_gap_9 : decode b_Roster_gap 9 = .ok (.iload_n 2, 1) := by decide +kernel
theorem d_Roster_gap_10 : decode b_Roster_gap 10 = .ok (.iaload, 1) := by decide +kernel
theorem d_Roster_gap_11 : decode b_Roster_gap 11 = .ok (.iadd, 1) := by decide +kernel
theorem d_Roster_gap_12 : decode b_Roster_gap 12 = .ok (.aload_n 0, 1) := by decide +kernel
theorem d_Roster_gap_13 : decode b_Roster_gap 13 = .ok (.getfield 9, 3) := by decide +kernel
theorem d_Roster_gap_16 : decode b_Roster_gap 16 = .ok (.iload_n 1, 1) := by decide +kernel
theorem d_Roster_gap_17 : decode b_Roster_gap 17 = .ok (.iaload, 1) := by decide +kernel
theorem d_Roster_gap_18 : decode b_Roster_gap 18 = .ok (.isub, 1) := by decide +kernel
theorem d_Roster_gap_19 : decode b_Roster_gap 19 = .ok (.aload_n 0, 1) := by decide +kernel
theorem d_Roster_gap_20 : decode b_Roster_gap 20 = .ok (.getfield 15, 3) := by decide +kernel
theorem d_Roster_gap_23 : decode b_Roster_gap 23 = .ok (.iload_n 1, 1) := by decide +kernel
theorem d_Roster_gap_24 : decode b_Roster_gap 24 = .ok (.iaload, 1) := by decide +kernel
theorem d_Roster_gap_25 : decode b_Roster_gap 25 = .ok (.isub, 1) := by decide +kernel
theorem d_Roster_gap_26 : decode b_Roster_gap 26 = .ok (.ireturn, 1) := by decide +kernel
theorem d_Judge_shortRests_0 : decode b_Judge_shortRests 0 = .ok (.aload_n 0, 1) := by decide +kernel
theorem d_Judge_shortRests_1 : decode b_Judge_shortRests 1 = .ok (.getfield 9, 3) := by decide +kernel
theorem d_Judge_shortRests_4 : decode b_Judge_shortRests 4 = .ok (.getfield 108, 3) := by decide +kernel
theorem d_Judge_shortRests_7 : decode b_Judge_shortRests 7 = .ok (.iload_n 2, 1) := by decide +kernel
theorem d_Judge_shortRests_8 : decode b_Judge_shortRests 8 = .ok (.aaload, 1) := by decide +kernel
theorem d_Judge_shortRests_9 : decode b_Judge_shortRests 9 = .ok (.astore_n 3, 1) := by decide +kernel
theorem d_Judge_shortRests_10 : decode b_Judge_shortRests 10 = .ok (.lconst 0, 1) := by decide +kernel
theorem d_Judge_shortRests_11 : decode b_Judge_shortRests 11 = .ok (.lstore 4, 2) := by decide +kernel
theorem d_Judge_shortRests_13 : decode b_Judge_shortRests 13 = .ok (.iconst (-1), 1) := by decide +kernel
theorem d_Judge_shortRests_14 : decode b_Judge_shortRests 14 = .ok (.istore 6, 2) := by decide +kernel
theorem d_Judge_shortRests_16 : decode b_Judge_shortRests 16 = .ok (.iconst 0, 1) := by decide +kernel
theorem d_Judge_shortRests_17 : decode b_Judge_shortRests 17 = .ok (.istore 7, 2) := by decide +kernel
theorem d_Judge_shortRests_19 : decode b_Judge_shortRests 19 = .ok (.iload 7, 2) := by decide +kernel
theorem d_Judge_shortRests_21 : decode b_Judge_shortRests 21 = .ok (.aload_n 3, 1) := by decide +kernel
theorem d_Judge_shortRests_22 : decode b_Judge_shortRests 22 = .ok (.arraylength, 1) := by decide +kernel
theorem d_Judge_shortRests_23 : decode b_Judge_shortRests 23 = .ok (.if_icmp .ge 65, 3) := by decide +kernel
theorem d_Judge_shortRests_26 : decode b_Judge_shortRests 26 = .ok (.aload_n 3, 1) := by decide +kernel
theorem d_Judge_shortRests_27 : decode b_Judge_shortRests 27 = .ok (.iload 7, 2) := by decide +kernel
theorem d_Judge_shortRests_29 : decode b_Judge_shortRests 29 = .ok (.iaload, 1) := by decide +kernel
theorem d_Judge_shortRests_30 : decode b_Judge_shortRests 30 = .ok (.ifCond .ne 6, 3) := by decide +kernel
theorem d_Judge_shortRests_33 : decode b_Judge_shortRests 33 = .ok (.goto 49, 3) := by decide +kernel
theorem d_Judge_shortRests_36 : decode b_Judge_shortRests 36 = .ok (.iload 7, 2) := by decide +kernel
theorem d_Judge_shortRests_38 : decode b_Judge_shortRests 38 = .ok (.bipush 7, 2) := by decide +kernel
theorem d_Judge_shortRests_40 : decode b_Judge_shortRests 40 = .ok (.if_icmp .lt 38, 3) := by decide +kernel
theorem d_Judge_shortRests_43 : decode b_Judge_shortRests 43 = .ok (.iload 6, 2) := by decide +kernel
theorem d_Judge_shortRests_45 : decode b_Judge_shortRests 45 = .ok (.ifCond .lt 33, 3) := by decide +kernel
theorem d_Judge_shortRests_48 : decode b_Judge_shortRests 48 = .ok (.aload_n 0, 1) := by decide +kernel
theorem d_Judge_shortRests_49 : decode b_Judge_shortRests 49 = .ok (.getfield 9, 3) := by decide +kernel
theorem d_Judge_shortRests_52 : decode b_Judge_shortRests 52 = .ok (.aload_n 3, 1) := by decide +kernel
theorem d_Judge_shortRests_53 : decode b_Judge_shortRests 53 = .ok (.iload 6, 2) := by decide +kernel
theorem d_Judge_shortRests_55 : decode b_Judge_shortRests 55 = .ok (.iaload, 1) := by decide +kernel
theorem d_Judge_shortRests_56 : decode b_Judge_shortRests 56 = .ok (.aload_n 3, 1) := by decide +kernel
theorem d_Judge_shortRests_57 : decode b_Judge_shortRests 57 = .ok (.iload 7, 2) := by decide +kernel
theorem d_Judge_shortRests_59 : decode b_Judge_shortRests 59 = .ok (.iaload, 1) := by decide +kernel
theorem d_Judge_shortRests_60 : decode b_Judge_shortRests 60 = .ok (.iload 7, 2) := by decide +kernel
theorem d_Judge_shortRests_62 : decode b_Judge_shortRests 62 = .ok (.iload 6, 2) := by decide +kernel
theorem d_Judge_shortRests_64 : decode b_Judge_shortRests 64 = .ok (.isub, 1) := by decide +kernel
theorem d_Judge_shortRests_65 : decode b_Judge_shortRests 65 = .ok (.invokevirtual 111, 3) := by decide +kernel
theorem d_Judge_shortRests_68 : decode b_Judge_shortRests 68 = .ok (.iload_n 1, 1) := by decide +kernel
theorem d_Judge_shortRests_69 : decode b_Judge_shortRests 69 = .ok (.if_icmp .ge 9, 3) := by decide +kernel
theorem d_Judge_shortRests_72 : decode b_Judge_shortRests 72 = .ok (.lload 4, 2) := by decide +kernel
theorem d_Judge_shortRests_74 : decode b_Judge_shortRests 74 = .ok (.lconst 1, 1) := by decide +kernel
theorem d_Judge_shortRests_75 : decode b_Judge_shortRests 75 = .ok (.ladd, 1) := by decide +kernel
theorem d_Judge_shortRests_76 : decode b_Judge_shortRests 76 = .ok (.lstore 4, 2) := by decide +kernel
theorem d_Judge_shortRests_78 : decode b_Judge_shortRests 78 = .ok (.iload 7, 2) := by decide +kernel
theorem d_Judge_shortRests_80 : decode b_Judge_shortRests 80 = .ok (.istore 6, 2) := by decide +kernel
theorem d_Judge_shortRests_82 : decode b_Judge_shortRests 82 = .ok (.iinc 7 1, 3) := by decide +kernel
theorem d_Judge_shortRests_85 : decode b_Judge_shortRests 85 = .ok (.goto (-66), 3) := by decide +kernel
theorem d_Judge_shortRests_88 : decode b_Judge_shortRests 88 = .ok (.lload 4, 2) := by decide +kernel
theorem d_Judge_shortRests_90 : decode b_Judge_shortRests 90 = .ok (.lreturn, 1) := by decide +kernel
theorem d_Roster_minutesBetween_0 : decode b_Roster_minutesBetween 0 = .ok (.lconst 0, 1) := by decide +kernel
theorem d_Roster_minutesBetween_1 : decode b_Roster_minutesBetween 1 = .ok (.lstore 4, 2) := by decide +kernel
theorem d_Roster_minutesBetween_3 : decode b_Roster_minutesBetween 3 = .ok (.iload_n 2, 1) := by decide +kernel
theorem d_Roster_minutesBetween_4 : decode b_Roster_minutesBetween 4 = .ok (.istore 6, 2) := by decide +kernel
theorem d_Roster_minutesBetween_6 : decode b_Roster_minutesBetween 6 = .ok (.iload 6, 2) := by decide +kernel
theorem d_Roster_minutesBetween_8 : decode b_Roster_minutesBetween 8 = .ok (.iload_n 3, 1) := by decide +kernel
theorem d_Roster_minutesBetween_9 : decode b_Roster_minutesBetween 9 = .ok (.if_icmp .gt 27, 3) := by decide +kernel
theorem d_Roster_minutesBetween_12 : decode b_Roster_minutesBetween 12 = .ok (.lload 4, 2) := by decide +kernel
theorem d_Roster_minutesBetween_14 : decode b_Roster_minutesBetween 14 = .ok (.aload_n 0, 1) := by decide +kernel
theorem d_Roster_minutesBetween_15 : decode b_Roster_minutesBetween 15 = .ok (.getfield 15, 3) := by decide +kernel
theorem d_Roster_minutesBetween_18 : decode b_Roster_minutesBetween 18 = .ok (.aload_n 0, 1) := by decide +kernel
theorem d_Roster_minutesBetween_19 : decode b_Roster_minutesBetween 19 = .ok (.iload_n 1, 1) := by decide +kernel
theorem d_Roster_minutesBetween_20 : decode b_Roster_minutesBetween 20 = .ok (.iload 6, 2) := by decide +kernel
theorem d_Roster_minutesBetween_22 : decode b_Roster_minutesBetween 22 = .ok (.invokevirtual 48, 3) := by decide +kernel
theorem d_Roster_minutesBetween_25 : decode b_Roster_minutesBetween 25 = .ok (.iaload, 1) := by decide +kernel
theorem d_Roster_minutesBetween_26 : decode b_Roster_minutesBetween 26 = .ok (.i2l, 1) := by decide +kernel
theorem d_Roster_minutesBetween_27 : decode b_Roster_minutesBetween 27 = .ok (.ladd, 1) := by decide +kernel
theorem d_Roster_minutesBetween_28 : decode b_Roster_minutesBetween 28 = .ok (.lstore 4, 2) := by decide +kernel
theorem d_Roster_minutesBetween_30 : decode b_Roster_minutesBetween 30 = .ok (.iinc 6 1, 3) := by decide +kernel
theorem d_Roster_minutesBetween_33 : decode b_Roster_minutesBetween 33 = .ok (.goto (-27), 3) := by decide +kernel
theorem d_Roster_minutesBetween_36 : decode b_Roster_minutesBetween 36 = .ok (.lload 4, 2) := by decide +kernel
theorem d_Roster_minutesBetween_38 : decode b_Roster_minutesBetween 38 = .ok (.lreturn, 1) := by decide +kernel
theorem d_Judge_hoursAmiss_0 : decode b_Judge_hoursAmiss 0 = .ok (.aload_n 0, 1) := by decide +kernel
theorem d_Judge_hoursAmiss_1 : decode b_Judge_hoursAmiss 1 = .ok (.getfield 9, 3) := by decide +kernel
theorem d_Judge_hoursAmiss_4 : decode b_Judge_hoursAmiss 4 = .ok (.iload_n 2, 1) := by decide +kernel
theorem d_Judge_hoursAmiss_5 : decode b_Judge_hoursAmiss 5 = .ok (.iload_n 3, 1) := by decide +kernel
theorem d_Judge_hoursAmiss_6 : decode b_Judge_hoursAmiss 6 = .ok (.iload_n 3, 1) := by decide +kernel
theorem d_Judge_hoursAmiss_7 : decode b_Judge_hoursAmiss 7 = .ok (.aload_n 1, 1) := by decide +kernel
theorem d_Judge_hoursAmiss_8 : decode b_Judge_hoursAmiss 8 = .ok (.getfield 54, 3) := by decide +kernel
theorem d_Judge_hoursAmiss_11 : decode b_Judge_hoursAmiss 11 = .ok (.iadd, 1) := by decide +kernel
theorem d_Judge_hoursAmiss_12 : decode b_Judge_hoursAmiss 12 = .ok (.iconst 1, 1) := by decide +kernel
theorem d_Judge_hoursAmiss_13 : decode b_Judge_hoursAmiss 13 = .ok (.isub, 1) := by decide +kernel
theorem d_Judge_hoursAmiss_14 : decode b_Judge_hoursAmiss 14 = .ok (.invokevirtual 115, 3) := by decide +kernel
theorem d_Judge_hoursAmiss_17 : decode b_Judge_hoursAmiss 17 = .ok (.lstore 5, 2) := by decide +kernel
theorem d_Judge_hoursAmiss_19 : decode b_Judge_hoursAmiss 19 = .ok (.aload_n 0, 1) := by decide +kernel
theorem d_Judge_hoursAmiss_20 : decode b_Judge_hoursAmiss 20 = .ok (.lload 5, 2) := by decide +kernel
theorem d_Judge_hoursAmiss_22 : decode b_Judge_hoursAmiss 22 = .ok (.aload_n 1, 1) := by decide +kernel
theorem d_Judge_hoursAmiss_23 : decode b_Judge_hoursAmiss 23 = .ok (.invokevirtual 85, 3) := by decide +kernel
theorem d_Judge_hoursAmiss_26 : decode b_Judge_hoursAmiss 26 = .ok (.lstore 7, 2) := by decide +kernel
theorem d_Judge_hoursAmiss_28 : decode b_Judge_hoursAmiss 28 = .ok (.iload_n 3, 1) := by decide +kernel
theorem d_Judge_hoursAmiss_29 : decode b_Judge_hoursAmiss 29 = .ok (.iconst 1, 1) := by decide +kernel
theorem d_Judge_hoursAmiss_30 : decode b_Judge_hoursAmiss 30 = .ok (.iadd, 1) := by decide +kernel
theorem d_Judge_hoursAmiss_31 : decode b_Judge_hoursAmiss 31 = .ok (.istore 9, 2) := by decide +kernel
theorem d_Judge_hoursAmiss_33 : decode b_Judge_hoursAmiss 33 = .ok (.iload 9, 2) := by decide +kernel
theorem d_Judge_hoursAmiss_35 : decode b_Judge_hoursAmiss 35 = .ok (.iload 4, 2) := by decide +kernel
theorem d_Judge_hoursAmiss_37 : decode b_Judge_hoursAmiss 37 = .ok (.if_icmp .gt 73, 3) := by decide +kernel
theorem d_Judge_hoursAmiss_40 : decode b_Judge_hoursAmiss 40 = .ok (.lload 5, 2) := by decide +kernel
theorem d_Judge_hoursAmiss_42 : decode b_Judge_hoursAmiss 42 = .ok (.aload_n 0, 1) := by decide +kernel
theorem d_Judge_hoursAmiss_43 : decode b_Judge_hoursAmiss 43 = .ok (.getfield 9, 3) := by decide +kernel
theorem d_Judge_hoursAmiss_46 : decode b_Judge_hoursAmiss 46 = .ok (.getfield 118, 3) := by decide +kernel
theorem d_Judge_hoursAmiss_49 : decode b_Judge_hoursAmiss 49 = .ok (.aload_n 0, 1) := by decide +kernel
theorem d_Judge_hoursAmiss_50 : decode b_Judge_hoursAmiss 50 = .ok (.getfield 9, 3) := by decide +kernel
theorem d_Judge_hoursAmiss_53 : decode b_Judge_hoursAmiss 53 = .ok (.iload_n 2, 1) := by decide +kernel
theorem d_Judge_hoursAmiss_54 : decode b_Judge_hoursAmiss 54 = .ok (.iload 9, 2) := by decide +kernel
theorem d_Judge_hoursAmiss_56 : decode b_Judge_hoursAmiss 56 = .ok (.aload_n 1, 1) := by decide +kernel
theorem d_Judge_hoursAmiss_57 : decode b_Judge_hoursAmiss 57 = .ok (.getfield 54, 3) := by decide +kernel
theorem d_Judge_hoursAmiss_60 : decode b_Judge_hoursAmiss 60 = .ok (.iadd, 1) := by decide +kernel
theorem d_Judge_hoursAmiss_61 : decode b_Judge_hoursAmiss 61 = .ok (.iconst 1, 1) := by decide +kernel
theorem d_Judge_hoursAmiss_62 : decode b_Judge_hoursAmiss 62 = .ok (.isub, 1) := by decide +kernel
theorem d_Judge_hoursAmiss_63 : decode b_Judge_hoursAmiss 63 = .ok (.invokevirtual 98, 3) := by decide +kernel
theorem d_Judge_hoursAmiss_66 : decode b_Judge_hoursAmiss 66 = .ok (.iaload, 1) := by decide +kernel
theorem d_Judge_hoursAmiss_67 : decode b_Judge_hoursAmiss 67 = .ok (.aload_n 0, 1) := by decide +kernel
theorem d_Judge_hoursAmiss_68 : decode b_Judge_hoursAmiss 68 = .ok (.getfield 9, 3) := by decide +kernel
theorem d_Judge_hoursAmiss_71 : decode b_Judge_hoursAmiss 71 = .ok (.getfield 118, 3) := by decide +kernel
theorem d_Judge_hoursAmiss_74 : decode b_Judge_hoursAmiss 74 = .ok (.aload_n 0, 1) := by decide +kernel
theorem d_Judge_hoursAmiss_75 : decode b_Judge_hoursAmiss 75 = .ok (.getfield 9, 3) := by decide +kernel
theorem d_Judge_hoursAmiss_78 : decode b_Judge_hoursAmiss 78 = .ok (.iload_n 2, 1) := by decide +kernel
theorem d_Judge_hoursAmiss_79 : decode b_Judge_hoursAmiss 79 = .ok (.iload 9, 2) := by decide +kernel
theorem d_Judge_hoursAmiss_81 : decode b_Judge_hoursAmiss 81 = .ok (.iconst 1, 1) := by decide +kernel
theorem d_Judge_hoursAmiss_82 : decode b_Judge_hoursAmiss 82 = .ok (.isub, 1) := by decide +kernel
theorem d_Judge_hoursAmiss_83 : decode b_Judge_hoursAmiss 83 = .ok (.invokevirtual 98, 3) := by decide +kernel
theorem d_Judge_hoursAmiss_86 : decode b_Judge_hoursAmiss 86 = .ok (.iaload, 1) := by decide +kernel
theorem d_Judge_hoursAmiss_87 : decode b_Judge_hoursAmiss 87 = .ok (.isub, 1) := by decide +kernel
theorem d_Judge_hoursAmiss_88 : decode b_Judge_hoursAmiss 88 = .ok (.i2l, 1) := by decide +kernel
theorem d_Judge_hoursAmiss_89 : decode b_Judge_hoursAmiss 89 = .ok (.ladd, 1) := by decide +kernel
theorem d_Judge_hoursAmiss_90 : decode b_Judge_hoursAmiss 90 = .ok (.lstore 5, 2) := by decide +kernel
theorem d_Judge_hoursAmiss_92 : decode b_Judge_hoursAmiss 92 = .ok (.lload 7, 2) := by decide +kernel
theorem d_Judge_hoursAmiss_94 : decode b_Judge_hoursAmiss 94 = .ok (.aload_n 0, 1) := by decide +kernel
theorem d_Judge_hoursAmiss_95 : decode b_Judge_hoursAmiss 95 = .ok (.lload 5, 2) := by decide +kernel
theorem d_Judge_hoursAmiss_97 : decode b_Judge_hoursAmiss 97 = .ok (.aload_n 1, 1) := by decide +kernel
theorem d_Judge_hoursAmiss_98 : decode b_Judge_hoursAmiss 98 = .ok (.invokevirtual 85, 3) := by decide +kernel
theorem d_Judge_hoursAmiss_101 : decode b_Judge_hoursAmiss 101 = .ok (.ladd, 1) := by decide +kernel
theorem d_Judge_hoursAmiss_102 : decode b_Judge_hoursAmiss 102 = .ok (.lstore 7, 2) := by decide +kernel
theorem d_Judge_hoursAmiss_104 : decode b_Judge_hoursAmiss 104 = .ok (.iinc 9 1, 3) := by decide +kernel
theorem d_Judge_hoursAmiss_107 : decode b_Judge_hoursAmiss 107 = .ok (.goto (-74), 3) := by decide +kernel
theorem d_Judge_hoursAmiss_110 : decode b_Judge_hoursAmiss 110 = .ok (.lload 7, 2) := by decide +kernel
theorem d_Judge_hoursAmiss_112 : decode b_Judge_hoursAmiss 112 = .ok (.lreturn, 1) := by decide +kernel
theorem d_Judge_matches_0 : decode b_Judge_matches 0 = .ok (.aload_n 0, 1) := by decide +kernel
theorem d_Judge_matches_1 : decode b_Judge_matches 1 = .ok (.getfield 9, 3) := by decide +kernel
theorem d_Judge_matches_4 : decode b_Judge_matches 4 = .ok (.getfield 108, 3) := by decide +kernel
theorem d_Judge_matches_7 : decode b_Judge_matches 7 = .ok (.iload_n 2, 1) := by decide +kernel
theorem d_Judge_matches_8 : decode b_Judge_matches 8 = .ok (.aaload, 1) := by decide +kernel
theorem d_Judge_matches_9 : decode b_Judge_matches 9 = .ok (.astore_n 3, 1) := by decide +kernel
theorem d_Judge_matches_10 : decode b_Judge_matches 10 = .ok (.lconst 0, 1) := by decide +kernel
theorem d_Judge_matches_11 : decode b_Judge_matches 11 = .ok (.lstore 4, 2) := by decide +kernel
theorem d_Judge_matches_13 : decode b_Judge_matches 13 = .ok (.iconst 0, 1) := by decide +kernel
theorem d_Judge_matches_14 : decode b_Judge_matches 14 = .ok (.istore 6, 2) := by decide +kernel
theorem d_Judge_matches_16 : decode b_Judge_matches 16 = .ok (.iconst 0, 1) := by decide +kernel
theorem d_Judge_matches_17 : decode b_Judge_matches 17 = .ok (.istore 7, 2) := by decide +kernel
theorem d_Judge_matches_19 : decode b_Judge_matches 19 = .ok (.iload 7, 2) := by decide +kernel
theorem d_Judge_matches_21 : decode b_Judge_matches 21 = .ok (.aload_n 3, 1) := by decide +kernel
theorem d_Judge_matches_22 : decode b_Judge_matches 22 = .ok (.arraylength, 1) := by decide +kernel
theorem d_Judge_matches_23 : decode b_Judge_matches 23 = .ok (.if_icmp .ge 55, 3) := by decide +kernel
theorem d_Judge_matches_26 : decode b_Judge_matches 26 = .ok (.aload_n 1, 1) := by decide +kernel
theorem d_Judge_matches_27 : decode b_Judge_matches 27 = .ok (.iload 6, 2) := by decide +kernel
theorem d_Judge_matches_29 : decode b_Judge_matches 29 = .ok (.invokevirtual 121, 3) := by decide +kernel
theorem d_Judge_matches_32 : decode b_Judge_matches 32 = .ok (.aload_n 1, 1) := by decide +kernel
theorem d_Judge_matches_33 : decode b_Judge_matches 33 = .ok (.getfield 127, 3) := by decide +kernel
theorem d_Judge_matches_36 : decode b_Judge_matches 36 = .ok (.ior, 1) := by decide +kernel
theorem d_Judge_matches_37 : decode b_Judge_matches 37 = .ok (.aload_n 1, 1) := by decide +kernel
theorem d_Judge_matches_38 : decode b_Judge_matches 38 = .ok (.getfield 130, 3) := by decide +kernel
theorem d_Judge_matches_41 : decode b_Judge_matches 41 = .ok (.aload_n 3, 1) := by decide +kernel
theorem d_Judge_matches_42 : decode b_Judge_matches 42 = .ok (.iload 7, 2) := by decide +kernel
theorem d_Judge_matches_44 : decode b_Judge_matches 44 = .ok (.iaload, 1) := by decide +kernel
theorem d_Judge_matches_45 : decode b_Judge_matches 45 = .ok (.iaload, 1) := by decide +kernel
theorem d_Judge_matches_46 : decode b_Judge_matches 46 = .ok (.iand, 1) := by decide +kernel
theorem d_Judge_matches_47 : decode b_Judge_matches 47 = .ok (.istore 6, 2) := by decide +kernel
theorem d_Judge_matches_49 : decode b_Judge_matches 49 = .ok (.iload 7, 2) := by decide +kernel
theorem d_Judge_matches_51 : decode b_Judge_matches 51 = .ok (.bipush 7, 2) := by decide +kernel
theorem d_Judge_matches_53 : decode b_Judge_matches 53 = .ok (.if_icmp .lt 19, 3) := by decide +kernel
theorem d_Judge_matches_56 : decode b_Judge_matches 56 = .ok (.iload 6, 2) := by decide +kernel
theorem d_Judge_matches_58 : decode b_Judge_matches 58 = .ok (.aload_n 1, 1) := by decide +kernel
theorem d_Judge_matches_59 : decode b_Judge_matches 59 = .ok (.getfield 133, 3) := by decide +kernel
theorem d_Judge_matches_62 : decode b_Judge_matches 62 = .ok (.iand, 1) := by decide +kernel
theorem d_Judge_matches_63 : decode b_Judge_matches 63 = .ok (.ifCond .eq 9, 3) := by decide +kernel
theorem d_Judge_matches_66 : decode b_Judge_matches 66 = .ok (.lload 4, 2) := by decide +kernel
theorem d_Judge_matches_68 : decode b_Judge_matches 68 = .ok (.lconst 1, 1) := by decide +kernel
theorem d_Judge_matches_69 : decode b_Judge_matches 69 = .ok (.ladd, 1) := by decide +kernel
theorem d_Judge_matches_70 : decode b_Judge_matches 70 = .ok (.lstore 4, 2) := by decide +kernel
theorem d_Judge_matches_72 : decode b_Judge_matches 72 = .ok (.iinc 7 1, 3) := by decide +kernel
theorem d_Judge_matches_75 : decode b_Judge_matches 75 = .ok (.goto (-56), 3) := by decide +kernel
theorem d_Judge_matches_78 : decode b_Judge_matches 78 = .ok (.lload 4, 2) := by decide +kernel
theorem d_Judge_matches_80 : decode b_Judge_matches 80 = .ok (.lreturn, 1) := by decide +kernel
theorem d_Judge_noWord_0 : decode b_Judge_noWord 0 = .ok (.aload_n 0, 1) := by decide +kernel
theorem d_Judge_noWord_1 : decode b_Judge_noWord 1 = .ok (.getfield 9, 3) := by decide +kernel
theorem d_Judge_noWord_4 : decode b_Judge_noWord 4 = .ok (.getfield 108, 3) := by decide +kernel
theorem d_Judge_noWord_7 : decode b_Judge_noWord 7 = .ok (.iload_n 2, 1) := by decide +kernel
theorem d_Judge_noWord_8 : decode b_Judge_noWord 8 = .ok (.aaload, 1) := by decide +kernel
theorem d_Judge_noWord_9 : decode b_Judge_noWord 9 = .ok (.astore_n 3, 1) := by decide +kernel
theorem d_Judge_noWord_10 : decode b_Judge_noWord 10 = .ok (.aload_n 1, 1) := by decide +kernel
theorem d_Judge_noWord_11 : decode b_Judge_noWord 11 = .ok (.getfield 127, 3) := by decide +kernel
theorem d_Judge_noWord_14 : decode b_Judge_noWord 14 = .ok (.istore 4, 2) := by decide +kernel
theorem d_Judge_noWord_16 : decode b_Judge_noWord 16 = .ok (.iconst 0, 1) := by decide +kernel
theorem d_Judge_noWord_17 : decode b_Judge_noWord 17 = .ok (.istore 5, 2) := by decide +kernel
theorem d_Judge_noWord_19 : decode b_Judge_noWord 19 = .ok (.bipush 7, 2) := by decide +kernel
theorem d_Judge_noWord_21 : decode b_Judge_noWord 21 = .ok (.istore 6, 2) := by decide +kernel
theorem d_Judge_noWord_23 : decode b_Judge_noWord 23 = .ok (.iload 6, 2) := by decide +kernel
theorem d_Judge_noWord_25 : decode b_Judge_noWord 25 = .ok (.aload_n 3, 1) := by decide +kernel
theorem d_Judge_noWord_26 : decode b_Judge_noWord 26 = .ok (.arraylength, 1) := by decide +kernel
theorem d_Judge_noWord_27 : decode b_Judge_noWord 27 = .ok (.if_icmp .ge 31, 3) := by decide +kernel
theorem d_Judge_noWord_30 : decode b_Judge_noWord 30 = .ok (.iload 4, 2) := by decide +kernel
theorem d_Judge_noWord_32 : decode b_Judge_noWord 32 = .ok (.aload_n 1, 1) := by decide +kernel
theorem d_Judge_noWord_33 : decode b_Judge_noWord 33 = .ok (.getfield 130, 3) := by decide +kernel
theorem d_Judge_noWord_36 : decode b_Judge_noWord 36 = .ok (.aload_n 3, 1) := by decide +kernel
theorem d_Judge_noWord_37 : decode b_Judge_noWord 37 = .ok (.iload 6, 2) := by decide +kernel
theorem d_Judge_noWord_39 : decode b_Judge_noWord 39 = .ok (.iaload, 1) := by decide +kernel
theorem d_Judge_noWord_40 : decode b_Judge_noWord 40 = .ok (.iaload, 1) := by decide +kernel
theorem d_Judge_noWord_41 : decode b_Judge_noWord 41 = .ok (.iand, 1) := by decide +kernel
theorem d_Judge_noWord_42 : decode b_Judge_noWord 42 = .ok (.istore 5, 2) := by decide +kernel
theorem d_Judge_noWord_44 : decode b_Judge_noWord 44 = .ok (.aload_n 1, 1) := by decide +kernel
theorem d_Judge_noWord_45 : decode b_Judge_noWord 45 = .ok (.iload 5, 2) := by decide +kernel
theorem d_Judge_noWord_47 : decode b_Judge_noWord 47 = .ok (.invokevirtual 121, 3) := by decide +kernel
theorem d_Judge_noWord_50 : decode b_Judge_noWord 50 = .ok (.istore 4, 2) := by decide +kernel
theorem d_Judge_noWord_52 : decode b_Judge_noWord 52 = .ok (.iinc 6 1, 3) := by decide +kernel
theorem d_Judge_noWord_55 : decode b_Judge_noWord 55 = .ok (.goto (-32), 3) := by decide +kernel
theorem d_Judge_noWord_58 : decode b_Judge_noWord 58 = .ok (.iload 5, 2) := by decide +kernel
theorem d_Judge_noWord_60 : decode b_Judge_noWord 60 = .ok (.aload_n 1, 1) := by decide +kernel
theorem d_Judge_noWord_61 : decode b_Judge_noWord 61 = .ok (.getfield 133, 3) := by decide +kernel
theorem d_Judge_noWord_64 : decode b_Judge_noWord 64 = .ok (.iand, 1) := by decide +kernel
theorem d_Judge_noWord_65 : decode b_Judge_noWord 65 = .ok (.ifCond .eq 7, 3) := by decide +kernel
theorem d_Judge_noWord_68 : decode b_Judge_noWord 68 = .ok (.lconst 0, 1) := by decide +kernel
theorem d_Judge_noWord_69 : decode b_Judge_noWord 69 = .ok (.goto 4, 3) := by decide +kernel
theorem d_Judge_noWord_72 : decode b_Judge_noWord 72 = .ok (.lconst 1, 1) := by decide +kernel
theorem d_Judge_noWord_73 : decode b_Judge_noWord 73 = .ok (.lreturn, 1) := by decide +kernel
theorem d_Judge_ofPerson_0 : decode b_Judge_ofPerson 0 = .ok (.aload_n 1, 1) := by decide +kernel
theorem d_Judge_ofPerson_1 : decode b_Judge_ofPerson 1 = .ok (.getfield 15, 3) := by decide +kernel
theorem d_Judge_ofPerson_4 : decode b_Judge_ofPerson 4 = .ok (.tableswitch 102 0 4 #[36, 52, 62, 82, 92], 36) := by decide +kernel
theorem d_Judge_ofPerson_40 : decode b_Judge_ofPerson 40 = .ok (.aload_n 0, 1) := by decide +kernel
theorem d_Judge_ofPerson_41 : decode b_Judge_ofPerson 41 = .ok (.iload_n 2, 1) := by decide +kernel
theorem d_Judge_ofPerson_42 : decode b_Judge_ofPerson 42 = .ok (.iconst 0, 1) := by decide +kernel
theorem d_Judge_ofPerson_43 : decode b_Judge_ofPerson 43 = .ok (.aload_n 0, 1) := by decide +kernel
theorem d_Judge_ofPerson_44 : decode b_Judge_ofPerson 44 = .ok (.getfield 9, 3) := by decide +kernel
theorem d_Judge_ofPerson_47 : decode b_Judge_ofPerson 47 = .ok (.getfield 28, 3) := by decide +kernel
theorem d_Judge_ofPerson_50 : decode b_Judge_ofPerson 50 = .ok (.iconst 1, 1) := by decide +kernel
theorem d_Judge_ofPerson_51 : decode b_Judge_ofPerson 51 = .ok (.isub, 1) := by decide +kernel
theorem d_Judge_ofPerson_52 : decode b_Judge_ofPerson 52 = .ok (.invokevirtual 43, 3) := by decide +kernel
theorem d_Judge_ofPerson_55 : decode b_Judge_ofPerson 55 = .ok (.lreturn, 1) := by decide +kernel
theorem d_Judge_ofPerson_56 : decode b_Judge_ofPerson 56 = .ok (.aload_n 0, 1) := by decide +kernel
theorem d_Judge_ofPerson_57 : decode b_Judge_ofPerson 57 = .ok (.aload_n 1, 1) := by decide +kernel
theorem d_Judge_ofPerson_58 : decode b_Judge_ofPerson 58 = .ok (.getfield 47, 3) := by decide +kernel
theorem d_Judge_ofPerson_61 : decode b_Judge_ofPerson 61 = .ok (.iload_n 2, 1) := by decide +kernel
theorem d_Judge_ofPerson_62 : decode b_Judge_ofPerson 62 = .ok (.invokevirtual 50, 3) := by decide +kernel
