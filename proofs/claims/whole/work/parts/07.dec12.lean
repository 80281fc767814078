theorem d_Mo_broken_51 : decode b_Mo_broken 51 = .ok (.aload_n 0, 1) := by decide +kernel
theorem d_Mo_broken_52 : decode b_Mo_broken 52 = .ok (.getfield 156, 3) := by decide +kernel
theorem d_Mo_broken_55 : decode b_Mo_broken 55 = .ok (.if_icmp .lt 7, 3) := by decide +kernel
theorem d_Mo_broken_58 : decode b_Mo_broken 58 = .ok (.ldc2_w 366, 3) := by decide +kernel
theorem d_Mo_broken_61 : decode b_Mo_broken 61 = .ok (.lreturn, 1) := by decide +kernel
theorem d_Mo_broken_62 : decode b_Mo_broken 62 = .ok (.iload_n 3, 1) := by decide +kernel
theorem d_Mo_broken_63 : decode b_Mo_broken 63 = .ok (.iconst 5, 1) := by decide +kernel
theorem d_Mo_broken_64 : decode b_Mo_broken 64 = .ok (.if_icmp .ne 9, 3) := by decide +kernel
theorem d_Mo_broken_67 : decode b_Mo_broken 67 = .ok (.aload_n 0, 1) := by decide +kernel
theorem d_Mo_broken_68 : decode b_Mo_broken 68 = .ok (.iload_n 1, 1) := by decide +kernel
theorem d_Mo_broken_69 : decode b_Mo_broken 69 = .ok (.invokevirtual 368, 3) := by decide +kernel
theorem d_Mo_broken_72 : decode b_Mo_broken 72 = .ok (.lreturn, 1) := by decide +kernel
theorem d_Mo_broken_73 : decode b_Mo_broken 73 = .ok (.iload_n 2, 1) := by decide +kernel
theorem d_Mo_broken_74 : decode b_Mo_broken 74 = .ok (.ifCond .lt 25, 3) := by decide +kernel
theorem d_Mo_broken_77 : decode b_Mo_broken 77 = .ok (.iload_n 3, 1) := by decide +kernel
theorem d_Mo_broken_78 : decode b_Mo_broken 78 = .ok (.bipush 6, 2) := by decide +kernel
theorem d_Mo_broken_80 : decode b_Mo_broken 80 = .ok (.if_icmp .ne 12, 3) := by decide +kernel
theorem d_Mo_broken_83 : decode b_Mo_broken 83 = .ok (.aload_n 0, 1) := by decide +kernel
theorem d_Mo_broken_84 : decode b_Mo_broken 84 = .ok (.iload_n 1, 1) := by decide +kernel
theorem d_Mo_broken_85 : decode b_Mo_broken 85 = .ok (.iload_n 2, 1) := by decide +kernel
theorem d_Mo_broken_86 : decode b_Mo_broken 86 = .ok (.invokevirtual 371, 3) := by decide +kernel
theorem d_Mo_broken_89 : decode b_Mo_broken 89 = .ok (.goto 9, 3) := by decide +kernel
theorem d_Mo_broken_92 : decode b_Mo_broken 92 = .ok (.aload_n 0, 1) := by decide +kernel
theorem d_Mo_broken_93 : decode b_Mo_broken 93 = .ok (.iload_n 1, 1) := by decide +kernel
theorem d_Mo_broken_94 : decode b_Mo_broken 94 = .ok (.iload_n 2, 1) := by decide +kernel
theorem d_Mo_broken_95 : decode b_Mo_broken 95 = .ok (.invokevirtual 374, 3) := by decide +kernel
theorem d_Mo_broken_98 : decode b_Mo_broken 98 = .ok (.lreturn, 1) := by decide +kernel
theorem d_Mo_broken_99 : decode b_Mo_broken 99 = .ok (.lconst 0, 1) := by decide +kernel
theorem d_Mo_broken_100 : decode b_Mo_broken 100 = .ok (.lstore 4, 2) := by decide +kernel
theorem d_Mo_broken_102 : decode b_Mo_broken 102 = .ok (.iconst 0, 1) := by decide +kernel
theorem d_Mo_broken_103 : decode b_Mo_broken 103 = .ok (.istore 6, 2) := by decide +kernel
theorem d_Mo_broken_105 : decode b_Mo_broken 105 = .ok (.iload 6, 2) := by decide +kernel
theorem d_Mo_broken_107 : decode b_Mo_broken 107 = .ok (.iload_n 3, 1) := by decide +kernel
theorem d_Mo_broken_108 : decode b_Mo_broken 108 = .ok (.bipush 6, 2) := by decide +kernel
theorem d_Mo_broken_110 : decode b_Mo_broken 110 = .ok (.if_icmp .ne 10, 3) := by decide +kernel
theorem d_Mo_broken_113 : decode b_Mo_broken 113 = .ok (.aload_n 0, 1) := by decide +kernel
theorem d_Mo_broken_114 : decode b_Mo_broken 114 = .ok (.getfield 159, 3) := by decide +kernel
theorem d_Mo_broken_117 : decode b_Mo_broken 117 = .ok (.goto 7, 3) := by decide +kernel
theorem d_Mo_broken_120 : decode b_Mo_broken 120 = .ok (.aload_n 0, 1) := by decide +kernel
theorem d_Mo_broken_121 : decode b_Mo_broken 121 = .ok (.getfield 156, 3) := by decide +kernel
theorem d_Mo_broken_124 : decode b_Mo_broken 124 = .ok (.if_icmp .ge 37, 3) := by decide +kernel
theorem d_Mo_broken_127 : decode b_Mo_broken 127 = .ok (.lload 4, 2) := by decide +kernel
theorem d_Mo_broken_129 : decode b_Mo_broken 129 = .ok (.iload_n 3, 1) := by decide +kernel
theorem d_Mo_broken_130 : decode b_Mo_broken 130 = .ok (.bipush 6, 2) := by decide +kernel
theorem d_Mo_broken_132 : decode b_Mo_broken 132 = .ok (.if_icmp .ne 13, 3) := by decide +kernel
theorem d_Mo_broken_135 : decode b_Mo_broken 135 = .ok (.aload_n 0, 1) := by decide +kernel
theorem d_Mo_broken_136 : decode b_Mo_broken 136 = .ok (.iload_n 1, 1) := by decide +kernel
theorem d_Mo_broken_137 : decode b_Mo_broken 137 = .ok (.iload 6, 2) := by decide +kernel
theorem d_Mo_broken_139 : decode b_Mo_broken 139 = .ok (.invokevirtual 371, 3) := by decide +kernel
theorem d_Mo_broken_142 : decode b_Mo_broken 142 = .ok (.goto 10, 3) := by decide +kernel
theorem d_Mo_broken_145 : decode b_Mo_broken 145 = .ok (.aload_n 0, 1) := by decide +kernel
theorem d_Mo_broken_146 : decode b_Mo_broken 146 = .ok (.iload_n 1, 1) := by decide +kernel
theorem d_Mo_broken_147 : decode b_Mo_broken 147 = .ok (.iload 6, 2) := by decide +kernel
theorem d_Mo_broken_149 : decode b_Mo_broken 149 = .ok (.invokevirtual 374, 3) := by decide +kernel
theorem d_Mo_broken_152 : decode b_Mo_broken 152 = .ok (.ladd, 1) := by decide +kernel
theorem d_Mo_broken_153 : decode b_Mo_broken 153 = .ok (.lstore 4, 2) := by decide +kernel
theorem d_Mo_broken_155 : decode b_Mo_broken 155 = .ok (.iinc 6 1, 3) := by decide +kernel
theorem d_Mo_broken_158 : decode b_Mo_broken 158 = .ok (.goto (-53), 3) := by decide +kernel
theorem d_Mo_broken_161 : decode b_Mo_broken 161 = .ok (.lload 4, 2) := by decide +kernel
theorem d_Mo_broken_163 : decode b_Mo_broken 163 = .ok (.lreturn, 1) := by decide +kernel
theorem d_Mo_score_0 : decode b_Mo_score 0 = .ok (.lconst 0, 1) := by decide +kernel
theorem d_Mo_score_1 : decode b_Mo_score 1 = .ok (.lstore_n 1, 1) := by decide +kernel
theorem d_Mo_score_2 : decode b_Mo_score 2 = .ok (.iconst 0, 1) := by decide +kernel
theorem d_Mo_score_3 : decode b_Mo_score 3 = .ok (.istore_n 3, 1) := by decide +kernel
theorem d_Mo_score_4 : decode b_Mo_score 4 = .ok (.iload_n 3, 1) := by decide +kernel
theorem d_Mo_score_5 : decode b_Mo_score 5 = .ok (.aload_n 0, 1) := by decide +kernel
theorem d_Mo_score_6 : decode b_Mo_score 6 = .ok (.getfield 219, 3) := by decide +kernel
theorem d_Mo_score_9 : decode b_Mo_score 9 = .ok (.if_icmp .ge 26, 3) := by decide +kernel
theorem d_Mo_score_12 : decode b_Mo_score 12 = .ok (.lload_n 1, 1) := by decide +kernel
theorem d_Mo_score_13 : decode b_Mo_score 13 = .ok (.aload_n 0, 1) := by decide +kernel
theorem d_Mo_score_14 : decode b_Mo_score 14 = .ok (.iload_n 3, 1) := by decide +kernel
theorem d_Mo_score_15 : decode b_Mo_score 15 = .ok (.iconst (-1), 1) := by decide +kernel
theorem d_Mo_score_16 : decode b_Mo_score 16 = .ok (.invokevirtual 377, 3) := by decide +kernel
theorem d_Mo_score_19 : decode b_Mo_score 19 = .ok (.aload_n 0, 1) := by decide +kernel
theorem d_Mo_score_20 : decode b_Mo_score 20 = .ok (.getfield 45, 3) := by decide +kernel
theorem d_Mo_score_23 : decode b_Mo_score 23 = .ok (.iload_n 3, 1) := by decide +kernel
theorem d_Mo_score_24 : decode b_Mo_score 24 = .ok (.iaload, 1) := by decide +kernel
theorem d_Mo_score_25 : decode b_Mo_score 25 = .ok (.i2l, 1) := by decide +kernel
theorem d_Mo_score_26 : decode b_Mo_score 26 = .ok (.lmul, 1) := by decide +kernel
theorem d_Mo_score_27 : decode b_Mo_score 27 = .ok (.ladd, 1) := by decide +kernel
theorem d_Mo_score_28 : decode b_Mo_score 28 = .ok (.lstore_n 1, 1) := by decide +kernel
theorem d_Mo_score_29 : decode b_Mo_score 29 = .ok (.iinc 3 1, 3) := by decide +kernel
theorem d_Mo_score_32 : decode b_Mo_score 32 = .ok (.goto (-28), 3) := by decide +kernel
theorem d_Mo_score_35 : decode b_Mo_score 35 = .ok (.iconst 0, 1) := by decide +kernel
theorem d_Mo_score_36 : decode b_Mo_score 36 = .ok (.istore_n 3, 1) := by decide +kernel
theorem d_Mo_score_37 : decode b_Mo_score 37 = .ok (.iload_n 3, 1) := by decide +kernel
theorem d_Mo_score_38 : decode b_Mo_score 38 = .ok (.aload_n 0, 1) := by decide +kernel
theorem d_Mo_score_39 : decode b_Mo_score 39 = .ok (.getfield 156, 3) := by decide +kernel
theorem d_Mo_score_42 : decode b_Mo_score 42 = .ok (.if_icmp .ge 37, 3) := by decide +kernel
theorem d_Mo_score_45 : decode b_Mo_score 45 = .ok (.iconst 0, 1) := by decide +kernel
theorem d_Mo_score_46 : decode b_Mo_score 46 = .ok (.istore 4, 2) := by decide +kernel
theorem d_Mo_score_48 : decode b_Mo_score 48 = .ok (.iload 4, 2) := by decide +kernel
theorem d_Mo_score_50 : decode b_Mo_score 50 = .ok (.aload_n 0, 1) := by decide +kernel
theorem d_Mo_score_51 : decode b_Mo_score 51 = .ok (.getfield 159, 3) := by decide +kernel
theorem d_Mo_score_54 : decode b_Mo_score 54 = .ok (.if_icmp .ge 19, 3) := by decide +kernel
theorem d_Mo_score_57 : decode b_Mo_score 57 = .ok (.lload_n 1, 1) := by decide +kernel
theorem d_Mo_score_58 : decode b_Mo_score 58 = .ok (.aload_n 0, 1) := by decide +kernel
theorem d_Mo_score_59 : decode b_Mo_score 59 = .ok (.iload_n 3, 1) := by decide +kernel
theorem d_Mo_score_60 : decode b_Mo_score 60 = .ok (.iload 4, 2) := by decide +kernel
theorem d_Mo_score_62 : decode b_Mo_score 62 = .ok (.invokevirtual 380, 3) := by decide +kernel
theorem d_Mo_score_65 : decode b_Mo_score 65 = .ok (.ladd, 1) := by decide +kernel
theorem d_Mo_score_66 : decode b_Mo_score 66 = .ok (.lstore_n 1, 1) := by decide +kernel
theorem d_Mo_score_67 : decode b_Mo_score 67 = .ok (.iinc 4 1, 3) := by decide +kernel
theorem d_Mo_score_70 : decode b_Mo_score 70 = .ok (.goto (-22), 3) := by decide +kernel
theorem d_Mo_score_73 : decode b_Mo_score 73 = .ok (.iinc 3 1, 3) := by decide +kernel
theorem d_Mo_score_76 : decode b_Mo_score 76 = .ok (.goto (-39), 3) := by decide +kernel
theorem d_Mo_score_79 : decode b_Mo_score 79 = .ok (.lload_n 1, 1) := by decide +kernel
theorem d_Mo_score_80 : decode b_Mo_score 80 = .ok (.lreturn, 1) := by decide +kernel
theorem d_Mo_near_0 : decode b_Mo_near 0 = .ok (.aload_n 0, 1) := by decide +kernel
theorem d_Mo_near_1 : decode b_Mo_near 1 = .ok (.iload_n 1, 1) := by decide +kernel
theorem d_Mo_near_2 : decode b_Mo_near 2 = .ok (.iload_n 2, 1) := by decide +kernel
theorem d_Mo_near_3 : decode b_Mo_near 3 = .ok (.invokevirtual 380, 3) := by decide +kernel
theorem d_Mo_near_6 : decode b_Mo_near 6 = .ok (.lstore_n 3, 1) := by decide +kernel
theorem d_Mo_near_7 : decode b_Mo_near 7 = .ok (.iconst 0, 1) := by decide +kernel
theorem d_Mo_near_8 : decode b_Mo_near 8 = .ok (.istore 5, 2) := by decide +kernel
theorem d_Mo_near_10 : decode b_Mo_near 10 = .ok (.iload 5, 2) := by decide +kernel
theorem d_Mo_near_12 : decode b_Mo_near 12 = .ok (.aload_n 0, 1) := by decide +kernel
theorem d_Mo_near_13 : decode b_Mo_near 13 = .ok (.getfield 219, 3) := by decide +kernel
theorem d_Mo_near_16 : decode b_Mo_near 16 = .ok (.if_icmp .ge 70, 3) := by decide +kernel
theorem d_Mo_near_19 : decode b_Mo_near 19 = .ok (.lload_n 3, 1) := by decide +kernel
theorem d_Mo_near_20 : decode b_Mo_near 20 = .ok (.aload_n 0, 1) := by decide +kernel
theorem d_Mo_near_21 : decode b_Mo_near 21 = .ok (.getfield 45, 3) := by decide +kernel
theorem d_Mo_near_24 : decode b_Mo_near 24 = .ok (.iload 5, 2) := by decide +kernel
theorem d_Mo_near_26 : decode b_Mo_near 26 = .ok (.iaload, 1) := by decide +kernel
theorem d_Mo_near_27 : decode b_Mo_near 27 = .ok (.i2l, 1) := by decide +kernel
theorem d_Mo_near_28 : decode b_Mo_near 28 = .ok (.aload_n 0, 1) := by decide +kernel
theorem d_Mo_near_29 : decode b_Mo_near 29 = .ok (.getfield 42, 3) := by decide +kernel
theorem d_Mo_near_32 : decode b_Mo_near 32 = .ok (.iload 5, 2) := by decide +kernel
theorem d_Mo_near_34 : decode b_Mo_near 34 = .ok (.iaload, 1) := by decide +kernel
theorem d_Mo_near_35 : decode b_Mo_near 35 = .ok (.iconst 5, 1) := by decide +kernel
theorem d_Mo_near_36 : decode b_Mo_near 36 = .ok (.if_icmp .ne 12, 3) := by decide +kernel
theorem d_Mo_near_39 : decode b_Mo_near 39 = .ok (.aload_n 0, 1) := by decide +kernel
theorem d_Mo_near_40 : decode b_Mo_near 40 = .ok (.iload 5, 2) := by decide +kernel
theorem d_Mo_near_42 : decode b_Mo_near 42 = .ok (.invokevirtual 368, 3) := by decide +kernel
theorem d_Mo_near_45 : decode b_Mo_near 45 = .ok (.goto 32, 3) := by decide +kernel
theorem d_Mo_near_48 : decode b_Mo_near 48 = .ok (.aload_n 0, 1) := by decide +kernel
theorem d_Mo_near_49 : decode b_Mo_near 49 = .ok (.getfield 42, 3) := by decide +kernel
theorem d_Mo_near_52 : decode b_Mo_near 52 = .ok (.iload 5, 2) := by decide +kernel
theorem d_Mo_near_54 : decode b_Mo_near 54 = .ok (.iaload, 1) := by decide +kernel
theorem d_Mo_near_55 : decode b_Mo_near 55 = .ok (.bipush 6, 2) := by decide +kernel
theorem d_Mo_near_57 : decode b_Mo_near 57 = .ok (.if_icmp .ne 13, 3) := by decide +kernel
theorem d_Mo_near_60 : decode b_Mo_near 60 = .ok (.aload_n 0, 1) := by decide +kernel
theorem d_Mo_near_61 : decode b_Mo_near 61 = .ok (.iload 5, 2) := by decide +kernel
theorem d_Mo_near_63 : decode b_Mo_near 63 = .ok (.iload_n 2, 1) := by decide +kernel
theorem d_Mo_near_64 : decode b_Mo_near 64 = .ok (.invokevirtual 371, 3) := by decide +kernel
theorem d_Mo_near_67 : decode b_Mo_near 67 = .ok (.goto 10, 3) := by decide +kernel
theorem d_Mo_near_70 : decode b_Mo_near 70 = .ok (.aload_n 0, 1) := by decide +kernel
theorem d_Mo_near_71 : decode b_Mo_near 71 = .ok (.iload 5, 2) := by decide +kernel
theorem d_Mo_near_73 : decode b_Mo_near 73 = .ok (.iload_n 1, 1) := by decide +kernel
theorem d_Mo_near_74 : decode b_Mo_near 74 = .ok (.invokevirtual 374, 3) := by decide +kernel
theorem d_Mo_near_77 : decode b_Mo_near 77 = .ok (.lmul, 1) := by decide +kernel
theorem d_Mo_near_78 : decode b_Mo_near 78 = .ok (.ladd, 1) := by decide +kernel
theorem d_Mo_near_79 : decode b_Mo_near 79 = .ok (.lstore_n 3, 1) := by decide +kernel
theorem d_Mo_near_80 : decode b_Mo_near 80 = .ok (.iinc 5 1, 3) := by decide +kernel
theorem d_Mo_near_83 : decode b_Mo_near 83 = .ok (.goto (-73), 3) := by decide +kernel
theorem d_Mo_near_86 : decode b_Mo_near 86 = .ok (.lload_n 3, 1) := by decide +kernel
theorem d_Mo_near_87 : decode b_Mo_near 87 = .ok (.lreturn, 1) := by decide +kernel
theorem d_Mo_changed_0 : decode b_Mo_changed 0 = .ok (.aload_n 0, 1) := by decide +kernel
theorem d_Mo_changed_1 : decode b_Mo_changed 1 = .ok (.getfield 7, 3) := by decide +kernel
theorem d_Mo_changed_4 : decode b_Mo_changed 4 = .ok (.bipush 21, 2) := by decide +kernel
theorem d_Mo_changed_6 : decode b_Mo_changed 6 = .ok (.iload_n 1, 1) := by decide +kernel
theorem d_Mo_changed_7 : decode b_Mo_changed 7 = .ok (.imul, 1) := by decide +kernel
theorem d_Mo_changed_8 : decode b_Mo_changed 8 = .ok (.iload_n 2, 1) := by decide +kernel
theorem d_Mo_changed_9 : decode b_Mo_changed 9 = .ok (.iadd, 1) := by decide +kernel
theorem d_Mo_changed_10 : decode b_Mo_changed 10 = .ok (.iaload, 1) := by decide +kernel
theorem d_Mo_changed_11 : decode b_Mo_changed 11 = .ok (.istore 4, 2) := by decide +kernel
theorem d_Mo_changed_13 : decode b_Mo_changed 13 = .ok (.aload_n 0, 1) := by decide +kernel
theorem d_Mo_changed_14 : decode b_Mo_changed 14 = .ok (.iload_n 1, 1) := by decide +kernel
theorem d_Mo_changed_15 : decode b_Mo_changed 15 = .ok (.iload_n 2, 1) := by decide +kernel
theorem d_Mo_changed_16 : decode b_Mo_changed 16 = .ok (.invokevirtual 383, 3) := by decide +kernel
theorem d_Mo_changed_19 : decode b_Mo_changed 19 = .ok (.lstore 5, 2) := by decide +kernel
theorem d_Mo_changed_21 : decode b_Mo_changed 21 = .ok (.aload_n 0, 1) := by decide +kernel
theorem d_Mo_changed_22 : decode b_Mo_changed 22 = .ok (.getfield 7, 3) := by decide +kernel
theorem d_Mo_changed_25 : decode b_Mo_changed 25 = .ok (.bipush 21, 2) := by decide +kernel
theorem d_Mo_changed_27 : decode b_Mo_changed 27 = .ok (.iload_n 1, 1) := by decide +kernel
theorem d_Mo_changed_28 : decode b_Mo_changed 28 = .ok (.imul, 1) := by decide +kernel
theorem d_Mo_changed_29 : decode b_Mo_changed 29 = .ok (.iload_n 2, 1) := by decide +kernel
theorem d_Mo_changed_30 : decode b_Mo_changed 30 = .ok (.iadd, 1) := by decide +kernel
theorem d_Mo_changed_31 : decode b_Mo_changed 31 = .ok (.iload_n 3, 1) := by decide +kernel
theorem d_Mo_changed_32 : decode b_Mo_changed 32 = .ok (.iastore, 1) := by decide +kernel
theorem d_Mo_changed_33 : decode b_Mo_changed 33 = .ok (.aload_n 0, 1) := by decide +kernel
theorem d_Mo_changed_34 : decode b_Mo_changed 34 = .ok (.iload_n 1, 1) := by decide +kernel
theorem d_Mo_changed_35 : decode b_Mo_changed 35 = .ok (.iload_n 2, 1) := by decide +kernel
theorem d_Mo_changed_36 : decode b_Mo_changed 36 = .ok (.invokevirtual 383, 3) := by decide +kernel
theorem d_Mo_changed_39 : decode b_Mo_changed 39 = .ok (.lstore 7, 2) := by decide +kernel
theorem d_Mo_changed_41 : decode b_Mo_changed 41 = .ok (.aload_n 0, 1) := by decide +kernel
theorem d_Mo_changed_42 : decode b_Mo_changed 42 = .ok (.getfield 7, 3) := by decide +kernel
theorem d_Mo_changed_45 : decode b_Mo_changed 45 = .ok (.bipush 21, 2) := by decide +kernel
theorem d_Mo_changed_47 : decode b_Mo_changed 47 = .ok (.iload_n 1, 1) := by decide +kernel
theorem d_Mo_changed_48 : decode b_Mo_changed 48 = .ok (.imul, 1) := by decide +kernel
theorem d_Mo_changed_49 : decode b_Mo_changed 49 = .ok (.iload_n 2, 1) := by decide +kernel
theorem d_Mo_changed_50 : decode b_Mo_changed 50 = .ok (.iadd, 1) := by decide +kernel
theorem d_Mo_changed_51 : decode b_Mo_changed 51 = .ok (.iload 4, 2) := by decide +kernel
theorem d_Mo_changed_53 : decode b_Mo_changed 53 = .ok (.iastore, 1) := by decide +kernel
theorem d_Mo_changed_54 : decode b_Mo_changed 54 = .ok (.lload 7, 2) := by decide +kernel
theorem d_Mo_changed_56 : decode b_Mo_changed 56 = .ok (.lload 5, 2) := by decide +kernel
theorem d_Mo_changed_58 : decode b_Mo_changed 58 = .ok (.lsub, 1) := by decide +kernel
theorem d_Mo_changed_59 : decode b_Mo_changed 59 = .ok (.lreturn, 1) := by decide +kernel
theorem d_Mo_change_0 : decode b_Mo_change 0 = .ok (.aload_n 0, 1) := by decide +kernel
theorem d_Mo_change_1 : decode b_Mo_change 1 = .ok (.iload_n 1, 1) := by decide +kernel
theorem d_Mo_change_2 : decode b_Mo_change 2 = .ok (.iload_n 2, 1) := by decide +kernel
theorem d_Mo_change_3 : decode b_Mo_change 3 = .ok (.invokevirtual 350, 3) := by decide +kernel
theorem d_Mo_change_6 : decode b_Mo_change 6 = .ok (.ifCond .eq 20, 3) := by decide +kernel
theorem d_Mo_change_9 : decode b_Mo_change 9 = .ok (.iload_n 3, 1) := by decide +kernel
theorem d_Mo_change_10 : decode b_Mo_change 10 = .ok (.invokestatic 347, 3) := by decide +kernel
theorem d_Mo_change_13 : decode b_Mo_change 13 = .ok (.ifCond .eq 13, 3) := by decide +kernel
theorem d_Mo_change_16 : decode b_Mo_change 16 = .ok (.aload_n 0, 1) := by decide +kernel
theorem d_Mo_change_17 : decode b_Mo_change 17 = .ok (.iload_n 1, 1) := by decide +kernel
theorem d_Mo_change_18 : decode b_Mo_change 18 = .ok (.iload_n 2, 1) := by decide +kernel
theorem d_Mo_change_19 : decode b_Mo_change 19 = .ok (.iload_n 3, 1) := by decide +kernel
theorem d_Mo_change_20 : decode b_Mo_change 20 = .ok (.invokevirtual 386, 3) := by decide +kernel
theorem d_Mo_change_23 : decode b_Mo_change 23 = .ok (.goto 6, 3) := by decide +kernel
theorem d_Mo_change_26 : decode b_Mo_change 26 = .ok (.ldc2_w 389, 3) := by decide +kernel
theorem d_Mo_change_29 : decode b_Mo_change 29 = .ok (.lreturn, 1) := by decide +kernel
theorem d_Mo_set1_0 : decode b_Mo_set1 0 = .ok (.aload_n 0, 1) := by decide +kernel
theorem d_Mo_set1_1 : decode b_Mo_set1 1 = .ok (.getfield 393, 3) := by decide +kernel
theorem d_Mo_set1_4 : decode b_Mo_set1 4 = .ok (.aload_n 0, 1) := by decide +kernel
theorem d_Mo_set1_5 : decode b_Mo_set1 5 = .ok (.getfield 396, 3) := by decide +kernel
theorem d_Mo_set1_8 : decode b_Mo_set1 8 = .ok (.iadd, 1) := by decide +kernel
theorem d_Mo_set1_9 : decode b_Mo_set1 9 = .ok (.sipush 200, 3) := by decide +kernel
theorem d_Mo_set1_12 : decode b_Mo_set1 12 = .ok (.irem, 1) := by decide +kernel
theorem d_Mo_set1_13 : decode b_Mo_set1 13 = .ok (.istore_n 3, 1) := by decide +kernel
theorem d_Mo_set1_14 : decode b_Mo_set1 14 = .ok (.aload_n 0, 1) := by decide +kernel
theorem d_Mo_set1_15 : decode b_Mo_set1 15 = .ok (.getfield 89, 3) := by decide +kernel
theorem d_Mo_set1_18 : decode b_Mo_set1 18 = .ok (.iload_n 3, 1) := by decide +kernel
theorem d_Mo_set1_19 : decode b_Mo_set1 19 = .ok (.iload_n 1, 1) := by decide +kernel
theorem d_Mo_set1_20 : decode b_Mo_set1 20 = .ok (.iastore, 1) := by decide +kernel
theorem d_Mo_set1_21 : decode b_Mo_set1 21 = .ok (.aload_n 0, 1) := by decide +kernel
theorem d_Mo_set1_22 : decode b_Mo_set1 22 = .ok (.getfield 92, 3) := by decide +kernel
theorem d_Mo_set1_25 : decode b_Mo_set1 25 = .ok (.iload_n 3, 1) := by decide +kernel
theorem d_Mo_set1_26 : decode b_Mo_set1 26 = .ok (.aload_n 0, 1) := by decide +kernel
theorem d_Mo_set1_27 : decode b_Mo_set1 27 = .ok (.getfield 7, 3) := by decide +kernel
theorem d_Mo_set1_30 : decode b_Mo_set1 30 = .ok (.iload_n 1, 1) := by decide +kernel
theorem d_Mo_set1_31 : decode b_Mo_set1 31 = .ok (.iaload, 1) := by decide +kernel
theorem d_Mo_set1_32 : decode b_Mo_set1 32 = .ok (.iastore, 1) := by decide +kernel
theorem d_Mo_set1_33 : decode b_Mo_set1 33 = .ok (.aload_n 0, 1) := by decide +kernel
theorem d_Mo_set1_34 : decode b_Mo_set1 34 = .ok (.getfield 396, 3) := by decide +kernel
theorem d_Mo_set1_37 : decode b_Mo_set1 37 = .ok (.sipush 200, 3) := by decide +kernel
theorem d_Mo_set1_40 : decode b_Mo_set1 40 = .ok (.if_icmp .ne 20, 3) := by decide +kernel
theorem d_Mo_set1_43 : decode b_Mo_set1 43 = .ok (.aload_n 0, 1) := by decide +kernel
theorem d_Mo_set1_44 : decode b_Mo_set1 44 = .ok (.aload_n 0, 1) := by decide +kernel
theorem d_Mo_set1_45 : decode b_Mo_set1 45 = .ok (.getfield 393, 3) := by decide +kernel
theorem d_Mo_set1_48 : decode b_Mo_set1 48 = .ok (.iconst 1, 1) := by decide +kernel
theorem d_Mo_set1_49 : decode b_Mo_set1 49 = .ok (.iadd, 1) := by decide +kernel
theorem d_Mo_set1_50 : decode b_Mo_set1 50 = .ok (.sipush 200, 3) := by decide +kernel
theorem d_Mo_set1_53 : decode b_Mo_set1 53 = .ok (.irem, 1) := by decide +kernel
theorem d_Mo_set1_54 : decode b_Mo_set1 54 = .ok (.putfield 393, 3) := by decide +kernel
theorem d_Mo_set1_57 : decode b_Mo_set1 57 = .ok (.goto 13, 3) := by decide +kernel
theorem d_Mo_set1_60 : decode b_Mo_set1 60 = .ok (.aload_n 0, 1) := by decide +kernel
theorem d_Mo_set1_61 : decode b_Mo_set1 61 = .ok (.dup, 1) := by decide +kernel
theorem d_Mo_set1_62 : decode b_Mo_set1 62 = .ok (.getfield 396, 3) := by decide +kernel
theorem d_Mo_set1_65 : decode b_Mo_set1 65 = .ok (.iconst 1, 1) := by decide +kernel
theorem d_Mo_set1_66 : decode b_Mo_set1 66 = .ok (.iadd, 1) := by decide +kernel
theorem d_Mo_set1_67 : decode b_Mo_set1 67 = .ok (.putfield 396, 3) := by decide +kernel
theorem d_Mo_set1_70 : decode b_Mo_set1 70 = .ok (.aload_n 0, 1) := by decide +kernel
theorem d_Mo_set1_71 : decode b_Mo_set1 71 = .ok (.getfield 7, 3) := by decide +kernel
theorem d_Mo_set1_74 : decode b_Mo_set1 74 = .ok (.iload_n 1, 1) := by decide +kernel
theorem d_Mo_set1_75 : decode b_Mo_set1 75 = .ok (.iload_n 2, 1) := by decide +kernel
theorem d_Mo_set1_76 : decode b_Mo_set1 76 = .ok (.iastore, 1) := by decide +kernel
theorem d_Mo_set1_77 : decode b_Mo_set1 77 = .ok (.return_, 1) := by decide +kernel
theorem d_Mo_put_0 : decode b_Mo_put 0 = .ok (.aload_n 0, 1) := by decide +kernel
theorem d_Mo_put_1 : decode b_Mo_put 1 = .ok (.iload_n 1, 1) := by decide +kernel
theorem d_Mo_put_2 : decode b_Mo_put 2 = .ok (.iload_n 2, 1) := by decide +kernel
theorem d_Mo_put_3 : decode b_Mo_put 3 = .ok (.invokevirtual 350, 3) := by decide +kernel
theorem d_Mo_put_6 : decode b_Mo_put 6 = .ok (.ifCond .eq 10, 3) := by decide +kernel
theorem d_Mo_put_9 : decode b_Mo_put 9 = .ok (.iload_n 3, 1) := by decide +kernel
theorem d_Mo_put_10 : decode b_Mo_put 10 = .ok (.invokestatic 347, 3) := by decide +kernel
theorem d_Mo_put_13 : decode b_Mo_put 13 = .ok (.ifCond .ne 7, 3) := by decide +kernel
theorem d_Mo_put_16 : decode b_Mo_put 16 = .ok (.ldc2_w 389, 3) := by decide +kernel
theorem d_Mo_put_19 : decode b_Mo_put 19 = .ok (.lreturn, 1) := by decide +kernel
theorem d_Mo_put_20 : decode b_Mo_put 20 = .ok (.aload_n 0, 1) := by decide +kernel
theorem d_Mo_put_21 : decode b_Mo_put 21 = .ok (.iload_n 1, 1) := by decide +kernel
theorem d_Mo_put_22 : decode b_Mo_put 22 = .ok (.iload_n 2, 1) := by decide +kernel
theorem d_Mo_put_23 : decode b_Mo_put 23 = .ok (.iload_n 3, 1) := by decide +kernel
theorem d_Mo_put_24 : decode b_Mo_put 24 = .ok (.invokevirtual 386, 3) := by decide +kernel
theorem d_Mo_put_27 : decode b_Mo_put 27 = .ok (.lstore 4, 2) := by decide +kernel
theorem d_Mo_put_29 : decode b_Mo_put 29 = .ok (.aload_n 0, 1) := by decide +kernel
theorem d_Mo_put_30 : decode b_Mo_put 30 = .ok (.bipush 21, 2) := by decide +kernel
theorem d_Mo_put_32 : decode b_Mo_put 32 = .ok (.iload_n 1, 1) := by decide +kernel
theorem d_Mo_put_33 : decode b_Mo_put 33 = .ok (.imul, 1) := by decide +kernel
theorem d_Mo_put_34 : decode b_Mo_put 34 = .ok (.iload_n 2, 1) := by decide +kernel
theorem d_Mo_put_35 : decode b_Mo_put 35 = .ok (.iadd, 1) := by decide +kernel
theorem d_Mo_put_36 : decode b_Mo_put 36 = .ok (.iload_n 3, 1) := by decide +kernel
theorem d_Mo_put_37 : decode b_Mo_put 37 = .ok (.invokevirtual 391, 3) := by decide +kernel
theorem d_Mo_put_40 : decode b_Mo_put 40 = .ok (.lload 4, 2) := by decide +kernel
theorem d_Mo_put_42 : decode b_Mo_put 42 = .ok (.lreturn, 1) := by decide +kernel
theorem d_Mo_undo_0 : decode b_Mo_undo 0 = .ok (.aload_n 0, 1) := by decide +kernel
theorem d_Mo_undo_1 : decode b_Mo_undo 1 = .ok (.getfield 396, 3) := by decide +kernel
theorem d_Mo_undo_4 : decode b_Mo_undo 4 = .ok (.ifCond .ne 6, 3) := by decide +kernel
theorem d_Mo_undo_7 : decode b_Mo_undo 7 = .ok (.bipush (-2), 2) := by decide +kernel
theorem d_Mo_undo_9 : decode b_Mo_undo 9 = .ok (.ireturn, 1) := by decide +kernel
theorem d_Mo_undo_10 : decode b_Mo_undo 10 = .ok (.aload_n 0, 1) := by decide +kernel
theorem d_Mo_undo_11 : decode b_Mo_undo 11 = .ok (.dup, 1) := by decide +kernel
theorem d_Mo_undo_12 : decode b_Mo_undo 12 = .ok (.getfield 396, 3) := by decide +kernel
theorem d_Mo_undo_15 : decode b_Mo_undo 15 = .ok (.iconst 1, 1) := by decide +kernel
theorem d_Mo_undo_16 : decode b_Mo_undo 16 = .ok (.isub, 1) := by decide +kernel
theorem d_Mo_undo_17 : decode b_Mo_undo 17 = .ok (.putfield 396, 3) := by decide +kernel
theorem d_Mo_undo_20 : decode b_Mo_undo 20 = .ok (.aload_n 0, 1) := by decide +kernel
theorem d_Mo_undo_21 : decode b_Mo_undo 21 = .ok (.getfield 393, 3) := by decide +kernel
theorem d_Mo_undo_24 : decode b_Mo_undo 24 = .ok (.aload_n 0, 1) := by decide +kernel
theorem d_Mo_undo_25 : decode b_Mo_undo 25 = .ok (.getfield 396, 3) := by decide +kernel
theorem d_Mo_undo_28 : decode b_Mo_undo 28 = .ok (.iadd, 1) := by decide +kernel
theorem d_Mo_undo_29 : decode b_Mo_undo 29 = .ok (.sipush 200, 3) := by decide +kernel
theorem d_Mo_undo_32 : decode b_Mo_undo 32 = .ok (.irem, 1) := by decide +kernel
theorem d_Mo_undo_33 : decode b_Mo_undo 33 = .ok (.istore_n 1, 1) := by decide +kernel
theorem d_Mo_undo_34 : decode b_Mo_undo 34 = .ok (.aload_n 0, 1) := by decide +kernel
theorem d_Mo_undo_35 : decode b_Mo_undo 35 = .ok (.getfield 7, 3) := by decide +kernel
theorem d_Mo_undo_38 : decode b_Mo_undo 38 = .ok (.aload_n 0, 1) := by decide +kernel
theorem d_Mo_undo_39 : decode b_Mo_undo 39 = .ok (.getfield 89, 3) := by decide +kernel
theorem d_Mo_undo_42 : decode b_Mo_undo 42 = .ok (.iload_n 1, 1) := by decide +kernel
theorem d_Mo_undo_43 : decode b_Mo_undo 43 = .ok (.iaload, 1) := by decide +kernel
theorem d_Mo_undo_44 : decode b_Mo_undo 44 = .ok (.aload_n 0, 1) := by decide +kernel
theorem d_Mo_undo_45 : decode b_Mo_undo 45 = .ok (.getfield 92, 3) := by decide +kernel
theorem d_Mo_undo_48 : decode b_Mo_undo 48 = .ok (.iload_n 1, 1) := by decide +kernel
theorem d_Mo_undo_49 : decode b_Mo_undo 49 = .ok (.iaload, 1) := by decide +kernel
theorem d_Mo_undo_50 : decode b_Mo_undo 50 = .ok (.iastore, 1) := by decide +kernel
theorem d_Mo_undo_51 : decode b_Mo_undo 51 = .ok (.aload_n 0, 1) := by decide +kernel
theorem d_Mo_undo_52 : decode b_Mo_undo 52 = .ok (.getfield 396, 3) := by decide +kernel
theorem d_Mo_undo_55 : decode b_Mo_undo 55 = .ok (.ireturn, 1) := by decide +kernel
theorem d_Mo_best_0 : decode b_Mo_best 0 = .ok (.aload_n 0, 1) := by decide +kernel
theorem d_Mo_best_1 : decode b_Mo_best 1 = .ok (.iload_n 1, 1) := by decide +kernel
theorem d_Mo_best_2 : decode b_Mo_best 2 = .ok (.iload_n 2, 1) := by decide +kernel
theorem d_Mo_best_3 : decode b_Mo_best 3 = .ok (.invokevirtual 350, 3) := by decide +kernel
theorem d_Mo_best_6 : decode b_Mo_best 6 = .ok (.ifCond .ne 6, 3) := by decide +kernel
theorem d_Mo_best_9 : decode b_Mo_best 9 = .ok (.bipush (-9), 2) := by decide +kernel
theorem d_Mo_best_11 : decode b_Mo_best 11 = .ok (.ireturn, 1) := by decide +kernel
theorem d_Mo_best_12 : decode b_Mo_best 12 = .ok (.iconst (-1), 1) := by decide +kernel
theorem d_Mo_best_13 : decode b_Mo_best 13 = .ok (.istore_n 3, 1) := by decide +kernel
theorem d_Mo_best_14 : decode b_Mo_best 14 = .ok (.iconst 0, 1) := by decide +kernel
theorem d_Mo_best_15 : decode b_Mo_best 15 = .ok (.istore 4, 2) := by decide +kernel
theorem d_Mo_best_17 : decode b_Mo_best 17 = .ok (.iload 4, 2) := by decide +kernel
theorem d_Mo_best_19 : decode b_Mo_best 19 = .ok (.bipush 8, 2) := by decide +kernel
theorem d_Mo_best_21 : decode b_Mo_best 21 = .ok (.if_icmp .ge 35, 3) := by decide +kernel
theorem d_Mo_best_24 : decode b_Mo_best 24 = .ok (.aload_n 0, 1) := by decide +kernel
theorem d_Mo_best_25 : decode b_Mo_best 25 = .ok (.iload_n 1, 1) := by decide +kernel
theorem d_Mo_best_26 : decode b_Mo_best 26 = .ok (.iload_n 2, 1) := by decide +kernel
theorem d_Mo_best_27 : decode b_Mo_best 27 = .ok (.iload 4, 2) := by decide +kernel
theorem d_Mo_best_29 : decode b_Mo_best 29 = .ok (.invokevirtual 386, 3) := by decide +kernel
theorem d_Mo_best_32 : decode b_Mo_best 32 = .ok (.aload_n 0, 1) := by decide +kernel
theorem d_Mo_best_33 : decode b_Mo_best 33 = .ok (.iload_n 1, 1) := by decide +kernel
theorem d_Mo_best_34 : decode b_Mo_best 34 = .ok (.iload_n 2, 1) := by decide +kernel
theorem d_Mo_best_35 : decode b_Mo_best 35 = .ok (.iload_n 3, 1) := by decide +kernel
theorem d_Mo_best_36 : decode b_Mo_best 36 = .ok (.invokevirtual 386, 3) := by decide +kernel
theorem d_Mo_best_39 : decode b_Mo_best 39 = .ok (.lcmp, 1) := by decide +kernel
theorem d_Mo_best_40 : decode b_Mo_best 40 = .ok (.ifCond .ge 8, 3) := by decide +kernel
theorem d_Mo_best_43 : decode b_Mo_best 43 = .ok (.iload 4, 2) := by decide +kernel
theorem d_Mo_best_45 : decode b_Mo_best 45 = .ok (.goto 4, 3) := by decide +kernel
theorem d_Mo_best_48 : decode b_Mo_best 48 = .ok (.iload_n 3, 1) := by decide +kernel
theorem d_Mo_best_49 : decode b_Mo_best 49 = .ok (.istore_n 3, 1) := by decide +kernel
theorem d_Mo_best_50 : decode b_Mo_best 50 = .ok (.iinc 4 1, 3) := by decide +kernel
theorem d_Mo_best_53 : decode b_Mo_best 53 = .ok (.goto (-36), 3) := by decide +kernel
theorem d_Mo_best_56 : decode b_Mo_best 56 = .ok (.iload_n 3, 1) := by decide +kernel
theorem d_Mo_best_57 : decode b_Mo_best 57 = .ok (.ireturn, 1) := by decide +kernel
theorem d_Mo_descend_0 : decode b_Mo_descend 0 = .ok (.iload_n 1, 1) := by decide +kernel
theorem d_Mo_descend_1 : decode b_Mo_descend 1 = .ok (.ifCond .lt 8, 3) := by decide +kernel
theorem d_Mo_descend_4 : decode b_Mo_descend 4 = .ok (.iload_n 1, 1) := by decide +kernel
theorem d_Mo_descend_5 : decode b_Mo_descend 5 = .ok (.iconst 3, 1) := by decide +kernel
theorem d_Mo_descend_6 : decode b_Mo_descend 6 = .ok (.if_icmp .le 5, 3) := by decide +kernel
theorem d_Mo_descend_9 : decode b_Mo_descend 9 = .ok (.iconst (-1), 1) := by decide +kernel
theorem d_Mo_descend_10 : decode b_Mo_descend 10 = .ok (.ireturn, 1) := by decide +kernel
theorem d_Mo_descend_11 : decode b_Mo_descend 11 = .ok (.iconst 0, 1) := by decide +kernel
theorem d_Mo_descend_12 : decode b_Mo_descend 12 = .ok (.istore_n 2, 1) := by decide +kernel
theorem d_Mo_descend_13 : decode b_Mo_descend 13 = .ok (.iconst 1, 1) := by decide +kernel
theorem d_Mo_descend_14 : decode b_Mo_descend 14 = .ok (.istore_n 3, 1) := by decide +kernel
theorem d_Mo_descend_15 : decode b_Mo_descend 15 = .ok (.iload_n 2, 1) := by decide +kernel
theorem d_Mo_descend_16 : decode b_Mo_descend 16 = .ok (.iload_n 1, 1) := by decide +kernel
theorem d_Mo_descend_17 : decode b_Mo_descend 17 = .ok (.if_icmp .ge 135, 3) := by decide +kernel
theorem d_Mo_descend_20 : decode b_Mo_descend 20 = .ok (.iload_n 3, 1) := by decide +kernel
theorem d_Mo_descend_21 : decode b_Mo_descend 21 = .ok (.ifCond .eq 131, 3) := by decide +kernel
theorem d_Mo_descend_24 : decode b_Mo_descend 24 = .ok (.lconst 0, 1) := by decide +kernel
theorem d_Mo_descend_25 : decode b_Mo_descend 25 = .ok (.lstore 4, 2) := by decide +kernel
theorem d_Mo_descend_27 : decode b_Mo_descend 27 = .ok (.iconst (-1), 1) := by decide +kernel
theorem d_Mo_descend_28 : decode b_Mo_descend 28 = .ok (.istore 6, 2) := by decide +kernel
theorem d_Mo_descend_30 : decode b_Mo_descend 30 = .ok (.iconst (-1), 1) := by decide +kernel
theorem d_Mo_descend_31 : decode b_Mo_descend 31 = .ok (.istore 7, 2) := by decide +kernel
theorem d_Mo_descend_33 : decode b_Mo_descend 33 = .ok (.iconst 0, 1) := by decide +kernel
theorem d_Mo_descend_34 : decode b_Mo_descend 34 = .ok (.istore 8, 2) := by decide +kernel
theorem d_Mo_descend_36 : decode b_Mo_descend 36 = .ok (.iload 8, 2) := by decide +kernel
theorem d_Mo_descend_38 : decode b_Mo_descend 38 = .ok (.aload_n 0, 1) := by decide +kernel
theorem d_Mo_descend_39 : decode b_Mo_descend 39 = .ok (.getfield 156, 3) := by decide +kernel
theorem d_Mo_descend_42 : decode b_Mo_descend 42 = .ok (.if_icmp .ge 81, 3) := by decide +kernel
theorem d_Mo_descend_45 : decode b_Mo_descend 45 = .ok (.iconst 0, 1) := by decide +kernel
theorem d_Mo_descend_46 : decode b_Mo_descend 46 = .ok (.istore 9, 2) := by decide +kernel
theorem d_Mo_descend_48 : decode b_Mo_descend 48 = .ok (.iload 9, 2) := by decide +kernel
theorem d_Mo_descend_50 : decode b_Mo_descend 50 = .ok (.aload_n 0, 1) := by decide +kernel
theorem d_Mo_descend_51 : decode b_Mo_descend 51 = .ok (.getfield 159, 3) := by decide +kernel
theorem d_Mo_descend_54 : decode b_Mo_descend 54 = .ok (.if_icmp .ge 63, 3) := by decide +kernel
theorem d_Mo_descend_57 : decode b_Mo_descend 57 = .ok (.iconst (-1), 1) := by decide +kernel
theorem d_Mo_descend_58 : decode b_Mo_descend 58 = .ok (.istore 10, 2) := by decide +kernel
theorem d_Mo_descend_60 : decode b_Mo_descend 60 = .ok (.iload 10, 2) := by decide +kernel
theorem d_Mo_descend_62 : decode b_Mo_descend 62 = .ok (.bipush 8, 2) := by decide +kernel
theorem d_Mo_descend_64 : decode b_Mo_descend 64 = .ok (.if_icmp .ge 47, 3) := by decide +kernel
theorem d_Mo_descend_67 : decode b_Mo_descend 67 = .ok (.aload_n 0, 1) := by decide +kernel
theorem d_Mo_descend_68 : decode b_Mo_descend 68 = .ok (.iload 8, 2) := by decide +kernel
theorem d_Mo_descend_70 : decode b_Mo_descend 70 = .ok (.iload 9, 2) := by decide +kernel
theorem d_Mo_descend_72 : decode b_Mo_descend 72 = .ok (.iload 10, 2) := by decide +kernel
theorem d_Mo_descend_74 : decode b_Mo_descend 74 = .ok (.invokevirtual 386, 3) := by decide +kernel
theorem d_Mo_descend_77 : decode b_Mo_descend 77 = .ok (.lstore 11, 2) := by decide +kernel
theorem d_Mo_descend_79 : decode b_Mo_descend 79 = .ok (.lload 11, 2) := by decide +kernel
theorem d_Mo_descend_81 : decode b_Mo_descend 81 = .ok (.lload 4, 2) := by decide +kernel
theorem d_Mo_descend_83 : decode b_Mo_descend 83 = .ok (.lcmp, 1) := by decide +kernel
theorem d_Mo_descend_84 : decode b_Mo_descend 84 = .ok (.ifCond .ge 21, 3) := by decide +kernel
theorem d_Mo_descend_87 : decode b_Mo_descend 87 = .ok (.lload 11, 2) := by decide +kernel
theorem d_Mo_descend_89 : decode b_Mo_descend 89 = .ok (.lstore 4, 2) := by decide +kernel
theorem d_Mo_descend_91 : decode b_Mo_descend 91 = .ok (.bipush 21, 2) := by decide +kernel
theorem d_Mo_descend_93 : decode b_Mo_descend 93 = .ok (.iload 8, 2) := by decide +kernel
theorem d_Mo_descend_95 : decode b_Mo_descend 95 = .ok (.imul, 1) := by decide +kernel
theorem d_Mo_descend_96 : decode b_Mo_descend 96 = .ok (.iload 9, 2) := by decide +kernel
theorem d_Mo_descend_98 : decode b_Mo_descend 98 = .ok (.iadd, 1) := by decide +kernel
theorem d_Mo_descend_99 : decode b_Mo_descend 99 = .ok (.istore 6, 2) := by decide +kernel
theorem d_Mo_descend_101 : decode b_Mo_descend 101 = .ok (.iload 10, 2) := by decide +kernel
theorem d_Mo_descend_103 : decode b_Mo_descend 103 = .ok (.istore 7, 2) := by decide +kernel
theorem d_Mo_descend_105 : decode b_Mo_descend 105 = .ok (.iinc 10 1, 3) := by decide +kernel
theorem d_Mo_descend_108 : decode b_Mo_descend 108 = .ok (.goto (-48), 3) := by decide +kernel
theorem d_Mo_descend_111 : decode b_Mo_descend 111 = .ok (.iinc 9 1, 3) := by decide +kernel
theorem d_Mo_descend_114 : decode b_Mo_descend 114 = .ok (.goto (-66), 3) := by decide +kernel
theorem d_Mo_descend_117 : decode b_Mo_descend 117 = .ok (.iinc 8 1, 3) := by decide +kernel
theorem d_Mo_descend_120 : decode b_Mo_descend 120 = .ok (.goto (-84), 3) := by decide +kernel
theorem d_Mo_descend_123 : decode b_Mo_descend 123 = .ok (.iload 6, 2) := by decide +kernel
theorem d_Mo_descend_125 : decode b_Mo_descend 125 = .ok (.ifCond .lt 7, 3) := by decide +kernel
theorem d_Mo_descend_128 : decode b_Mo_descend 128 = .ok (.iconst 1, 1) := by decide +kernel
theorem d_Mo_descend_129 : decode b_Mo_descend 129 = .ok (.goto 4, 3) := by decide +kernel
theorem d_Mo_descend_132 : decode b_Mo_descend 132 = .ok (.iconst 0, 1) := by decide +kernel
theorem d_Mo_descend_133 : decode b_Mo_descend 133 = .ok (.istore_n 3, 1) := by decide +kernel
theorem d_Mo_descend_134 : decode b_Mo_descend 134 = .ok (.iload_n 3, 1) := by decide +kernel
theorem d_Mo_descend_135 : decode b_Mo_descend 135 = .ok (.ifCond .eq 14, 3) := by decide +kernel
theorem d_Mo_descend_138 : decode b_Mo_descend 138 = .ok (.aload_n 0, 1) := by decide +kernel
theorem d_Mo_descend_139 : decode b_Mo_descend 139 = .ok (.iload 6, 2) := by decide +kernel
theorem d_Mo_descend_141 : decode b_Mo_descend 141 = .ok (.iload 7, 2) := by decide +kernel
theorem d_Mo_descend_143 : decode b_Mo_descend 143 = .ok (.invokevirtual 391, 3) := by decide +kernel
theorem d_Mo_descend_146 : decode b_Mo_descend 146 = .ok (.iinc 2 1, 3) := by decide +kernel
theorem d_Mo_descend_149 : decode b_Mo_descend 149 = .ok (.goto (-134), 3) := by decide +kernel
theorem d_Mo_descend_152 : decode b_Mo_descend 152 = .ok (.iload_n 2, 1) := by decide +kernel
theorem d_Mo_descend_153 : decode b_Mo_descend 153 = .ok (.ireturn, 1) := by decide +kernel
theorem d_Mo_isLaw_0 : decode b_Mo_isLaw 0 = .ok (.iload_n 1, 1) := by decide +kernel
theorem d_Mo_isLaw_1 : decode b_Mo_isLaw 1 = .ok (.ifCond .lt 15, 3) := by decide +kernel
theorem d_Mo_isLaw_4 : decode b_Mo_isLaw 4 = .ok (.iload_n 1, 1) := by decide +kernel
theorem d_Mo_isLaw_5 : decode b_Mo_isLaw 5 = .ok (.aload_n 0, 1) := by decide +kernel
theorem d_Mo_isLaw_6 : decode b_Mo_isLaw 6 = .ok (.getfield 219, 3) := by decide +kernel
theorem d_Mo_isLaw_9 : decode b_Mo_isLaw 9 = .ok (.if_icmp .ge 7, 3) := by decide +kernel
theorem d_Mo_isLaw_12 : decode b_Mo_isLaw 12 = .ok (.iconst 1, 1) := by decide +kernel
theorem d_Mo_isLaw_13 : decode b_Mo_isLaw 13 = .ok (.goto 4, 3) := by decide +kernel
theorem d_Mo_isLaw_16 : decode b_Mo_isLaw 16 = .ok (.iconst 0, 1) := by decide +kernel
theorem d_Mo_isLaw_17 : decode b_Mo_isLaw 17 = .ok (.ireturn, 1) := by decide +kernel
theorem d_Mo_hasPattern_0 : decode b_Mo_hasPattern 0 = .ok (.aload_n 0, 1) := by decide +kernel
theorem d_Mo_hasPattern_1 : decode b_Mo_hasPattern 1 = .ok (.getfield 42, 3) := by decide +kernel
theorem d_Mo_hasPattern_4 : decode b_Mo_hasPattern 4 = .ok (.iload_n 1, 1) := by decide +kernel
theorem d_Mo_hasPattern_5 : decode b_Mo_hasPattern 5 = .ok (.iaload, 1) := by decide +kernel
theorem d_Mo_hasPattern_6 : decode b_Mo_hasPattern 6 = .ok (.iconst 3, 1) := by decide +kernel
theorem d_Mo_hasPattern_7 : decode b_Mo_hasPattern 7 = .ok (.if_icmp .eq 13, 3) := by decide +kernel
theorem d_Mo_hasPattern_10 : decode b_Mo_hasPattern 10 = .ok (.aload_n 0, 1) := by decide +kernel
theorem d_Mo_hasPattern_11 : decode b_Mo_hasPattern 11 = .ok (.getfield 42, 3) := by decide +kernel
theorem d_Mo_hasPattern_14 : decode b_Mo_hasPattern 14 = .ok (.iload_n 1, 1) := by decide +kernel
theorem d_Mo_hasPattern_15 : decode b_Mo_hasPattern 15 = .ok (.iaload, 1) := by decide +kernel
theorem d_Mo_hasPattern_16 : decode b_Mo_hasPattern 16 = .ok (.iconst 4, 1) := by decide +kernel
theorem d_Mo_hasPattern_17 : decode b_Mo_hasPattern 17 = .ok (.if_icmp .ne 7, 3) := by decide +kernel
theorem d_Mo_hasPattern_20 : decode b_Mo_hasPattern 20 = .ok (.iconst 1, 1) := by decide +kernel
theorem d_Mo_hasPattern_21 : decode b_Mo_hasPattern 21 = .ok (.goto 4, 3) := by decide +kernel
theorem d_Mo_hasPattern_24 : decode b_Mo_hasPattern 24 = .ok (.iconst 0, 1) := by decide +kernel
theorem d_Mo_hasPattern_25 : decode b_Mo_hasPattern 25 = .ok (.ireturn, 1) := by decide +kernel
theorem d_Mo_law1_0 : decode b_Mo_law1 0 = .ok (.aload_n 0, 1) := by decide +kernel
theorem d_Mo_law1_1 : decode b_Mo_law1 1 = .ok (.iload_n 1, 1) := by decide +kernel
theorem d_Mo_law1_2 : decode b_Mo_law1 2 = .ok (.invokevirtual 399, 3) := by decide +kernel
theorem d_Mo_law1_5 : decode b_Mo_law1 5 = .ok (.ifCond .eq 12, 3) := by decide +kernel
theorem d_Mo_law1_8 : decode b_Mo_law1 8 = .ok (.iload_n 2, 1) := by decide +kernel
theorem d_Mo_law1_9 : decode b_Mo_law1 9 = .ok (.ifCond .lt 8, 3) := by decide +kernel
theorem d_Mo_law1_12 : decode b_Mo_law1 12 = .ok (.iload_n 2, 1) := by decide +kernel
theorem d_Mo_law1_13 : decode b_Mo_law1 13 = .ok (.iconst 4, 1) := by decide +kernel
theorem d_Mo_law1_14 : decode b_Mo_law1 14 = .ok (.if_icmp .le 5, 3) := by decide +kernel
theorem d_Mo_law1_17 : decode b_Mo_law1 17 = .ok (.iconst (-1), 1) := by decide +kernel
theorem d_Mo_law1_18 : decode b_Mo_law1 18 = .ok (.ireturn, 1) := by decide +kernel
theorem d_Mo_law1_19 : decode b_Mo_law1 19 = .ok (.iload_n 2, 1) := by decide +kernel
theorem d_Mo_law1_20 : decode b_Mo_law1 20 = .ok (.iconst 2, 1) := by decide +kernel
theorem d_Mo_law1_21 : decode b_Mo_law1 21 = .ok (.if_icmp .le 14, 3) := by decide +kernel
theorem d_Mo_law1_24 : decode b_Mo_law1 24 = .ok (.aload_n 0, 1) := by decide +kernel
theorem d_Mo_law1_25 : decode b_Mo_law1 25 = .ok (.iload_n 1, 1) := by decide +kernel
theorem d_Mo_law1_26 : decode b_Mo_law1 26 = .ok (.invokevirtual 402, 3) := by decide +kernel
theorem d_Mo_law1_29 : decode b_Mo_law1 29 = .ok (.ifCond .ne 6, 3) := by decide +kernel
theorem d_Mo_law1_32 : decode b_Mo_law1 32 = .ok (.bipush (-2), 2) := by decide +kernel
theorem d_Mo_law1_34 : decode b_Mo_law1 34 = .ok (.ireturn, 1) := by decide +kernel
theorem d_Mo_law1_35 : decode b_Mo_law1 35 = .ok (.iload_n 2, 1) := by decide +kernel
theorem d_Mo_law1_36 : decode b_Mo_law1 36 = .ok (.ifCond .ne 12, 3) := by decide +kernel
theorem d_Mo_law1_39 : decode b_Mo_law1 39 = .ok (.aload_n 0, 1) := by decide +kernel
theorem d_Mo_law1_40 : decode b_Mo_law1 40 = .ok (.getfield 42, 3) := by decide +kernel
theorem d_Mo_law1_43 : decode b_Mo_law1 43 = .ok (.iload_n 1, 1) := by decide +kernel
theorem d_Mo_law1_44 : decode b_Mo_law1 44 = .ok (.iaload, 1) := by decide +kernel
theorem d_Mo_law1_45 : decode b_Mo_law1 45 = .ok (.goto 51, 3) := by decide +kernel
theorem d_Mo_law1_48 : decode b_Mo_law1 48 = .ok (.iload_n 2, 1) := by decide +kernel
theorem d_Mo_law1_49 : decode b_Mo_law1 49 = .ok (.iconst 1, 1) := by decide +kernel
theorem d_Mo_law1_50 : decode b_Mo_law1 50 = .ok (.if_icmp .ne 12, 3) := by decide +kernel
theorem d_Mo_law1_53 : decode b_Mo_law1 53 = .ok (.aload_n 0, 1) := by decide +kernel
theorem d_Mo_law1_54 : decode b_Mo_law1 54 = .ok (.getfield 45, 3) := by decide +kernel
theorem d_Mo_law1_57 : decode b_Mo_law1 57 = .ok (.iload_n 1, 1) := by decide +kernel
theorem d_Mo_law1_58 : decode b_Mo_law1 58 = .ok (.iaload, 1) := by decide +kernel
theorem d_Mo_law1_59 : decode b_Mo_law1 59 = .ok (.goto 37, 3) := by decide +kernel
theorem d_Mo_law1_62 : decode b_Mo_law1 62 = .ok (.iload_n 2, 1) := by decide +kernel
theorem d_Mo_law1_63 : decode b_Mo_law1 63 = .ok (.iconst 2, 1) := by decide +kernel
theorem d_Mo_law1_64 : decode b_Mo_law1 64 = .ok (.if_icmp .ne 12, 3) := by decide +kernel
theorem d_Mo_law1_67 : decode b_Mo_law1 67 = .ok (.aload_n 0, 1) := by decide +kernel
theorem d_Mo_law1_68 : decode b_Mo_law1 68 = .ok (.getfield 48, 3) := by decide +kernel
theorem d_Mo_law1_71 : decode b_Mo_law1 71 = .ok (.iload_n 1, 1) := by decide +kernel
theorem d_Mo_law1_72 : decode b_Mo_law1 72 = .ok (.iaload, 1) := by decide +kernel
theorem d_Mo_law1_73 : decode b_Mo_law1 73 = .ok (.goto 23, 3) := by decide +kernel
theorem d_Mo_law1_76 : decode b_Mo_law1 76 = .ok (.iload_n 2, 1) := by decide +kernel
theorem d_Mo_law1_77 : decode b_Mo_law1 77 = .ok (.iconst 3, 1) := by decide +kernel
theorem d_Mo_law1_78 : decode b_Mo_law1 78 = .ok (.if_icmp .ne 12, 3) := by decide +kernel
theorem d_Mo_law1_81 : decode b_Mo_law1 81 = .ok (.aload_n 0, 1) := by decide +kernel
theorem d_Mo_law1_82 : decode b_Mo_law1 82 = .ok (.getfield 79, 3) := by decide +kernel
theorem d_Mo_law1_85 : decode b_Mo_law1 85 = .ok (.iload_n 1, 1) := by decide +kernel
theorem d_Mo_law1_86 : decode b_Mo_law1 86 = .ok (.iaload, 1) := by decide +kernel
theorem d_Mo_law1_87 : decode b_Mo_law1 87 = .ok (.goto 9, 3) := by decide +kernel
theorem d_Mo_law1_90 : decode b_Mo_law1 90 = .ok (.aload_n 0, 1) := by decide +kernel
theorem d_Mo_law1_91 : decode b_Mo_law1 91 = .ok (.getfield 76, 3) := by decide +kernel
theorem d_Mo_law1_94 : decode b_Mo_law1 94 = .ok (.iload_n 1, 1) := by decide +kernel
theorem d_Mo_law1_95 : decode b_Mo_law1 95 = .ok (.iaload, 1) := by decide +kernel
theorem d_Mo_law1_96 : decode b_Mo_law1 96 = .ok (.ireturn, 1) := by decide +kernel
theorem d_Mo_state_0 : decode b_Mo_state 0 = .ok (.aload_n 0, 1) := by decide +kernel
theorem d_Mo_state_1 : decode b_Mo_state 1 = .ok (.iload_n 1, 1) := by decide +kernel
theorem d_Mo_state_2 : decode b_Mo_state 2 = .ok (.invokevirtual 399, 3) := by decide +kernel
theorem d_Mo_state_5 : decode b_Mo_state 5 = .ok (.ifCond .eq 17, 3) := by decide +kernel
theorem d_Mo_state_8 : decode b_Mo_state 8 = .ok (.iload_n 3, 1) := by decide +kernel
theorem d_Mo_state_9 : decode b_Mo_state 9 = .ok (.ifCond .lt 13, 3) := by decide +kernel
theorem d_Mo_state_12 : decode b_Mo_state 12 = .ok (.iload_n 3, 1) := by decide +kernel
theorem d_Mo_state_13 : decode b_Mo_state 13 = .ok (.bipush 9, 2) := by decide +kernel
theorem d_Mo_state_15 : decode b_Mo_state 15 = .ok (.if_icmp .gt 7, 3) := by decide +kernel
theorem d_Mo_state_18 : decode b_Mo_state 18 = .ok (.iload_n 2, 1) := by decide +kernel
theorem d_Mo_state_19 : decode b_Mo_state 19 = .ok (.ifCond .ge 5, 3) := by decide +kernel
theorem d_Mo_state_22 : decode b_Mo_state 22 = .ok (.iconst (-1), 1) := by decide +kernel
theorem d_Mo_state_23 : decode b_Mo_state 23 = .ok (.ireturn, 1) := by decide +kernel
theorem d_Mo_state_24 : decode b_Mo_state 24 = .ok (.aload_n 0, 1) := by decide +kernel
theorem d_Mo_state_25 : decode b_Mo_state 25 = .ok (.iload_n 1, 1) := by decide +kernel
theorem d_Mo_state_26 : decode b_Mo_state 26 = .ok (.invokevirtual 402, 3) := by decide +kernel
theorem d_Mo_state_29 : decode b_Mo_state 29 = .ok (.ifCond .ne 6, 3) := by decide +kernel
theorem d_Mo_state_32 : decode b_Mo_state 32 = .ok (.bipush (-2), 2) := by decide +kernel
theorem d_Mo_state_34 : decode b_Mo_state 34 = .ok (.ireturn, 1) := by decide +kernel
theorem d_Mo_state_35 : decode b_Mo_state 35 = .ok (.iload_n 2, 1) := by decide +kernel
theorem d_Mo_state_36 : decode b_Mo_state 36 = .ok (.aload_n 0, 1) := by decide +kernel
theorem d_Mo_state_37 : decode b_Mo_state 37 = .ok (.getfield 79, 3) := by decide +kernel
theorem d_Mo_state_40 : decode b_Mo_state 40 = .ok (.iload_n 1, 1) := by decide +kernel
theorem d_Mo_state_41 : decode b_Mo_state 41 = .ok (.iaload, 1) := by decide +kernel
theorem d_Mo_state_42 : decode b_Mo_state 42 = .ok (.if_icmp .lt 5, 3) := by decide +kernel
theorem d_Mo_state_45 : decode b_Mo_state 45 = .ok (.iconst (-1), 1) := by decide +kernel
theorem d_Mo_state_46 : decode b_Mo_state 46 = .ok (.ireturn, 1) := by decide +kernel
theorem d_Mo_state_47 : decode b_Mo_state 47 = .ok (.iload_n 3, 1) := by decide +kernel
theorem d_Mo_state_48 : decode b_Mo_state 48 = .ok (.bipush 9, 2) := by decide +kernel
theorem d_Mo_state_50 : decode b_Mo_state 50 = .ok (.if_icmp .ne 26, 3) := by decide +kernel
theorem d_Mo_state_53 : decode b_Mo_state 53 = .ok (.aload_n 0, 1) := by decide +kernel
theorem d_Mo_state_54 : decode b_Mo_state 54 = .ok (.getfield 86, 3) := by decide +kernel
theorem d_Mo_state_57 : decode b_Mo_state 57 = .ok (.sipush 1025, 3) := by decide +kernel
theorem d_Mo_state_60 : decode b_Mo_state 60 = .ok (.iload_n 1, 1) := by decide +kernel
theorem d_Mo_state_61 : decode b_Mo_state 61 = .ok (.imul, 1) := by decide +kernel
theorem d_Mo_state_62 : decode b_Mo_state 62 = .ok (.iload_n 2, 1) := by decide +kernel
theorem d_Mo_state_63 : decode b_Mo_state 63 = .ok (.iadd, 1) := by decide +kernel
theorem d_Mo_state_64 : decode b_Mo_state 64 = .ok (.baload, 1) := by decide +kernel
theorem d_Mo_state_65 : decode b_Mo_state 65 = .ok (.ifCond .eq 7, 3) := by decide +kernel
theorem d_Mo_state_68 : decode b_Mo_state 68 = .ok (.iconst 1, 1) := by decide +kernel
theorem d_Mo_state_69 : decode b_Mo_state 69 = .ok (.goto 24, 3) := by decide +kernel
theorem d_Mo_state_72 : decode b_Mo_state 72 = .ok (.iconst 0, 1) := by decide +kernel
theorem d_Mo_state_73 : decode b_Mo_state 73 = .ok (.goto 20, 3) := by decide +kernel
theorem d_Mo_state_76 : decode b_Mo_state 76 = .ok (.aload_n 0, 1) := by decide +kernel
theorem d_Mo_state_77 : decode b_Mo_state 77 = .ok (.getfield 83, 3) := by decide +kernel
theorem d_Mo_state_80 : decode b_Mo_state 80 = .ok (.bipush 9, 2) := by decide +kernel
theorem d_Mo_state_82 : decode b_Mo_state 82 = .ok (.sipush 1025, 3) := by decide +kernel
theorem d_Mo_state_85 : decode b_Mo_state 85 = .ok (.iload_n 1, 1) := by decide +kernel
theorem d_Mo_state_86 : decode b_Mo_state 86 = .ok (.imul, 1) := by decide +kernel
theorem d_Mo_state_87 : decode b_Mo_state 87 = .ok (.iload_n 2, 1) := by decide +kernel
theorem d_Mo_state_88 : decode b_Mo_state 88 = .ok (.iadd, 1) := by decide +kernel
theorem d_Mo_state_89 : decode b_Mo_state 89 = .ok (.imul, 1) := by decide +kernel
theorem d_Mo_state_90 : decode b_Mo_state 90 = .ok (.iload_n 3, 1) := by decide +kernel
theorem d_Mo_state_91 : decode b_Mo_state 91 = .ok (.iadd, 1) := by decide +kernel
theorem d_Mo_state_92 : decode b_Mo_state 92 = .ok (.iaload, 1) := by decide +kernel
theorem d_Mo_state_93 : decode b_Mo_state 93 = .ok (.ireturn, 1) := by decide +kernel
theorem d_Mo_alike_0 : decode b_Mo_alike 0 = .ok (.aload_n 0, 1) := by decide +kernel
theorem d_Mo_alike_1 : decode b_Mo_alike 1 = .ok (.iload_n 1, 1) := by decide +kernel
theorem d_Mo_alike_2 : decode b_Mo_alike 2 = .ok (.invokevirtual 399, 3) := by decide +kernel
theorem d_Mo_alike_5 : decode b_Mo_alike 5 = .ok (.ifCond .eq 11, 3) := by decide +kernel
theorem d_Mo_alike_8 : decode b_Mo_alike 8 = .ok (.aload_n 0, 1) := by decide +kernel
theorem d_Mo_alike_9 : decode b_Mo_alike 9 = .ok (.iload_n 2, 1) := by decide +kernel
theorem d_Mo_alike_10 : decode b_Mo_alike 10 = .ok (.invokevirtual 399, 3) := by decide +kernel
theorem d_Mo_alike_13 : decode b_Mo_alike 13 = .ok (.ifCond .ne 5, 3) := by decide +kernel
theorem d_Mo_alike_16 : decode b_Mo_alike 16 = .ok (.iconst (-1), 1) := by decide +kernel
theorem d_Mo_alike_17 : decode b_Mo_alike 17 = .ok (.ireturn, 1) := by decide +kernel
theorem d_Mo_alike_18 : decode b_Mo_alike 18 = .ok (.aload_n 0, 1) := by decide +kernel
theorem d_Mo_alike_19 : decode b_Mo_alike 19 = .ok (.iload_n 1, 1) := by decide +kernel
theorem d_Mo_alike_20 : decode b_Mo_alike 20 = .ok (.invokevirtual 402, 3) := by decide +kernel
theorem d_Mo_alike_23 : decode b_Mo_alike 23 = .ok (.ifCond .eq 11, 3) := by decide +kernel
theorem d_Mo_alike_26 : decode b_Mo_alike 26 = .ok (.aload_n 0, 1) := by decide +kernel
theorem d_Mo_alike_27 : decode b_Mo_alike 27 = .ok (.iload_n 2, 1) := by decide +kernel
theorem d_Mo_alike_28 : decode b_Mo_alike 28 = .ok (.invokevirtual 402, 3) := by decide +kernel
theorem d_Mo_alike_31 : decode b_Mo_alike 31 = .ok (.ifCond .ne 6, 3) := by decide +kernel
theorem d_Mo_alike_34 : decode b_Mo_alike 34 = .ok (.bipush (-2), 2) := by decide +kernel
theorem d_Mo_alike_36 : decode b_Mo_alike 36 = .ok (.ireturn, 1) := by decide +kernel
theorem d_Mo_alike_37 : decode b_Mo_alike 37 = .ok (.aload_n 0, 1) := by decide +kernel
theorem d_Mo_alike_38 : decode b_Mo_alike 38 = .ok (.getfield 79, 3) := by decide +kernel
theorem d_Mo_alike_41 : decode b_Mo_alike 41 = .ok (.iload_n 1, 1) := by decide +kernel
theorem d_Mo_alike_42 : decode b_Mo_alike 42 = .ok (.iaload, 1) := by decide +kernel
theorem d_Mo_alike_43 : decode b_Mo_alike 43 = .ok (.aload_n 0, 1) := by decide +kernel
theorem d_Mo_alike_44 : decode b_Mo_alike 44 = .ok (.getfield 79, 3) := by decide +kernel
theorem d_Mo_alike_47 : decode b_Mo_alike 47 = .ok (.iload_n 2, 1) := by decide +kernel
theorem d_Mo_alike_48 : decode b_Mo_alike 48 = .ok (.iaload, 1) := by decide +kernel
