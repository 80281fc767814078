theorem d_Mo_isCell_9 : decode b_Mo_isCell 9 = .ok (.ifCond .lt 15, 3) := by decide +kernel
theorem d_Mo_isCell_12 : decode b_Mo_isCell 12 = .ok (.iload_n 2, 1) := by decide +kernel
theorem d_Mo_isCell_13 : decode b_Mo_isCell 13 = .ok (.aload_n 0, 1) := by decide +kernel
theorem d_Mo_isCell_14 : decode b_Mo_isCell 14 = .ok (.getfield 159, 3) := by decide +kernel
theorem d_Mo_isCell_17 : decode b_Mo_isCell 17 = .ok (.if_icmp .ge 7, 3) := by decide +kernel
theorem d_Mo_isCell_20 : decode b_Mo_isCell 20 = .ok (.iconst 1, 1) := by decide +kernel
theorem d_Mo_isCell_21 : decode b_Mo_isCell 21 = .ok (.goto 4, 3) := by decide +kernel
theorem d_Mo_isCell_24 : decode b_Mo_isCell 24 = .ok (.iconst 0, 1) := by decide +kernel
theorem d_Mo_isCell_25 : decode b_Mo_isCell 25 = .ok (.ireturn, 1) := by decide +kernel
theorem d_Mo_isShift_0 : decode b_Mo_isShift 0 = .ok (.iload_n 0, 1) := by decide +kernel
theorem d_Mo_isShift_1 : decode b_Mo_isShift 1 = .ok (.iconst (-1), 1) := by decide +kernel
theorem d_Mo_isShift_2 : decode b_Mo_isShift 2 = .ok (.if_icmp .lt 13, 3) := by decide +kernel
theorem d_Mo_isShift_5 : decode b_Mo_isShift 5 = .ok (.iload_n 0, 1) := by decide +kernel
theorem d_Mo_isShift_6 : decode b_Mo_isShift 6 = .ok (.bipush 8, 2) := by decide +kernel
theorem d_Mo_isShift_8 : decode b_Mo_isShift 8 = .ok (.if_icmp .ge 7, 3) := by decide +kernel
theorem d_Mo_isShift_11 : decode b_Mo_isShift 11 = .ok (.iconst 1, 1) := by decide +kernel
theorem d_Mo_isShift_12 : decode b_Mo_isShift 12 = .ok (.goto 4, 3) := by decide +kernel
theorem d_Mo_isShift_15 : decode b_Mo_isShift 15 = .ok (.iconst 0, 1) := by decide +kernel
theorem d_Mo_isShift_16 : decode b_Mo_isShift 16 = .ok (.ireturn, 1) := by decide +kernel
theorem d_Mo_feed_0 : decode b_Mo_feed 0 = .ok (.iload_n 1, 1) := by decide +kernel
theorem d_Mo_feed_1 : decode b_Mo_feed 1 = .ok (.iconst 1, 1) := by decide +kernel
theorem d_Mo_feed_2 : decode b_Mo_feed 2 = .ok (.if_icmp .lt 9, 3) := by decide +kernel
theorem d_Mo_feed_5 : decode b_Mo_feed 5 = .ok (.iload_n 1, 1) := by decide +kernel
theorem d_Mo_feed_6 : decode b_Mo_feed 6 = .ok (.bipush 8, 2) := by decide +kernel
theorem d_Mo_feed_8 : decode b_Mo_feed 8 = .ok (.if_icmp .le 5, 3) := by decide +kernel
theorem d_Mo_feed_11 : decode b_Mo_feed 11 = .ok (.iconst (-1), 1) := by decide +kernel
theorem d_Mo_feed_12 : decode b_Mo_feed 12 = .ok (.ireturn, 1) := by decide +kernel
theorem d_Mo_feed_13 : decode b_Mo_feed 13 = .ok (.aload_n 0, 1) := by decide +kernel
theorem d_Mo_feed_14 : decode b_Mo_feed 14 = .ok (.getfield 169, 3) := by decide +kernel
theorem d_Mo_feed_17 : decode b_Mo_feed 17 = .ok (.iload_n 1, 1) := by decide +kernel
theorem d_Mo_feed_18 : decode b_Mo_feed 18 = .ok (.iadd, 1) := by decide +kernel
theorem d_Mo_feed_19 : decode b_Mo_feed 19 = .ok (.sipush 1500, 3) := by decide +kernel
theorem d_Mo_feed_22 : decode b_Mo_feed 22 = .ok (.if_icmp .le 6, 3) := by decide +kernel
theorem d_Mo_feed_25 : decode b_Mo_feed 25 = .ok (.bipush (-3), 2) := by decide +kernel
theorem d_Mo_feed_27 : decode b_Mo_feed 27 = .ok (.ireturn, 1) := by decide +kernel
theorem d_Mo_feed_28 : decode b_Mo_feed 28 = .ok (.iconst 0, 1) := by decide +kernel
theorem d_Mo_feed_29 : decode b_Mo_feed 29 = .ok (.istore 4, 2) := by decide +kernel
theorem d_Mo_feed_31 : decode b_Mo_feed 31 = .ok (.iload 4, 2) := by decide +kernel
theorem d_Mo_feed_33 : decode b_Mo_feed 33 = .ok (.iload_n 1, 1) := by decide +kernel
theorem d_Mo_feed_34 : decode b_Mo_feed 34 = .ok (.if_icmp .ge 37, 3) := by decide +kernel
theorem d_Mo_feed_37 : decode b_Mo_feed 37 = .ok (.aload_n 0, 1) := by decide +kernel
theorem d_Mo_feed_38 : decode b_Mo_feed 38 = .ok (.getfield 34, 3) := by decide +kernel
theorem d_Mo_feed_41 : decode b_Mo_feed 41 = .ok (.aload_n 0, 1) := by decide +kernel
theorem d_Mo_feed_42 : decode b_Mo_feed 42 = .ok (.getfield 169, 3) := by decide +kernel
theorem d_Mo_feed_45 : decode b_Mo_feed 45 = .ok (.lload_n 2, 1) := by decide +kernel
theorem d_Mo_feed_46 : decode b_Mo_feed 46 = .ok (.bipush 8, 2) := by decide +kernel
theorem d_Mo_feed_48 : decode b_Mo_feed 48 = .ok (.iload 4, 2) := by decide +kernel
theorem d_Mo_feed_50 : decode b_Mo_feed 50 = .ok (.imul, 1) := by decide +kernel
theorem d_Mo_feed_51 : decode b_Mo_feed 51 = .ok (.lshr, 1) := by decide +kernel
theorem d_Mo_feed_52 : decode b_Mo_feed 52 = .ok (.l2i, 1) := by decide +kernel
theorem d_Mo_feed_53 : decode b_Mo_feed 53 = .ok (.i2b, 1) := by decide +kernel
theorem d_Mo_feed_54 : decode b_Mo_feed 54 = .ok (.bastore, 1) := by decide +kernel
theorem d_Mo_feed_55 : decode b_Mo_feed 55 = .ok (.aload_n 0, 1) := by decide +kernel
theorem d_Mo_feed_56 : decode b_Mo_feed 56 = .ok (.dup, 1) := by decide +kernel
theorem d_Mo_feed_57 : decode b_Mo_feed 57 = .ok (.getfield 169, 3) := by decide +kernel
theorem d_Mo_feed_60 : decode b_Mo_feed 60 = .ok (.iconst 1, 1) := by decide +kernel
theorem d_Mo_feed_61 : decode b_Mo_feed 61 = .ok (.iadd, 1) := by decide +kernel
theorem d_Mo_feed_62 : decode b_Mo_feed 62 = .ok (.putfield 169, 3) := by decide +kernel
theorem d_Mo_feed_65 : decode b_Mo_feed 65 = .ok (.iinc 4 1, 3) := by decide +kernel
theorem d_Mo_feed_68 : decode b_Mo_feed 68 = .ok (.goto (-37), 3) := by decide +kernel
theorem d_Mo_feed_71 : decode b_Mo_feed 71 = .ok (.aload_n 0, 1) := by decide +kernel
theorem d_Mo_feed_72 : decode b_Mo_feed 72 = .ok (.getfield 169, 3) := by decide +kernel
theorem d_Mo_feed_75 : decode b_Mo_feed 75 = .ok (.ireturn, 1) := by decide +kernel
theorem d_Mo_look_0 : decode b_Mo_look 0 = .ok (.iload_n 1, 1) := by decide +kernel
theorem d_Mo_look_1 : decode b_Mo_look 1 = .ok (.aload_n 0, 1) := by decide +kernel
theorem d_Mo_look_2 : decode b_Mo_look 2 = .ok (.getfield 169, 3) := by decide +kernel
theorem d_Mo_look_5 : decode b_Mo_look 5 = .ok (.if_icmp .ge 16, 3) := by decide +kernel
theorem d_Mo_look_8 : decode b_Mo_look 8 = .ok (.aload_n 0, 1) := by decide +kernel
theorem d_Mo_look_9 : decode b_Mo_look 9 = .ok (.getfield 34, 3) := by decide +kernel
theorem d_Mo_look_12 : decode b_Mo_look 12 = .ok (.iload_n 1, 1) := by decide +kernel
theorem d_Mo_look_13 : decode b_Mo_look 13 = .ok (.baload, 1) := by decide +kernel
theorem d_Mo_look_14 : decode b_Mo_look 14 = .ok (.sipush 255, 3) := by decide +kernel
theorem d_Mo_look_17 : decode b_Mo_look 17 = .ok (.iand, 1) := by decide +kernel
theorem d_Mo_look_18 : decode b_Mo_look 18 = .ok (.goto 4, 3) := by decide +kernel
theorem d_Mo_look_21 : decode b_Mo_look 21 = .ok (.iconst (-1), 1) := by decide +kernel
theorem d_Mo_look_22 : decode b_Mo_look 22 = .ok (.ireturn, 1) := by decide +kernel
theorem d_Mo_isSmall_0 : decode b_Mo_isSmall 0 = .ok (.iload_n 0, 1) := by decide +kernel
theorem d_Mo_isSmall_1 : decode b_Mo_isSmall 1 = .ok (.bipush 97, 2) := by decide +kernel
theorem d_Mo_isSmall_3 : decode b_Mo_isSmall 3 = .ok (.if_icmp .lt 13, 3) := by decide +kernel
theorem d_Mo_isSmall_6 : decode b_Mo_isSmall 6 = .ok (.iload_n 0, 1) := by decide +kernel
theorem d_Mo_isSmall_7 : decode b_Mo_isSmall 7 = .ok (.bipush 122, 2) := by decide +kernel
theorem d_Mo_isSmall_9 : decode b_Mo_isSmall 9 = .ok (.if_icmp .gt 7, 3) := by decide +kernel
theorem d_Mo_isSmall_12 : decode b_Mo_isSmall 12 = .ok (.iconst 1, 1) := by decide +kernel
theorem d_Mo_isSmall_13 : decode b_Mo_isSmall 13 = .ok (.goto 4, 3) := by decide +kernel
theorem d_Mo_isSmall_16 : decode b_Mo_isSmall 16 = .ok (.iconst 0, 1) := by decide +kernel
theorem d_Mo_isSmall_17 : decode b_Mo_isSmall 17 = .ok (.ireturn, 1) := by decide +kernel
theorem d_Mo_isDigit_0 : decode b_Mo_isDigit 0 = .ok (.iload_n 0, 1) := by decide +kernel
theorem d_Mo_isDigit_1 : decode b_Mo_isDigit 1 = .ok (.bipush 48, 2) := by decide +kernel
theorem d_Mo_isDigit_3 : decode b_Mo_isDigit 3 = .ok (.if_icmp .lt 13, 3) := by decide +kernel
theorem d_Mo_isDigit_6 : decode b_Mo_isDigit 6 = .ok (.iload_n 0, 1) := by decide +kernel
theorem d_Mo_isDigit_7 : decode b_Mo_isDigit 7 = .ok (.bipush 57, 2) := by decide +kernel
theorem d_Mo_isDigit_9 : decode b_Mo_isDigit 9 = .ok (.if_icmp .gt 7, 3) := by decide +kernel
theorem d_Mo_isDigit_12 : decode b_Mo_isDigit 12 = .ok (.iconst 1, 1) := by decide +kernel
theorem d_Mo_isDigit_13 : decode b_Mo_isDigit 13 = .ok (.goto 4, 3) := by decide +kernel
theorem d_Mo_isDigit_16 : decode b_Mo_isDigit 16 = .ok (.iconst 0, 1) := by decide +kernel
theorem d_Mo_isDigit_17 : decode b_Mo_isDigit 17 = .ok (.ireturn, 1) := by decide +kernel
theorem d_Mo_fails_0 : decode b_Mo_fails 0 = .ok (.aload_n 0, 1) := by decide +kernel
theorem d_Mo_fails_1 : decode b_Mo_fails 1 = .ok (.getfield 172, 3) := by decide +kernel
theorem d_Mo_fails_4 : decode b_Mo_fails 4 = .ok (.ifCond .ne 13, 3) := by decide +kernel
theorem d_Mo_fails_7 : decode b_Mo_fails 7 = .ok (.aload_n 0, 1) := by decide +kernel
theorem d_Mo_fails_8 : decode b_Mo_fails 8 = .ok (.iload_n 1, 1) := by decide +kernel
theorem d_Mo_fails_9 : decode b_Mo_fails 9 = .ok (.putfield 172, 3) := by decide +kernel
theorem d_Mo_fails_12 : decode b_Mo_fails 12 = .ok (.aload_n 0, 1) := by decide +kernel
theorem d_Mo_fails_13 : decode b_Mo_fails 13 = .ok (.iload_n 2, 1) := by decide +kernel
theorem d_Mo_fails_14 : decode b_Mo_fails 14 = .ok (.putfield 175, 3) := by decide +kernel
theorem d_Mo_fails_17 : decode b_Mo_fails 17 = .ok (.iconst 0, 1) := by decide +kernel
theorem d_Mo_fails_18 : decode b_Mo_fails 18 = .ok (.ireturn, 1) := by decide +kernel
theorem d_Mo_advance_0 : decode b_Mo_advance 0 = .ok (.aload_n 0, 1) := by decide +kernel
theorem d_Mo_advance_1 : decode b_Mo_advance 1 = .ok (.getfield 172, 3) := by decide +kernel
theorem d_Mo_advance_4 : decode b_Mo_advance 4 = .ok (.ifCond .eq 5, 3) := by decide +kernel
theorem d_Mo_advance_7 : decode b_Mo_advance 7 = .ok (.iconst 0, 1) := by decide +kernel
theorem d_Mo_advance_8 : decode b_Mo_advance 8 = .ok (.ireturn, 1) := by decide +kernel
theorem d_Mo_advance_9 : decode b_Mo_advance 9 = .ok (.aload_n 0, 1) := by decide +kernel
theorem d_Mo_advance_10 : decode b_Mo_advance 10 = .ok (.aload_n 0, 1) := by decide +kernel
theorem d_Mo_advance_11 : decode b_Mo_advance 11 = .ok (.getfield 178, 3) := by decide +kernel
theorem d_Mo_advance_14 : decode b_Mo_advance 14 = .ok (.invokevirtual 181, 3) := by decide +kernel
theorem d_Mo_advance_17 : decode b_Mo_advance 17 = .ok (.bipush 10, 2) := by decide +kernel
theorem d_Mo_advance_19 : decode b_Mo_advance 19 = .ok (.if_icmp .eq 16, 3) := by decide +kernel
theorem d_Mo_advance_22 : decode b_Mo_advance 22 = .ok (.aload_n 0, 1) := by decide +kernel
theorem d_Mo_advance_23 : decode b_Mo_advance 23 = .ok (.aload_n 0, 1) := by decide +kernel
theorem d_Mo_advance_24 : decode b_Mo_advance 24 = .ok (.getfield 178, 3) := by decide +kernel
theorem d_Mo_advance_27 : decode b_Mo_advance 27 = .ok (.invokevirtual 181, 3) := by decide +kernel
theorem d_Mo_advance_30 : decode b_Mo_advance 30 = .ok (.bipush 32, 2) := by decide +kernel
theorem d_Mo_advance_32 : decode b_Mo_advance 32 = .ok (.if_icmp .ne 16, 3) := by decide +kernel
theorem d_Mo_advance_35 : decode b_Mo_advance 35 = .ok (.aload_n 0, 1) := by decide +kernel
theorem d_Mo_advance_36 : decode b_Mo_advance 36 = .ok (.dup, 1) := by decide +kernel
theorem d_Mo_advance_37 : decode b_Mo_advance 37 = .ok (.getfield 178, 3) := by decide +kernel
theorem d_Mo_advance_40 : decode b_Mo_advance 40 = .ok (.iconst 1, 1) := by decide +kernel
theorem d_Mo_advance_41 : decode b_Mo_advance 41 = .ok (.iadd, 1) := by decide +kernel
theorem d_Mo_advance_42 : decode b_Mo_advance 42 = .ok (.putfield 178, 3) := by decide +kernel
theorem d_Mo_advance_45 : decode b_Mo_advance 45 = .ok (.goto (-36), 3) := by decide +kernel
theorem d_Mo_advance_48 : decode b_Mo_advance 48 = .ok (.aload_n 0, 1) := by decide +kernel
theorem d_Mo_advance_49 : decode b_Mo_advance 49 = .ok (.aload_n 0, 1) := by decide +kernel
theorem d_Mo_advance_50 : decode b_Mo_advance 50 = .ok (.getfield 178, 3) := by decide +kernel
theorem d_Mo_advance_53 : decode b_Mo_advance 53 = .ok (.putfield 185, 3) := by decide +kernel
theorem d_Mo_advance_56 : decode b_Mo_advance 56 = .ok (.aload_n 0, 1) := by decide +kernel
theorem d_Mo_advance_57 : decode b_Mo_advance 57 = .ok (.aload_n 0, 1) := by decide +kernel
theorem d_Mo_advance_58 : decode b_Mo_advance 58 = .ok (.getfield 178, 3) := by decide +kernel
theorem d_Mo_advance_61 : decode b_Mo_advance 61 = .ok (.invokevirtual 181, 3) := by decide +kernel
theorem d_Mo_advance_64 : decode b_Mo_advance 64 = .ok (.istore_n 1, 1) := by decide +kernel
theorem d_Mo_advance_65 : decode b_Mo_advance 65 = .ok (.aload_n 0, 1) := by decide +kernel
theorem d_Mo_advance_66 : decode b_Mo_advance 66 = .ok (.getfield 178, 3) := by decide +kernel
theorem d_Mo_advance_69 : decode b_Mo_advance 69 = .ok (.istore_n 2, 1) := by decide +kernel
theorem d_Mo_advance_70 : decode b_Mo_advance 70 = .ok (.iload_n 1, 1) := by decide +kernel
theorem d_Mo_advance_71 : decode b_Mo_advance 71 = .ok (.ifCond .ge 11, 3) := by decide +kernel
theorem d_Mo_advance_74 : decode b_Mo_advance 74 = .ok (.aload_n 0, 1) := by decide +kernel
theorem d_Mo_advance_75 : decode b_Mo_advance 75 = .ok (.iconst 0, 1) := by decide +kernel
theorem d_Mo_advance_76 : decode b_Mo_advance 76 = .ok (.putfield 188, 3) := by decide +kernel
theorem d_Mo_advance_79 : decode b_Mo_advance 79 = .ok (.goto 240, 3) := by decide +kernel
theorem d_Mo_advance_82 : decode b_Mo_advance 82 = .ok (.iload_n 1, 1) := by decide +kernel
theorem d_Mo_advance_83 : decode b_Mo_advance 83 = .ok (.invokestatic 191, 3) := by decide +kernel
theorem d_Mo_advance_86 : decode b_Mo_advance 86 = .ok (.ifCond .eq 69, 3) := by decide +kernel
theorem d_Mo_advance_89 : decode b_Mo_advance 89 = .ok (.aload_n 0, 1) := by decide +kernel
theorem d_Mo_advance_90 : decode b_Mo_advance 90 = .ok (.iconst 1, 1) := by decide +kernel
theorem d_Mo_advance_91 : decode b_Mo_advance 91 = .ok (.putfield 188, 3) := by decide +kernel
theorem d_Mo_advance_94 : decode b_Mo_advance 94 = .ok (.aload_n 0, 1) := by decide +kernel
theorem d_Mo_advance_95 : decode b_Mo_advance 95 = .ok (.lconst 0, 1) := by decide +kernel
theorem d_Mo_advance_96 : decode b_Mo_advance 96 = .ok (.putfield 194, 3) := by decide +kernel
theorem d_Mo_advance_99 : decode b_Mo_advance 99 = .ok (.aload_n 0, 1) := by decide +kernel
theorem d_Mo_advance_100 : decode b_Mo_advance 100 = .ok (.iload_n 2, 1) := by decide +kernel
theorem d_Mo_advance_101 : decode b_Mo_advance 101 = .ok (.invokevirtual 181, 3) := by decide +kernel
theorem d_Mo_advance_104 : decode b_Mo_advance 104 = .ok (.invokestatic 191, 3) := by decide +kernel
theorem d_Mo_advance_107 : decode b_Mo_advance 107 = .ok (.ifCond .eq 27, 3) := by decide +kernel
theorem d_Mo_advance_110 : decode b_Mo_advance 110 = .ok (.aload_n 0, 1) := by decide +kernel
theorem d_Mo_advance_111 : decode b_Mo_advance 111 = .ok (.aload_n 0, 1) := by decide +kernel
theorem d_Mo_advance_112 : decode b_Mo_advance 112 = .ok (.getfield 194, 3) := by decide +kernel
theorem d_Mo_advance_115 : decode b_Mo_advance 115 = .ok (.bipush 8, 2) := by decide +kernel
theorem d_Mo_advance_117 : decode b_Mo_advance 117 = .ok (.lshl, 1) := by decide +kernel
theorem d_Mo_advance_118 : decode b_Mo_advance 118 = .ok (.aload_n 0, 1) := by decide +kernel
theorem d_Mo_advance_119 : decode b_Mo_advance 119 = .ok (.iload_n 2, 1) := by decide +kernel
theorem d_Mo_advance_120 : decode b_Mo_advance 120 = .ok (.invokevirtual 181, 3) := by decide +kernel
theorem d_Mo_advance_123 : decode b_Mo_advance 123 = .ok (.i2l, 1) := by decide +kernel
theorem d_Mo_advance_124 : decode b_Mo_advance 124 = .ok (.lor, 1) := by decide +kernel
theorem d_Mo_advance_125 : decode b_Mo_advance 125 = .ok (.putfield 194, 3) := by decide +kernel
theorem d_Mo_advance_128 : decode b_Mo_advance 128 = .ok (.iinc 2 1, 3) := by decide +kernel
theorem d_Mo_advance_131 : decode b_Mo_advance 131 = .ok (.goto (-32), 3) := by decide +kernel
theorem d_Mo_advance_134 : decode b_Mo_advance 134 = .ok (.iload_n 2, 1) := by decide +kernel
theorem d_Mo_advance_135 : decode b_Mo_advance 135 = .ok (.aload_n 0, 1) := by decide +kernel
theorem d_Mo_advance_136 : decode b_Mo_advance 136 = .ok (.getfield 178, 3) := by decide +kernel
theorem d_Mo_advance_139 : decode b_Mo_advance 139 = .ok (.isub, 1) := by decide +kernel
theorem d_Mo_advance_140 : decode b_Mo_advance 140 = .ok (.bipush 8, 2) := by decide +kernel
theorem d_Mo_advance_142 : decode b_Mo_advance 142 = .ok (.if_icmp .le 177, 3) := by decide +kernel
theorem d_Mo_advance_145 : decode b_Mo_advance 145 = .ok (.aload_n 0, 1) := by decide +kernel
theorem d_Mo_advance_146 : decode b_Mo_advance 146 = .ok (.iconst 1, 1) := by decide +kernel
theorem d_Mo_advance_147 : decode b_Mo_advance 147 = .ok (.aload_n 0, 1) := by decide +kernel
theorem d_Mo_advance_148 : decode b_Mo_advance 148 = .ok (.getfield 178, 3) := by decide +kernel
theorem d_Mo_advance_151 : decode b_Mo_advance 151 = .ok (.invokevirtual 198, 3) := by decide +kernel
theorem d_Mo_advance_154 : decode b_Mo_advance 154 = .ok (.ireturn, 1) := by decide +kernel
theorem d_Mo_advance_155 : decode b_Mo_advance 155 = .ok (.iload_n 1, 1) := by decide +kernel
theorem d_Mo_advance_156 : decode b_Mo_advance 156 = .ok (.invokestatic 202, 3) := by decide +kernel
theorem d_Mo_advance_159 : decode b_Mo_advance 159 = .ok (.ifCond .eq 46, 3) := by decide +kernel
theorem d_Mo_advance_162 : decode b_Mo_advance 162 = .ok (.aload_n 0, 1) := by decide +kernel
theorem d_Mo_advance_163 : decode b_Mo_advance 163 = .ok (.iconst 2, 1) := by decide +kernel
theorem d_Mo_advance_164 : decode b_Mo_advance 164 = .ok (.putfield 188, 3) := by decide +kernel
theorem d_Mo_advance_167 : decode b_Mo_advance 167 = .ok (.aload_n 0, 1) := by decide +kernel
theorem d_Mo_advance_168 : decode b_Mo_advance 168 = .ok (.iload_n 2, 1) := by decide +kernel
theorem d_Mo_advance_169 : decode b_Mo_advance 169 = .ok (.invokevirtual 181, 3) := by decide +kernel
theorem d_Mo_advance_172 : decode b_Mo_advance 172 = .ok (.invokestatic 202, 3) := by decide +kernel
theorem d_Mo_advance_175 : decode b_Mo_advance 175 = .ok (.ifCond .eq 9, 3) := by decide +kernel
theorem d_Mo_advance_178 : decode b_Mo_advance 178 = .ok (.iinc 2 1, 3) := by decide +kernel
theorem d_Mo_advance_181 : decode b_Mo_advance 181 = .ok (.goto (-14), 3) := by decide +kernel
theorem d_Mo_advance_184 : decode b_Mo_advance 184 = .ok (.iload_n 2, 1) := by decide +kernel
theorem d_Mo_advance_185 : decode b_Mo_advance 185 = .ok (.aload_n 0, 1) := by decide +kernel
theorem d_Mo_advance_186 : decode b_Mo_advance 186 = .ok (.getfield 178, 3) := by decide +kernel
theorem d_Mo_advance_189 : decode b_Mo_advance 189 = .ok (.isub, 1) := by decide +kernel
theorem d_Mo_advance_190 : decode b_Mo_advance 190 = .ok (.bipush 6, 2) := by decide +kernel
theorem d_Mo_advance_192 : decode b_Mo_advance 192 = .ok (.if_icmp .le 127, 3) := by decide +kernel
theorem d_Mo_advance_195 : decode b_Mo_advance 195 = .ok (.aload_n 0, 1) := by decide +kernel
theorem d_Mo_advance_196 : decode b_Mo_advance 196 = .ok (.iconst 1, 1) := by decide +kernel
theorem d_Mo_advance_197 : decode b_Mo_advance 197 = .ok (.aload_n 0, 1) := by decide +kernel
theorem d_Mo_advance_198 : decode b_Mo_advance 198 = .ok (.getfield 178, 3) := by decide +kernel
theorem d_Mo_advance_201 : decode b_Mo_advance 201 = .ok (.invokevirtual 198, 3) := by decide +kernel
theorem d_Mo_advance_204 : decode b_Mo_advance 204 = .ok (.ireturn, 1) := by decide +kernel
theorem d_Mo_advance_205 : decode b_Mo_advance 205 = .ok (.iload_n 1, 1) := by decide +kernel
theorem d_Mo_advance_206 : decode b_Mo_advance 206 = .ok (.bipush 34, 2) := by decide +kernel
theorem d_Mo_advance_208 : decode b_Mo_advance 208 = .ok (.if_icmp .ne 84, 3) := by decide +kernel
theorem d_Mo_advance_211 : decode b_Mo_advance 211 = .ok (.aload_n 0, 1) := by decide +kernel
theorem d_Mo_advance_212 : decode b_Mo_advance 212 = .ok (.iconst 3, 1) := by decide +kernel
theorem d_Mo_advance_213 : decode b_Mo_advance 213 = .ok (.putfield 188, 3) := by decide +kernel
theorem d_Mo_advance_216 : decode b_Mo_advance 216 = .ok (.iinc 2 1, 3) := by decide +kernel
theorem d_Mo_advance_219 : decode b_Mo_advance 219 = .ok (.aload_n 0, 1) := by decide +kernel
theorem d_Mo_advance_220 : decode b_Mo_advance 220 = .ok (.iload_n 2, 1) := by decide +kernel
theorem d_Mo_advance_221 : decode b_Mo_advance 221 = .ok (.invokevirtual 181, 3) := by decide +kernel
theorem d_Mo_advance_224 : decode b_Mo_advance 224 = .ok (.bipush 33, 2) := by decide +kernel
theorem d_Mo_advance_226 : decode b_Mo_advance 226 = .ok (.if_icmp .lt 29, 3) := by decide +kernel
theorem d_Mo_advance_229 : decode b_Mo_advance 229 = .ok (.aload_n 0, 1) := by decide +kernel
theorem d_Mo_advance_230 : decode b_Mo_advance 230 = .ok (.iload_n 2, 1) := by decide +kernel
theorem d_Mo_advance_231 : decode b_Mo_advance 231 = .ok (.invokevirtual 181, 3) := by decide +kernel
theorem d_Mo_advance_234 : decode b_Mo_advance 234 = .ok (.bipush 126, 2) := by decide +kernel
theorem d_Mo_advance_236 : decode b_Mo_advance 236 = .ok (.if_icmp .gt 19, 3) := by decide +kernel
theorem d_Mo_advance_239 : decode b_Mo_advance 239 = .ok (.aload_n 0, 1) := by decide +kernel
theorem d_Mo_advance_240 : decode b_Mo_advance 240 = .ok (.iload_n 2, 1) := by decide +kernel
theorem d_Mo_advance_241 : decode b_Mo_advance 241 = .ok (.invokevirtual 181, 3) := by decide +kernel
theorem d_Mo_advance_244 : decode b_Mo_advance 244 = .ok (.bipush 34, 2) := by decide +kernel
theorem d_Mo_advance_246 : decode b_Mo_advance 246 = .ok (.if_icmp .eq 9, 3) := by decide +kernel
theorem d_Mo_advance_249 : decode b_Mo_advance 249 = .ok (.iinc 2 1, 3) := by decide +kernel
theorem d_Mo_advance_252 : decode b_Mo_advance 252 = .ok (.goto (-33), 3) := by decide +kernel
theorem d_Mo_advance_255 : decode b_Mo_advance 255 = .ok (.aload_n 0, 1) := by decide +kernel
theorem d_Mo_advance_256 : decode b_Mo_advance 256 = .ok (.iload_n 2, 1) := by decide +kernel
theorem d_Mo_advance_257 : decode b_Mo_advance 257 = .ok (.invokevirtual 181, 3) := by decide +kernel
theorem d_Mo_advance_260 : decode b_Mo_advance 260 = .ok (.bipush 34, 2) := by decide +kernel
theorem d_Mo_advance_262 : decode b_Mo_advance 262 = .ok (.if_icmp .ne 14, 3) := by decide +kernel
theorem d_Mo_advance_265 : decode b_Mo_advance 265 = .ok (.iload_n 2, 1) := by decide +kernel
theorem d_Mo_advance_266 : decode b_Mo_advance 266 = .ok (.aload_n 0, 1) := by decide +kernel
theorem d_Mo_advance_267 : decode b_Mo_advance 267 = .ok (.getfield 178, 3) := by decide +kernel
theorem d_Mo_advance_270 : decode b_Mo_advance 270 = .ok (.isub, 1) := by decide +kernel
theorem d_Mo_advance_271 : decode b_Mo_advance 271 = .ok (.bipush 41, 2) := by decide +kernel
theorem d_Mo_advance_273 : decode b_Mo_advance 273 = .ok (.if_icmp .le 13, 3) := by decide +kernel
theorem d_Mo_advance_276 : decode b_Mo_advance 276 = .ok (.aload_n 0, 1) := by decide +kernel
theorem d_Mo_advance_277 : decode b_Mo_advance 277 = .ok (.iconst 1, 1) := by decide +kernel
theorem d_Mo_advance_278 : decode b_Mo_advance 278 = .ok (.aload_n 0, 1) := by decide +kernel
theorem d_Mo_advance_279 : decode b_Mo_advance 279 = .ok (.getfield 178, 3) := by decide +kernel
theorem d_Mo_advance_282 : decode b_Mo_advance 282 = .ok (.invokevirtual 198, 3) := by decide +kernel
theorem d_Mo_advance_285 : decode b_Mo_advance 285 = .ok (.ireturn, 1) := by decide +kernel
theorem d_Mo_advance_286 : decode b_Mo_advance 286 = .ok (.iinc 2 1, 3) := by decide +kernel
theorem d_Mo_advance_289 : decode b_Mo_advance 289 = .ok (.goto 30, 3) := by decide +kernel
theorem d_Mo_advance_292 : decode b_Mo_advance 292 = .ok (.iload_n 1, 1) := by decide +kernel
theorem d_Mo_advance_293 : decode b_Mo_advance 293 = .ok (.bipush 59, 2) := by decide +kernel
theorem d_Mo_advance_295 : decode b_Mo_advance 295 = .ok (.if_icmp .ne 14, 3) := by decide +kernel
theorem d_Mo_advance_298 : decode b_Mo_advance 298 = .ok (.aload_n 0, 1) := by decide +kernel
theorem d_Mo_advance_299 : decode b_Mo_advance 299 = .ok (.iconst 4, 1) := by decide +kernel
theorem d_Mo_advance_300 : decode b_Mo_advance 300 = .ok (.putfield 188, 3) := by decide +kernel
theorem d_Mo_advance_303 : decode b_Mo_advance 303 = .ok (.iinc 2 1, 3) := by decide +kernel
theorem d_Mo_advance_306 : decode b_Mo_advance 306 = .ok (.goto 13, 3) := by decide +kernel
theorem d_Mo_advance_309 : decode b_Mo_advance 309 = .ok (.aload_n 0, 1) := by decide +kernel
theorem d_Mo_advance_310 : decode b_Mo_advance 310 = .ok (.iconst 1, 1) := by decide +kernel
theorem d_Mo_advance_311 : decode b_Mo_advance 311 = .ok (.aload_n 0, 1) := by decide +kernel
theorem d_Mo_advance_312 : decode b_Mo_advance 312 = .ok (.getfield 178, 3) := by decide +kernel
theorem d_Mo_advance_315 : decode b_Mo_advance 315 = .ok (.invokevirtual 198, 3) := by decide +kernel
theorem d_Mo_advance_318 : decode b_Mo_advance 318 = .ok (.ireturn, 1) := by decide +kernel
theorem d_Mo_advance_319 : decode b_Mo_advance 319 = .ok (.aload_n 0, 1) := by decide +kernel
theorem d_Mo_advance_320 : decode b_Mo_advance 320 = .ok (.iload_n 2, 1) := by decide +kernel
theorem d_Mo_advance_321 : decode b_Mo_advance 321 = .ok (.putfield 205, 3) := by decide +kernel
theorem d_Mo_advance_324 : decode b_Mo_advance 324 = .ok (.aload_n 0, 1) := by decide +kernel
theorem d_Mo_advance_325 : decode b_Mo_advance 325 = .ok (.iload_n 2, 1) := by decide +kernel
theorem d_Mo_advance_326 : decode b_Mo_advance 326 = .ok (.putfield 178, 3) := by decide +kernel
theorem d_Mo_advance_329 : decode b_Mo_advance 329 = .ok (.iconst 1, 1) := by decide +kernel
theorem d_Mo_advance_330 : decode b_Mo_advance 330 = .ok (.ireturn, 1) := by decide +kernel
theorem d_Mo_number_0 : decode b_Mo_number 0 = .ok (.aload_n 0, 1) := by decide +kernel
theorem d_Mo_number_1 : decode b_Mo_number 1 = .ok (.invokevirtual 208, 3) := by decide +kernel
theorem d_Mo_number_4 : decode b_Mo_number 4 = .ok (.ifCond .ne 5, 3) := by decide +kernel
theorem d_Mo_number_7 : decode b_Mo_number 7 = .ok (.iconst (-1), 1) := by decide +kernel
theorem d_Mo_number_8 : decode b_Mo_number 8 = .ok (.ireturn, 1) := by decide +kernel
theorem d_Mo_number_9 : decode b_Mo_number 9 = .ok (.aload_n 0, 1) := by decide +kernel
theorem d_Mo_number_10 : decode b_Mo_number 10 = .ok (.getfield 188, 3) := by decide +kernel
theorem d_Mo_number_13 : decode b_Mo_number 13 = .ok (.iconst 2, 1) := by decide +kernel
theorem d_Mo_number_14 : decode b_Mo_number 14 = .ok (.if_icmp .eq 15, 3) := by decide +kernel
theorem d_Mo_number_17 : decode b_Mo_number 17 = .ok (.aload_n 0, 1) := by decide +kernel
theorem d_Mo_number_18 : decode b_Mo_number 18 = .ok (.iconst 2, 1) := by decide +kernel
theorem d_Mo_number_19 : decode b_Mo_number 19 = .ok (.aload_n 0, 1) := by decide +kernel
theorem d_Mo_number_20 : decode b_Mo_number 20 = .ok (.getfield 185, 3) := by decide +kernel
theorem d_Mo_number_23 : decode b_Mo_number 23 = .ok (.invokevirtual 198, 3) := by decide +kernel
theorem d_Mo_number_26 : decode b_Mo_number 26 = .ok (.pop, 1) := by decide +kernel
theorem d_Mo_number_27 : decode b_Mo_number 27 = .ok (.iconst (-1), 1) := by decide +kernel
theorem d_Mo_number_28 : decode b_Mo_number 28 = .ok (.ireturn, 1) := by decide +kernel
theorem d_Mo_number_29 : decode b_Mo_number 29 = .ok (.iconst 0, 1) := by decide +kernel
theorem d_Mo_number_30 : decode b_Mo_number 30 = .ok (.istore_n 3, 1) := by decide +kernel
theorem d_Mo_number_31 : decode b_Mo_number 31 = .ok (.aload_n 0, 1) := by decide +kernel
theorem d_Mo_number_32 : decode b_Mo_number 32 = .ok (.getfield 185, 3) := by decide +kernel
theorem d_Mo_number_35 : decode b_Mo_number 35 = .ok (.istore 4, 2) := by decide +kernel
theorem d_Mo_number_37 : decode b_Mo_number 37 = .ok (.iload 4, 2) := by decide +kernel
theorem d_Mo_number_39 : decode b_Mo_number 39 = .ok (.aload_n 0, 1) := by decide +kernel
theorem d_Mo_number_40 : decode b_Mo_number 40 = .ok (.getfield 205, 3) := by decide +kernel
theorem d_Mo_number_43 : decode b_Mo_number 43 = .ok (.if_icmp .ge 24, 3) := by decide +kernel
theorem d_Mo_number_46 : decode b_Mo_number 46 = .ok (.iload_n 3, 1) := by decide +kernel
theorem d_Mo_number_47 : decode b_Mo_number 47 = .ok (.bipush 10, 2) := by decide +kernel
theorem d_Mo_number_49 : decode b_Mo_number 49 = .ok (.imul, 1) := by decide +kernel
theorem d_Mo_number_50 : decode b_Mo_number 50 = .ok (.aload_n 0, 1) := by decide +kernel
theorem d_Mo_number_51 : decode b_Mo_number 51 = .ok (.iload 4, 2) := by decide +kernel
theorem d_Mo_number_53 : decode b_Mo_number 53 = .ok (.invokevirtual 181, 3) := by decide +kernel
theorem d_Mo_number_56 : decode b_Mo_number 56 = .ok (.iadd, 1) := by decide +kernel
theorem d_Mo_number_57 : decode b_Mo_number 57 = .ok (.bipush 48, 2) := by decide +kernel
theorem d_Mo_number_59 : decode b_Mo_number 59 = .ok (.isub, 1) := by decide +kernel
theorem d_Mo_number_60 : decode b_Mo_number 60 = .ok (.istore_n 3, 1) := by decide +kernel
theorem d_Mo_number_61 : decode b_Mo_number 61 = .ok (.iinc 4 1, 3) := by decide +kernel
theorem d_Mo_number_64 : decode b_Mo_number 64 = .ok (.goto (-27), 3) := by decide +kernel
theorem d_Mo_number_67 : decode b_Mo_number 67 = .ok (.iload_n 3, 1) := by decide +kernel
theorem d_Mo_number_68 : decode b_Mo_number 68 = .ok (.iload_n 1, 1) := by decide +kernel
theorem d_Mo_number_69 : decode b_Mo_number 69 = .ok (.if_icmp .lt 8, 3) := by decide +kernel
theorem d_Mo_number_72 : decode b_Mo_number 72 = .ok (.iload_n 3, 1) := by decide +kernel
theorem d_Mo_number_73 : decode b_Mo_number 73 = .ok (.iload_n 2, 1) := by decide +kernel
theorem d_Mo_number_74 : decode b_Mo_number 74 = .ok (.if_icmp .le 15, 3) := by decide +kernel
theorem d_Mo_number_77 : decode b_Mo_number 77 = .ok (.aload_n 0, 1) := by decide +kernel
theorem d_Mo_number_78 : decode b_Mo_number 78 = .ok (.iconst 4, 1) := by decide +kernel
theorem d_Mo_number_79 : decode b_Mo_number 79 = .ok (.aload_n 0, 1) := by decide +kernel
theorem d_Mo_number_80 : decode b_Mo_number 80 = .ok (.getfield 185, 3) := by decide +kernel
theorem d_Mo_number_83 : decode b_Mo_number 83 = .ok (.invokevirtual 198, 3) := by decide +kernel
theorem d_Mo_number_86 : decode b_Mo_number 86 = .ok (.pop, 1) := by decide +kernel
theorem d_Mo_number_87 : decode b_Mo_number 87 = .ok (.iconst (-1), 1) := by decide +kernel
theorem d_Mo_number_88 : decode b_Mo_number 88 = .ok (.ireturn, 1) := by decide +kernel
theorem d_Mo_number_89 : decode b_Mo_number 89 = .ok (.iload_n 3, 1) := by decide +kernel
theorem d_Mo_number_90 : decode b_Mo_number 90 = .ok (.ireturn, 1) := by decide +kernel
theorem d_Mo_open_0 : decode b_Mo_open 0 = .ok (.aload_n 0, 1) := by decide +kernel
theorem d_Mo_open_1 : decode b_Mo_open 1 = .ok (.getfield 95, 3) := by decide +kernel
theorem d_Mo_open_4 : decode b_Mo_open 4 = .ok (.iload_n 1, 1) := by decide +kernel
theorem d_Mo_open_5 : decode b_Mo_open 5 = .ok (.iconst 0, 1) := by decide +kernel
theorem d_Mo_open_6 : decode b_Mo_open 6 = .ok (.iastore, 1) := by decide +kernel
theorem d_Mo_open_7 : decode b_Mo_open 7 = .ok (.aload_n 0, 1) := by decide +kernel
theorem d_Mo_open_8 : decode b_Mo_open 8 = .ok (.getfield 98, 3) := by decide +kernel
theorem d_Mo_open_11 : decode b_Mo_open 11 = .ok (.iload_n 1, 1) := by decide +kernel
theorem d_Mo_open_12 : decode b_Mo_open 12 = .ok (.iconst 0, 1) := by decide +kernel
theorem d_Mo_open_13 : decode b_Mo_open 13 = .ok (.iastore, 1) := by decide +kernel
theorem d_Mo_open_14 : decode b_Mo_open 14 = .ok (.aload_n 0, 1) := by decide +kernel
theorem d_Mo_open_15 : decode b_Mo_open 15 = .ok (.getfield 101, 3) := by decide +kernel
theorem d_Mo_open_18 : decode b_Mo_open 18 = .ok (.iload_n 1, 1) := by decide +kernel
theorem d_Mo_open_19 : decode b_Mo_open 19 = .ok (.iconst 0, 1) := by decide +kernel
theorem d_Mo_open_20 : decode b_Mo_open 20 = .ok (.iastore, 1) := by decide +kernel
theorem d_Mo_open_21 : decode b_Mo_open 21 = .ok (.aload_n 0, 1) := by decide +kernel
theorem d_Mo_open_22 : decode b_Mo_open 22 = .ok (.getfield 104, 3) := by decide +kernel
theorem d_Mo_open_25 : decode b_Mo_open 25 = .ok (.iload_n 1, 1) := by decide +kernel
theorem d_Mo_open_26 : decode b_Mo_open 26 = .ok (.iconst 0, 1) := by decide +kernel
theorem d_Mo_open_27 : decode b_Mo_open 27 = .ok (.bastore, 1) := by decide +kernel
theorem d_Mo_open_28 : decode b_Mo_open 28 = .ok (.return_, 1) := by decide +kernel
theorem d_Mo_letterOf_0 : decode b_Mo_letterOf 0 = .ok (.iload_n 0, 1) := by decide +kernel
theorem d_Mo_letterOf_1 : decode b_Mo_letterOf 1 = .ok (.bipush 45, 2) := by decide +kernel
theorem d_Mo_letterOf_3 : decode b_Mo_letterOf 3 = .ok (.if_icmp .ne 7, 3) := by decide +kernel
theorem d_Mo_letterOf_6 : decode b_Mo_letterOf 6 = .ok (.iconst 0, 1) := by decide +kernel
theorem d_Mo_letterOf_7 : decode b_Mo_letterOf 7 = .ok (.goto 25, 3) := by decide +kernel
theorem d_Mo_letterOf_10 : decode b_Mo_letterOf 10 = .ok (.iload_n 0, 1) := by decide +kernel
theorem d_Mo_letterOf_11 : decode b_Mo_letterOf 11 = .ok (.bipush 97, 2) := by decide +kernel
theorem d_Mo_letterOf_13 : decode b_Mo_letterOf 13 = .ok (.if_icmp .lt 18, 3) := by decide +kernel
theorem d_Mo_letterOf_16 : decode b_Mo_letterOf 16 = .ok (.iload_n 0, 1) := by decide +kernel
theorem d_Mo_letterOf_17 : decode b_Mo_letterOf 17 = .ok (.bipush 104, 2) := by decide +kernel
theorem d_Mo_letterOf_19 : decode b_Mo_letterOf 19 = .ok (.if_icmp .gt 12, 3) := by decide +kernel
theorem d_Mo_letterOf_22 : decode b_Mo_letterOf 22 = .ok (.iload_n 0, 1) := by decide +kernel
theorem d_Mo_letterOf_23 : decode b_Mo_letterOf 23 = .ok (.bipush 97, 2) := by decide +kernel
theorem d_Mo_letterOf_25 : decode b_Mo_letterOf 25 = .ok (.isub, 1) := by decide +kernel
theorem d_Mo_letterOf_26 : decode b_Mo_letterOf 26 = .ok (.iconst 1, 1) := by decide +kernel
theorem d_Mo_letterOf_27 : decode b_Mo_letterOf 27 = .ok (.iadd, 1) := by decide +kernel
theorem d_Mo_letterOf_28 : decode b_Mo_letterOf 28 = .ok (.goto 4, 3) := by decide +kernel
theorem d_Mo_letterOf_31 : decode b_Mo_letterOf 31 = .ok (.iconst (-1), 1) := by decide +kernel
theorem d_Mo_letterOf_32 : decode b_Mo_letterOf 32 = .ok (.ireturn, 1) := by decide +kernel
theorem d_Mo_beginsAtom_0 : decode b_Mo_beginsAtom 0 = .ok (.iload_n 0, 1) := by decide +kernel
theorem d_Mo_beginsAtom_1 : decode b_Mo_beginsAtom 1 = .ok (.invokestatic 277, 3) := by decide +kernel
theorem d_Mo_beginsAtom_4 : decode b_Mo_beginsAtom 4 = .ok (.ifCond .ge 21, 3) := by decide +kernel
theorem d_Mo_beginsAtom_7 : decode b_Mo_beginsAtom 7 = .ok (.iload_n 0, 1) := by decide +kernel
theorem d_Mo_beginsAtom_8 : decode b_Mo_beginsAtom 8 = .ok (.bipush 46, 2) := by decide +kernel
theorem d_Mo_beginsAtom_10 : decode b_Mo_beginsAtom 10 = .ok (.if_icmp .eq 15, 3) := by decide +kernel
theorem d_Mo_beginsAtom_13 : decode b_Mo_beginsAtom 13 = .ok (.iload_n 0, 1) := by decide +kernel
theorem d_Mo_beginsAtom_14 : decode b_Mo_beginsAtom 14 = .ok (.bipush 91, 2) := by decide +kernel
theorem d_Mo_beginsAtom_16 : decode b_Mo_beginsAtom 16 = .ok (.if_icmp .eq 9, 3) := by decide +kernel
theorem d_Mo_beginsAtom_19 : decode b_Mo_beginsAtom 19 = .ok (.iload_n 0, 1) := by decide +kernel
theorem d_Mo_beginsAtom_20 : decode b_Mo_beginsAtom 20 = .ok (.bipush 40, 2) := by decide +kernel
theorem d_Mo_beginsAtom_22 : decode b_Mo_beginsAtom 22 = .ok (.if_icmp .ne 7, 3) := by decide +kernel
theorem d_Mo_beginsAtom_25 : decode b_Mo_beginsAtom 25 = .ok (.iconst 1, 1) := by decide +kernel
theorem d_Mo_beginsAtom_26 : decode b_Mo_beginsAtom 26 = .ok (.goto 4, 3) := by decide +kernel
theorem d_Mo_beginsAtom_29 : decode b_Mo_beginsAtom 29 = .ok (.iconst 0, 1) := by decide +kernel
theorem d_Mo_beginsAtom_30 : decode b_Mo_beginsAtom 30 = .ok (.ireturn, 1) := by decide +kernel
theorem d_Mo_set0_0 : decode b_Mo_set0 0 = .ok (.aload_n 0, 1) := by decide +kernel
theorem d_Mo_set0_1 : decode b_Mo_set0 1 = .ok (.dup, 1) := by decide +kernel
theorem d_Mo_set0_2 : decode b_Mo_set0 2 = .ok (.getfield 247, 3) := by decide +kernel
theorem d_Mo_set0_5 : decode b_Mo_set0 5 = .ok (.iconst 1, 1) := by decide +kernel
theorem d_Mo_set0_6 : decode b_Mo_set0 6 = .ok (.iadd, 1) := by decide +kernel
theorem d_Mo_set0_7 : decode b_Mo_set0 7 = .ok (.putfield 247, 3) := by decide +kernel
theorem d_Mo_set0_10 : decode b_Mo_set0 10 = .ok (.aload_n 0, 1) := by decide +kernel
theorem d_Mo_set0_11 : decode b_Mo_set0 11 = .ok (.aload_n 0, 1) := by decide +kernel
theorem d_Mo_set0_12 : decode b_Mo_set0 12 = .ok (.getfield 247, 3) := by decide +kernel
theorem d_Mo_set0_15 : decode b_Mo_set0 15 = .ok (.invokevirtual 181, 3) := by decide +kernel
theorem d_Mo_set0_18 : decode b_Mo_set0 18 = .ok (.bipush 94, 2) := by decide +kernel
theorem d_Mo_set0_20 : decode b_Mo_set0 20 = .ok (.if_icmp .ne 7, 3) := by decide +kernel
theorem d_Mo_set0_23 : decode b_Mo_set0 23 = .ok (.iconst 1, 1) := by decide +kernel
theorem d_Mo_set0_24 : decode b_Mo_set0 24 = .ok (.goto 4, 3) := by decide +kernel
theorem d_Mo_set0_27 : decode b_Mo_set0 27 = .ok (.iconst 0, 1) := by decide +kernel
theorem d_Mo_set0_28 : decode b_Mo_set0 28 = .ok (.istore_n 1, 1) := by decide +kernel
theorem d_Mo_set0_29 : decode b_Mo_set0 29 = .ok (.aload_n 0, 1) := by decide +kernel
theorem d_Mo_set0_30 : decode b_Mo_set0 30 = .ok (.dup, 1) := by decide +kernel
theorem d_Mo_set0_31 : decode b_Mo_set0 31 = .ok (.getfield 247, 3) := by decide +kernel
theorem d_Mo_set0_34 : decode b_Mo_set0 34 = .ok (.iload_n 1, 1) := by decide +kernel
theorem d_Mo_set0_35 : decode b_Mo_set0 35 = .ok (.ifCond .eq 7, 3) := by decide +kernel
theorem d_Mo_set0_38 : decode b_Mo_set0 38 = .ok (.iconst 1, 1) := by decide +kernel
theorem d_Mo_set0_39 : decode b_Mo_set0 39 = .ok (.goto 4, 3) := by decide +kernel
theorem d_Mo_set0_42 : decode b_Mo_set0 42 = .ok (.iconst 0, 1) := by decide +kernel
theorem d_Mo_set0_43 : decode b_Mo_set0 43 = .ok (.iadd, 1) := by decide +kernel
theorem d_Mo_set0_44 : decode b_Mo_set0 44 = .ok (.putfield 247, 3) := by decide +kernel
theorem d_Mo_set0_47 : decode b_Mo_set0 47 = .ok (.iconst 0, 1) := by decide +kernel
theorem d_Mo_set0_48 : decode b_Mo_set0 48 = .ok (.istore_n 2, 1) := by decide +kernel
theorem d_Mo_set0_49 : decode b_Mo_set0 49 = .ok (.aload_n 0, 1) := by decide +kernel
theorem d_Mo_set0_50 : decode b_Mo_set0 50 = .ok (.aload_n 0, 1) := by decide +kernel
theorem d_Mo_set0_51 : decode b_Mo_set0 51 = .ok (.getfield 247, 3) := by decide +kernel
theorem d_Mo_set0_54 : decode b_Mo_set0 54 = .ok (.invokevirtual 181, 3) := by decide +kernel
theorem d_Mo_set0_57 : decode b_Mo_set0 57 = .ok (.invokestatic 277, 3) := by decide +kernel
theorem d_Mo_set0_60 : decode b_Mo_set0 60 = .ok (.ifCond .ge 15, 3) := by decide +kernel
theorem d_Mo_set0_63 : decode b_Mo_set0 63 = .ok (.aload_n 0, 1) := by decide +kernel
theorem d_Mo_set0_64 : decode b_Mo_set0 64 = .ok (.iconst 2, 1) := by decide +kernel
theorem d_Mo_set0_65 : decode b_Mo_set0 65 = .ok (.aload_n 0, 1) := by decide +kernel
theorem d_Mo_set0_66 : decode b_Mo_set0 66 = .ok (.getfield 247, 3) := by decide +kernel
theorem d_Mo_set0_69 : decode b_Mo_set0 69 = .ok (.invokevirtual 198, 3) := by decide +kernel
theorem d_Mo_set0_72 : decode b_Mo_set0 72 = .ok (.pop, 1) := by decide +kernel
theorem d_Mo_set0_73 : decode b_Mo_set0 73 = .ok (.iconst 0, 1) := by decide +kernel
theorem d_Mo_set0_74 : decode b_Mo_set0 74 = .ok (.ireturn, 1) := by decide +kernel
theorem d_Mo_set0_75 : decode b_Mo_set0 75 = .ok (.aload_n 0, 1) := by decide +kernel
theorem d_Mo_set0_76 : decode b_Mo_set0 76 = .ok (.aload_n 0, 1) := by decide +kernel
theorem d_Mo_set0_77 : decode b_Mo_set0 77 = .ok (.getfield 247, 3) := by decide +kernel
theorem d_Mo_set0_80 : decode b_Mo_set0 80 = .ok (.invokevirtual 181, 3) := by decide +kernel
theorem d_Mo_set0_83 : decode b_Mo_set0 83 = .ok (.invokestatic 277, 3) := by decide +kernel
theorem d_Mo_set0_86 : decode b_Mo_set0 86 = .ok (.ifCond .lt 32, 3) := by decide +kernel
theorem d_Mo_set0_89 : decode b_Mo_set0 89 = .ok (.iload_n 2, 1) := by decide +kernel
theorem d_Mo_set0_90 : decode b_Mo_set0 90 = .ok (.iconst 1, 1) := by decide +kernel
theorem d_Mo_set0_91 : decode b_Mo_set0 91 = .ok (.aload_n 0, 1) := by decide +kernel
theorem d_Mo_set0_92 : decode b_Mo_set0 92 = .ok (.aload_n 0, 1) := by decide +kernel
theorem d_Mo_set0_93 : decode b_Mo_set0 93 = .ok (.getfield 247, 3) := by decide +kernel
theorem d_Mo_set0_96 : decode b_Mo_set0 96 = .ok (.invokevirtual 181, 3) := by decide +kernel
theorem d_Mo_set0_99 : decode b_Mo_set0 99 = .ok (.invokestatic 277, 3) := by decide +kernel
theorem d_Mo_set0_102 : decode b_Mo_set0 102 = .ok (.ishl, 1) := by decide +kernel
theorem d_Mo_set0_103 : decode b_Mo_set0 103 = .ok (.ior, 1) := by decide +kernel
theorem d_Mo_set0_104 : decode b_Mo_set0 104 = .ok (.istore_n 2, 1) := by decide +kernel
theorem d_Mo_set0_105 : decode b_Mo_set0 105 = .ok (.aload_n 0, 1) := by decide +kernel
theorem d_Mo_set0_106 : decode b_Mo_set0 106 = .ok (.dup, 1) := by decide +kernel
theorem d_Mo_set0_107 : decode b_Mo_set0 107 = .ok (.getfield 247, 3) := by decide +kernel
theorem d_Mo_set0_110 : decode b_Mo_set0 110 = .ok (.iconst 1, 1) := by decide +kernel
theorem d_Mo_set0_111 : decode b_Mo_set0 111 = .ok (.iadd, 1) := by decide +kernel
theorem d_Mo_set0_112 : decode b_Mo_set0 112 = .ok (.putfield 247, 3) := by decide +kernel
theorem d_Mo_set0_115 : decode b_Mo_set0 115 = .ok (.goto (-40), 3) := by decide +kernel
theorem d_Mo_set0_118 : decode b_Mo_set0 118 = .ok (.iload_n 1, 1) := by decide +kernel
theorem d_Mo_set0_119 : decode b_Mo_set0 119 = .ok (.ifCond .eq 13, 3) := by decide +kernel
theorem d_Mo_set0_122 : decode b_Mo_set0 122 = .ok (.sipush 511, 3) := by decide +kernel
theorem d_Mo_set0_125 : decode b_Mo_set0 125 = .ok (.iload_n 2, 1) := by decide +kernel
theorem d_Mo_set0_126 : decode b_Mo_set0 126 = .ok (.iconst (-1), 1) := by decide +kernel
theorem d_Mo_set0_127 : decode b_Mo_set0 127 = .ok (.ixor, 1) := by decide +kernel
theorem d_Mo_set0_128 : decode b_Mo_set0 128 = .ok (.iand, 1) := by decide +kernel
theorem d_Mo_set0_129 : decode b_Mo_set0 129 = .ok (.goto 4, 3) := by decide +kernel
theorem d_Mo_set0_132 : decode b_Mo_set0 132 = .ok (.iload_n 2, 1) := by decide +kernel
theorem d_Mo_set0_133 : decode b_Mo_set0 133 = .ok (.istore_n 2, 1) := by decide +kernel
theorem d_Mo_set0_134 : decode b_Mo_set0 134 = .ok (.aload_n 0, 1) := by decide +kernel
theorem d_Mo_set0_135 : decode b_Mo_set0 135 = .ok (.aload_n 0, 1) := by decide +kernel
theorem d_Mo_set0_136 : decode b_Mo_set0 136 = .ok (.getfield 247, 3) := by decide +kernel
theorem d_Mo_set0_139 : decode b_Mo_set0 139 = .ok (.invokevirtual 181, 3) := by decide +kernel
theorem d_Mo_set0_142 : decode b_Mo_set0 142 = .ok (.bipush 93, 2) := by decide +kernel
theorem d_Mo_set0_144 : decode b_Mo_set0 144 = .ok (.if_icmp .ne 7, 3) := by decide +kernel
theorem d_Mo_set0_147 : decode b_Mo_set0 147 = .ok (.iload_n 2, 1) := by decide +kernel
theorem d_Mo_set0_148 : decode b_Mo_set0 148 = .ok (.ifCond .ne 15, 3) := by decide +kernel
theorem d_Mo_set0_151 : decode b_Mo_set0 151 = .ok (.aload_n 0, 1) := by decide +kernel
theorem d_Mo_set0_152 : decode b_Mo_set0 152 = .ok (.iconst 2, 1) := by decide +kernel
theorem d_Mo_set0_153 : decode b_Mo_set0 153 = .ok (.aload_n 0, 1) := by decide +kernel
theorem d_Mo_set0_154 : decode b_Mo_set0 154 = .ok (.getfield 247, 3) := by decide +kernel
theorem d_Mo_set0_157 : decode b_Mo_set0 157 = .ok (.invokevirtual 198, 3) := by decide +kernel
theorem d_Mo_set0_160 : decode b_Mo_set0 160 = .ok (.pop, 1) := by decide +kernel
theorem d_Mo_set0_161 : decode b_Mo_set0 161 = .ok (.iconst 0, 1) := by decide +kernel
theorem d_Mo_set0_162 : decode b_Mo_set0 162 = .ok (.ireturn, 1) := by decide +kernel
theorem d_Mo_set0_163 : decode b_Mo_set0 163 = .ok (.aload_n 0, 1) := by decide +kernel
theorem d_Mo_set0_164 : decode b_Mo_set0 164 = .ok (.dup, 1) := by decide +kernel
theorem d_Mo_set0_165 : decode b_Mo_set0 165 = .ok (.getfield 247, 3) := by decide +kernel
theorem d_Mo_set0_168 : decode b_Mo_set0 168 = .ok (.iconst 1, 1) := by decide +kernel
theorem d_Mo_set0_169 : decode b_Mo_set0 169 = .ok (.iadd, 1) := by decide +kernel
theorem d_Mo_set0_170 : decode b_Mo_set0 170 = .ok (.putfield 247, 3) := by decide +kernel
theorem d_Mo_set0_173 : decode b_Mo_set0 173 = .ok (.iload_n 2, 1) := by decide +kernel
theorem d_Mo_set0_174 : decode b_Mo_set0 174 = .ok (.ireturn, 1) := by decide +kernel
theorem d_Mo_few_0 : decode b_Mo_few 0 = .ok (.iload_n 0, 1) := by decide +kernel
theorem d_Mo_few_1 : decode b_Mo_few 1 = .ok (.sipush 1000, 3) := by decide +kernel
theorem d_Mo_few_4 : decode b_Mo_few 4 = .ok (.if_icmp .le 9, 3) := by decide +kernel
theorem d_Mo_few_7 : decode b_Mo_few 7 = .ok (.sipush 1000, 3) := by decide +kernel
theorem d_Mo_few_10 : decode b_Mo_few 10 = .ok (.goto 4, 3) := by decide +kernel
theorem d_Mo_few_13 : decode b_Mo_few 13 = .ok (.iload_n 0, 1) := by decide +kernel
theorem d_Mo_few_14 : decode b_Mo_few 14 = .ok (.ireturn, 1) := by decide +kernel
theorem d_Mo_item_0 : decode b_Mo_item 0 = .ok (.aload_n 0, 1) := by decide +kernel
theorem d_Mo_item_1 : decode b_Mo_item 1 = .ok (.getfield 98, 3) := by decide +kernel
theorem d_Mo_item_4 : decode b_Mo_item 4 = .ok (.iload_n 1, 1) := by decide +kernel
theorem d_Mo_item_5 : decode b_Mo_item 5 = .ok (.aload_n 0, 1) := by decide +kernel
theorem d_Mo_item_6 : decode b_Mo_item 6 = .ok (.getfield 98, 3) := by decide +kernel
theorem d_Mo_item_9 : decode b_Mo_item 9 = .ok (.iload_n 1, 1) := by decide +kernel
theorem d_Mo_item_10 : decode b_Mo_item 10 = .ok (.iaload, 1) := by decide +kernel
theorem d_Mo_item_11 : decode b_Mo_item 11 = .ok (.aload_n 0, 1) := by decide +kernel
theorem d_Mo_item_12 : decode b_Mo_item 12 = .ok (.getfield 101, 3) := by decide +kernel
theorem d_Mo_item_15 : decode b_Mo_item 15 = .ok (.iload_n 1, 1) := by decide +kernel
theorem d_Mo_item_16 : decode b_Mo_item 16 = .ok (.iaload, 1) := by decide +kernel
theorem d_Mo_item_17 : decode b_Mo_item 17 = .ok (.iadd, 1) := by decide +kernel
theorem d_Mo_item_18 : decode b_Mo_item 18 = .ok (.invokestatic 300, 3) := by decide +kernel
theorem d_Mo_item_21 : decode b_Mo_item 21 = .ok (.iastore, 1) := by decide +kernel
theorem d_Mo_item_22 : decode b_Mo_item 22 = .ok (.aload_n 0, 1) := by decide +kernel
theorem d_Mo_item_23 : decode b_Mo_item 23 = .ok (.getfield 101, 3) := by decide +kernel
theorem d_Mo_item_26 : decode b_Mo_item 26 = .ok (.iload_n 1, 1) := by decide +kernel
theorem d_Mo_item_27 : decode b_Mo_item 27 = .ok (.iload_n 2, 1) := by decide +kernel
theorem d_Mo_item_28 : decode b_Mo_item 28 = .ok (.iastore, 1) := by decide +kernel
theorem d_Mo_item_29 : decode b_Mo_item 29 = .ok (.aload_n 0, 1) := by decide +kernel
theorem d_Mo_item_30 : decode b_Mo_item 30 = .ok (.getfield 104, 3) := by decide +kernel
theorem d_Mo_item_33 : decode b_Mo_item 33 = .ok (.iload_n 1, 1) := by decide +kernel
theorem d_Mo_item_34 : decode b_Mo_item 34 = .ok (.iconst 1, 1) := by decide +kernel
theorem d_Mo_item_35 : decode b_Mo_item 35 = .ok (.bastore, 1) := by decide +kernel
theorem d_Mo_item_36 : decode b_Mo_item 36 = .ok (.return_, 1) := by decide +kernel
theorem d_Mo_digit_0 : decode b_Mo_digit 0 = .ok (.aload_n 0, 1) := by decide +kernel
theorem d_Mo_digit_1 : decode b_Mo_digit 1 = .ok (.getfield 172, 3) := by decide +kernel
theorem d_Mo_digit_4 : decode b_Mo_digit 4 = .ok (.ifCond .eq 5, 3) := by decide +kernel
theorem d_Mo_digit_7 : decode b_Mo_digit 7 = .ok (.iconst 0, 1) := by decide +kernel
theorem d_Mo_digit_8 : decode b_Mo_digit 8 = .ok (.ireturn, 1) := by decide +kernel
theorem d_Mo_digit_9 : decode b_Mo_digit 9 = .ok (.aload_n 0, 1) := by decide +kernel
theorem d_Mo_digit_10 : decode b_Mo_digit 10 = .ok (.aload_n 0, 1) := by decide +kernel
theorem d_Mo_digit_11 : decode b_Mo_digit 11 = .ok (.getfield 247, 3) := by decide +kernel
theorem d_Mo_digit_14 : decode b_Mo_digit 14 = .ok (.invokevirtual 181, 3) := by decide +kernel
theorem d_Mo_digit_17 : decode b_Mo_digit 17 = .ok (.istore_n 1, 1) := by decide +kernel
theorem d_Mo_digit_18 : decode b_Mo_digit 18 = .ok (.iload_n 1, 1) := by decide +kernel
theorem d_Mo_digit_19 : decode b_Mo_digit 19 = .ok (.invokestatic 202, 3) := by decide +kernel
theorem d_Mo_digit_22 : decode b_Mo_digit 22 = .ok (.ifCond .ne 15, 3) := by decide +kernel
theorem d_Mo_digit_25 : decode b_Mo_digit 25 = .ok (.aload_n 0, 1) := by decide +kernel
theorem d_Mo_digit_26 : decode b_Mo_digit 26 = .ok (.iconst 2, 1) := by decide +kernel
theorem d_Mo_digit_27 : decode b_Mo_digit 27 = .ok (.aload_n 0, 1) := by decide +kernel
theorem d_Mo_digit_28 : decode b_Mo_digit 28 = .ok (.getfield 247, 3) := by decide +kernel
theorem d_Mo_digit_31 : decode b_Mo_digit 31 = .ok (.invokevirtual 198, 3) := by decide +kernel
theorem d_Mo_digit_34 : decode b_Mo_digit 34 = .ok (.pop, 1) := by decide +kernel
theorem d_Mo_digit_35 : decode b_Mo_digit 35 = .ok (.iconst 0, 1) := by decide +kernel
theorem d_Mo_digit_36 : decode b_Mo_digit 36 = .ok (.ireturn, 1) := by decide +kernel
theorem d_Mo_digit_37 : decode b_Mo_digit 37 = .ok (.aload_n 0, 1) := by decide +kernel
theorem d_Mo_digit_38 : decode b_Mo_digit 38 = .ok (.dup, 1) := by decide +kernel
theorem d_Mo_digit_39 : decode b_Mo_digit 39 = .ok (.getfield 247, 3) := by decide +kernel
theorem d_Mo_digit_42 : decode b_Mo_digit 42 = .ok (.iconst 1, 1) := by decide +kernel
theorem d_Mo_digit_43 : decode b_Mo_digit 43 = .ok (.iadd, 1) := by decide +kernel
theorem d_Mo_digit_44 : decode b_Mo_digit 44 = .ok (.putfield 247, 3) := by decide +kernel
theorem d_Mo_digit_47 : decode b_Mo_digit 47 = .ok (.iload_n 1, 1) := by decide +kernel
theorem d_Mo_digit_48 : decode b_Mo_digit 48 = .ok (.bipush 48, 2) := by decide +kernel
theorem d_Mo_digit_50 : decode b_Mo_digit 50 = .ok (.isub, 1) := by decide +kernel
theorem d_Mo_digit_51 : decode b_Mo_digit 51 = .ok (.ireturn, 1) := by decide +kernel
theorem d_Mo_sign_0 : decode b_Mo_sign 0 = .ok (.aload_n 0, 1) := by decide +kernel
theorem d_Mo_sign_1 : decode b_Mo_sign 1 = .ok (.getfield 172, 3) := by decide +kernel
theorem d_Mo_sign_4 : decode b_Mo_sign 4 = .ok (.ifCond .ne 25, 3) := by decide +kernel
theorem d_Mo_sign_7 : decode b_Mo_sign 7 = .ok (.aload_n 0, 1) := by decide +kernel
theorem d_Mo_sign_8 : decode b_Mo_sign 8 = .ok (.aload_n 0, 1) := by decide +kernel
theorem d_Mo_sign_9 : decode b_Mo_sign 9 = .ok (.getfield 247, 3) := by decide +kernel
theorem d_Mo_sign_12 : decode b_Mo_sign 12 = .ok (.invokevirtual 181, 3) := by decide +kernel
theorem d_Mo_sign_15 : decode b_Mo_sign 15 = .ok (.iload_n 1, 1) := by decide +kernel
theorem d_Mo_sign_16 : decode b_Mo_sign 16 = .ok (.if_icmp .eq 13, 3) := by decide +kernel
theorem d_Mo_sign_19 : decode b_Mo_sign 19 = .ok (.aload_n 0, 1) := by decide +kernel
theorem d_Mo_sign_20 : decode b_Mo_sign 20 = .ok (.iconst 2, 1) := by decide +kernel
theorem d_Mo_sign_21 : decode b_Mo_sign 21 = .ok (.aload_n 0, 1) := by decide +kernel
theorem d_Mo_sign_22 : decode b_Mo_sign 22 = .ok (.getfield 247, 3) := by decide +kernel
theorem d_Mo_sign_25 : decode b_Mo_sign 25 = .ok (.invokevirtual 198, 3) := by decide +kernel
theorem d_Mo_sign_28 : decode b_Mo_sign 28 = .ok (.pop, 1) := by decide +kernel
theorem d_Mo_sign_29 : decode b_Mo_sign 29 = .ok (.aload_n 0, 1) := by decide +kernel
theorem d_Mo_sign_30 : decode b_Mo_sign 30 = .ok (.dup, 1) := by decide +kernel
theorem d_Mo_sign_31 : decode b_Mo_sign 31 = .ok (.getfield 247, 3) := by decide +kernel
theorem d_Mo_sign_34 : decode b_Mo_sign 34 = .ok (.aload_n 0, 1) := by decide +kernel
theorem d_Mo_sign_35 : decode b_Mo_sign 35 = .ok (.getfield 172, 3) := by decide +kernel
theorem d_Mo_sign_38 : decode b_Mo_sign 38 = .ok (.ifCond .ne 7, 3) := by decide +kernel
theorem d_Mo_sign_41 : decode b_Mo_sign 41 = .ok (.iconst 1, 1) := by decide +kernel
theorem d_Mo_sign_42 : decode b_Mo_sign 42 = .ok (.goto 4, 3) := by decide +kernel
theorem d_Mo_sign_45 : decode b_Mo_sign 45 = .ok (.iconst 0, 1) := by decide +kernel
theorem d_Mo_sign_46 : decode b_Mo_sign 46 = .ok (.iadd, 1) := by decide +kernel
theorem d_Mo_sign_47 : decode b_Mo_sign 47 = .ok (.putfield 247, 3) := by decide +kernel
theorem d_Mo_sign_50 : decode b_Mo_sign 50 = .ok (.return_, 1) := by decide +kernel
theorem d_Mo_check_0 : decode b_Mo_check 0 = .ok (.iconst 0, 1) := by decide +kernel
theorem d_Mo_check_1 : decode b_Mo_check 1 = .ok (.istore_n 2, 1) := by decide +kernel
theorem d_Mo_check_2 : decode b_Mo_check 2 = .ok (.aload_n 0, 1) := by decide +kernel
theorem d_Mo_check_3 : decode b_Mo_check 3 = .ok (.iconst 0, 1) := by decide +kernel
theorem d_Mo_check_4 : decode b_Mo_check 4 = .ok (.invokevirtual 280, 3) := by decide +kernel
theorem d_Mo_check_7 : decode b_Mo_check 7 = .ok (.iconst 0, 1) := by decide +kernel
theorem d_Mo_check_8 : decode b_Mo_check 8 = .ok (.istore_n 3, 1) := by decide +kernel
theorem d_Mo_check_9 : decode b_Mo_check 9 = .ok (.aload_n 0, 1) := by decide +kernel
theorem d_Mo_check_10 : decode b_Mo_check 10 = .ok (.getfield 172, 3) := by decide +kernel
theorem d_Mo_check_13 : decode b_Mo_check 13 = .ok (.ifCond .ne 402, 3) := by decide +kernel
theorem d_Mo_check_16 : decode b_Mo_check 16 = .ok (.aload_n 0, 1) := by decide +kernel
theorem d_Mo_check_17 : decode b_Mo_check 17 = .ok (.getfield 247, 3) := by decide +kernel
theorem d_Mo_check_20 : decode b_Mo_check 20 = .ok (.iload_n 1, 1) := by decide +kernel
theorem d_Mo_check_21 : decode b_Mo_check 21 = .ok (.if_icmp .ge 394, 3) := by decide +kernel
theorem d_Mo_check_24 : decode b_Mo_check 24 = .ok (.aload_n 0, 1) := by decide +kernel
theorem d_Mo_check_25 : decode b_Mo_check 25 = .ok (.aload_n 0, 1) := by decide +kernel
theorem d_Mo_check_26 : decode b_Mo_check 26 = .ok (.getfield 247, 3) := by decide +kernel
theorem d_Mo_check_29 : decode b_Mo_check 29 = .ok (.invokevirtual 181, 3) := by decide +kernel
theorem d_Mo_check_32 : decode b_Mo_check 32 = .ok (.istore 4, 2) := by decide +kernel
theorem d_Mo_check_34 : decode b_Mo_check 34 = .ok (.iload 4, 2) := by decide +kernel
theorem d_Mo_check_36 : decode b_Mo_check 36 = .ok (.bipush 40, 2) := by decide +kernel
theorem d_Mo_check_38 : decode b_Mo_check 38 = .ok (.if_icmp .ne 26, 3) := by decide +kernel
theorem d_Mo_check_41 : decode b_Mo_check 41 = .ok (.aload_n 0, 1) := by decide +kernel
