theorem d_PatternParser_repeatItem_76 : decode b_PatternParser_repeatItem 76 = .ok (.invokevirtual 123, 3) := by decide +kernel
theorem d_PatternParser_repeatItem_79 : decode b_PatternParser_repeatItem 79 = .ok (.aload_n 2, 1) := by decide +kernel
theorem d_PatternParser_repeatItem_80 : decode b_PatternParser_repeatItem 80 = .ok (.getfield 60, 3) := by decide +kernel
theorem d_PatternParser_repeatItem_83 : decode b_PatternParser_repeatItem 83 = .ok (.ifCond .eq 4, 3) := by decide +kernel
theorem d_PatternParser_repeatItem_86 : decode b_PatternParser_repeatItem 86 = .ok (.return_, 1) := by decide +kernel
theorem d_PatternParser_repeatItem_87 : decode b_PatternParser_repeatItem 87 = .ok (.ldc 49, 2) := by decide +kernel
theorem d_PatternParser_repeatItem_89 : decode b_PatternParser_repeatItem 89 = .ok (.istore 6, 2) := by decide +kernel
theorem d_PatternParser_repeatItem_91 : decode b_PatternParser_repeatItem 91 = .ok (.iconst 0, 1) := by decide +kernel
theorem d_PatternParser_repeatItem_92 : decode b_PatternParser_repeatItem 92 = .ok (.istore 7, 2) := by decide +kernel
theorem d_PatternParser_repeatItem_94 : decode b_PatternParser_repeatItem 94 = .ok (.iload 7, 2) := by decide +kernel
theorem d_PatternParser_repeatItem_96 : decode b_PatternParser_repeatItem 96 = .ok (.iload 4, 2) := by decide +kernel
theorem d_PatternParser_repeatItem_98 : decode b_PatternParser_repeatItem 98 = .ok (.if_icmp .ge 56, 3) := by decide +kernel
theorem d_PatternParser_repeatItem_101 : decode b_PatternParser_repeatItem 101 = .ok (.aload_n 0, 1) := by decide +kernel
theorem d_PatternParser_repeatItem_102 : decode b_PatternParser_repeatItem 102 = .ok (.getfield 43, 3) := by decide +kernel
theorem d_PatternParser_repeatItem_105 : decode b_PatternParser_repeatItem 105 = .ok (.ldc 127, 2) := by decide +kernel
theorem d_PatternParser_repeatItem_107 : decode b_PatternParser_repeatItem 107 = .ok (.iand, 1) := by decide +kernel
theorem d_PatternParser_repeatItem_108 : decode b_PatternParser_repeatItem 108 = .ok (.iload 7, 2) := by decide +kernel
theorem d_PatternParser_repeatItem_110 : decode b_PatternParser_repeatItem 110 = .ok (.iload 5, 2) := by decide +kernel
theorem d_PatternParser_repeatItem_112 : decode b_PatternParser_repeatItem 112 = .ok (.imul, 1) := by decide +kernel
theorem d_PatternParser_repeatItem_113 : decode b_PatternParser_repeatItem 113 = .ok (.ishl, 1) := by decide +kernel
theorem d_PatternParser_repeatItem_114 : decode b_PatternParser_repeatItem 114 = .ok (.aload_n 0, 1) := by decide +kernel
theorem d_PatternParser_repeatItem_115 : decode b_PatternParser_repeatItem 115 = .ok (.getfield 43, 3) := by decide +kernel
theorem d_PatternParser_repeatItem_118 : decode b_PatternParser_repeatItem 118 = .ok (.ldc 49, 2) := by decide +kernel
theorem d_PatternParser_repeatItem_120 : decode b_PatternParser_repeatItem 120 = .ok (.iand, 1) := by decide +kernel
theorem d_PatternParser_repeatItem_121 : decode b_PatternParser_repeatItem 121 = .ok (.ior, 1) := by decide +kernel
theorem d_PatternParser_repeatItem_122 : decode b_PatternParser_repeatItem 122 = .ok (.istore 8, 2) := by decide +kernel
theorem d_PatternParser_repeatItem_124 : decode b_PatternParser_repeatItem 124 = .ok (.aload_n 2, 1) := by decide +kernel
theorem d_PatternParser_repeatItem_125 : decode b_PatternParser_repeatItem 125 = .ok (.iload 6, 2) := by decide +kernel
theorem d_PatternParser_repeatItem_127 : decode b_PatternParser_repeatItem 127 = .ok (.iload 7, 2) := by decide +kernel
theorem d_PatternParser_repeatItem_129 : decode b_PatternParser_repeatItem 129 = .ok (.iload_n 3, 1) := by decide +kernel
theorem d_PatternParser_repeatItem_130 : decode b_PatternParser_repeatItem 130 = .ok (.if_icmp .ge 8, 3) := by decide +kernel
theorem d_PatternParser_repeatItem_133 : decode b_PatternParser_repeatItem 133 = .ok (.iload 8, 2) := by decide +kernel
theorem d_PatternParser_repeatItem_135 : decode b_PatternParser_repeatItem 135 = .ok (.goto 8, 3) := by decide +kernel
theorem d_PatternParser_repeatItem_138 : decode b_PatternParser_repeatItem 138 = .ok (.iload 8, 2) := by decide +kernel
theorem d_PatternParser_repeatItem_140 : decode b_PatternParser_repeatItem 140 = .ok (.ldc 49, 2) := by decide +kernel
theorem d_PatternParser_repeatItem_142 : decode b_PatternParser_repeatItem 142 = .ok (.ior, 1) := by decide +kernel
theorem d_PatternParser_repeatItem_143 : decode b_PatternParser_repeatItem 143 = .ok (.invokevirtual 105, 3) := by decide +kernel
theorem d_PatternParser_repeatItem_146 : decode b_PatternParser_repeatItem 146 = .ok (.istore 6, 2) := by decide +kernel
theorem d_PatternParser_repeatItem_148 : decode b_PatternParser_repeatItem 148 = .ok (.iinc 7 1, 3) := by decide +kernel
theorem d_PatternParser_repeatItem_151 : decode b_PatternParser_repeatItem 151 = .ok (.goto (-57), 3) := by decide +kernel
theorem d_PatternParser_repeatItem_154 : decode b_PatternParser_repeatItem 154 = .ok (.aload_n 0, 1) := by decide +kernel
theorem d_PatternParser_repeatItem_155 : decode b_PatternParser_repeatItem 155 = .ok (.iload 6, 2) := by decide +kernel
theorem d_PatternParser_repeatItem_157 : decode b_PatternParser_repeatItem 157 = .ok (.putfield 43, 3) := by decide +kernel
theorem d_PatternParser_repeatItem_160 : decode b_PatternParser_repeatItem 160 = .ok (.return_, 1) := by decide +kernel
theorem d_PatternParser_takeByte_0 : decode b_PatternParser_takeByte 0 = .ok (.iload_n 1, 1) := by decide +kernel
theorem d_PatternParser_takeByte_1 : decode b_PatternParser_takeByte 1 = .ok (.bipush 91, 2) := by decide +kernel
theorem d_PatternParser_takeByte_3 : decode b_PatternParser_takeByte 3 = .ok (.if_icmp .ne 10, 3) := by decide +kernel
theorem d_PatternParser_takeByte_6 : decode b_PatternParser_takeByte 6 = .ok (.aload_n 0, 1) := by decide +kernel
theorem d_PatternParser_takeByte_7 : decode b_PatternParser_takeByte 7 = .ok (.invokevirtual 76, 3) := by decide +kernel
theorem d_PatternParser_takeByte_10 : decode b_PatternParser_takeByte 10 = .ok (.goto 20, 3) := by decide +kernel
theorem d_PatternParser_takeByte_13 : decode b_PatternParser_takeByte 13 = .ok (.iload_n 1, 1) := by decide +kernel
theorem d_PatternParser_takeByte_14 : decode b_PatternParser_takeByte 14 = .ok (.bipush 46, 2) := by decide +kernel
theorem d_PatternParser_takeByte_16 : decode b_PatternParser_takeByte 16 = .ok (.if_icmp .ne 9, 3) := by decide +kernel
theorem d_PatternParser_takeByte_19 : decode b_PatternParser_takeByte 19 = .ok (.sipush 511, 3) := by decide +kernel
theorem d_PatternParser_takeByte_22 : decode b_PatternParser_takeByte 22 = .ok (.goto 8, 3) := by decide +kernel
theorem d_PatternParser_takeByte_25 : decode b_PatternParser_takeByte 25 = .ok (.aload_n 0, 1) := by decide +kernel
theorem d_PatternParser_takeByte_26 : decode b_PatternParser_takeByte 26 = .ok (.iload_n 1, 1) := by decide +kernel
theorem d_PatternParser_takeByte_27 : decode b_PatternParser_takeByte 27 = .ok (.invokevirtual 80, 3) := by decide +kernel
theorem d_PatternParser_takeByte_30 : decode b_PatternParser_takeByte 30 = .ok (.istore_n 3, 1) := by decide +kernel
theorem d_PatternParser_takeByte_31 : decode b_PatternParser_takeByte 31 = .ok (.aload_n 0, 1) := by decide +kernel
theorem d_PatternParser_takeByte_32 : decode b_PatternParser_takeByte 32 = .ok (.getfield 32, 3) := by decide +kernel
theorem d_PatternParser_takeByte_35 : decode b_PatternParser_takeByte 35 = .ok (.ifCond .eq 4, 3) := by decide +kernel
theorem d_PatternParser_takeByte_38 : decode b_PatternParser_takeByte 38 = .ok (.return_, 1) := by decide +kernel
theorem d_PatternParser_takeByte_39 : decode b_PatternParser_takeByte 39 = .ok (.iload_n 3, 1) := by decide +kernel
theorem d_PatternParser_takeByte_40 : decode b_PatternParser_takeByte 40 = .ok (.ifCond .eq 12, 3) := by decide +kernel
theorem d_PatternParser_takeByte_43 : decode b_PatternParser_takeByte 43 = .ok (.aload_n 0, 1) := by decide +kernel
theorem d_PatternParser_takeByte_44 : decode b_PatternParser_takeByte 44 = .ok (.iload_n 3, 1) := by decide +kernel
theorem d_PatternParser_takeByte_45 : decode b_PatternParser_takeByte 45 = .ok (.aload_n 2, 1) := by decide +kernel
theorem d_PatternParser_takeByte_46 : decode b_PatternParser_takeByte 46 = .ok (.invokevirtual 83, 3) := by decide +kernel
theorem d_PatternParser_takeByte_49 : decode b_PatternParser_takeByte 49 = .ok (.goto 129, 3) := by decide +kernel
theorem d_PatternParser_takeByte_52 : decode b_PatternParser_takeByte 52 = .ok (.iload_n 1, 1) := by decide +kernel
theorem d_PatternParser_takeByte_53 : decode b_PatternParser_takeByte 53 = .ok (.bipush 40, 2) := by decide +kernel
theorem d_PatternParser_takeByte_55 : decode b_PatternParser_takeByte 55 = .ok (.if_icmp .ne 20, 3) := by decide +kernel
theorem d_PatternParser_takeByte_58 : decode b_PatternParser_takeByte 58 = .ok (.aload_n 0, 1) := by decide +kernel
theorem d_PatternParser_takeByte_59 : decode b_PatternParser_takeByte 59 = .ok (.getfield 46, 3) := by decide +kernel
theorem d_PatternParser_takeByte_62 : decode b_PatternParser_takeByte 62 = .ok (.bipush 40, 2) := by decide +kernel
theorem d_PatternParser_takeByte_64 : decode b_PatternParser_takeByte 64 = .ok (.if_icmp .ge 11, 3) := by decide +kernel
theorem d_PatternParser_takeByte_67 : decode b_PatternParser_takeByte 67 = .ok (.aload_n 0, 1) := by decide +kernel
theorem d_PatternParser_takeByte_68 : decode b_PatternParser_takeByte 68 = .ok (.aload_n 2, 1) := by decide +kernel
theorem d_PatternParser_takeByte_69 : decode b_PatternParser_takeByte 69 = .ok (.invokevirtual 86, 3) := by decide +kernel
theorem d_PatternParser_takeByte_72 : decode b_PatternParser_takeByte 72 = .ok (.goto 106, 3) := by decide +kernel
theorem d_PatternParser_takeByte_75 : decode b_PatternParser_takeByte 75 = .ok (.aload_n 0, 1) := by decide +kernel
theorem d_PatternParser_takeByte_76 : decode b_PatternParser_takeByte 76 = .ok (.getfield 43, 3) := by decide +kernel
theorem d_PatternParser_takeByte_79 : decode b_PatternParser_takeByte 79 = .ok (.iconst (-1), 1) := by decide +kernel
theorem d_PatternParser_takeByte_80 : decode b_PatternParser_takeByte 80 = .ok (.if_icmp .ne 15, 3) := by decide +kernel
theorem d_PatternParser_takeByte_83 : decode b_PatternParser_takeByte 83 = .ok (.aload_n 0, 1) := by decide +kernel
theorem d_PatternParser_takeByte_84 : decode b_PatternParser_takeByte 84 = .ok (.iconst 2, 1) := by decide +kernel
theorem d_PatternParser_takeByte_85 : decode b_PatternParser_takeByte 85 = .ok (.aload_n 0, 1) := by decide +kernel
theorem d_PatternParser_takeByte_86 : decode b_PatternParser_takeByte 86 = .ok (.getfield 40, 3) := by decide +kernel
theorem d_PatternParser_takeByte_89 : decode b_PatternParser_takeByte 89 = .ok (.invokevirtual 65, 3) := by decide +kernel
theorem d_PatternParser_takeByte_92 : decode b_PatternParser_takeByte 92 = .ok (.goto 86, 3) := by decide +kernel
theorem d_PatternParser_takeByte_95 : decode b_PatternParser_takeByte 95 = .ok (.iload_n 1, 1) := by decide +kernel
theorem d_PatternParser_takeByte_96 : decode b_PatternParser_takeByte 96 = .ok (.bipush 124, 2) := by decide +kernel
theorem d_PatternParser_takeByte_98 : decode b_PatternParser_takeByte 98 = .ok (.if_icmp .eq 29, 3) := by decide +kernel
theorem d_PatternParser_takeByte_101 : decode b_PatternParser_takeByte 101 = .ok (.iload_n 1, 1) := by decide +kernel
theorem d_PatternParser_takeByte_102 : decode b_PatternParser_takeByte 102 = .ok (.bipush 41, 2) := by decide +kernel
theorem d_PatternParser_takeByte_104 : decode b_PatternParser_takeByte 104 = .ok (.if_icmp .ne 10, 3) := by decide +kernel
theorem d_PatternParser_takeByte_107 : decode b_PatternParser_takeByte 107 = .ok (.aload_n 0, 1) := by decide +kernel
theorem d_PatternParser_takeByte_108 : decode b_PatternParser_takeByte 108 = .ok (.getfield 46, 3) := by decide +kernel
theorem d_PatternParser_takeByte_111 : decode b_PatternParser_takeByte 111 = .ok (.ifCond .gt 16, 3) := by decide +kernel
theorem d_PatternParser_takeByte_114 : decode b_PatternParser_takeByte 114 = .ok (.iload_n 1, 1) := by decide +kernel
theorem d_PatternParser_takeByte_115 : decode b_PatternParser_takeByte 115 = .ok (.bipush 34, 2) := by decide +kernel
theorem d_PatternParser_takeByte_117 : decode b_PatternParser_takeByte 117 = .ok (.if_icmp .ne 19, 3) := by decide +kernel
theorem d_PatternParser_takeByte_120 : decode b_PatternParser_takeByte 120 = .ok (.aload_n 0, 1) := by decide +kernel
theorem d_PatternParser_takeByte_121 : decode b_PatternParser_takeByte 121 = .ok (.getfield 46, 3) := by decide +kernel
theorem d_PatternParser_takeByte_124 : decode b_PatternParser_takeByte 124 = .ok (.ifCond .ne 12, 3) := by decide +kernel
theorem d_PatternParser_takeByte_127 : decode b_PatternParser_takeByte 127 = .ok (.aload_n 0, 1) := by decide +kernel
theorem d_PatternParser_takeByte_128 : decode b_PatternParser_takeByte 128 = .ok (.iload_n 1, 1) := by decide +kernel
theorem d_PatternParser_takeByte_129 : decode b_PatternParser_takeByte 129 = .ok (.aload_n 2, 1) := by decide +kernel
theorem d_PatternParser_takeByte_130 : decode b_PatternParser_takeByte 130 = .ok (.invokevirtual 90, 3) := by decide +kernel
theorem d_PatternParser_takeByte_133 : decode b_PatternParser_takeByte 133 = .ok (.goto 45, 3) := by decide +kernel
theorem d_PatternParser_takeByte_136 : decode b_PatternParser_takeByte 136 = .ok (.aload_n 0, 1) := by decide +kernel
theorem d_PatternParser_takeByte_137 : decode b_PatternParser_takeByte 137 = .ok (.getfield 93, 3) := by decide +kernel
theorem d_PatternParser_takeByte_140 : decode b_PatternParser_takeByte 140 = .ok (.ifCond .eq 29, 3) := by decide +kernel
theorem d_PatternParser_takeByte_143 : decode b_PatternParser_takeByte 143 = .ok (.aload_n 0, 1) := by decide +kernel
theorem d_PatternParser_takeByte_144 : decode b_PatternParser_takeByte 144 = .ok (.iload_n 1, 1) := by decide +kernel
theorem d_PatternParser_takeByte_145 : decode b_PatternParser_takeByte 145 = .ok (.bipush 123, 2) := by decide +kernel
theorem d_PatternParser_takeByte_147 : decode b_PatternParser_takeByte 147 = .ok (.if_icmp .ne 10, 3) := by decide +kernel
theorem d_PatternParser_takeByte_150 : decode b_PatternParser_takeByte 150 = .ok (.aload_n 0, 1) := by decide +kernel
theorem d_PatternParser_takeByte_151 : decode b_PatternParser_takeByte 151 = .ok (.invokevirtual 96, 3) := by decide +kernel
theorem d_PatternParser_takeByte_154 : decode b_PatternParser_takeByte 154 = .ok (.goto 8, 3) := by decide +kernel
theorem d_PatternParser_takeByte_157 : decode b_PatternParser_takeByte 157 = .ok (.aload_n 0, 1) := by decide +kernel
theorem d_PatternParser_takeByte_158 : decode b_PatternParser_takeByte 158 = .ok (.iload_n 1, 1) := by decide +kernel
theorem d_PatternParser_takeByte_159 : decode b_PatternParser_takeByte 159 = .ok (.invokevirtual 99, 3) := by decide +kernel
theorem d_PatternParser_takeByte_162 : decode b_PatternParser_takeByte 162 = .ok (.aload_n 2, 1) := by decide +kernel
theorem d_PatternParser_takeByte_163 : decode b_PatternParser_takeByte 163 = .ok (.invokevirtual 102, 3) := by decide +kernel
theorem d_PatternParser_takeByte_166 : decode b_PatternParser_takeByte 166 = .ok (.goto 12, 3) := by decide +kernel
theorem d_PatternParser_takeByte_169 : decode b_PatternParser_takeByte 169 = .ok (.aload_n 0, 1) := by decide +kernel
theorem d_PatternParser_takeByte_170 : decode b_PatternParser_takeByte 170 = .ok (.iconst 2, 1) := by decide +kernel
theorem d_PatternParser_takeByte_171 : decode b_PatternParser_takeByte 171 = .ok (.aload_n 0, 1) := by decide +kernel
theorem d_PatternParser_takeByte_172 : decode b_PatternParser_takeByte 172 = .ok (.getfield 40, 3) := by decide +kernel
theorem d_PatternParser_takeByte_175 : decode b_PatternParser_takeByte 175 = .ok (.invokevirtual 65, 3) := by decide +kernel
theorem d_PatternParser_takeByte_178 : decode b_PatternParser_takeByte 178 = .ok (.aload_n 0, 1) := by decide +kernel
theorem d_PatternParser_takeByte_179 : decode b_PatternParser_takeByte 179 = .ok (.dup, 1) := by decide +kernel
theorem d_PatternParser_takeByte_180 : decode b_PatternParser_takeByte 180 = .ok (.getfield 40, 3) := by decide +kernel
theorem d_PatternParser_takeByte_183 : decode b_PatternParser_takeByte 183 = .ok (.iconst 1, 1) := by decide +kernel
theorem d_PatternParser_takeByte_184 : decode b_PatternParser_takeByte 184 = .ok (.iadd, 1) := by decide +kernel
theorem d_PatternParser_takeByte_185 : decode b_PatternParser_takeByte 185 = .ok (.putfield 40, 3) := by decide +kernel
theorem d_PatternParser_takeByte_188 : decode b_PatternParser_takeByte 188 = .ok (.return_, 1) := by decide +kernel
theorem d_Positions_followersOf_0 : decode b_Positions_followersOf 0 = .ok (.iconst 0, 1) := by decide +kernel
theorem d_Positions_followersOf_1 : decode b_Positions_followersOf 1 = .ok (.istore_n 3, 1) := by decide +kernel
theorem d_Positions_followersOf_2 : decode b_Positions_followersOf 2 = .ok (.iconst 0, 1) := by decide +kernel
theorem d_Positions_followersOf_3 : decode b_Positions_followersOf 3 = .ok (.istore 4, 2) := by decide +kernel
theorem d_Positions_followersOf_5 : decode b_Positions_followersOf 5 = .ok (.iload 4, 2) := by decide +kernel
theorem d_Positions_followersOf_7 : decode b_Positions_followersOf 7 = .ok (.iconst 5, 1) := by decide +kernel
theorem d_Positions_followersOf_8 : decode b_Positions_followersOf 8 = .ok (.if_icmp .ge 30, 3) := by decide +kernel
theorem d_Positions_followersOf_11 : decode b_Positions_followersOf 11 = .ok (.iload_n 1, 1) := by decide +kernel
theorem d_Positions_followersOf_12 : decode b_Positions_followersOf 12 = .ok (.iload 4, 2) := by decide +kernel
theorem d_Positions_followersOf_14 : decode b_Positions_followersOf 14 = .ok (.ishr, 1) := by decide +kernel
theorem d_Positions_followersOf_15 : decode b_Positions_followersOf 15 = .ok (.iconst 1, 1) := by decide +kernel
theorem d_Positions_followersOf_16 : decode b_Positions_followersOf 16 = .ok (.iand, 1) := by decide +kernel
theorem d_Positions_followersOf_17 : decode b_Positions_followersOf 17 = .ok (.ifCond .eq 15, 3) := by decide +kernel
theorem d_Positions_followersOf_20 : decode b_Positions_followersOf 20 = .ok (.iload_n 3, 1) := by decide +kernel
theorem d_Positions_followersOf_21 : decode b_Positions_followersOf 21 = .ok (.aload_n 0, 1) := by decide +kernel
theorem d_Positions_followersOf_22 : decode b_Positions_followersOf 22 = .ok (.getfield 15, 3) := by decide +kernel
theorem d_Positions_followersOf_25 : decode b_Positions_followersOf 25 = .ok (.iload_n 2, 1) := by decide +kernel
theorem d_Positions_followersOf_26 : decode b_Positions_followersOf 26 = .ok (.iload 4, 2) := by decide +kernel
theorem d_Positions_followersOf_28 : decode b_Positions_followersOf 28 = .ok (.iadd, 1) := by decide +kernel
theorem d_Positions_followersOf_29 : decode b_Positions_followersOf 29 = .ok (.iaload, 1) := by decide +kernel
theorem d_Positions_followersOf_30 : decode b_Positions_followersOf 30 = .ok (.ior, 1) := by decide +kernel
theorem d_Positions_followersOf_31 : decode b_Positions_followersOf 31 = .ok (.istore_n 3, 1) := by decide +kernel
theorem d_Positions_followersOf_32 : decode b_Positions_followersOf 32 = .ok (.iinc 4 1, 3) := by decide +kernel
theorem d_Positions_followersOf_35 : decode b_Positions_followersOf 35 = .ok (.goto (-30), 3) := by decide +kernel
theorem d_Positions_followersOf_38 : decode b_Positions_followersOf 38 = .ok (.iload_n 3, 1) := by decide +kernel
theorem d_Positions_followersOf_39 : decode b_Positions_followersOf 39 = .ok (.ireturn, 1) := by decide +kernel
theorem d_Positions_finish_0 : decode b_Positions_finish 0 = .ok (.aload_n 0, 1) := by decide +kernel
theorem d_Positions_finish_1 : decode b_Positions_finish 1 = .ok (.iload_n 1, 1) := by decide +kernel
theorem d_Positions_finish_2 : decode b_Positions_finish 2 = .ok (.sipush 1023, 3) := by decide +kernel
theorem d_Positions_finish_5 : decode b_Positions_finish 5 = .ok (.iand, 1) := by decide +kernel
theorem d_Positions_finish_6 : decode b_Positions_finish 6 = .ok (.putfield 34, 3) := by decide +kernel
theorem d_Positions_finish_9 : decode b_Positions_finish 9 = .ok (.aload_n 0, 1) := by decide +kernel
theorem d_Positions_finish_10 : decode b_Positions_finish 10 = .ok (.iload_n 1, 1) := by decide +kernel
theorem d_Positions_finish_11 : decode b_Positions_finish 11 = .ok (.bipush 10, 2) := by decide +kernel
theorem d_Positions_finish_13 : decode b_Positions_finish 13 = .ok (.ishr, 1) := by decide +kernel
theorem d_Positions_finish_14 : decode b_Positions_finish 14 = .ok (.sipush 1023, 3) := by decide +kernel
theorem d_Positions_finish_17 : decode b_Positions_finish 17 = .ok (.iand, 1) := by decide +kernel
theorem d_Positions_finish_18 : decode b_Positions_finish 18 = .ok (.putfield 37, 3) := by decide +kernel
theorem d_Positions_finish_21 : decode b_Positions_finish 21 = .ok (.aload_n 0, 1) := by decide +kernel
theorem d_Positions_finish_22 : decode b_Positions_finish 22 = .ok (.iload_n 1, 1) := by decide +kernel
theorem d_Positions_finish_23 : decode b_Positions_finish 23 = .ok (.ldc 32, 2) := by decide +kernel
theorem d_Positions_finish_25 : decode b_Positions_finish 25 = .ok (.iand, 1) := by decide +kernel
theorem d_Positions_finish_26 : decode b_Positions_finish 26 = .ok (.ifCond .eq 7, 3) := by decide +kernel
theorem d_Positions_finish_29 : decode b_Positions_finish 29 = .ok (.iconst 1, 1) := by decide +kernel
theorem d_Positions_finish_30 : decode b_Positions_finish 30 = .ok (.goto 4, 3) := by decide +kernel
theorem d_Positions_finish_33 : decode b_Positions_finish 33 = .ok (.iconst 0, 1) := by decide +kernel
theorem d_Positions_finish_34 : decode b_Positions_finish 34 = .ok (.putfield 40, 3) := by decide +kernel
theorem d_Positions_finish_37 : decode b_Positions_finish 37 = .ok (.iconst 0, 1) := by decide +kernel
theorem d_Positions_finish_38 : decode b_Positions_finish 38 = .ok (.istore_n 2, 1) := by decide +kernel
theorem d_Positions_finish_39 : decode b_Positions_finish 39 = .ok (.iload_n 2, 1) := by decide +kernel
theorem d_Positions_finish_40 : decode b_Positions_finish 40 = .ok (.bipush 32, 2) := by decide +kernel
theorem d_Positions_finish_42 : decode b_Positions_finish 42 = .ok (.if_icmp .ge 33, 3) := by decide +kernel
theorem d_Positions_finish_45 : decode b_Positions_finish 45 = .ok (.aload_n 0, 1) := by decide +kernel
theorem d_Positions_finish_46 : decode b_Positions_finish 46 = .ok (.getfield 18, 3) := by decide +kernel
theorem d_Positions_finish_49 : decode b_Positions_finish 49 = .ok (.iload_n 2, 1) := by decide +kernel
theorem d_Positions_finish_50 : decode b_Positions_finish 50 = .ok (.aload_n 0, 1) := by decide +kernel
theorem d_Positions_finish_51 : decode b_Positions_finish 51 = .ok (.iload_n 2, 1) := by decide +kernel
theorem d_Positions_finish_52 : decode b_Positions_finish 52 = .ok (.iconst 0, 1) := by decide +kernel
theorem d_Positions_finish_53 : decode b_Positions_finish 53 = .ok (.invokevirtual 43, 3) := by decide +kernel
theorem d_Positions_finish_56 : decode b_Positions_finish 56 = .ok (.iastore, 1) := by decide +kernel
theorem d_Positions_finish_57 : decode b_Positions_finish 57 = .ok (.aload_n 0, 1) := by decide +kernel
theorem d_Positions_finish_58 : decode b_Positions_finish 58 = .ok (.getfield 21, 3) := by decide +kernel
theorem d_Positions_finish_61 : decode b_Positions_finish 61 = .ok (.iload_n 2, 1) := by decide +kernel
theorem d_Positions_finish_62 : decode b_Positions_finish 62 = .ok (.aload_n 0, 1) := by decide +kernel
theorem d_Positions_finish_63 : decode b_Positions_finish 63 = .ok (.iload_n 2, 1) := by decide +kernel
theorem d_Positions_finish_64 : decode b_Positions_finish 64 = .ok (.iconst 5, 1) := by decide +kernel
theorem d_Positions_finish_65 : decode b_Positions_finish 65 = .ok (.invokevirtual 43, 3) := by decide +kernel
theorem d_Positions_finish_68 : decode b_Positions_finish 68 = .ok (.iastore, 1) := by decide +kernel
theorem d_Positions_finish_69 : decode b_Positions_finish 69 = .ok (.iinc 2 1, 3) := by decide +kernel
theorem d_Positions_finish_72 : decode b_Positions_finish 72 = .ok (.goto (-33), 3) := by decide +kernel
theorem d_Positions_finish_75 : decode b_Positions_finish 75 = .ok (.return_, 1) := by decide +kernel
theorem d_PatternParser_parse_0 : decode b_PatternParser_parse 0 = .ok (.aload_n 2, 1) := by decide +kernel
theorem d_PatternParser_parse_1 : decode b_PatternParser_parse 1 = .ok (.invokevirtual 27, 3) := by decide +kernel
theorem d_PatternParser_parse_4 : decode b_PatternParser_parse 4 = .ok (.aload_n 0, 1) := by decide +kernel
theorem d_PatternParser_parse_5 : decode b_PatternParser_parse 5 = .ok (.iconst 0, 1) := by decide +kernel
theorem d_PatternParser_parse_6 : decode b_PatternParser_parse 6 = .ok (.putfield 32, 3) := by decide +kernel
theorem d_PatternParser_parse_9 : decode b_PatternParser_parse 9 = .ok (.aload_n 0, 1) := by decide +kernel
theorem d_PatternParser_parse_10 : decode b_PatternParser_parse 10 = .ok (.iconst 0, 1) := by decide +kernel
theorem d_PatternParser_parse_11 : decode b_PatternParser_parse 11 = .ok (.putfield 36, 3) := by decide +kernel
theorem d_PatternParser_parse_14 : decode b_PatternParser_parse 14 = .ok (.aload_n 0, 1) := by decide +kernel
theorem d_PatternParser_parse_15 : decode b_PatternParser_parse 15 = .ok (.iload_n 1, 1) := by decide +kernel
theorem d_PatternParser_parse_16 : decode b_PatternParser_parse 16 = .ok (.iconst 1, 1) := by decide +kernel
theorem d_PatternParser_parse_17 : decode b_PatternParser_parse 17 = .ok (.iadd, 1) := by decide +kernel
theorem d_PatternParser_parse_18 : decode b_PatternParser_parse 18 = .ok (.putfield 40, 3) := by decide +kernel
theorem d_PatternParser_parse_21 : decode b_PatternParser_parse 21 = .ok (.aload_n 0, 1) := by decide +kernel
theorem d_PatternParser_parse_22 : decode b_PatternParser_parse 22 = .ok (.iconst (-1), 1) := by decide +kernel
theorem d_PatternParser_parse_23 : decode b_PatternParser_parse 23 = .ok (.putfield 43, 3) := by decide +kernel
theorem d_PatternParser_parse_26 : decode b_PatternParser_parse 26 = .ok (.aload_n 0, 1) := by decide +kernel
theorem d_PatternParser_parse_27 : decode b_PatternParser_parse 27 = .ok (.iconst 0, 1) := by decide +kernel
theorem d_PatternParser_parse_28 : decode b_PatternParser_parse 28 = .ok (.putfield 46, 3) := by decide +kernel
theorem d_PatternParser_parse_31 : decode b_PatternParser_parse 31 = .ok (.aload_n 0, 1) := by decide +kernel
theorem d_PatternParser_parse_32 : decode b_PatternParser_parse 32 = .ok (.getfield 13, 3) := by decide +kernel
theorem d_PatternParser_parse_35 : decode b_PatternParser_parse 35 = .ok (.iconst 0, 1) := by decide +kernel
theorem d_PatternParser_parse_36 : decode b_PatternParser_parse 36 = .ok (.iconst 0, 1) := by decide +kernel
theorem d_PatternParser_parse_37 : decode b_PatternParser_parse 37 = .ok (.iastore, 1) := by decide +kernel
theorem d_PatternParser_parse_38 : decode b_PatternParser_parse 38 = .ok (.aload_n 0, 1) := by decide +kernel
theorem d_PatternParser_parse_39 : decode b_PatternParser_parse 39 = .ok (.getfield 17, 3) := by decide +kernel
theorem d_PatternParser_parse_42 : decode b_PatternParser_parse 42 = .ok (.iconst 0, 1) := by decide +kernel
theorem d_PatternParser_parse_43 : decode b_PatternParser_parse 43 = .ok (.ldc 49, 2) := by decide +kernel
theorem d_PatternParser_parse_45 : decode b_PatternParser_parse 45 = .ok (.iastore, 1) := by decide +kernel
theorem d_PatternParser_parse_46 : decode b_PatternParser_parse 46 = .ok (.iconst 0, 1) := by decide +kernel
theorem d_PatternParser_parse_47 : decode b_PatternParser_parse 47 = .ok (.istore_n 3, 1) := by decide +kernel
theorem d_PatternParser_parse_48 : decode b_PatternParser_parse 48 = .ok (.iload_n 3, 1) := by decide +kernel
theorem d_PatternParser_parse_49 : decode b_PatternParser_parse 49 = .ok (.bipush 40, 2) := by decide +kernel
theorem d_PatternParser_parse_51 : decode b_PatternParser_parse 51 = .ok (.if_icmp .gt 39, 3) := by decide +kernel
theorem d_PatternParser_parse_54 : decode b_PatternParser_parse 54 = .ok (.aload_n 0, 1) := by decide +kernel
theorem d_PatternParser_parse_55 : decode b_PatternParser_parse 55 = .ok (.getfield 32, 3) := by decide +kernel
theorem d_PatternParser_parse_58 : decode b_PatternParser_parse 58 = .ok (.ifCond .ne 32, 3) := by decide +kernel
theorem d_PatternParser_parse_61 : decode b_PatternParser_parse 61 = .ok (.aload_n 0, 1) := by decide +kernel
theorem d_PatternParser_parse_62 : decode b_PatternParser_parse 62 = .ok (.getfield 36, 3) := by decide +kernel
theorem d_PatternParser_parse_65 : decode b_PatternParser_parse 65 = .ok (.ifCond .ne 25, 3) := by decide +kernel
theorem d_PatternParser_parse_68 : decode b_PatternParser_parse 68 = .ok (.aload_n 0, 1) := by decide +kernel
theorem d_PatternParser_parse_69 : decode b_PatternParser_parse 69 = .ok (.aload_n 0, 1) := by decide +kernel
theorem d_PatternParser_parse_70 : decode b_PatternParser_parse 70 = .ok (.getfield 23, 3) := by decide +kernel
theorem d_PatternParser_parse_73 : decode b_PatternParser_parse 73 = .ok (.aload_n 0, 1) := by decide +kernel
theorem d_PatternParser_parse_74 : decode b_PatternParser_parse 74 = .ok (.getfield 40, 3) := by decide +kernel
theorem d_PatternParser_parse_77 : decode b_PatternParser_parse 77 = .ok (.invokevirtual 50, 3) := by decide +kernel
theorem d_PatternParser_parse_80 : decode b_PatternParser_parse 80 = .ok (.aload_n 2, 1) := by decide +kernel
theorem d_PatternParser_parse_81 : decode b_PatternParser_parse 81 = .ok (.invokevirtual 56, 3) := by decide +kernel
theorem d_PatternParser_parse_84 : decode b_PatternParser_parse 84 = .ok (.iinc 3 1, 3) := by decide +kernel
theorem d_PatternParser_parse_87 : decode b_PatternParser_parse 87 = .ok (.goto (-39), 3) := by decide +kernel
theorem d_PatternParser_parse_90 : decode b_PatternParser_parse 90 = .ok (.aload_n 0, 1) := by decide +kernel
theorem d_PatternParser_parse_91 : decode b_PatternParser_parse 91 = .ok (.getfield 36, 3) := by decide +kernel
theorem d_PatternParser_parse_94 : decode b_PatternParser_parse 94 = .ok (.ifCond .eq 19, 3) := by decide +kernel
theorem d_PatternParser_parse_97 : decode b_PatternParser_parse 97 = .ok (.aload_n 2, 1) := by decide +kernel
theorem d_PatternParser_parse_98 : decode b_PatternParser_parse 98 = .ok (.getfield 60, 3) := by decide +kernel
theorem d_PatternParser_parse_101 : decode b_PatternParser_parse 101 = .ok (.ifCond .eq 12, 3) := by decide +kernel
theorem d_PatternParser_parse_104 : decode b_PatternParser_parse 104 = .ok (.aload_n 0, 1) := by decide +kernel
theorem d_PatternParser_parse_105 : decode b_PatternParser_parse 105 = .ok (.iconst 3, 1) := by decide +kernel
theorem d_PatternParser_parse_106 : decode b_PatternParser_parse 106 = .ok (.iload_n 1, 1) := by decide +kernel
theorem d_PatternParser_parse_107 : decode b_PatternParser_parse 107 = .ok (.invokevirtual 65, 3) := by decide +kernel
theorem d_PatternParser_parse_110 : decode b_PatternParser_parse 110 = .ok (.goto 18, 3) := by decide +kernel
theorem d_PatternParser_parse_113 : decode b_PatternParser_parse 113 = .ok (.aload_n 0, 1) := by decide +kernel
theorem d_PatternParser_parse_114 : decode b_PatternParser_parse 114 = .ok (.getfield 36, 3) := by decide +kernel
theorem d_PatternParser_parse_117 : decode b_PatternParser_parse 117 = .ok (.ifCond .eq 11, 3) := by decide +kernel
theorem d_PatternParser_parse_120 : decode b_PatternParser_parse 120 = .ok (.aload_n 2, 1) := by decide +kernel
theorem d_PatternParser_parse_121 : decode b_PatternParser_parse 121 = .ok (.aload_n 0, 1) := by decide +kernel
theorem d_PatternParser_parse_122 : decode b_PatternParser_parse 122 = .ok (.getfield 43, 3) := by decide +kernel
theorem d_PatternParser_parse_125 : decode b_PatternParser_parse 125 = .ok (.invokevirtual 69, 3) := by decide +kernel
theorem d_PatternParser_parse_128 : decode b_PatternParser_parse 128 = .ok (.return_, 1) := by decide +kernel
theorem d_LawReader_pattern_0 : decode b_LawReader_pattern 0 = .ok (.aload_n 0, 1) := by decide +kernel
theorem d_LawReader_pattern_1 : decode b_LawReader_pattern 1 = .ok (.iconst 4, 1) := by decide +kernel
theorem d_LawReader_pattern_2 : decode b_LawReader_pattern 2 = .ok (.invokevirtual 94, 3) := by decide +kernel
theorem d_LawReader_pattern_5 : decode b_LawReader_pattern 5 = .ok (.ifCond .ne 4, 3) := by decide +kernel
theorem d_LawReader_pattern_8 : decode b_LawReader_pattern 8 = .ok (.return_, 1) := by decide +kernel
theorem d_LawReader_pattern_9 : decode b_LawReader_pattern 9 = .ok (.aload_n 0, 1) := by decide +kernel
theorem d_LawReader_pattern_10 : decode b_LawReader_pattern 10 = .ok (.getfield 27, 3) := by decide +kernel
theorem d_LawReader_pattern_13 : decode b_LawReader_pattern 13 = .ok (.aload_n 0, 1) := by decide +kernel
theorem d_LawReader_pattern_14 : decode b_LawReader_pattern 14 = .ok (.getfield 20, 3) := by decide +kernel
theorem d_LawReader_pattern_17 : decode b_LawReader_pattern 17 = .ok (.getfield 44, 3) := by decide +kernel
theorem d_LawReader_pattern_20 : decode b_LawReader_pattern 20 = .ok (.aload_n 1, 1) := by decide +kernel
theorem d_LawReader_pattern_21 : decode b_LawReader_pattern 21 = .ok (.invokevirtual 112, 3) := by decide +kernel
theorem d_LawReader_pattern_24 : decode b_LawReader_pattern 24 = .ok (.aload_n 0, 1) := by decide +kernel
theorem d_LawReader_pattern_25 : decode b_LawReader_pattern 25 = .ok (.getfield 27, 3) := by decide +kernel
theorem d_LawReader_pattern_28 : decode b_LawReader_pattern 28 = .ok (.getfield 116, 3) := by decide +kernel
theorem d_LawReader_pattern_31 : decode b_LawReader_pattern 31 = .ok (.ifCond .eq 21, 3) := by decide +kernel
theorem d_LawReader_pattern_34 : decode b_LawReader_pattern 34 = .ok (.aload_n 0, 1) := by decide +kernel
theorem d_LawReader_pattern_35 : decode b_LawReader_pattern 35 = .ok (.aload_n 0, 1) := by decide +kernel
theorem d_LawReader_pattern_36 : decode b_LawReader_pattern 36 = .ok (.getfield 27, 3) := by decide +kernel
theorem d_LawReader_pattern_39 : decode b_LawReader_pattern 39 = .ok (.getfield 116, 3) := by decide +kernel
theorem d_LawReader_pattern_42 : decode b_LawReader_pattern 42 = .ok (.aload_n 0, 1) := by decide +kernel
theorem d_LawReader_pattern_43 : decode b_LawReader_pattern 43 = .ok (.getfield 27, 3) := by decide +kernel
theorem d_LawReader_pattern_46 : decode b_LawReader_pattern 46 = .ok (.getfield 117, 3) := by decide +kernel
theorem d_LawReader_pattern_49 : decode b_LawReader_pattern 49 = .ok (.invokevirtual 47, 3) := by decide +kernel
theorem d_LawReader_pattern_52 : decode b_LawReader_pattern 52 = .ok (.return_, 1) := by decide +kernel
theorem d_Tokens_namedLetter_0 : decode b_Tokens_namedLetter 0 = .ok (.aload_n 0, 1) := by decide +kernel
theorem d_Tokens_namedLetter_1 : decode b_Tokens_namedLetter 1 = .ok (.getfield 9, 3) := by decide +kernel
theorem d_Tokens_namedLetter_4 : decode b_Tokens_namedLetter 4 = .ok (.aload_n 0, 1) := by decide +kernel
theorem d_Tokens_namedLetter_5 : decode b_Tokens_namedLetter 5 = .ok (.getfield 19, 3) := by decide +kernel
theorem d_Tokens_namedLetter_8 : decode b_Tokens_namedLetter 8 = .ok (.invokevirtual 31, 3) := by decide +kernel
theorem d_Tokens_namedLetter_11 : decode b_Tokens_namedLetter 11 = .ok (.istore_n 1, 1) := by decide +kernel
theorem d_Tokens_namedLetter_12 : decode b_Tokens_namedLetter 12 = .ok (.aload_n 0, 1) := by decide +kernel
theorem d_Tokens_namedLetter_13 : decode b_Tokens_namedLetter 13 = .ok (.getfield 38, 3) := by decide +kernel
theorem d_Tokens_namedLetter_16 : decode b_Tokens_namedLetter 16 = .ok (.iconst 2, 1) := by decide +kernel
theorem d_Tokens_namedLetter_17 : decode b_Tokens_namedLetter 17 = .ok (.if_icmp .ne 31, 3) := by decide +kernel
theorem d_Tokens_namedLetter_20 : decode b_Tokens_namedLetter 20 = .ok (.aload_n 0, 1) := by decide +kernel
theorem d_Tokens_namedLetter_21 : decode b_Tokens_namedLetter 21 = .ok (.getfield 15, 3) := by decide +kernel
theorem d_Tokens_namedLetter_24 : decode b_Tokens_namedLetter 24 = .ok (.aload_n 0, 1) := by decide +kernel
theorem d_Tokens_namedLetter_25 : decode b_Tokens_namedLetter 25 = .ok (.getfield 19, 3) := by decide +kernel
theorem d_Tokens_namedLetter_28 : decode b_Tokens_namedLetter 28 = .ok (.isub, 1) := by decide +kernel
theorem d_Tokens_namedLetter_29 : decode b_Tokens_namedLetter 29 = .ok (.iconst 1, 1) := by decide +kernel
theorem d_Tokens_namedLetter_30 : decode b_Tokens_namedLetter 30 = .ok (.if_icmp .ne 18, 3) := by decide +kernel
theorem d_Tokens_namedLetter_33 : decode b_Tokens_namedLetter 33 = .ok (.iload_n 1, 1) := by decide +kernel
theorem d_Tokens_namedLetter_34 : decode b_Tokens_namedLetter 34 = .ok (.bipush 104, 2) := by decide +kernel
theorem d_Tokens_namedLetter_36 : decode b_Tokens_namedLetter 36 = .ok (.if_icmp .gt 12, 3) := by decide +kernel
theorem d_Tokens_namedLetter_39 : decode b_Tokens_namedLetter 39 = .ok (.iload_n 1, 1) := by decide +kernel
theorem d_Tokens_namedLetter_40 : decode b_Tokens_namedLetter 40 = .ok (.bipush 97, 2) := by decide +kernel
theorem d_Tokens_namedLetter_42 : decode b_Tokens_namedLetter 42 = .ok (.isub, 1) := by decide +kernel
theorem d_Tokens_namedLetter_43 : decode b_Tokens_namedLetter 43 = .ok (.iconst 1, 1) := by decide +kernel
theorem d_Tokens_namedLetter_44 : decode b_Tokens_namedLetter 44 = .ok (.iadd, 1) := by decide +kernel
theorem d_Tokens_namedLetter_45 : decode b_Tokens_namedLetter 45 = .ok (.goto 4, 3) := by decide +kernel
theorem d_Tokens_namedLetter_48 : decode b_Tokens_namedLetter 48 = .ok (.iconst 0, 1) := by decide +kernel
theorem d_Tokens_namedLetter_49 : decode b_Tokens_namedLetter 49 = .ok (.ireturn, 1) := by decide +kernel
theorem d_LawReader_shiftLetter_0 : decode b_LawReader_shiftLetter 0 = .ok (.aload_n 0, 1) := by decide +kernel
theorem d_LawReader_shiftLetter_1 : decode b_LawReader_shiftLetter 1 = .ok (.iconst 2, 1) := by decide +kernel
theorem d_LawReader_shiftLetter_2 : decode b_LawReader_shiftLetter 2 = .ok (.invokevirtual 94, 3) := by decide +kernel
theorem d_LawReader_shiftLetter_5 : decode b_LawReader_shiftLetter 5 = .ok (.ifCond .ne 5, 3) := by decide +kernel
theorem d_LawReader_shiftLetter_8 : decode b_LawReader_shiftLetter 8 = .ok (.iconst 0, 1) := by decide +kernel
theorem d_LawReader_shiftLetter_9 : decode b_LawReader_shiftLetter 9 = .ok (.ireturn, 1) := by decide +kernel
theorem d_LawReader_shiftLetter_10 : decode b_LawReader_shiftLetter 10 = .ok (.aload_n 0, 1) := by decide +kernel
theorem d_LawReader_shiftLetter_11 : decode b_LawReader_shiftLetter 11 = .ok (.getfield 20, 3) := by decide +kernel
theorem d_LawReader_shiftLetter_14 : decode b_LawReader_shiftLetter 14 = .ok (.invokevirtual 109, 3) := by decide +kernel
theorem d_LawReader_shiftLetter_17 : decode b_LawReader_shiftLetter 17 = .ok (.istore_n 1, 1) := by decide +kernel
theorem d_LawReader_shiftLetter_18 : decode b_LawReader_shiftLetter 18 = .ok (.iload_n 1, 1) := by decide +kernel
theorem d_LawReader_shiftLetter_19 : decode b_LawReader_shiftLetter 19 = .ok (.ifCond .ne 15, 3) := by decide +kernel
theorem d_LawReader_shiftLetter_22 : decode b_LawReader_shiftLetter 22 = .ok (.aload_n 0, 1) := by decide +kernel
theorem d_LawReader_shiftLetter_23 : decode b_LawReader_shiftLetter 23 = .ok (.iconst 2, 1) := by decide +kernel
theorem d_LawReader_shiftLetter_24 : decode b_LawReader_shiftLetter 24 = .ok (.aload_n 0, 1) := by decide +kernel
theorem d_LawReader_shiftLetter_25 : decode b_LawReader_shiftLetter 25 = .ok (.getfield 20, 3) := by decide +kernel
theorem d_LawReader_shiftLetter_28 : decode b_LawReader_shiftLetter 28 = .ok (.getfield 44, 3) := by decide +kernel
theorem d_LawReader_shiftLetter_31 : decode b_LawReader_shiftLetter 31 = .ok (.invokevirtual 47, 3) := by decide +kernel
theorem d_LawReader_shiftLetter_34 : decode b_LawReader_shiftLetter 34 = .ok (.iload_n 1, 1) := by decide +kernel
theorem d_LawReader_shiftLetter_35 : decode b_LawReader_shiftLetter 35 = .ok (.ireturn, 1) := by decide +kernel
theorem d_Roster_init_0 : decode b_Roster_init 0 = .ok (.aload_n 0, 1) := by decide +kernel
theorem d_Roster_init_1 : decode b_Roster_init 1 = .ok (.invokespecial 3, 3) := by decide +kernel
theorem d_Roster_init_4 : decode b_Roster_init 4 = .ok (.aload_n 0, 1) := by decide +kernel
theorem d_Roster_init_5 : decode b_Roster_init 5 = .ok (.bipush 9, 2) := by decide +kernel
theorem d_Roster_init_7 : decode b_Roster_init 7 = .ok (.newarray .int, 2) := by decide +kernel
theorem d_Roster_init_9 : decode b_Roster_init 9 = .ok (.putfield 9, 3) := by decide +kernel
theorem d_Roster_init_12 : decode b_Roster_init 12 = .ok (.aload_n 0, 1) := by decide +kernel
theorem d_Roster_init_13 : decode b_Roster_init 13 = .ok (.bipush 9, 2) := by decide +kernel
theorem d_Roster_init_15 : decode b_Roster_init 15 = .ok (.newarray .int, 2) := by decide +kernel
theorem d_Roster_init_17 : decode b_Roster_init 17 = .ok (.putfield 15, 3) := by decide +kernel
theorem d_Roster_init_20 : decode b_Roster_init 20 = .ok (.aload_n 0, 1) := by decide +kernel
theorem d_Roster_init_21 : decode b_Roster_init 21 = .ok (.bipush 9, 2) := by decide +kernel
theorem d_Roster_init_23 : decode b_Roster_init 23 = .ok (.newarray .int, 2) := by decide +kernel
theorem d_Roster_init_25 : decode b_Roster_init 25 = .ok (.putfield 18, 3) := by decide +kernel
theorem d_Roster_init_28 : decode b_Roster_init 28 = .ok (.aload_n 0, 1) := by decide +kernel
theorem d_Roster_init_29 : decode b_Roster_init 29 = .ok (.iload_n 1, 1) := by decide +kernel
theorem d_Roster_init_30 : decode b_Roster_init 30 = .ok (.putfield 21, 3) := by decide +kernel
theorem d_Roster_init_33 : decode b_Roster_init 33 = .ok (.aload_n 0, 1) := by decide +kernel
theorem d_Roster_init_34 : decode b_Roster_init 34 = .ok (.iload_n 2, 1) := by decide +kernel
theorem d_Roster_init_35 : decode b_Roster_init 35 = .ok (.putfield 25, 3) := by decide +kernel
theorem d_Roster_init_38 : decode b_Roster_init 38 = .ok (.aload_n 0, 1) := by decide +kernel
theorem d_Roster_init_39 : decode b_Roster_init 39 = .ok (.iload_n 1, 1) := by decide +kernel
theorem d_Roster_init_40 : decode b_Roster_init 40 = .ok (.newarray .int, 2) := by decide +kernel
theorem d_Roster_init_42 : decode b_Roster_init 42 = .ok (.putfield 28, 3) := by decide +kernel
theorem d_Roster_init_45 : decode b_Roster_init 45 = .ok (.aload_n 0, 1) := by decide +kernel
theorem d_Roster_init_46 : decode b_Roster_init 46 = .ok (.iload_n 1, 1) := by decide +kernel
theorem d_Roster_init_47 : decode b_Roster_init 47 = .ok (.bipush 7, 2) := by decide +kernel
theorem d_Roster_init_49 : decode b_Roster_init 49 = .ok (.iload_n 2, 1) := by decide +kernel
theorem d_Roster_init_50 : decode b_Roster_init 50 = .ok (.iadd, 1) := by decide +kernel
theorem d_Roster_init_51 : decode b_Roster_init 51 = .ok (.multianewarray 31 2, 4) := by decide +kernel
theorem d_Roster_init_55 : decode b_Roster_init 55 = .ok (.putfield 33, 3) := by decide +kernel
theorem d_Roster_init_58 : decode b_Roster_init 58 = .ok (.aload_n 0, 1) := by decide +kernel
theorem d_Roster_init_59 : decode b_Roster_init 59 = .ok (.iload_n 1, 1) := by decide +kernel
theorem d_Roster_init_60 : decode b_Roster_init 60 = .ok (.iload_n 2, 1) := by decide +kernel
theorem d_Roster_init_61 : decode b_Roster_init 61 = .ok (.multianewarray 31 2, 4) := by decide +kernel
theorem d_Roster_init_65 : decode b_Roster_init 65 = .ok (.putfield 36, 3) := by decide +kernel
theorem d_Roster_init_68 : decode b_Roster_init 68 = .ok (.aload_n 0, 1) := by decide +kernel
theorem d_Roster_init_69 : decode b_Roster_init 69 = .ok (.iload_n 1, 1) := by decide +kernel
theorem d_Roster_init_70 : decode b_Roster_init 70 = .ok (.iload_n 2, 1) := by decide +kernel
theorem d_Roster_init_71 : decode b_Roster_init 71 = .ok (.multianewarray 31 2, 4) := by decide +kernel
theorem d_Roster_init_75 : decode b_Roster_init 75 = .ok (.putfield 39, 3) := by decide +kernel
theorem d_Roster_init_78 : decode b_Roster_init 78 = .ok (.aload_n 0, 1) := by decide +kernel
theorem d_Roster_init_79 : decode b_Roster_init 79 = .ok (.iload_n 1, 1) := by decide +kernel
theorem d_Roster_init_80 : decode b_Roster_init 80 = .ok (.bipush 9, 2) := by decide +kernel
theorem d_Roster_init_82 : decode b_Roster_init 82 = .ok (.multianewarray 31 2, 4) := by decide +kernel
theorem d_Roster_init_86 : decode b_Roster_init 86 = .ok (.putfield 42, 3) := by decide +kernel
theorem d_Roster_init_89 : decode b_Roster_init 89 = .ok (.aload_n 0, 1) := by decide +kernel
theorem d_Roster_init_90 : decode b_Roster_init 90 = .ok (.iload_n 2, 1) := by decide +kernel
theorem d_Roster_init_91 : decode b_Roster_init 91 = .ok (.bipush 9, 2) := by decide +kernel
theorem d_Roster_init_93 : decode b_Roster_init 93 = .ok (.multianewarray 31 2, 4) := by decide +kernel
theorem d_Roster_init_97 : decode b_Roster_init 97 = .ok (.putfield 45, 3) := by decide +kernel
theorem d_Roster_init_100 : decode b_Roster_init 100 = .ok (.iconst 1, 1) := by decide +kernel
theorem d_Roster_init_101 : decode b_Roster_init 101 = .ok (.istore_n 3, 1) := by decide +kernel
theorem d_Roster_init_102 : decode b_Roster_init 102 = .ok (.iload_n 3, 1) := by decide +kernel
theorem d_Roster_init_103 : decode b_Roster_init 103 = .ok (.bipush 9, 2) := by decide +kernel
theorem d_Roster_init_105 : decode b_Roster_init 105 = .ok (.if_icmp .ge 27, 3) := by decide +kernel
theorem d_Roster_init_108 : decode b_Roster_init 108 = .ok (.aload_n 0, 1) := by decide +kernel
theorem d_Roster_init_109 : decode b_Roster_init 109 = .ok (.getfield 9, 3) := by decide +kernel
theorem d_Roster_init_112 : decode b_Roster_init 112 = .ok (.iload_n 3, 1) := by decide +kernel
theorem d_Roster_init_113 : decode b_Roster_init 113 = .ok (.sipush 480, 3) := by decide +kernel
theorem d_Roster_init_116 : decode b_Roster_init 116 = .ok (.iastore, 1) := by decide +kernel
theorem d_Roster_init_117 : decode b_Roster_init 117 = .ok (.aload_n 0, 1) := by decide +kernel
theorem d_Roster_init_118 : decode b_Roster_init 118 = .ok (.getfield 15, 3) := by decide +kernel
theorem d_Roster_init_121 : decode b_Roster_init 121 = .ok (.iload_n 3, 1) := by decide +kernel
theorem d_Roster_init_122 : decode b_Roster_init 122 = .ok (.sipush 480, 3) := by decide +kernel
theorem d_Roster_init_125 : decode b_Roster_init 125 = .ok (.iastore, 1) := by decide +kernel
theorem d_Roster_init_126 : decode b_Roster_init 126 = .ok (.iinc 3 1, 3) := by decide +kernel
theorem d_Roster_init_129 : decode b_Roster_init 129 = .ok (.goto (-27), 3) := by decide +kernel
theorem d_Roster_init_132 : decode b_Roster_init 132 = .ok (.iconst 0, 1) := by decide +kernel
theorem d_Roster_init_133 : decode b_Roster_init 133 = .ok (.istore_n 3, 1) := by decide +kernel
theorem d_Roster_init_134 : decode b_Roster_init 134 = .ok (.iload_n 3, 1) := by decide +kernel
theorem d_Roster_init_135 : decode b_Roster_init 135 = .ok (.iload_n 1, 1) := by decide +kernel
theorem d_Roster_init_136 : decode b_Roster_init 136 = .ok (.if_icmp .ge 27, 3) := by decide +kernel
theorem d_Roster_init_139 : decode b_Roster_init 139 = .ok (.aload_n 0, 1) := by decide +kernel
theorem d_Roster_init_140 : decode b_Roster_init 140 = .ok (.getfield 28, 3) := by decide +kernel
theorem d_Roster_init_143 : decode b_Roster_init 143 = .ok (.iload_n 3, 1) := by decide +kernel
theorem d_Roster_init_144 : decode b_Roster_init 144 = .ok (.sipush 1023, 3) := by decide +kernel
theorem d_Roster_init_147 : decode b_Roster_init 147 = .ok (.iastore, 1) := by decide +kernel
theorem d_Roster_init_148 : decode b_Roster_init 148 = .ok (.aload_n 0, 1) := by decide +kernel
theorem d_Roster_init_149 : decode b_Roster_init 149 = .ok (.getfield 42, 3) := by decide +kernel
theorem d_Roster_init_152 : decode b_Roster_init 152 = .ok (.iload_n 3, 1) := by decide +kernel
theorem d_Roster_init_153 : decode b_Roster_init 153 = .ok (.aaload, 1) := by decide +kernel
theorem d_Roster_init_154 : decode b_Roster_init 154 = .ok (.iconst 0, 1) := by decide +kernel
theorem d_Roster_init_155 : decode b_Roster_init 155 = .ok (.iload_n 2, 1) := by decide +kernel
theorem d_Roster_init_156 : decode b_Roster_init 156 = .ok (.iastore, 1) := by decide +kernel
theorem d_Roster_init_157 : decode b_Roster_init 157 = .ok (.iinc 3 1, 3) := by decide +kernel
theorem d_Roster_init_160 : decode b_Roster_init 160 = .ok (.goto (-26), 3) := by decide +kernel
theorem d_Roster_init_163 : decode b_Roster_init 163 = .ok (.iconst 0, 1) := by decide +kernel
theorem d_Roster_init_164 : decode b_Roster_init 164 = .ok (.istore_n 3, 1) := by decide +kernel
theorem d_Roster_init_165 : decode b_Roster_init 165 = .ok (.iload_n 3, 1) := by decide +kernel
theorem d_Roster_init_166 : decode b_Roster_init 166 = .ok (.iload_n 2, 1) := by decide +kernel
theorem d_Roster_init_167 : decode b_Roster_init 167 = .ok (.if_icmp .ge 18, 3) := by decide +kernel
theorem d_Roster_init_170 : decode b_Roster_init 170 = .ok (.aload_n 0, 1) := by decide +kernel
theorem d_Roster_init_171 : decode b_Roster_init 171 = .ok (.getfield 45, 3) := by decide +kernel
theorem d_Roster_init_174 : decode b_Roster_init 174 = .ok (.iload_n 3, 1) := by decide +kernel
theorem d_Roster_init_175 : decode b_Roster_init 175 = .ok (.aaload, 1) := by decide +kernel
theorem d_Roster_init_176 : decode b_Roster_init 176 = .ok (.iconst 0, 1) := by decide +kernel
theorem d_Roster_init_177 : decode b_Roster_init 177 = .ok (.iload_n 1, 1) := by decide +kernel
theorem d_Roster_init_178 : decode b_Roster_init 178 = .ok (.iastore, 1) := by decide +kernel
theorem d_Roster_init_179 : decode b_Roster_init 179 = .ok (.iinc 3 1, 3) := by decide +kernel
theorem d_Roster_init_182 : decode b_Roster_init 182 = .ok (.goto (-17), 3) := by decide +kernel
theorem d_Roster_init_185 : decode b_Roster_init 185 = .ok (.return_, 1) := by decide +kernel
theorem d_Roster_setCell_0 : decode b_Roster_setCell 0 = .ok (.aload_n 0, 1) := by decide +kernel
theorem d_Roster_setCell_1 : decode b_Roster_setCell 1 = .ok (.iload_n 1, 1) := by decide +kernel
theorem d_Roster_setCell_2 : decode b_Roster_setCell 2 = .ok (.iload_n 2, 1) := by decide +kernel
theorem d_Roster_setCell_3 : decode b_Roster_setCell 3 = .ok (.invokevirtual 48, 3) := by decide +kernel
theorem d_Roster_setCell_6 : decode b_Roster_setCell 6 = .ok (.istore 4, 2) := by decide +kernel
theorem d_Roster_setCell_8 : decode b_Roster_setCell 8 = .ok (.aload_n 0, 1) := by decide +kernel
theorem d_Roster_setCell_9 : decode b_Roster_setCell 9 = .ok (.getfield 33, 3) := by decide +kernel
theorem d_Roster_setCell_12 : decode b_Roster_setCell 12 = .ok (.iload_n 1, 1) := by decide +kernel
theorem d_Roster_setCell_13 : decode b_Roster_setCell 13 = .ok (.aaload, 1) := by decide +kernel
theorem d_Roster_setCell_14 : decode b_Roster_setCell 14 = .ok (.bipush 7, 2) := by decide +kernel
theorem d_Roster_setCell_16 : decode b_Roster_setCell 16 = .ok (.iload_n 2, 1) := by decide +kernel
theorem d_Roster_setCell_17 : decode b_Roster_setCell 17 = .ok (.iadd, 1) := by decide +kernel
theorem d_Roster_setCell_18 : decode b_Roster_setCell 18 = .ok (.iload_n 3, 1) := by decide +kernel
theorem d_Roster_setCell_19 : decode b_Roster_setCell 19 = .ok (.iastore, 1) := by decide +kernel
theorem d_Roster_setCell_20 : decode b_Roster_setCell 20 = .ok (.aload_n 0, 1) := by decide +kernel
theorem d_Roster_setCell_21 : decode b_Roster_setCell 21 = .ok (.getfield 42, 3) := by decide +kernel
theorem d_Roster_setCell_24 : decode b_Roster_setCell 24 = .ok (.iload_n 1, 1) := by decide +kernel
theorem d_Roster_setCell_25 : decode b_Roster_setCell 25 = .ok (.aaload, 1) := by decide +kernel
theorem d_Roster_setCell_26 : decode b_Roster_setCell 26 = .ok (.iload 4, 2) := by decide +kernel
theorem d_Roster_setCell_28 : decode b_Roster_setCell 28 = .ok (.dup2, 1) := by decide +kernel
theorem d_Roster_setCell_29 : decode b_Roster_setCell 29 = .ok (.iaload, 1) := by decide +kernel
theorem d_Roster_setCell_30 : decode b_Roster_setCell 30 = .ok (.iconst 1, 1) := by decide +kernel
theorem d_Roster_setCell_31 : decode b_Roster_setCell 31 = .ok (.isub, 1) := by decide +kernel
theorem d_Roster_setCell_32 : decode b_Roster_setCell 32 = .ok (.iastore, 1) := by decide +kernel
theorem d_Roster_setCell_33 : decode b_Roster_setCell 33 = .ok (.aload_n 0, 1) := by decide +kernel
theorem d_Roster_setCell_34 : decode b_Roster_setCell 34 = .ok (.getfield 45, 3) := by decide +kernel
theorem d_Roster_setCell_37 : decode b_Roster_setCell 37 = .ok (.iload_n 2, 1) := by decide +kernel
theorem d_Roster_setCell_38 : decode b_Roster_setCell 38 = .ok (.aaload, 1) := by decide +kernel
theorem d_Roster_setCell_39 : decode b_Roster_setCell 39 = .ok (.iload 4, 2) := by decide +kernel
theorem d_Roster_setCell_41 : decode b_Roster_setCell 41 = .ok (.dup2, 1) := by decide +kernel
theorem d_Roster_setCell_42 : decode b_Roster_setCell 42 = .ok (.iaload, 1) := by decide +kernel
theorem d_Roster_setCell_43 : decode b_Roster_setCell 43 = .ok (.iconst 1, 1) := by decide +kernel
theorem d_Roster_setCell_44 : decode b_Roster_setCell 44 = .ok (.isub, 1) := by decide +kernel
theorem d_Roster_setCell_45 : decode b_Roster_setCell 45 = .ok (.iastore, 1) := by decide +kernel
theorem d_Roster_setCell_46 : decode b_Roster_setCell 46 = .ok (.aload_n 0, 1) := by decide +kernel
theorem d_Roster_setCell_47 : decode b_Roster_setCell 47 = .ok (.getfield 42, 3) := by decide +kernel
theorem d_Roster_setCell_50 : decode b_Roster_setCell 50 = .ok (.iload_n 1, 1) := by decide +kernel
theorem d_Roster_setCell_51 : decode b_Roster_setCell 51 = .ok (.aaload, 1) := by decide +kernel
theorem d_Roster_setCell_52 : decode b_Roster_setCell 52 = .ok (.iload_n 3, 1) := by decide +kernel
theorem d_Roster_setCell_53 : decode b_Roster_setCell 53 = .ok (.dup2, 1) := by decide +kernel
theorem d_Roster_setCell_54 : decode b_Roster_setCell 54 = .ok (.iaload, 1) := by decide +kernel
theorem d_Roster_setCell_55 : decode b_Roster_setCell 55 = .ok (.iconst 1, 1) := by decide +kernel
theorem d_Roster_setCell_56 : decode b_Roster_setCell 56 = .ok (.iadd, 1) := by decide +kernel
theorem d_Roster_setCell_57 : decode b_Roster_setCell 57 = .ok (.iastore, 1) := by decide +kernel
theorem d_Roster_setCell_58 : decode b_Roster_setCell 58 = .ok (.aload_n 0, 1) := by decide +kernel
theorem d_Roster_setCell_59 : decode b_Roster_setCell 59 = .ok (.getfield 45, 3) := by decide +kernel
theorem d_Roster_setCell_62 : decode b_Roster_setCell 62 = .ok (.iload_n 2, 1) := by decide +kernel
theorem d_Roster_setCell_63 : decode b_Roster_setCell 63 = .ok (.aaload, 1) := by decide +kernel
theorem d_Roster_setCell_64 : decode b_Roster_setCell 64 = .ok (.iload_n 3, 1) := by decide +kernel
theorem d_Roster_setCell_65 : decode b_Roster_setCell 65 = .ok (.dup2, 1) := by decide +kernel
theorem d_Roster_setCell_66 : decode b_Roster_setCell 66 = .ok (.iaload, 1) := by decide +kernel
theorem d_Roster_setCell_67 : decode b_Roster_setCell 67 = .ok (.iconst 1, 1) := by decide +kernel
theorem d_Roster_setCell_68 : decode b_Roster_setCell 68 = .ok (.iadd, 1) := by decide +kernel
theorem d_Roster_setCell_69 : decode b_Roster_setCell 69 = .ok (.iastore, 1) := by decide +kernel
theorem d_Roster_setCell_70 : decode b_Roster_setCell 70 = .ok (.aload_n 0, 1) := by decide +kernel
theorem d_Roster_setCell_71 : decode b_Roster_setCell 71 = .ok (.dup, 1) := by decide +kernel
theorem d_Roster_setCell_72 : decode b_Roster_setCell 72 = .ok (.getfield 52, 3) := by decide +kernel
theorem d_Roster_setCell_75 : decode b_Roster_setCell 75 = .ok (.iload_n 3, 1) := by decide +kernel
theorem d_Roster_setCell_76 : decode b_Roster_setCell 76 = .ok (.ifCond .ne 7, 3) := by decide +kernel
theorem d_Roster_setCell_79 : decode b_Roster_setCell 79 = .ok (.iconst 0, 1) := by decide +kernel
theorem d_Roster_setCell_80 : decode b_Roster_setCell 80 = .ok (.goto 4, 3) := by decide +kernel
theorem d_Roster_setCell_83 : decode b_Roster_setCell 83 = .ok (.iconst 1, 1) := by decide +kernel
theorem d_Roster_setCell_84 : decode b_Roster_setCell 84 = .ok (.iload 4, 2) := by decide +kernel
theorem d_Roster_setCell_86 : decode b_Roster_setCell 86 = .ok (.ifCond .ne 7, 3) := by decide +kernel
theorem d_Roster_setCell_89 : decode b_Roster_setCell 89 = .ok (.iconst 0, 1) := by decide +kernel
theorem d_Roster_setCell_90 : decode b_Roster_setCell 90 = .ok (.goto 4, 3) := by decide +kernel
theorem d_Roster_setCell_93 : decode b_Roster_setCell 93 = .ok (.iconst 1, 1) := by decide +kernel
theorem d_Roster_setCell_94 : decode b_Roster_setCell 94 = .ok (.isub, 1) := by decide +kernel
theorem d_Roster_setCell_95 : decode b_Roster_setCell 95 = .ok (.iadd, 1) := by decide +kernel
theorem d_Roster_setCell_96 : decode b_Roster_setCell 96 = .ok (.putfield 52, 3) := by decide +kernel
theorem d_Roster_setCell_99 : decode b_Roster_setCell 99 = .ok (.return_, 1) := by decide +kernel
theorem d_Roster_setWish_0 : decode b_Roster_setWish 0 = .ok (.aload_n 0, 1) := by decide +kernel
theorem d_Roster_setWish_1 : decode b_Roster_setWish 1 = .ok (.dup, 1) := by decide +kernel
theorem d_Roster_setWish_2 : decode b_Roster_setWish 2 = .ok (.getfield 55, 3) := by decide +kernel
theorem d_Roster_setWish_5 : decode b_Roster_setWish 5 = .ok (.iload 4, 2) := by decide +kernel
theorem d_Roster_setWish_7 : decode b_Roster_setWish 7 = .ok (.ifCond .ne 7, 3) := by decide +kernel
theorem d_Roster_setWish_10 : decode b_Roster_setWish 10 = .ok (.iconst 0, 1) := by decide +kernel
theorem d_Roster_setWish_11 : decode b_Roster_setWish 11 = .ok (.goto 4, 3) := by decide +kernel
theorem d_Roster_setWish_14 : decode b_Roster_setWish 14 = .ok (.iconst 1, 1) := by decide +kernel
theorem d_Roster_setWish_15 : decode b_Roster_setWish 15 = .ok (.aload_n 0, 1) := by decide +kernel
theorem d_Roster_setWish_16 : decode b_Roster_setWish 16 = .ok (.getfield 39, 3) := by decide +kernel
theorem d_Roster_setWish_19 : decode b_Roster_setWish 19 = .ok (.iload_n 1, 1) := by decide +kernel
theorem d_Roster_setWish_20 : decode b_Roster_setWish 20 = .ok (.aaload, 1) := by decide +kernel
theorem d_Roster_setWish_21 : decode b_Roster_setWish 21 = .ok (.iload_n 2, 1) := by decide +kernel
theorem d_Roster_setWish_22 : decode b_Roster_setWish 22 = .ok (.iaload, 1) := by decide +kernel
theorem d_Roster_setWish_23 : decode b_Roster_setWish 23 = .ok (.ifCond .ne 7, 3) := by decide +kernel
theorem d_Roster_setWish_26 : decode b_Roster_setWish 26 = .ok (.iconst 0, 1) := by decide +kernel
theorem d_Roster_setWish_27 : decode b_Roster_setWish 27 = .ok (.goto 4, 3) := by decide +kernel
theorem d_Roster_setWish_30 : decode b_Roster_setWish 30 = .ok (.iconst 1, 1) := by decide +kernel
theorem d_Roster_setWish_31 : decode b_Roster_setWish 31 = .ok (.isub, 1) := by decide +kernel
theorem d_Roster_setWish_32 : decode b_Roster_setWish 32 = .ok (.iadd, 1) := by decide +kernel
theorem d_Roster_setWish_33 : decode b_Roster_setWish 33 = .ok (.putfield 55, 3) := by decide +kernel
theorem d_Roster_setWish_36 : decode b_Roster_setWish 36 = .ok (.aload_n 0, 1) := by decide +kernel
theorem d_Roster_setWish_37 : decode b_Roster_setWish 37 = .ok (.getfield 36, 3) := by decide +kernel
theorem d_Roster_setWish_40 : decode b_Roster_setWish 40 = .ok (.iload_n 1, 1) := by decide +kernel
theorem d_Roster_setWish_41 : decode b_Roster_setWish 41 = .ok (.aaload, 1) := by decide +kernel
theorem d_Roster_setWish_42 : decode b_Roster_setWish 42 = .ok (.iload_n 2, 1) := by decide +kernel
theorem d_Roster_setWish_43 : decode b_Roster_setWish 43 = .ok (.iload_n 3, 1) := by decide +kernel
theorem d_Roster_setWish_44 : decode b_Roster_setWish 44 = .ok (.iastore, 1) := by decide +kernel
theorem d_Roster_setWish_45 : decode b_Roster_setWish 45 = .ok (.aload_n 0, 1) := by decide +kernel
theorem d_Roster_setWish_46 : decode b_Roster_setWish 46 = .ok (.getfield 39, 3) := by decide +kernel
theorem d_Roster_setWish_49 : decode b_Roster_setWish 49 = .ok (.iload_n 1, 1) := by decide +kernel
theorem d_Roster_setWish_50 : decode b_Roster_setWish 50 = .ok (.aaload, 1) := by decide +kernel
theorem d_Roster_setWish_51 : decode b_Roster_setWish 51 = .ok (.iload_n 2, 1) := by decide +kernel
theorem d_Roster_setWish_52 : decode b_Roster_setWish 52 = .ok (.iload 4, 2) := by decide +kernel
theorem d_Roster_setWish_54 : decode b_Roster_setWish 54 = .ok (.iastore, 1) := by decide +kernel
theorem d_Roster_setWish_55 : decode b_Roster_setWish 55 = .ok (.return_, 1) := by decide +kernel
theorem d_Roster_wishCost_0 : decode b_Roster_wishCost 0 = .ok (.aload_n 0, 1) := by decide +kernel
theorem d_Roster_wishCost_1 : decode b_Roster_wishCost 1 = .ok (.iload_n 1, 1) := by decide +kernel
theorem d_Roster_wishCost_2 : decode b_Roster_wishCost 2 = .ok (.iload_n 2, 1) := by decide +kernel
theorem d_Roster_wishCost_3 : decode b_Roster_wishCost 3 = .ok (.invokevirtual 48, 3) := by decide +kernel
theorem d_Roster_wishCost_6 : decode b_Roster_wishCost 6 = .ok (.aload_n 0, 1) := by decide +kernel
theorem d_Roster_wishCost_7 : decode b_Roster_wishCost 7 = .ok (.getfield 36, 3) := by decide +kernel
theorem d_Roster_wishCost_10 : decode b_Roster_wishCost 10 = .ok (.iload_n 1, 1) := by decide +kernel
theorem d_Roster_wishCost_11 : decode b_Roster_wishCost 11 = .ok (.aaload, 1) := by decide +kernel
theorem d_Roster_wishCost_12 : decode b_Roster_wishCost 12 = .ok (.iload_n 2, 1) := by decide +kernel
theorem d_Roster_wishCost_13 : decode b_Roster_wishCost 13 = .ok (.iaload, 1) := by decide +kernel
theorem d_Roster_wishCost_14 : decode b_Roster_wishCost 14 = .ok (.if_icmp .ne 7, 3) := by decide +kernel
theorem d_Roster_wishCost_17 : decode b_Roster_wishCost 17 = .ok (.lconst 0, 1) := by decide +kernel
theorem d_Roster_wishCost_18 : decode b_Roster_wishCost 18 = .ok (.goto 12, 3) := by decide +kernel
theorem d_Roster_wishCost_21 : decode b_Roster_wishCost 21 = .ok (.aload_n 0, 1) := by decide +kernel
theorem d_Roster_wishCost_22 : decode b_Roster_wishCost 22 = .ok (.getfield 39, 3) := by decide +kernel
theorem d_Roster_wishCost_25 : decode b_Roster_wishCost 25 = .ok (.iload_n 1, 1) := by decide +kernel
theorem d_Roster_wishCost_26 : decode b_Roster_wishCost 26 = .ok (.aaload, 1) := by decide +kernel
theorem d_Roster_wishCost_27 : decode b_Roster_wishCost 27 = .ok (.iload_n 2, 1) := by decide +kernel
theorem d_Roster_wishCost_28 : decode b_Roster_wishCost 28 = .ok (.iaload, 1) := by decide +kernel
theorem d_Roster_wishCost_29 : decode b_Roster_wishCost 29 = .ok (.i2l, 1) := by decide +kernel
theorem d_Roster_wishCost_30 : decode b_Roster_wishCost 30 = .ok (.lreturn, 1) := by decide +kernel
theorem d_Roster_allWishesCost_0 : decode b_Roster_allWishesCost 0 = .ok (.lconst 0, 1) := by decide +kernel
theorem d_Roster_allWishesCost_1 : decode b_Roster_allWishesCost 1 = .ok (.lstore_n 1, 1) := by decide +kernel
theorem d_Roster_allWishesCost_2 : decode b_Roster_allWishesCost 2 = .ok (.iconst 0, 1) := by decide +kernel
theorem d_Roster_allWishesCost_3 : decode b_Roster_allWishesCost 3 = .ok (.istore_n 3, 1) := by decide +kernel
theorem d_Roster_allWishesCost_4 : decode b_Roster_allWishesCost 4 = .ok (.iload_n 3, 1) := by decide +kernel
theorem d_Roster_allWishesCost_5 : decode b_Roster_allWishesCost 5 = .ok (.aload_n 0, 1) := by decide +kernel
theorem d_Roster_allWishesCost_6 : decode b_Roster_allWishesCost 6 = .ok (.getfield 21, 3) := by decide +kernel
theorem d_Roster_allWishesCost_9 : decode b_Roster_allWishesCost 9 = .ok (.if_icmp .ge 37, 3) := by decide +kernel
theorem d_Roster_allWishesCost_12 : decode b_Roster_allWishesCost 12 = .ok (.iconst 0, 1) := by decide +kernel
theorem d_Roster_allWishesCost_13 : decode b_Roster_allWishesCost 13 = .ok (.istore 4, 2) := by decide +kernel
theorem d_Roster_allWishesCost_15 : decode b_Roster_allWishesCost 15 = .ok (.iload 4, 2) := by decide +kernel
theorem d_Roster_allWishesCost_17 : decode b_Roster_allWishesCost 17 = .ok (.aload_n 0, 1) := by decide +kernel
theorem d_Roster_allWishesCost_18 : decode b_Roster_allWishesCost 18 = .ok (.getfield 25, 3) := by decide +kernel
theorem d_Roster_allWishesCost_21 : decode b_Roster_allWishesCost 21 = .ok (.if_icmp .ge 19, 3) := by decide +kernel
theorem d_Roster_allWishesCost_24 : decode b_Roster_allWishesCost 24 = .ok (.lload_n 1, 1) := by decide +kernel
theorem d_Roster_allWishesCost_25 : decode b_Roster_allWishesCost 25 = .ok (.aload_n 0, 1) := by decide +kernel
theorem d_Roster_allWishesCost_26 : decode b_Roster_allWishesCost 26 = .ok (.iload_n 3, 1) := by decide +kernel
theorem d_Roster_allWishesCost_27 : decode b_Roster_allWishesCost 27 = .ok (.iload 4, 2) := by decide +kernel
