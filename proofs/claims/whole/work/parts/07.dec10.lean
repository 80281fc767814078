theorem d_Mo_automaton_80 : decode b_Mo_automaton 80 = .ok (.ifCond .ge 22, 3) := by decide +kernel
theorem d_Mo_automaton_83 : decode b_Mo_automaton 83 = .ok (.aload_n 0, 1) := by decide +kernel
theorem d_Mo_automaton_84 : decode b_Mo_automaton 84 = .ok (.getfield 132, 3) := by decide +kernel
theorem d_Mo_automaton_87 : decode b_Mo_automaton 87 = .ok (.iload 5, 2) := by decide +kernel
theorem d_Mo_automaton_89 : decode b_Mo_automaton 89 = .ok (.iload_n 2, 1) := by decide +kernel
theorem d_Mo_automaton_90 : decode b_Mo_automaton 90 = .ok (.iastore, 1) := by decide +kernel
theorem d_Mo_automaton_91 : decode b_Mo_automaton 91 = .ok (.aload_n 0, 1) := by decide +kernel
theorem d_Mo_automaton_92 : decode b_Mo_automaton 92 = .ok (.getfield 129, 3) := by decide +kernel
theorem d_Mo_automaton_95 : decode b_Mo_automaton 95 = .ok (.iload_n 2, 1) := by decide +kernel
theorem d_Mo_automaton_96 : decode b_Mo_automaton 96 = .ok (.iload 5, 2) := by decide +kernel
theorem d_Mo_automaton_98 : decode b_Mo_automaton 98 = .ok (.iastore, 1) := by decide +kernel
theorem d_Mo_automaton_99 : decode b_Mo_automaton 99 = .ok (.iinc 2 1, 3) := by decide +kernel
theorem d_Mo_automaton_102 : decode b_Mo_automaton 102 = .ok (.aload_n 0, 1) := by decide +kernel
theorem d_Mo_automaton_103 : decode b_Mo_automaton 103 = .ok (.getfield 135, 3) := by decide +kernel
theorem d_Mo_automaton_106 : decode b_Mo_automaton 106 = .ok (.bipush 9, 2) := by decide +kernel
theorem d_Mo_automaton_108 : decode b_Mo_automaton 108 = .ok (.iload_n 3, 1) := by decide +kernel
theorem d_Mo_automaton_109 : decode b_Mo_automaton 109 = .ok (.imul, 1) := by decide +kernel
theorem d_Mo_automaton_110 : decode b_Mo_automaton 110 = .ok (.iload 4, 2) := by decide +kernel
theorem d_Mo_automaton_112 : decode b_Mo_automaton 112 = .ok (.iadd, 1) := by decide +kernel
theorem d_Mo_automaton_113 : decode b_Mo_automaton 113 = .ok (.aload_n 0, 1) := by decide +kernel
theorem d_Mo_automaton_114 : decode b_Mo_automaton 114 = .ok (.iload 5, 2) := by decide +kernel
theorem d_Mo_automaton_116 : decode b_Mo_automaton 116 = .ok (.invokevirtual 333, 3) := by decide +kernel
theorem d_Mo_automaton_119 : decode b_Mo_automaton 119 = .ok (.iastore, 1) := by decide +kernel
theorem d_Mo_automaton_120 : decode b_Mo_automaton 120 = .ok (.iinc 4 1, 3) := by decide +kernel
theorem d_Mo_automaton_123 : decode b_Mo_automaton 123 = .ok (.goto (-71), 3) := by decide +kernel
theorem d_Mo_automaton_126 : decode b_Mo_automaton 126 = .ok (.iinc 3 1, 3) := by decide +kernel
theorem d_Mo_automaton_129 : decode b_Mo_automaton 129 = .ok (.goto (-85), 3) := by decide +kernel
theorem d_Mo_automaton_132 : decode b_Mo_automaton 132 = .ok (.iconst 0, 1) := by decide +kernel
theorem d_Mo_automaton_133 : decode b_Mo_automaton 133 = .ok (.istore_n 3, 1) := by decide +kernel
theorem d_Mo_automaton_134 : decode b_Mo_automaton 134 = .ok (.iload_n 3, 1) := by decide +kernel
theorem d_Mo_automaton_135 : decode b_Mo_automaton 135 = .ok (.iload_n 2, 1) := by decide +kernel
theorem d_Mo_automaton_136 : decode b_Mo_automaton 136 = .ok (.if_icmp .ge 34, 3) := by decide +kernel
theorem d_Mo_automaton_139 : decode b_Mo_automaton 139 = .ok (.aload_n 0, 1) := by decide +kernel
theorem d_Mo_automaton_140 : decode b_Mo_automaton 140 = .ok (.getfield 138, 3) := by decide +kernel
theorem d_Mo_automaton_143 : decode b_Mo_automaton 143 = .ok (.iload_n 3, 1) := by decide +kernel
theorem d_Mo_automaton_144 : decode b_Mo_automaton 144 = .ok (.aload_n 0, 1) := by decide +kernel
theorem d_Mo_automaton_145 : decode b_Mo_automaton 145 = .ok (.iload_n 1, 1) := by decide +kernel
theorem d_Mo_automaton_146 : decode b_Mo_automaton 146 = .ok (.aload_n 0, 1) := by decide +kernel
theorem d_Mo_automaton_147 : decode b_Mo_automaton 147 = .ok (.getfield 129, 3) := by decide +kernel
theorem d_Mo_automaton_150 : decode b_Mo_automaton 150 = .ok (.iload_n 3, 1) := by decide +kernel
theorem d_Mo_automaton_151 : decode b_Mo_automaton 151 = .ok (.iaload, 1) := by decide +kernel
theorem d_Mo_automaton_152 : decode b_Mo_automaton 152 = .ok (.invokevirtual 335, 3) := by decide +kernel
theorem d_Mo_automaton_155 : decode b_Mo_automaton 155 = .ok (.ifCond .eq 7, 3) := by decide +kernel
theorem d_Mo_automaton_158 : decode b_Mo_automaton 158 = .ok (.iconst 1, 1) := by decide +kernel
theorem d_Mo_automaton_159 : decode b_Mo_automaton 159 = .ok (.goto 4, 3) := by decide +kernel
theorem d_Mo_automaton_162 : decode b_Mo_automaton 162 = .ok (.iconst 0, 1) := by decide +kernel
theorem d_Mo_automaton_163 : decode b_Mo_automaton 163 = .ok (.iastore, 1) := by decide +kernel
theorem d_Mo_automaton_164 : decode b_Mo_automaton 164 = .ok (.iinc 3 1, 3) := by decide +kernel
theorem d_Mo_automaton_167 : decode b_Mo_automaton 167 = .ok (.goto (-33), 3) := by decide +kernel
theorem d_Mo_automaton_170 : decode b_Mo_automaton 170 = .ok (.iconst 0, 1) := by decide +kernel
theorem d_Mo_automaton_171 : decode b_Mo_automaton 171 = .ok (.istore_n 3, 1) := by decide +kernel
theorem d_Mo_automaton_172 : decode b_Mo_automaton 172 = .ok (.iconst (-1), 1) := by decide +kernel
theorem d_Mo_automaton_173 : decode b_Mo_automaton 173 = .ok (.istore 4, 2) := by decide +kernel
theorem d_Mo_automaton_175 : decode b_Mo_automaton 175 = .ok (.iload_n 3, 1) := by decide +kernel
theorem d_Mo_automaton_176 : decode b_Mo_automaton 176 = .ok (.iload 4, 2) := by decide +kernel
theorem d_Mo_automaton_178 : decode b_Mo_automaton 178 = .ok (.if_icmp .eq 15, 3) := by decide +kernel
theorem d_Mo_automaton_181 : decode b_Mo_automaton 181 = .ok (.iload_n 3, 1) := by decide +kernel
theorem d_Mo_automaton_182 : decode b_Mo_automaton 182 = .ok (.istore 4, 2) := by decide +kernel
theorem d_Mo_automaton_184 : decode b_Mo_automaton 184 = .ok (.aload_n 0, 1) := by decide +kernel
theorem d_Mo_automaton_185 : decode b_Mo_automaton 185 = .ok (.iload_n 2, 1) := by decide +kernel
theorem d_Mo_automaton_186 : decode b_Mo_automaton 186 = .ok (.invokevirtual 338, 3) := by decide +kernel
theorem d_Mo_automaton_189 : decode b_Mo_automaton 189 = .ok (.istore_n 3, 1) := by decide +kernel
theorem d_Mo_automaton_190 : decode b_Mo_automaton 190 = .ok (.goto (-15), 3) := by decide +kernel
theorem d_Mo_automaton_193 : decode b_Mo_automaton 193 = .ok (.aload_n 0, 1) := by decide +kernel
theorem d_Mo_automaton_194 : decode b_Mo_automaton 194 = .ok (.iload_n 1, 1) := by decide +kernel
theorem d_Mo_automaton_195 : decode b_Mo_automaton 195 = .ok (.iload_n 2, 1) := by decide +kernel
theorem d_Mo_automaton_196 : decode b_Mo_automaton 196 = .ok (.invokevirtual 341, 3) := by decide +kernel
theorem d_Mo_automaton_199 : decode b_Mo_automaton 199 = .ok (.return_, 1) := by decide +kernel
theorem d_Mo_pattern_0 : decode b_Mo_pattern 0 = .ok (.aload_n 0, 1) := by decide +kernel
theorem d_Mo_pattern_1 : decode b_Mo_pattern 1 = .ok (.getfield 185, 3) := by decide +kernel
theorem d_Mo_pattern_4 : decode b_Mo_pattern 4 = .ok (.iconst 1, 1) := by decide +kernel
theorem d_Mo_pattern_5 : decode b_Mo_pattern 5 = .ok (.iadd, 1) := by decide +kernel
theorem d_Mo_pattern_6 : decode b_Mo_pattern 6 = .ok (.istore_n 2, 1) := by decide +kernel
theorem d_Mo_pattern_7 : decode b_Mo_pattern 7 = .ok (.aload_n 0, 1) := by decide +kernel
theorem d_Mo_pattern_8 : decode b_Mo_pattern 8 = .ok (.getfield 205, 3) := by decide +kernel
theorem d_Mo_pattern_11 : decode b_Mo_pattern 11 = .ok (.iconst 1, 1) := by decide +kernel
theorem d_Mo_pattern_12 : decode b_Mo_pattern 12 = .ok (.isub, 1) := by decide +kernel
theorem d_Mo_pattern_13 : decode b_Mo_pattern 13 = .ok (.istore_n 3, 1) := by decide +kernel
theorem d_Mo_pattern_14 : decode b_Mo_pattern 14 = .ok (.aload_n 0, 1) := by decide +kernel
theorem d_Mo_pattern_15 : decode b_Mo_pattern 15 = .ok (.iload_n 2, 1) := by decide +kernel
theorem d_Mo_pattern_16 : decode b_Mo_pattern 16 = .ok (.putfield 247, 3) := by decide +kernel
theorem d_Mo_pattern_19 : decode b_Mo_pattern 19 = .ok (.aload_n 0, 1) := by decide +kernel
theorem d_Mo_pattern_20 : decode b_Mo_pattern 20 = .ok (.iload_n 3, 1) := by decide +kernel
theorem d_Mo_pattern_21 : decode b_Mo_pattern 21 = .ok (.invokevirtual 250, 3) := by decide +kernel
theorem d_Mo_pattern_24 : decode b_Mo_pattern 24 = .ok (.istore 4, 2) := by decide +kernel
theorem d_Mo_pattern_26 : decode b_Mo_pattern 26 = .ok (.aload_n 0, 1) := by decide +kernel
theorem d_Mo_pattern_27 : decode b_Mo_pattern 27 = .ok (.getfield 172, 3) := by decide +kernel
theorem d_Mo_pattern_30 : decode b_Mo_pattern 30 = .ok (.ifCond .ne 20, 3) := by decide +kernel
theorem d_Mo_pattern_33 : decode b_Mo_pattern 33 = .ok (.iload 4, 2) := by decide +kernel
theorem d_Mo_pattern_35 : decode b_Mo_pattern 35 = .ok (.bipush 10, 2) := by decide +kernel
theorem d_Mo_pattern_37 : decode b_Mo_pattern 37 = .ok (.if_icmp .le 13, 3) := by decide +kernel
theorem d_Mo_pattern_40 : decode b_Mo_pattern 40 = .ok (.aload_n 0, 1) := by decide +kernel
theorem d_Mo_pattern_41 : decode b_Mo_pattern 41 = .ok (.iconst 3, 1) := by decide +kernel
theorem d_Mo_pattern_42 : decode b_Mo_pattern 42 = .ok (.aload_n 0, 1) := by decide +kernel
theorem d_Mo_pattern_43 : decode b_Mo_pattern 43 = .ok (.getfield 185, 3) := by decide +kernel
theorem d_Mo_pattern_46 : decode b_Mo_pattern 46 = .ok (.invokevirtual 198, 3) := by decide +kernel
theorem d_Mo_pattern_49 : decode b_Mo_pattern 49 = .ok (.pop, 1) := by decide +kernel
theorem d_Mo_pattern_50 : decode b_Mo_pattern 50 = .ok (.aload_n 0, 1) := by decide +kernel
theorem d_Mo_pattern_51 : decode b_Mo_pattern 51 = .ok (.getfield 172, 3) := by decide +kernel
theorem d_Mo_pattern_54 : decode b_Mo_pattern 54 = .ok (.ifCond .ne 10, 3) := by decide +kernel
theorem d_Mo_pattern_57 : decode b_Mo_pattern 57 = .ok (.aload_n 0, 1) := by decide +kernel
theorem d_Mo_pattern_58 : decode b_Mo_pattern 58 = .ok (.getfield 212, 3) := by decide +kernel
theorem d_Mo_pattern_61 : decode b_Mo_pattern 61 = .ok (.ifCond .ne 4, 3) := by decide +kernel
theorem d_Mo_pattern_64 : decode b_Mo_pattern 64 = .ok (.return_, 1) := by decide +kernel
theorem d_Mo_pattern_65 : decode b_Mo_pattern 65 = .ok (.aload_n 0, 1) := by decide +kernel
theorem d_Mo_pattern_66 : decode b_Mo_pattern 66 = .ok (.getfield 76, 3) := by decide +kernel
theorem d_Mo_pattern_69 : decode b_Mo_pattern 69 = .ok (.iload_n 1, 1) := by decide +kernel
theorem d_Mo_pattern_70 : decode b_Mo_pattern 70 = .ok (.iload 4, 2) := by decide +kernel
theorem d_Mo_pattern_72 : decode b_Mo_pattern 72 = .ok (.iastore, 1) := by decide +kernel
theorem d_Mo_pattern_73 : decode b_Mo_pattern 73 = .ok (.aload_n 0, 1) := by decide +kernel
theorem d_Mo_pattern_74 : decode b_Mo_pattern 74 = .ok (.iload_n 1, 1) := by decide +kernel
theorem d_Mo_pattern_75 : decode b_Mo_pattern 75 = .ok (.putfield 253, 3) := by decide +kernel
theorem d_Mo_pattern_78 : decode b_Mo_pattern 78 = .ok (.aload_n 0, 1) := by decide +kernel
theorem d_Mo_pattern_79 : decode b_Mo_pattern 79 = .ok (.iconst 0, 1) := by decide +kernel
theorem d_Mo_pattern_80 : decode b_Mo_pattern 80 = .ok (.putfield 256, 3) := by decide +kernel
theorem d_Mo_pattern_83 : decode b_Mo_pattern 83 = .ok (.iconst 0, 1) := by decide +kernel
theorem d_Mo_pattern_84 : decode b_Mo_pattern 84 = .ok (.istore 5, 2) := by decide +kernel
theorem d_Mo_pattern_86 : decode b_Mo_pattern 86 = .ok (.iload 5, 2) := by decide +kernel
theorem d_Mo_pattern_88 : decode b_Mo_pattern 88 = .ok (.bipush 11, 2) := by decide +kernel
theorem d_Mo_pattern_90 : decode b_Mo_pattern 90 = .ok (.if_icmp .ge 22, 3) := by decide +kernel
theorem d_Mo_pattern_93 : decode b_Mo_pattern 93 = .ok (.aload_n 0, 1) := by decide +kernel
theorem d_Mo_pattern_94 : decode b_Mo_pattern 94 = .ok (.getfield 66, 3) := by decide +kernel
theorem d_Mo_pattern_97 : decode b_Mo_pattern 97 = .ok (.bipush 11, 2) := by decide +kernel
theorem d_Mo_pattern_99 : decode b_Mo_pattern 99 = .ok (.iload_n 1, 1) := by decide +kernel
theorem d_Mo_pattern_100 : decode b_Mo_pattern 100 = .ok (.imul, 1) := by decide +kernel
theorem d_Mo_pattern_101 : decode b_Mo_pattern 101 = .ok (.iload 5, 2) := by decide +kernel
theorem d_Mo_pattern_103 : decode b_Mo_pattern 103 = .ok (.iadd, 1) := by decide +kernel
theorem d_Mo_pattern_104 : decode b_Mo_pattern 104 = .ok (.iconst 0, 1) := by decide +kernel
theorem d_Mo_pattern_105 : decode b_Mo_pattern 105 = .ok (.iastore, 1) := by decide +kernel
theorem d_Mo_pattern_106 : decode b_Mo_pattern 106 = .ok (.iinc 5 1, 3) := by decide +kernel
theorem d_Mo_pattern_109 : decode b_Mo_pattern 109 = .ok (.goto (-23), 3) := by decide +kernel
theorem d_Mo_pattern_112 : decode b_Mo_pattern 112 = .ok (.aload_n 0, 1) := by decide +kernel
theorem d_Mo_pattern_113 : decode b_Mo_pattern 113 = .ok (.iload_n 2, 1) := by decide +kernel
theorem d_Mo_pattern_114 : decode b_Mo_pattern 114 = .ok (.putfield 247, 3) := by decide +kernel
theorem d_Mo_pattern_117 : decode b_Mo_pattern 117 = .ok (.aload_n 0, 1) := by decide +kernel
theorem d_Mo_pattern_118 : decode b_Mo_pattern 118 = .ok (.iload_n 3, 1) := by decide +kernel
theorem d_Mo_pattern_119 : decode b_Mo_pattern 119 = .ok (.invokevirtual 259, 3) := by decide +kernel
theorem d_Mo_pattern_122 : decode b_Mo_pattern 122 = .ok (.lstore 5, 2) := by decide +kernel
theorem d_Mo_pattern_124 : decode b_Mo_pattern 124 = .ok (.aload_n 0, 1) := by decide +kernel
theorem d_Mo_pattern_125 : decode b_Mo_pattern 125 = .ok (.getfield 66, 3) := by decide +kernel
theorem d_Mo_pattern_128 : decode b_Mo_pattern 128 = .ok (.bipush 11, 2) := by decide +kernel
theorem d_Mo_pattern_130 : decode b_Mo_pattern 130 = .ok (.iload_n 1, 1) := by decide +kernel
theorem d_Mo_pattern_131 : decode b_Mo_pattern 131 = .ok (.imul, 1) := by decide +kernel
theorem d_Mo_pattern_132 : decode b_Mo_pattern 132 = .ok (.bipush 10, 2) := by decide +kernel
theorem d_Mo_pattern_134 : decode b_Mo_pattern 134 = .ok (.iadd, 1) := by decide +kernel
theorem d_Mo_pattern_135 : decode b_Mo_pattern 135 = .ok (.lload 5, 2) := by decide +kernel
theorem d_Mo_pattern_137 : decode b_Mo_pattern 137 = .ok (.invokestatic 263, 3) := by decide +kernel
theorem d_Mo_pattern_140 : decode b_Mo_pattern 140 = .ok (.iastore, 1) := by decide +kernel
theorem d_Mo_pattern_141 : decode b_Mo_pattern 141 = .ok (.aload_n 0, 1) := by decide +kernel
theorem d_Mo_pattern_142 : decode b_Mo_pattern 142 = .ok (.getfield 69, 3) := by decide +kernel
theorem d_Mo_pattern_145 : decode b_Mo_pattern 145 = .ok (.iload_n 1, 1) := by decide +kernel
theorem d_Mo_pattern_146 : decode b_Mo_pattern 146 = .ok (.lload 5, 2) := by decide +kernel
theorem d_Mo_pattern_148 : decode b_Mo_pattern 148 = .ok (.invokestatic 267, 3) := by decide +kernel
theorem d_Mo_pattern_151 : decode b_Mo_pattern 151 = .ok (.iastore, 1) := by decide +kernel
theorem d_Mo_pattern_152 : decode b_Mo_pattern 152 = .ok (.aload_n 0, 1) := by decide +kernel
theorem d_Mo_pattern_153 : decode b_Mo_pattern 153 = .ok (.getfield 72, 3) := by decide +kernel
theorem d_Mo_pattern_156 : decode b_Mo_pattern 156 = .ok (.iload_n 1, 1) := by decide +kernel
theorem d_Mo_pattern_157 : decode b_Mo_pattern 157 = .ok (.lload 5, 2) := by decide +kernel
theorem d_Mo_pattern_159 : decode b_Mo_pattern 159 = .ok (.invokestatic 270, 3) := by decide +kernel
theorem d_Mo_pattern_162 : decode b_Mo_pattern 162 = .ok (.bastore, 1) := by decide +kernel
theorem d_Mo_pattern_163 : decode b_Mo_pattern 163 = .ok (.aload_n 0, 1) := by decide +kernel
theorem d_Mo_pattern_164 : decode b_Mo_pattern 164 = .ok (.iload_n 1, 1) := by decide +kernel
theorem d_Mo_pattern_165 : decode b_Mo_pattern 165 = .ok (.invokevirtual 274, 3) := by decide +kernel
theorem d_Mo_pattern_168 : decode b_Mo_pattern 168 = .ok (.return_, 1) := by decide +kernel
theorem d_Mo_law0_0 : decode b_Mo_law0 0 = .ok (.aload_n 0, 1) := by decide +kernel
theorem d_Mo_law0_1 : decode b_Mo_law0 1 = .ok (.getfield 185, 3) := by decide +kernel
theorem d_Mo_law0_4 : decode b_Mo_law0 4 = .ok (.istore_n 2, 1) := by decide +kernel
theorem d_Mo_law0_5 : decode b_Mo_law0 5 = .ok (.iconst (-1), 1) := by decide +kernel
theorem d_Mo_law0_6 : decode b_Mo_law0 6 = .ok (.istore_n 3, 1) := by decide +kernel
theorem d_Mo_law0_7 : decode b_Mo_law0 7 = .ok (.aload_n 0, 1) := by decide +kernel
theorem d_Mo_law0_8 : decode b_Mo_law0 8 = .ok (.getfield 188, 3) := by decide +kernel
theorem d_Mo_law0_11 : decode b_Mo_law0 11 = .ok (.iconst 1, 1) := by decide +kernel
theorem d_Mo_law0_12 : decode b_Mo_law0 12 = .ok (.if_icmp .ne 111, 3) := by decide +kernel
theorem d_Mo_law0_15 : decode b_Mo_law0 15 = .ok (.aload_n 0, 1) := by decide +kernel
theorem d_Mo_law0_16 : decode b_Mo_law0 16 = .ok (.getfield 194, 3) := by decide +kernel
theorem d_Mo_law0_19 : decode b_Mo_law0 19 = .ok (.ldc2_w 226, 3) := by decide +kernel
theorem d_Mo_law0_22 : decode b_Mo_law0 22 = .ok (.lcmp, 1) := by decide +kernel
theorem d_Mo_law0_23 : decode b_Mo_law0 23 = .ok (.ifCond .ne 7, 3) := by decide +kernel
theorem d_Mo_law0_26 : decode b_Mo_law0 26 = .ok (.iconst 0, 1) := by decide +kernel
theorem d_Mo_law0_27 : decode b_Mo_law0 27 = .ok (.goto 95, 3) := by decide +kernel
theorem d_Mo_law0_30 : decode b_Mo_law0 30 = .ok (.aload_n 0, 1) := by decide +kernel
theorem d_Mo_law0_31 : decode b_Mo_law0 31 = .ok (.getfield 194, 3) := by decide +kernel
theorem d_Mo_law0_34 : decode b_Mo_law0 34 = .ok (.ldc2_w 228, 3) := by decide +kernel
theorem d_Mo_law0_37 : decode b_Mo_law0 37 = .ok (.lcmp, 1) := by decide +kernel
theorem d_Mo_law0_38 : decode b_Mo_law0 38 = .ok (.ifCond .ne 7, 3) := by decide +kernel
theorem d_Mo_law0_41 : decode b_Mo_law0 41 = .ok (.iconst 1, 1) := by decide +kernel
theorem d_Mo_law0_42 : decode b_Mo_law0 42 = .ok (.goto 80, 3) := by decide +kernel
theorem d_Mo_law0_45 : decode b_Mo_law0 45 = .ok (.aload_n 0, 1) := by decide +kernel
theorem d_Mo_law0_46 : decode b_Mo_law0 46 = .ok (.getfield 194, 3) := by decide +kernel
theorem d_Mo_law0_49 : decode b_Mo_law0 49 = .ok (.ldc2_w 230, 3) := by decide +kernel
theorem d_Mo_law0_52 : decode b_Mo_law0 52 = .ok (.lcmp, 1) := by decide +kernel
theorem d_Mo_law0_53 : decode b_Mo_law0 53 = .ok (.ifCond .ne 7, 3) := by decide +kernel
theorem d_Mo_law0_56 : decode b_Mo_law0 56 = .ok (.iconst 2, 1) := by decide +kernel
theorem d_Mo_law0_57 : decode b_Mo_law0 57 = .ok (.goto 65, 3) := by decide +kernel
theorem d_Mo_law0_60 : decode b_Mo_law0 60 = .ok (.aload_n 0, 1) := by decide +kernel
theorem d_Mo_law0_61 : decode b_Mo_law0 61 = .ok (.getfield 194, 3) := by decide +kernel
theorem d_Mo_law0_64 : decode b_Mo_law0 64 = .ok (.ldc2_w 232, 3) := by decide +kernel
theorem d_Mo_law0_67 : decode b_Mo_law0 67 = .ok (.lcmp, 1) := by decide +kernel
theorem d_Mo_law0_68 : decode b_Mo_law0 68 = .ok (.ifCond .ne 7, 3) := by decide +kernel
theorem d_Mo_law0_71 : decode b_Mo_law0 71 = .ok (.iconst 3, 1) := by decide +kernel
theorem d_Mo_law0_72 : decode b_Mo_law0 72 = .ok (.goto 50, 3) := by decide +kernel
theorem d_Mo_law0_75 : decode b_Mo_law0 75 = .ok (.aload_n 0, 1) := by decide +kernel
theorem d_Mo_law0_76 : decode b_Mo_law0 76 = .ok (.getfield 194, 3) := by decide +kernel
theorem d_Mo_law0_79 : decode b_Mo_law0 79 = .ok (.ldc2_w 234, 3) := by decide +kernel
theorem d_Mo_law0_82 : decode b_Mo_law0 82 = .ok (.lcmp, 1) := by decide +kernel
theorem d_Mo_law0_83 : decode b_Mo_law0 83 = .ok (.ifCond .ne 7, 3) := by decide +kernel
theorem d_Mo_law0_86 : decode b_Mo_law0 86 = .ok (.iconst 4, 1) := by decide +kernel
theorem d_Mo_law0_87 : decode b_Mo_law0 87 = .ok (.goto 35, 3) := by decide +kernel
theorem d_Mo_law0_90 : decode b_Mo_law0 90 = .ok (.aload_n 0, 1) := by decide +kernel
theorem d_Mo_law0_91 : decode b_Mo_law0 91 = .ok (.getfield 194, 3) := by decide +kernel
theorem d_Mo_law0_94 : decode b_Mo_law0 94 = .ok (.ldc2_w 236, 3) := by decide +kernel
theorem d_Mo_law0_97 : decode b_Mo_law0 97 = .ok (.lcmp, 1) := by decide +kernel
theorem d_Mo_law0_98 : decode b_Mo_law0 98 = .ok (.ifCond .ne 7, 3) := by decide +kernel
theorem d_Mo_law0_101 : decode b_Mo_law0 101 = .ok (.iconst 5, 1) := by decide +kernel
theorem d_Mo_law0_102 : decode b_Mo_law0 102 = .ok (.goto 20, 3) := by decide +kernel
theorem d_Mo_law0_105 : decode b_Mo_law0 105 = .ok (.aload_n 0, 1) := by decide +kernel
theorem d_Mo_law0_106 : decode b_Mo_law0 106 = .ok (.getfield 194, 3) := by decide +kernel
theorem d_Mo_law0_109 : decode b_Mo_law0 109 = .ok (.ldc2_w 238, 3) := by decide +kernel
theorem d_Mo_law0_112 : decode b_Mo_law0 112 = .ok (.lcmp, 1) := by decide +kernel
theorem d_Mo_law0_113 : decode b_Mo_law0 113 = .ok (.ifCond .ne 8, 3) := by decide +kernel
theorem d_Mo_law0_116 : decode b_Mo_law0 116 = .ok (.bipush 6, 2) := by decide +kernel
theorem d_Mo_law0_118 : decode b_Mo_law0 118 = .ok (.goto 4, 3) := by decide +kernel
theorem d_Mo_law0_121 : decode b_Mo_law0 121 = .ok (.iconst (-1), 1) := by decide +kernel
theorem d_Mo_law0_122 : decode b_Mo_law0 122 = .ok (.istore_n 3, 1) := by decide +kernel
theorem d_Mo_law0_123 : decode b_Mo_law0 123 = .ok (.iload_n 3, 1) := by decide +kernel
theorem d_Mo_law0_124 : decode b_Mo_law0 124 = .ok (.ifCond .ge 11, 3) := by decide +kernel
theorem d_Mo_law0_127 : decode b_Mo_law0 127 = .ok (.aload_n 0, 1) := by decide +kernel
theorem d_Mo_law0_128 : decode b_Mo_law0 128 = .ok (.iconst 2, 1) := by decide +kernel
theorem d_Mo_law0_129 : decode b_Mo_law0 129 = .ok (.iload_n 2, 1) := by decide +kernel
theorem d_Mo_law0_130 : decode b_Mo_law0 130 = .ok (.invokevirtual 198, 3) := by decide +kernel
theorem d_Mo_law0_133 : decode b_Mo_law0 133 = .ok (.pop, 1) := by decide +kernel
theorem d_Mo_law0_134 : decode b_Mo_law0 134 = .ok (.return_, 1) := by decide +kernel
theorem d_Mo_law0_135 : decode b_Mo_law0 135 = .ok (.iconst 0, 1) := by decide +kernel
theorem d_Mo_law0_136 : decode b_Mo_law0 136 = .ok (.istore 4, 2) := by decide +kernel
theorem d_Mo_law0_138 : decode b_Mo_law0 138 = .ok (.iconst 0, 1) := by decide +kernel
theorem d_Mo_law0_139 : decode b_Mo_law0 139 = .ok (.istore 5, 2) := by decide +kernel
theorem d_Mo_law0_141 : decode b_Mo_law0 141 = .ok (.iconst 0, 1) := by decide +kernel
theorem d_Mo_law0_142 : decode b_Mo_law0 142 = .ok (.istore 6, 2) := by decide +kernel
theorem d_Mo_law0_144 : decode b_Mo_law0 144 = .ok (.iconst 0, 1) := by decide +kernel
theorem d_Mo_law0_145 : decode b_Mo_law0 145 = .ok (.istore 7, 2) := by decide +kernel
theorem d_Mo_law0_147 : decode b_Mo_law0 147 = .ok (.iload_n 3, 1) := by decide +kernel
theorem d_Mo_law0_148 : decode b_Mo_law0 148 = .ok (.iconst 5, 1) := by decide +kernel
theorem d_Mo_law0_149 : decode b_Mo_law0 149 = .ok (.if_icmp .eq 9, 3) := by decide +kernel
theorem d_Mo_law0_152 : decode b_Mo_law0 152 = .ok (.iload_n 3, 1) := by decide +kernel
theorem d_Mo_law0_153 : decode b_Mo_law0 153 = .ok (.bipush 6, 2) := by decide +kernel
theorem d_Mo_law0_155 : decode b_Mo_law0 155 = .ok (.if_icmp .ne 63, 3) := by decide +kernel
theorem d_Mo_law0_158 : decode b_Mo_law0 158 = .ok (.aload_n 0, 1) := by decide +kernel
theorem d_Mo_law0_159 : decode b_Mo_law0 159 = .ok (.invokevirtual 208, 3) := by decide +kernel
theorem d_Mo_law0_162 : decode b_Mo_law0 162 = .ok (.ifCond .ne 4, 3) := by decide +kernel
theorem d_Mo_law0_165 : decode b_Mo_law0 165 = .ok (.return_, 1) := by decide +kernel
theorem d_Mo_law0_166 : decode b_Mo_law0 166 = .ok (.aload_n 0, 1) := by decide +kernel
theorem d_Mo_law0_167 : decode b_Mo_law0 167 = .ok (.aload_n 0, 1) := by decide +kernel
theorem d_Mo_law0_168 : decode b_Mo_law0 168 = .ok (.getfield 185, 3) := by decide +kernel
theorem d_Mo_law0_171 : decode b_Mo_law0 171 = .ok (.invokevirtual 181, 3) := by decide +kernel
theorem d_Mo_law0_174 : decode b_Mo_law0 174 = .ok (.bipush 97, 2) := by decide +kernel
theorem d_Mo_law0_176 : decode b_Mo_law0 176 = .ok (.isub, 1) := by decide +kernel
theorem d_Mo_law0_177 : decode b_Mo_law0 177 = .ok (.istore 7, 2) := by decide +kernel
theorem d_Mo_law0_179 : decode b_Mo_law0 179 = .ok (.aload_n 0, 1) := by decide +kernel
theorem d_Mo_law0_180 : decode b_Mo_law0 180 = .ok (.getfield 188, 3) := by decide +kernel
theorem d_Mo_law0_183 : decode b_Mo_law0 183 = .ok (.iconst 1, 1) := by decide +kernel
theorem d_Mo_law0_184 : decode b_Mo_law0 184 = .ok (.if_icmp .ne 23, 3) := by decide +kernel
theorem d_Mo_law0_187 : decode b_Mo_law0 187 = .ok (.aload_n 0, 1) := by decide +kernel
theorem d_Mo_law0_188 : decode b_Mo_law0 188 = .ok (.getfield 205, 3) := by decide +kernel
theorem d_Mo_law0_191 : decode b_Mo_law0 191 = .ok (.aload_n 0, 1) := by decide +kernel
theorem d_Mo_law0_192 : decode b_Mo_law0 192 = .ok (.getfield 185, 3) := by decide +kernel
theorem d_Mo_law0_195 : decode b_Mo_law0 195 = .ok (.isub, 1) := by decide +kernel
theorem d_Mo_law0_196 : decode b_Mo_law0 196 = .ok (.iconst 1, 1) := by decide +kernel
theorem d_Mo_law0_197 : decode b_Mo_law0 197 = .ok (.if_icmp .ne 10, 3) := by decide +kernel
theorem d_Mo_law0_200 : decode b_Mo_law0 200 = .ok (.iload 7, 2) := by decide +kernel
theorem d_Mo_law0_202 : decode b_Mo_law0 202 = .ok (.bipush 7, 2) := by decide +kernel
theorem d_Mo_law0_204 : decode b_Mo_law0 204 = .ok (.if_icmp .le 14, 3) := by decide +kernel
theorem d_Mo_law0_207 : decode b_Mo_law0 207 = .ok (.aload_n 0, 1) := by decide +kernel
theorem d_Mo_law0_208 : decode b_Mo_law0 208 = .ok (.iconst 2, 1) := by decide +kernel
theorem d_Mo_law0_209 : decode b_Mo_law0 209 = .ok (.aload_n 0, 1) := by decide +kernel
theorem d_Mo_law0_210 : decode b_Mo_law0 210 = .ok (.getfield 185, 3) := by decide +kernel
theorem d_Mo_law0_213 : decode b_Mo_law0 213 = .ok (.invokevirtual 198, 3) := by decide +kernel
theorem d_Mo_law0_216 : decode b_Mo_law0 216 = .ok (.pop, 1) := by decide +kernel
theorem d_Mo_law0_217 : decode b_Mo_law0 217 = .ok (.return_, 1) := by decide +kernel
theorem d_Mo_law0_218 : decode b_Mo_law0 218 = .ok (.iload_n 3, 1) := by decide +kernel
theorem d_Mo_law0_219 : decode b_Mo_law0 219 = .ok (.iconst 1, 1) := by decide +kernel
theorem d_Mo_law0_220 : decode b_Mo_law0 220 = .ok (.if_icmp .ne 16, 3) := by decide +kernel
theorem d_Mo_law0_223 : decode b_Mo_law0 223 = .ok (.aload_n 0, 1) := by decide +kernel
theorem d_Mo_law0_224 : decode b_Mo_law0 224 = .ok (.iconst 0, 1) := by decide +kernel
theorem d_Mo_law0_225 : decode b_Mo_law0 225 = .ok (.sipush 10000, 3) := by decide +kernel
theorem d_Mo_law0_228 : decode b_Mo_law0 228 = .ok (.invokevirtual 240, 3) := by decide +kernel
theorem d_Mo_law0_231 : decode b_Mo_law0 231 = .ok (.istore 4, 2) := by decide +kernel
theorem d_Mo_law0_233 : decode b_Mo_law0 233 = .ok (.goto 130, 3) := by decide +kernel
theorem d_Mo_law0_236 : decode b_Mo_law0 236 = .ok (.iload_n 3, 1) := by decide +kernel
theorem d_Mo_law0_237 : decode b_Mo_law0 237 = .ok (.iconst 2, 1) := by decide +kernel
theorem d_Mo_law0_238 : decode b_Mo_law0 238 = .ok (.if_icmp .eq 9, 3) := by decide +kernel
theorem d_Mo_law0_241 : decode b_Mo_law0 241 = .ok (.iload_n 3, 1) := by decide +kernel
theorem d_Mo_law0_242 : decode b_Mo_law0 242 = .ok (.bipush 6, 2) := by decide +kernel
theorem d_Mo_law0_244 : decode b_Mo_law0 244 = .ok (.if_icmp .ne 77, 3) := by decide +kernel
theorem d_Mo_law0_247 : decode b_Mo_law0 247 = .ok (.iload_n 3, 1) := by decide +kernel
theorem d_Mo_law0_248 : decode b_Mo_law0 248 = .ok (.iconst 2, 1) := by decide +kernel
theorem d_Mo_law0_249 : decode b_Mo_law0 249 = .ok (.if_icmp .ne 8, 3) := by decide +kernel
theorem d_Mo_law0_252 : decode b_Mo_law0 252 = .ok (.ldc 243, 2) := by decide +kernel
theorem d_Mo_law0_254 : decode b_Mo_law0 254 = .ok (.goto 5, 3) := by decide +kernel
theorem d_Mo_law0_257 : decode b_Mo_law0 257 = .ok (.bipush 8, 2) := by decide +kernel
theorem d_Mo_law0_259 : decode b_Mo_law0 259 = .ok (.istore 8, 2) := by decide +kernel
theorem d_Mo_law0_261 : decode b_Mo_law0 261 = .ok (.aload_n 0, 1) := by decide +kernel
theorem d_Mo_law0_262 : decode b_Mo_law0 262 = .ok (.iconst 0, 1) := by decide +kernel
theorem d_Mo_law0_263 : decode b_Mo_law0 263 = .ok (.iload 8, 2) := by decide +kernel
theorem d_Mo_law0_265 : decode b_Mo_law0 265 = .ok (.invokevirtual 240, 3) := by decide +kernel
theorem d_Mo_law0_268 : decode b_Mo_law0 268 = .ok (.istore 4, 2) := by decide +kernel
theorem d_Mo_law0_270 : decode b_Mo_law0 270 = .ok (.aload_n 0, 1) := by decide +kernel
theorem d_Mo_law0_271 : decode b_Mo_law0 271 = .ok (.getfield 172, 3) := by decide +kernel
theorem d_Mo_law0_274 : decode b_Mo_law0 274 = .ok (.ifCond .ne 14, 3) := by decide +kernel
theorem d_Mo_law0_277 : decode b_Mo_law0 277 = .ok (.aload_n 0, 1) := by decide +kernel
theorem d_Mo_law0_278 : decode b_Mo_law0 278 = .ok (.iload 4, 2) := by decide +kernel
theorem d_Mo_law0_280 : decode b_Mo_law0 280 = .ok (.iload 8, 2) := by decide +kernel
theorem d_Mo_law0_282 : decode b_Mo_law0 282 = .ok (.invokevirtual 240, 3) := by decide +kernel
theorem d_Mo_law0_285 : decode b_Mo_law0 285 = .ok (.goto 4, 3) := by decide +kernel
theorem d_Mo_law0_288 : decode b_Mo_law0 288 = .ok (.iconst 0, 1) := by decide +kernel
theorem d_Mo_law0_289 : decode b_Mo_law0 289 = .ok (.istore 5, 2) := by decide +kernel
theorem d_Mo_law0_291 : decode b_Mo_law0 291 = .ok (.aload_n 0, 1) := by decide +kernel
theorem d_Mo_law0_292 : decode b_Mo_law0 292 = .ok (.getfield 172, 3) := by decide +kernel
theorem d_Mo_law0_295 : decode b_Mo_law0 295 = .ok (.ifCond .ne 20, 3) := by decide +kernel
theorem d_Mo_law0_298 : decode b_Mo_law0 298 = .ok (.iload_n 3, 1) := by decide +kernel
theorem d_Mo_law0_299 : decode b_Mo_law0 299 = .ok (.iconst 2, 1) := by decide +kernel
theorem d_Mo_law0_300 : decode b_Mo_law0 300 = .ok (.if_icmp .ne 15, 3) := by decide +kernel
theorem d_Mo_law0_303 : decode b_Mo_law0 303 = .ok (.aload_n 0, 1) := by decide +kernel
theorem d_Mo_law0_304 : decode b_Mo_law0 304 = .ok (.iconst 1, 1) := by decide +kernel
theorem d_Mo_law0_305 : decode b_Mo_law0 305 = .ok (.aload_n 0, 1) := by decide +kernel
theorem d_Mo_law0_306 : decode b_Mo_law0 306 = .ok (.getfield 159, 3) := by decide +kernel
theorem d_Mo_law0_309 : decode b_Mo_law0 309 = .ok (.invokevirtual 240, 3) := by decide +kernel
theorem d_Mo_law0_312 : decode b_Mo_law0 312 = .ok (.goto 4, 3) := by decide +kernel
theorem d_Mo_law0_315 : decode b_Mo_law0 315 = .ok (.iconst 0, 1) := by decide +kernel
theorem d_Mo_law0_316 : decode b_Mo_law0 316 = .ok (.istore 6, 2) := by decide +kernel
theorem d_Mo_law0_318 : decode b_Mo_law0 318 = .ok (.goto 45, 3) := by decide +kernel
theorem d_Mo_law0_321 : decode b_Mo_law0 321 = .ok (.iload_n 3, 1) := by decide +kernel
theorem d_Mo_law0_322 : decode b_Mo_law0 322 = .ok (.iconst 3, 1) := by decide +kernel
theorem d_Mo_law0_323 : decode b_Mo_law0 323 = .ok (.if_icmp .eq 8, 3) := by decide +kernel
theorem d_Mo_law0_326 : decode b_Mo_law0 326 = .ok (.iload_n 3, 1) := by decide +kernel
theorem d_Mo_law0_327 : decode b_Mo_law0 327 = .ok (.iconst 4, 1) := by decide +kernel
theorem d_Mo_law0_328 : decode b_Mo_law0 328 = .ok (.if_icmp .ne 35, 3) := by decide +kernel
theorem d_Mo_law0_331 : decode b_Mo_law0 331 = .ok (.aload_n 0, 1) := by decide +kernel
theorem d_Mo_law0_332 : decode b_Mo_law0 332 = .ok (.invokevirtual 208, 3) := by decide +kernel
theorem d_Mo_law0_335 : decode b_Mo_law0 335 = .ok (.ifCond .ne 4, 3) := by decide +kernel
theorem d_Mo_law0_338 : decode b_Mo_law0 338 = .ok (.return_, 1) := by decide +kernel
theorem d_Mo_law0_339 : decode b_Mo_law0 339 = .ok (.aload_n 0, 1) := by decide +kernel
theorem d_Mo_law0_340 : decode b_Mo_law0 340 = .ok (.getfield 188, 3) := by decide +kernel
theorem d_Mo_law0_343 : decode b_Mo_law0 343 = .ok (.iconst 3, 1) := by decide +kernel
theorem d_Mo_law0_344 : decode b_Mo_law0 344 = .ok (.if_icmp .eq 14, 3) := by decide +kernel
theorem d_Mo_law0_347 : decode b_Mo_law0 347 = .ok (.aload_n 0, 1) := by decide +kernel
theorem d_Mo_law0_348 : decode b_Mo_law0 348 = .ok (.iconst 2, 1) := by decide +kernel
theorem d_Mo_law0_349 : decode b_Mo_law0 349 = .ok (.aload_n 0, 1) := by decide +kernel
theorem d_Mo_law0_350 : decode b_Mo_law0 350 = .ok (.getfield 185, 3) := by decide +kernel
theorem d_Mo_law0_353 : decode b_Mo_law0 353 = .ok (.invokevirtual 198, 3) := by decide +kernel
theorem d_Mo_law0_356 : decode b_Mo_law0 356 = .ok (.pop, 1) := by decide +kernel
theorem d_Mo_law0_357 : decode b_Mo_law0 357 = .ok (.return_, 1) := by decide +kernel
theorem d_Mo_law0_358 : decode b_Mo_law0 358 = .ok (.aload_n 0, 1) := by decide +kernel
theorem d_Mo_law0_359 : decode b_Mo_law0 359 = .ok (.iload_n 1, 1) := by decide +kernel
theorem d_Mo_law0_360 : decode b_Mo_law0 360 = .ok (.invokevirtual 244, 3) := by decide +kernel
theorem d_Mo_law0_363 : decode b_Mo_law0 363 = .ok (.aload_n 0, 1) := by decide +kernel
theorem d_Mo_law0_364 : decode b_Mo_law0 364 = .ok (.getfield 172, 3) := by decide +kernel
theorem d_Mo_law0_367 : decode b_Mo_law0 367 = .ok (.ifCond .ne 14, 3) := by decide +kernel
theorem d_Mo_law0_370 : decode b_Mo_law0 370 = .ok (.aload_n 0, 1) := by decide +kernel
theorem d_Mo_law0_371 : decode b_Mo_law0 371 = .ok (.iconst 0, 1) := by decide +kernel
theorem d_Mo_law0_372 : decode b_Mo_law0 372 = .ok (.sipush 1000, 3) := by decide +kernel
theorem d_Mo_law0_375 : decode b_Mo_law0 375 = .ok (.invokevirtual 240, 3) := by decide +kernel
theorem d_Mo_law0_378 : decode b_Mo_law0 378 = .ok (.goto 4, 3) := by decide +kernel
theorem d_Mo_law0_381 : decode b_Mo_law0 381 = .ok (.iconst 0, 1) := by decide +kernel
theorem d_Mo_law0_382 : decode b_Mo_law0 382 = .ok (.istore 8, 2) := by decide +kernel
theorem d_Mo_law0_384 : decode b_Mo_law0 384 = .ok (.aload_n 0, 1) := by decide +kernel
theorem d_Mo_law0_385 : decode b_Mo_law0 385 = .ok (.getfield 212, 3) := by decide +kernel
theorem d_Mo_law0_388 : decode b_Mo_law0 388 = .ok (.ifCond .eq 64, 3) := by decide +kernel
theorem d_Mo_law0_391 : decode b_Mo_law0 391 = .ok (.aload_n 0, 1) := by decide +kernel
theorem d_Mo_law0_392 : decode b_Mo_law0 392 = .ok (.getfield 172, 3) := by decide +kernel
theorem d_Mo_law0_395 : decode b_Mo_law0 395 = .ok (.ifCond .ne 57, 3) := by decide +kernel
theorem d_Mo_law0_398 : decode b_Mo_law0 398 = .ok (.aload_n 0, 1) := by decide +kernel
theorem d_Mo_law0_399 : decode b_Mo_law0 399 = .ok (.getfield 42, 3) := by decide +kernel
theorem d_Mo_law0_402 : decode b_Mo_law0 402 = .ok (.iload_n 1, 1) := by decide +kernel
theorem d_Mo_law0_403 : decode b_Mo_law0 403 = .ok (.iload_n 3, 1) := by decide +kernel
theorem d_Mo_law0_404 : decode b_Mo_law0 404 = .ok (.iastore, 1) := by decide +kernel
theorem d_Mo_law0_405 : decode b_Mo_law0 405 = .ok (.aload_n 0, 1) := by decide +kernel
theorem d_Mo_law0_406 : decode b_Mo_law0 406 = .ok (.getfield 45, 3) := by decide +kernel
theorem d_Mo_law0_409 : decode b_Mo_law0 409 = .ok (.iload_n 1, 1) := by decide +kernel
theorem d_Mo_law0_410 : decode b_Mo_law0 410 = .ok (.iload 8, 2) := by decide +kernel
theorem d_Mo_law0_412 : decode b_Mo_law0 412 = .ok (.iastore, 1) := by decide +kernel
theorem d_Mo_law0_413 : decode b_Mo_law0 413 = .ok (.aload_n 0, 1) := by decide +kernel
theorem d_Mo_law0_414 : decode b_Mo_law0 414 = .ok (.getfield 48, 3) := by decide +kernel
theorem d_Mo_law0_417 : decode b_Mo_law0 417 = .ok (.iload_n 1, 1) := by decide +kernel
theorem d_Mo_law0_418 : decode b_Mo_law0 418 = .ok (.iload_n 2, 1) := by decide +kernel
theorem d_Mo_law0_419 : decode b_Mo_law0 419 = .ok (.iastore, 1) := by decide +kernel
theorem d_Mo_law0_420 : decode b_Mo_law0 420 = .ok (.aload_n 0, 1) := by decide +kernel
theorem d_Mo_law0_421 : decode b_Mo_law0 421 = .ok (.getfield 51, 3) := by decide +kernel
theorem d_Mo_law0_424 : decode b_Mo_law0 424 = .ok (.iload_n 1, 1) := by decide +kernel
theorem d_Mo_law0_425 : decode b_Mo_law0 425 = .ok (.iload 4, 2) := by decide +kernel
theorem d_Mo_law0_427 : decode b_Mo_law0 427 = .ok (.iastore, 1) := by decide +kernel
theorem d_Mo_law0_428 : decode b_Mo_law0 428 = .ok (.aload_n 0, 1) := by decide +kernel
theorem d_Mo_law0_429 : decode b_Mo_law0 429 = .ok (.getfield 54, 3) := by decide +kernel
theorem d_Mo_law0_432 : decode b_Mo_law0 432 = .ok (.iload_n 1, 1) := by decide +kernel
theorem d_Mo_law0_433 : decode b_Mo_law0 433 = .ok (.iload 5, 2) := by decide +kernel
theorem d_Mo_law0_435 : decode b_Mo_law0 435 = .ok (.iastore, 1) := by decide +kernel
theorem d_Mo_law0_436 : decode b_Mo_law0 436 = .ok (.aload_n 0, 1) := by decide +kernel
theorem d_Mo_law0_437 : decode b_Mo_law0 437 = .ok (.getfield 57, 3) := by decide +kernel
theorem d_Mo_law0_440 : decode b_Mo_law0 440 = .ok (.iload_n 1, 1) := by decide +kernel
theorem d_Mo_law0_441 : decode b_Mo_law0 441 = .ok (.iload 6, 2) := by decide +kernel
theorem d_Mo_law0_443 : decode b_Mo_law0 443 = .ok (.iastore, 1) := by decide +kernel
theorem d_Mo_law0_444 : decode b_Mo_law0 444 = .ok (.aload_n 0, 1) := by decide +kernel
theorem d_Mo_law0_445 : decode b_Mo_law0 445 = .ok (.getfield 60, 3) := by decide +kernel
theorem d_Mo_law0_448 : decode b_Mo_law0 448 = .ok (.iload_n 1, 1) := by decide +kernel
theorem d_Mo_law0_449 : decode b_Mo_law0 449 = .ok (.iload 7, 2) := by decide +kernel
theorem d_Mo_law0_451 : decode b_Mo_law0 451 = .ok (.iastore, 1) := by decide +kernel
theorem d_Mo_law0_452 : decode b_Mo_law0 452 = .ok (.return_, 1) := by decide +kernel
theorem d_Mo_text_0 : decode b_Mo_text 0 = .ok (.aload_n 0, 1) := by decide +kernel
theorem d_Mo_text_1 : decode b_Mo_text 1 = .ok (.iconst 0, 1) := by decide +kernel
theorem d_Mo_text_2 : decode b_Mo_text 2 = .ok (.putfield 178, 3) := by decide +kernel
theorem d_Mo_text_5 : decode b_Mo_text 5 = .ok (.iconst 0, 1) := by decide +kernel
theorem d_Mo_text_6 : decode b_Mo_text 6 = .ok (.istore_n 1, 1) := by decide +kernel
theorem d_Mo_text_7 : decode b_Mo_text 7 = .ok (.aload_n 0, 1) := by decide +kernel
theorem d_Mo_text_8 : decode b_Mo_text 8 = .ok (.invokevirtual 208, 3) := by decide +kernel
theorem d_Mo_text_11 : decode b_Mo_text 11 = .ok (.ifCond .eq 14, 3) := by decide +kernel
theorem d_Mo_text_14 : decode b_Mo_text 14 = .ok (.aload_n 0, 1) := by decide +kernel
theorem d_Mo_text_15 : decode b_Mo_text 15 = .ok (.getfield 188, 3) := by decide +kernel
theorem d_Mo_text_18 : decode b_Mo_text 18 = .ok (.ifCond .eq 7, 3) := by decide +kernel
theorem d_Mo_text_21 : decode b_Mo_text 21 = .ok (.iconst 1, 1) := by decide +kernel
theorem d_Mo_text_22 : decode b_Mo_text 22 = .ok (.goto 4, 3) := by decide +kernel
theorem d_Mo_text_25 : decode b_Mo_text 25 = .ok (.iconst 0, 1) := by decide +kernel
theorem d_Mo_text_26 : decode b_Mo_text 26 = .ok (.istore_n 2, 1) := by decide +kernel
theorem d_Mo_text_27 : decode b_Mo_text 27 = .ok (.iload_n 2, 1) := by decide +kernel
theorem d_Mo_text_28 : decode b_Mo_text 28 = .ok (.ifCond .eq 85, 3) := by decide +kernel
theorem d_Mo_text_31 : decode b_Mo_text 31 = .ok (.iload_n 1, 1) := by decide +kernel
theorem d_Mo_text_32 : decode b_Mo_text 32 = .ok (.bipush 16, 2) := by decide +kernel
theorem d_Mo_text_34 : decode b_Mo_text 34 = .ok (.if_icmp .ne 14, 3) := by decide +kernel
theorem d_Mo_text_37 : decode b_Mo_text 37 = .ok (.aload_n 0, 1) := by decide +kernel
theorem d_Mo_text_38 : decode b_Mo_text 38 = .ok (.iconst 3, 1) := by decide +kernel
theorem d_Mo_text_39 : decode b_Mo_text 39 = .ok (.aload_n 0, 1) := by decide +kernel
theorem d_Mo_text_40 : decode b_Mo_text 40 = .ok (.getfield 185, 3) := by decide +kernel
theorem d_Mo_text_43 : decode b_Mo_text 43 = .ok (.invokevirtual 198, 3) := by decide +kernel
theorem d_Mo_text_46 : decode b_Mo_text 46 = .ok (.pop, 1) := by decide +kernel
theorem d_Mo_text_47 : decode b_Mo_text 47 = .ok (.return_, 1) := by decide +kernel
theorem d_Mo_text_48 : decode b_Mo_text 48 = .ok (.aload_n 0, 1) := by decide +kernel
theorem d_Mo_text_49 : decode b_Mo_text 49 = .ok (.iload_n 1, 1) := by decide +kernel
theorem d_Mo_text_50 : decode b_Mo_text 50 = .ok (.invokevirtual 222, 3) := by decide +kernel
theorem d_Mo_text_53 : decode b_Mo_text 53 = .ok (.aload_n 0, 1) := by decide +kernel
theorem d_Mo_text_54 : decode b_Mo_text 54 = .ok (.getfield 172, 3) := by decide +kernel
theorem d_Mo_text_57 : decode b_Mo_text 57 = .ok (.ifCond .ne 10, 3) := by decide +kernel
theorem d_Mo_text_60 : decode b_Mo_text 60 = .ok (.aload_n 0, 1) := by decide +kernel
theorem d_Mo_text_61 : decode b_Mo_text 61 = .ok (.invokevirtual 208, 3) := by decide +kernel
theorem d_Mo_text_64 : decode b_Mo_text 64 = .ok (.ifCond .ne 4, 3) := by decide +kernel
theorem d_Mo_text_67 : decode b_Mo_text 67 = .ok (.return_, 1) := by decide +kernel
theorem d_Mo_text_68 : decode b_Mo_text 68 = .ok (.aload_n 0, 1) := by decide +kernel
theorem d_Mo_text_69 : decode b_Mo_text 69 = .ok (.getfield 188, 3) := by decide +kernel
theorem d_Mo_text_72 : decode b_Mo_text 72 = .ok (.iconst 4, 1) := by decide +kernel
theorem d_Mo_text_73 : decode b_Mo_text 73 = .ok (.if_icmp .eq 14, 3) := by decide +kernel
theorem d_Mo_text_76 : decode b_Mo_text 76 = .ok (.aload_n 0, 1) := by decide +kernel
theorem d_Mo_text_77 : decode b_Mo_text 77 = .ok (.iconst 2, 1) := by decide +kernel
theorem d_Mo_text_78 : decode b_Mo_text 78 = .ok (.aload_n 0, 1) := by decide +kernel
theorem d_Mo_text_79 : decode b_Mo_text 79 = .ok (.getfield 185, 3) := by decide +kernel
theorem d_Mo_text_82 : decode b_Mo_text 82 = .ok (.invokevirtual 198, 3) := by decide +kernel
theorem d_Mo_text_85 : decode b_Mo_text 85 = .ok (.pop, 1) := by decide +kernel
theorem d_Mo_text_86 : decode b_Mo_text 86 = .ok (.return_, 1) := by decide +kernel
theorem d_Mo_text_87 : decode b_Mo_text 87 = .ok (.iinc 1 1, 3) := by decide +kernel
theorem d_Mo_text_90 : decode b_Mo_text 90 = .ok (.aload_n 0, 1) := by decide +kernel
theorem d_Mo_text_91 : decode b_Mo_text 91 = .ok (.invokevirtual 208, 3) := by decide +kernel
theorem d_Mo_text_94 : decode b_Mo_text 94 = .ok (.ifCond .eq 14, 3) := by decide +kernel
theorem d_Mo_text_97 : decode b_Mo_text 97 = .ok (.aload_n 0, 1) := by decide +kernel
theorem d_Mo_text_98 : decode b_Mo_text 98 = .ok (.getfield 188, 3) := by decide +kernel
theorem d_Mo_text_101 : decode b_Mo_text 101 = .ok (.ifCond .eq 7, 3) := by decide +kernel
theorem d_Mo_text_104 : decode b_Mo_text 104 = .ok (.iconst 1, 1) := by decide +kernel
theorem d_Mo_text_105 : decode b_Mo_text 105 = .ok (.goto 4, 3) := by decide +kernel
theorem d_Mo_text_108 : decode b_Mo_text 108 = .ok (.iconst 0, 1) := by decide +kernel
theorem d_Mo_text_109 : decode b_Mo_text 109 = .ok (.istore_n 2, 1) := by decide +kernel
theorem d_Mo_text_110 : decode b_Mo_text 110 = .ok (.goto (-83), 3) := by decide +kernel
theorem d_Mo_text_113 : decode b_Mo_text 113 = .ok (.aload_n 0, 1) := by decide +kernel
theorem d_Mo_text_114 : decode b_Mo_text 114 = .ok (.getfield 212, 3) := by decide +kernel
theorem d_Mo_text_117 : decode b_Mo_text 117 = .ok (.ifCond .eq 15, 3) := by decide +kernel
theorem d_Mo_text_120 : decode b_Mo_text 120 = .ok (.aload_n 0, 1) := by decide +kernel
theorem d_Mo_text_121 : decode b_Mo_text 121 = .ok (.getfield 172, 3) := by decide +kernel
theorem d_Mo_text_124 : decode b_Mo_text 124 = .ok (.ifCond .ne 8, 3) := by decide +kernel
theorem d_Mo_text_127 : decode b_Mo_text 127 = .ok (.aload_n 0, 1) := by decide +kernel
theorem d_Mo_text_128 : decode b_Mo_text 128 = .ok (.iload_n 1, 1) := by decide +kernel
theorem d_Mo_text_129 : decode b_Mo_text 129 = .ok (.putfield 219, 3) := by decide +kernel
theorem d_Mo_text_132 : decode b_Mo_text 132 = .ok (.return_, 1) := by decide +kernel
theorem d_Mo_read_0 : decode b_Mo_read 0 = .ok (.aload_n 0, 1) := by decide +kernel
theorem d_Mo_read_1 : decode b_Mo_read 1 = .ok (.iconst 0, 1) := by decide +kernel
theorem d_Mo_read_2 : decode b_Mo_read 2 = .ok (.putfield 212, 3) := by decide +kernel
theorem d_Mo_read_5 : decode b_Mo_read 5 = .ok (.aload_n 0, 1) := by decide +kernel
theorem d_Mo_read_6 : decode b_Mo_read 6 = .ok (.iconst 0, 1) := by decide +kernel
theorem d_Mo_read_7 : decode b_Mo_read 7 = .ok (.putfield 172, 3) := by decide +kernel
theorem d_Mo_read_10 : decode b_Mo_read 10 = .ok (.aload_n 0, 1) := by decide +kernel
theorem d_Mo_read_11 : decode b_Mo_read 11 = .ok (.invokevirtual 216, 3) := by decide +kernel
theorem d_Mo_read_14 : decode b_Mo_read 14 = .ok (.aload_n 0, 1) := by decide +kernel
theorem d_Mo_read_15 : decode b_Mo_read 15 = .ok (.getfield 172, 3) := by decide +kernel
theorem d_Mo_read_18 : decode b_Mo_read 18 = .ok (.ifCond .ne 12, 3) := by decide +kernel
theorem d_Mo_read_21 : decode b_Mo_read 21 = .ok (.aload_n 0, 1) := by decide +kernel
theorem d_Mo_read_22 : decode b_Mo_read 22 = .ok (.iconst 1, 1) := by decide +kernel
theorem d_Mo_read_23 : decode b_Mo_read 23 = .ok (.putfield 212, 3) := by decide +kernel
theorem d_Mo_read_26 : decode b_Mo_read 26 = .ok (.aload_n 0, 1) := by decide +kernel
theorem d_Mo_read_27 : decode b_Mo_read 27 = .ok (.invokevirtual 216, 3) := by decide +kernel
theorem d_Mo_read_30 : decode b_Mo_read 30 = .ok (.aload_n 0, 1) := by decide +kernel
theorem d_Mo_read_31 : decode b_Mo_read 31 = .ok (.iconst 0, 1) := by decide +kernel
theorem d_Mo_read_32 : decode b_Mo_read 32 = .ok (.putfield 169, 3) := by decide +kernel
theorem d_Mo_read_35 : decode b_Mo_read 35 = .ok (.aload_n 0, 1) := by decide +kernel
theorem d_Mo_read_36 : decode b_Mo_read 36 = .ok (.getfield 172, 3) := by decide +kernel
theorem d_Mo_read_39 : decode b_Mo_read 39 = .ok (.ifCond .eq 19, 3) := by decide +kernel
theorem d_Mo_read_42 : decode b_Mo_read 42 = .ok (.aload_n 0, 1) := by decide +kernel
theorem d_Mo_read_43 : decode b_Mo_read 43 = .ok (.aload_n 0, 1) := by decide +kernel
theorem d_Mo_read_44 : decode b_Mo_read 44 = .ok (.getfield 175, 3) := by decide +kernel
theorem d_Mo_read_47 : decode b_Mo_read 47 = .ok (.putfield 38, 3) := by decide +kernel
theorem d_Mo_read_50 : decode b_Mo_read 50 = .ok (.bipush (-10), 2) := by decide +kernel
theorem d_Mo_read_52 : decode b_Mo_read 52 = .ok (.aload_n 0, 1) := by decide +kernel
theorem d_Mo_read_53 : decode b_Mo_read 53 = .ok (.getfield 172, 3) := by decide +kernel
theorem d_Mo_read_56 : decode b_Mo_read 56 = .ok (.isub, 1) := by decide +kernel
theorem d_Mo_read_57 : decode b_Mo_read 57 = .ok (.ireturn, 1) := by decide +kernel
theorem d_Mo_read_58 : decode b_Mo_read 58 = .ok (.aload_n 0, 1) := by decide +kernel
theorem d_Mo_read_59 : decode b_Mo_read 59 = .ok (.bipush (-2), 2) := by decide +kernel
theorem d_Mo_read_61 : decode b_Mo_read 61 = .ok (.putfield 38, 3) := by decide +kernel
theorem d_Mo_read_64 : decode b_Mo_read 64 = .ok (.aload_n 0, 1) := by decide +kernel
theorem d_Mo_read_65 : decode b_Mo_read 65 = .ok (.getfield 219, 3) := by decide +kernel
theorem d_Mo_read_68 : decode b_Mo_read 68 = .ok (.ireturn, 1) := by decide +kernel
theorem d_Mo_place_0 : decode b_Mo_place 0 = .ok (.aload_n 0, 1) := by decide +kernel
theorem d_Mo_place_1 : decode b_Mo_place 1 = .ok (.getfield 38, 3) := by decide +kernel
theorem d_Mo_place_4 : decode b_Mo_place 4 = .ok (.ireturn, 1) := by decide +kernel
theorem d_Mo_shift_0 : decode b_Mo_shift 0 = .ok (.iload_n 1, 1) := by decide +kernel
theorem d_Mo_shift_1 : decode b_Mo_shift 1 = .ok (.ifCond .lt 44, 3) := by decide +kernel
theorem d_Mo_shift_4 : decode b_Mo_shift 4 = .ok (.iload_n 1, 1) := by decide +kernel
theorem d_Mo_shift_5 : decode b_Mo_shift 5 = .ok (.bipush 7, 2) := by decide +kernel
theorem d_Mo_shift_7 : decode b_Mo_shift 7 = .ok (.if_icmp .gt 38, 3) := by decide +kernel
theorem d_Mo_shift_10 : decode b_Mo_shift 10 = .ok (.iload_n 2, 1) := by decide +kernel
theorem d_Mo_shift_11 : decode b_Mo_shift 11 = .ok (.ifCond .lt 34, 3) := by decide +kernel
theorem d_Mo_shift_14 : decode b_Mo_shift 14 = .ok (.iload_n 2, 1) := by decide +kernel
theorem d_Mo_shift_15 : decode b_Mo_shift 15 = .ok (.sipush 1439, 3) := by decide +kernel
theorem d_Mo_shift_18 : decode b_Mo_shift 18 = .ok (.if_icmp .gt 27, 3) := by decide +kernel
theorem d_Mo_shift_21 : decode b_Mo_shift 21 = .ok (.iload_n 3, 1) := by decide +kernel
theorem d_Mo_shift_22 : decode b_Mo_shift 22 = .ok (.iconst 1, 1) := by decide +kernel
theorem d_Mo_shift_23 : decode b_Mo_shift 23 = .ok (.if_icmp .lt 22, 3) := by decide +kernel
theorem d_Mo_shift_26 : decode b_Mo_shift 26 = .ok (.iload_n 3, 1) := by decide +kernel
theorem d_Mo_shift_27 : decode b_Mo_shift 27 = .ok (.sipush 1440, 3) := by decide +kernel
theorem d_Mo_shift_30 : decode b_Mo_shift 30 = .ok (.if_icmp .gt 15, 3) := by decide +kernel
theorem d_Mo_shift_33 : decode b_Mo_shift 33 = .ok (.iload 4, 2) := by decide +kernel
theorem d_Mo_shift_35 : decode b_Mo_shift 35 = .ok (.ifCond .lt 10, 3) := by decide +kernel
theorem d_Mo_shift_38 : decode b_Mo_shift 38 = .ok (.iload 4, 2) := by decide +kernel
theorem d_Mo_shift_40 : decode b_Mo_shift 40 = .ok (.bipush 9, 2) := by decide +kernel
theorem d_Mo_shift_42 : decode b_Mo_shift 42 = .ok (.if_icmp .le 5, 3) := by decide +kernel
theorem d_Mo_shift_45 : decode b_Mo_shift 45 = .ok (.iconst (-1), 1) := by decide +kernel
theorem d_Mo_shift_46 : decode b_Mo_shift 46 = .ok (.ireturn, 1) := by decide +kernel
theorem d_Mo_shift_47 : decode b_Mo_shift 47 = .ok (.aload_n 0, 1) := by decide +kernel
theorem d_Mo_shift_48 : decode b_Mo_shift 48 = .ok (.getfield 16, 3) := by decide +kernel
theorem d_Mo_shift_51 : decode b_Mo_shift 51 = .ok (.iload_n 1, 1) := by decide +kernel
theorem d_Mo_shift_52 : decode b_Mo_shift 52 = .ok (.iload_n 2, 1) := by decide +kernel
theorem d_Mo_shift_53 : decode b_Mo_shift 53 = .ok (.iastore, 1) := by decide +kernel
theorem d_Mo_shift_54 : decode b_Mo_shift 54 = .ok (.aload_n 0, 1) := by decide +kernel
theorem d_Mo_shift_55 : decode b_Mo_shift 55 = .ok (.getfield 19, 3) := by decide +kernel
theorem d_Mo_shift_58 : decode b_Mo_shift 58 = .ok (.iload_n 1, 1) := by decide +kernel
theorem d_Mo_shift_59 : decode b_Mo_shift 59 = .ok (.iload_n 3, 1) := by decide +kernel
theorem d_Mo_shift_60 : decode b_Mo_shift 60 = .ok (.iastore, 1) := by decide +kernel
theorem d_Mo_shift_61 : decode b_Mo_shift 61 = .ok (.aload_n 0, 1) := by decide +kernel
theorem d_Mo_shift_62 : decode b_Mo_shift 62 = .ok (.getfield 22, 3) := by decide +kernel
theorem d_Mo_shift_65 : decode b_Mo_shift 65 = .ok (.iload_n 1, 1) := by decide +kernel
theorem d_Mo_shift_66 : decode b_Mo_shift 66 = .ok (.iload 4, 2) := by decide +kernel
theorem d_Mo_shift_68 : decode b_Mo_shift 68 = .ok (.iastore, 1) := by decide +kernel
theorem d_Mo_shift_69 : decode b_Mo_shift 69 = .ok (.iconst 1, 1) := by decide +kernel
theorem d_Mo_shift_70 : decode b_Mo_shift 70 = .ok (.ireturn, 1) := by decide +kernel
theorem d_Mo_person_0 : decode b_Mo_person 0 = .ok (.aload_n 0, 1) := by decide +kernel
theorem d_Mo_person_1 : decode b_Mo_person 1 = .ok (.iload_n 1, 1) := by decide +kernel
theorem d_Mo_person_2 : decode b_Mo_person 2 = .ok (.invokevirtual 165, 3) := by decide +kernel
theorem d_Mo_person_5 : decode b_Mo_person 5 = .ok (.ifCond .eq 14, 3) := by decide +kernel
theorem d_Mo_person_8 : decode b_Mo_person 8 = .ok (.iload_n 2, 1) := by decide +kernel
theorem d_Mo_person_9 : decode b_Mo_person 9 = .ok (.ifCond .lt 10, 3) := by decide +kernel
theorem d_Mo_person_12 : decode b_Mo_person 12 = .ok (.iload_n 2, 1) := by decide +kernel
theorem d_Mo_person_13 : decode b_Mo_person 13 = .ok (.sipush 1023, 3) := by decide +kernel
theorem d_Mo_person_16 : decode b_Mo_person 16 = .ok (.if_icmp .le 5, 3) := by decide +kernel
theorem d_Mo_person_19 : decode b_Mo_person 19 = .ok (.iconst (-1), 1) := by decide +kernel
theorem d_Mo_person_20 : decode b_Mo_person 20 = .ok (.ireturn, 1) := by decide +kernel
theorem d_Mo_person_21 : decode b_Mo_person 21 = .ok (.aload_n 0, 1) := by decide +kernel
theorem d_Mo_person_22 : decode b_Mo_person 22 = .ok (.getfield 25, 3) := by decide +kernel
theorem d_Mo_person_25 : decode b_Mo_person 25 = .ok (.iload_n 1, 1) := by decide +kernel
theorem d_Mo_person_26 : decode b_Mo_person 26 = .ok (.iload_n 2, 1) := by decide +kernel
theorem d_Mo_person_27 : decode b_Mo_person 27 = .ok (.iastore, 1) := by decide +kernel
theorem d_Mo_person_28 : decode b_Mo_person 28 = .ok (.iconst 1, 1) := by decide +kernel
theorem d_Mo_person_29 : decode b_Mo_person 29 = .ok (.ireturn, 1) := by decide +kernel
theorem d_Mo_past_0 : decode b_Mo_past 0 = .ok (.aload_n 0, 1) := by decide +kernel
theorem d_Mo_past_1 : decode b_Mo_past 1 = .ok (.iload_n 1, 1) := by decide +kernel
theorem d_Mo_past_2 : decode b_Mo_past 2 = .ok (.invokevirtual 165, 3) := by decide +kernel
theorem d_Mo_past_5 : decode b_Mo_past 5 = .ok (.ifCond .eq 21, 3) := by decide +kernel
theorem d_Mo_past_8 : decode b_Mo_past 8 = .ok (.iload_n 2, 1) := by decide +kernel
theorem d_Mo_past_9 : decode b_Mo_past 9 = .ok (.iconst 1, 1) := by decide +kernel
theorem d_Mo_past_10 : decode b_Mo_past 10 = .ok (.if_icmp .lt 16, 3) := by decide +kernel
theorem d_Mo_past_13 : decode b_Mo_past 13 = .ok (.iload_n 2, 1) := by decide +kernel
theorem d_Mo_past_14 : decode b_Mo_past 14 = .ok (.bipush 7, 2) := by decide +kernel
theorem d_Mo_past_16 : decode b_Mo_past 16 = .ok (.if_icmp .gt 10, 3) := by decide +kernel
theorem d_Mo_past_19 : decode b_Mo_past 19 = .ok (.iload_n 3, 1) := by decide +kernel
theorem d_Mo_past_20 : decode b_Mo_past 20 = .ok (.invokestatic 347, 3) := by decide +kernel
theorem d_Mo_past_23 : decode b_Mo_past 23 = .ok (.ifCond .ne 6, 3) := by decide +kernel
theorem d_Mo_past_26 : decode b_Mo_past 26 = .ok (.bipush (-9), 2) := by decide +kernel
theorem d_Mo_past_28 : decode b_Mo_past 28 = .ok (.ireturn, 1) := by decide +kernel
theorem d_Mo_past_29 : decode b_Mo_past 29 = .ok (.aload_n 0, 1) := by decide +kernel
theorem d_Mo_past_30 : decode b_Mo_past 30 = .ok (.getfield 13, 3) := by decide +kernel
theorem d_Mo_past_33 : decode b_Mo_past 33 = .ok (.bipush 7, 2) := by decide +kernel
theorem d_Mo_past_35 : decode b_Mo_past 35 = .ok (.iload_n 1, 1) := by decide +kernel
theorem d_Mo_past_36 : decode b_Mo_past 36 = .ok (.imul, 1) := by decide +kernel
theorem d_Mo_past_37 : decode b_Mo_past 37 = .ok (.iload_n 2, 1) := by decide +kernel
theorem d_Mo_past_38 : decode b_Mo_past 38 = .ok (.iadd, 1) := by decide +kernel
theorem d_Mo_past_39 : decode b_Mo_past 39 = .ok (.iconst 1, 1) := by decide +kernel
theorem d_Mo_past_40 : decode b_Mo_past 40 = .ok (.isub, 1) := by decide +kernel
theorem d_Mo_past_41 : decode b_Mo_past 41 = .ok (.iaload, 1) := by decide +kernel
theorem d_Mo_past_42 : decode b_Mo_past 42 = .ok (.istore 4, 2) := by decide +kernel
