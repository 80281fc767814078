theorem d_Mo_alike_49 : decode b_Mo_alike 49 = .ok (.if_icmp .ne 7, 3) := by decide +kernel
theorem d_Mo_alike_52 : decode b_Mo_alike 52 = .ok (.iconst 1, 1) := by decide +kernel
theorem d_Mo_alike_53 : decode b_Mo_alike 53 = .ok (.goto 4, 3) := by decide +kernel
theorem d_Mo_alike_56 : decode b_Mo_alike 56 = .ok (.iconst 0, 1) := by decide +kernel
theorem d_Mo_alike_57 : decode b_Mo_alike 57 = .ok (.istore_n 3, 1) := by decide +kernel
theorem d_Mo_alike_58 : decode b_Mo_alike 58 = .ok (.iconst 0, 1) := by decide +kernel
theorem d_Mo_alike_59 : decode b_Mo_alike 59 = .ok (.istore 4, 2) := by decide +kernel
theorem d_Mo_alike_61 : decode b_Mo_alike 61 = .ok (.iload 4, 2) := by decide +kernel
theorem d_Mo_alike_63 : decode b_Mo_alike 63 = .ok (.aload_n 0, 1) := by decide +kernel
theorem d_Mo_alike_64 : decode b_Mo_alike 64 = .ok (.getfield 79, 3) := by decide +kernel
theorem d_Mo_alike_67 : decode b_Mo_alike 67 = .ok (.iload_n 1, 1) := by decide +kernel
theorem d_Mo_alike_68 : decode b_Mo_alike 68 = .ok (.iaload, 1) := by decide +kernel
theorem d_Mo_alike_69 : decode b_Mo_alike 69 = .ok (.if_icmp .ge 115, 3) := by decide +kernel
theorem d_Mo_alike_72 : decode b_Mo_alike 72 = .ok (.iload_n 3, 1) := by decide +kernel
theorem d_Mo_alike_73 : decode b_Mo_alike 73 = .ok (.ifCond .eq 111, 3) := by decide +kernel
theorem d_Mo_alike_76 : decode b_Mo_alike 76 = .ok (.aload_n 0, 1) := by decide +kernel
theorem d_Mo_alike_77 : decode b_Mo_alike 77 = .ok (.getfield 86, 3) := by decide +kernel
theorem d_Mo_alike_80 : decode b_Mo_alike 80 = .ok (.sipush 1025, 3) := by decide +kernel
theorem d_Mo_alike_83 : decode b_Mo_alike 83 = .ok (.iload_n 1, 1) := by decide +kernel
theorem d_Mo_alike_84 : decode b_Mo_alike 84 = .ok (.imul, 1) := by decide +kernel
theorem d_Mo_alike_85 : decode b_Mo_alike 85 = .ok (.iload 4, 2) := by decide +kernel
theorem d_Mo_alike_87 : decode b_Mo_alike 87 = .ok (.iadd, 1) := by decide +kernel
theorem d_Mo_alike_88 : decode b_Mo_alike 88 = .ok (.baload, 1) := by decide +kernel
theorem d_Mo_alike_89 : decode b_Mo_alike 89 = .ok (.aload_n 0, 1) := by decide +kernel
theorem d_Mo_alike_90 : decode b_Mo_alike 90 = .ok (.getfield 86, 3) := by decide +kernel
theorem d_Mo_alike_93 : decode b_Mo_alike 93 = .ok (.sipush 1025, 3) := by decide +kernel
theorem d_Mo_alike_96 : decode b_Mo_alike 96 = .ok (.iload_n 2, 1) := by decide +kernel
theorem d_Mo_alike_97 : decode b_Mo_alike 97 = .ok (.imul, 1) := by decide +kernel
theorem d_Mo_alike_98 : decode b_Mo_alike 98 = .ok (.iload 4, 2) := by decide +kernel
theorem d_Mo_alike_100 : decode b_Mo_alike 100 = .ok (.iadd, 1) := by decide +kernel
theorem d_Mo_alike_101 : decode b_Mo_alike 101 = .ok (.baload, 1) := by decide +kernel
theorem d_Mo_alike_102 : decode b_Mo_alike 102 = .ok (.if_icmp .ne 7, 3) := by decide +kernel
theorem d_Mo_alike_105 : decode b_Mo_alike 105 = .ok (.iconst 1, 1) := by decide +kernel
theorem d_Mo_alike_106 : decode b_Mo_alike 106 = .ok (.goto 4, 3) := by decide +kernel
theorem d_Mo_alike_109 : decode b_Mo_alike 109 = .ok (.iconst 0, 1) := by decide +kernel
theorem d_Mo_alike_110 : decode b_Mo_alike 110 = .ok (.istore_n 3, 1) := by decide +kernel
theorem d_Mo_alike_111 : decode b_Mo_alike 111 = .ok (.iconst 0, 1) := by decide +kernel
theorem d_Mo_alike_112 : decode b_Mo_alike 112 = .ok (.istore 5, 2) := by decide +kernel
theorem d_Mo_alike_114 : decode b_Mo_alike 114 = .ok (.iload 5, 2) := by decide +kernel
theorem d_Mo_alike_116 : decode b_Mo_alike 116 = .ok (.bipush 9, 2) := by decide +kernel
theorem d_Mo_alike_118 : decode b_Mo_alike 118 = .ok (.if_icmp .ge 60, 3) := by decide +kernel
theorem d_Mo_alike_121 : decode b_Mo_alike 121 = .ok (.iload_n 3, 1) := by decide +kernel
theorem d_Mo_alike_122 : decode b_Mo_alike 122 = .ok (.ifCond .eq 48, 3) := by decide +kernel
theorem d_Mo_alike_125 : decode b_Mo_alike 125 = .ok (.aload_n 0, 1) := by decide +kernel
theorem d_Mo_alike_126 : decode b_Mo_alike 126 = .ok (.getfield 83, 3) := by decide +kernel
theorem d_Mo_alike_129 : decode b_Mo_alike 129 = .ok (.bipush 9, 2) := by decide +kernel
theorem d_Mo_alike_131 : decode b_Mo_alike 131 = .ok (.sipush 1025, 3) := by decide +kernel
theorem d_Mo_alike_134 : decode b_Mo_alike 134 = .ok (.iload_n 1, 1) := by decide +kernel
theorem d_Mo_alike_135 : decode b_Mo_alike 135 = .ok (.imul, 1) := by decide +kernel
theorem d_Mo_alike_136 : decode b_Mo_alike 136 = .ok (.iload 4, 2) := by decide +kernel
theorem d_Mo_alike_138 : decode b_Mo_alike 138 = .ok (.iadd, 1) := by decide +kernel
theorem d_Mo_alike_139 : decode b_Mo_alike 139 = .ok (.imul, 1) := by decide +kernel
theorem d_Mo_alike_140 : decode b_Mo_alike 140 = .ok (.iload 5, 2) := by decide +kernel
theorem d_Mo_alike_142 : decode b_Mo_alike 142 = .ok (.iadd, 1) := by decide +kernel
theorem d_Mo_alike_143 : decode b_Mo_alike 143 = .ok (.iaload, 1) := by decide +kernel
theorem d_Mo_alike_144 : decode b_Mo_alike 144 = .ok (.aload_n 0, 1) := by decide +kernel
theorem d_Mo_alike_145 : decode b_Mo_alike 145 = .ok (.getfield 83, 3) := by decide +kernel
theorem d_Mo_alike_148 : decode b_Mo_alike 148 = .ok (.bipush 9, 2) := by decide +kernel
theorem d_Mo_alike_150 : decode b_Mo_alike 150 = .ok (.sipush 1025, 3) := by decide +kernel
theorem d_Mo_alike_153 : decode b_Mo_alike 153 = .ok (.iload_n 2, 1) := by decide +kernel
theorem d_Mo_alike_154 : decode b_Mo_alike 154 = .ok (.imul, 1) := by decide +kernel
theorem d_Mo_alike_155 : decode b_Mo_alike 155 = .ok (.iload 4, 2) := by decide +kernel
theorem d_Mo_alike_157 : decode b_Mo_alike 157 = .ok (.iadd, 1) := by decide +kernel
theorem d_Mo_alike_158 : decode b_Mo_alike 158 = .ok (.imul, 1) := by decide +kernel
theorem d_Mo_alike_159 : decode b_Mo_alike 159 = .ok (.iload 5, 2) := by decide +kernel
theorem d_Mo_alike_161 : decode b_Mo_alike 161 = .ok (.iadd, 1) := by decide +kernel
theorem d_Mo_alike_162 : decode b_Mo_alike 162 = .ok (.iaload, 1) := by decide +kernel
theorem d_Mo_alike_163 : decode b_Mo_alike 163 = .ok (.if_icmp .ne 7, 3) := by decide +kernel
theorem d_Mo_alike_166 : decode b_Mo_alike 166 = .ok (.iconst 1, 1) := by decide +kernel
theorem d_Mo_alike_167 : decode b_Mo_alike 167 = .ok (.goto 4, 3) := by decide +kernel
theorem d_Mo_alike_170 : decode b_Mo_alike 170 = .ok (.iconst 0, 1) := by decide +kernel
theorem d_Mo_alike_171 : decode b_Mo_alike 171 = .ok (.istore_n 3, 1) := by decide +kernel
theorem d_Mo_alike_172 : decode b_Mo_alike 172 = .ok (.iinc 5 1, 3) := by decide +kernel
theorem d_Mo_alike_175 : decode b_Mo_alike 175 = .ok (.goto (-61), 3) := by decide +kernel
theorem d_Mo_alike_178 : decode b_Mo_alike 178 = .ok (.iinc 4 1, 3) := by decide +kernel
theorem d_Mo_alike_181 : decode b_Mo_alike 181 = .ok (.goto (-120), 3) := by decide +kernel
theorem d_Mo_alike_184 : decode b_Mo_alike 184 = .ok (.iload_n 3, 1) := by decide +kernel
theorem d_Mo_alike_185 : decode b_Mo_alike 185 = .ok (.ifCond .eq 7, 3) := by decide +kernel
theorem d_Mo_alike_188 : decode b_Mo_alike 188 = .ok (.iconst 1, 1) := by decide +kernel
theorem d_Mo_alike_189 : decode b_Mo_alike 189 = .ok (.goto 4, 3) := by decide +kernel
theorem d_Mo_alike_192 : decode b_Mo_alike 192 = .ok (.iconst 0, 1) := by decide +kernel
theorem d_Mo_alike_193 : decode b_Mo_alike 193 = .ok (.ireturn, 1) := by decide +kernel
theorem d_Mo_words_0 : decode b_Mo_words 0 = .ok (.aload_n 0, 1) := by decide +kernel
theorem d_Mo_words_1 : decode b_Mo_words 1 = .ok (.iload_n 1, 1) := by decide +kernel
theorem d_Mo_words_2 : decode b_Mo_words 2 = .ok (.invokevirtual 399, 3) := by decide +kernel
theorem d_Mo_words_5 : decode b_Mo_words 5 = .ok (.ifCond .eq 21, 3) := by decide +kernel
theorem d_Mo_words_8 : decode b_Mo_words 8 = .ok (.aload_n 0, 1) := by decide +kernel
theorem d_Mo_words_9 : decode b_Mo_words 9 = .ok (.iload_n 1, 1) := by decide +kernel
theorem d_Mo_words_10 : decode b_Mo_words 10 = .ok (.invokevirtual 402, 3) := by decide +kernel
theorem d_Mo_words_13 : decode b_Mo_words 13 = .ok (.ifCond .eq 13, 3) := by decide +kernel
theorem d_Mo_words_16 : decode b_Mo_words 16 = .ok (.iload_n 2, 1) := by decide +kernel
theorem d_Mo_words_17 : decode b_Mo_words 17 = .ok (.ifCond .lt 9, 3) := by decide +kernel
theorem d_Mo_words_20 : decode b_Mo_words 20 = .ok (.iload_n 2, 1) := by decide +kernel
theorem d_Mo_words_21 : decode b_Mo_words 21 = .ok (.bipush 40, 2) := by decide +kernel
theorem d_Mo_words_23 : decode b_Mo_words 23 = .ok (.if_icmp .le 7, 3) := by decide +kernel
theorem d_Mo_words_26 : decode b_Mo_words 26 = .ok (.ldc2_w 366, 3) := by decide +kernel
theorem d_Mo_words_29 : decode b_Mo_words 29 = .ok (.lreturn, 1) := by decide +kernel
theorem d_Mo_words_30 : decode b_Mo_words 30 = .ok (.iconst 0, 1) := by decide +kernel
theorem d_Mo_words_31 : decode b_Mo_words 31 = .ok (.istore_n 3, 1) := by decide +kernel
theorem d_Mo_words_32 : decode b_Mo_words 32 = .ok (.iload_n 3, 1) := by decide +kernel
theorem d_Mo_words_33 : decode b_Mo_words 33 = .ok (.aload_n 0, 1) := by decide +kernel
theorem d_Mo_words_34 : decode b_Mo_words 34 = .ok (.getfield 79, 3) := by decide +kernel
theorem d_Mo_words_37 : decode b_Mo_words 37 = .ok (.iload_n 1, 1) := by decide +kernel
theorem d_Mo_words_38 : decode b_Mo_words 38 = .ok (.iaload, 1) := by decide +kernel
theorem d_Mo_words_39 : decode b_Mo_words 39 = .ok (.if_icmp .ge 24, 3) := by decide +kernel
theorem d_Mo_words_42 : decode b_Mo_words 42 = .ok (.aload_n 0, 1) := by decide +kernel
theorem d_Mo_words_43 : decode b_Mo_words 43 = .ok (.getfield 150, 3) := by decide +kernel
theorem d_Mo_words_46 : decode b_Mo_words 46 = .ok (.iload_n 3, 1) := by decide +kernel
theorem d_Mo_words_47 : decode b_Mo_words 47 = .ok (.iload_n 3, 1) := by decide +kernel
theorem d_Mo_words_48 : decode b_Mo_words 48 = .ok (.ifCond .ne 7, 3) := by decide +kernel
theorem d_Mo_words_51 : decode b_Mo_words 51 = .ok (.lconst 1, 1) := by decide +kernel
theorem d_Mo_words_52 : decode b_Mo_words 52 = .ok (.goto 4, 3) := by decide +kernel
theorem d_Mo_words_55 : decode b_Mo_words 55 = .ok (.lconst 0, 1) := by decide +kernel
theorem d_Mo_words_56 : decode b_Mo_words 56 = .ok (.lastore, 1) := by decide +kernel
theorem d_Mo_words_57 : decode b_Mo_words 57 = .ok (.iinc 3 1, 3) := by decide +kernel
theorem d_Mo_words_60 : decode b_Mo_words 60 = .ok (.goto (-28), 3) := by decide +kernel
theorem d_Mo_words_63 : decode b_Mo_words 63 = .ok (.iconst 0, 1) := by decide +kernel
theorem d_Mo_words_64 : decode b_Mo_words 64 = .ok (.istore_n 3, 1) := by decide +kernel
theorem d_Mo_words_65 : decode b_Mo_words 65 = .ok (.iload_n 3, 1) := by decide +kernel
theorem d_Mo_words_66 : decode b_Mo_words 66 = .ok (.iload_n 2, 1) := by decide +kernel
theorem d_Mo_words_67 : decode b_Mo_words 67 = .ok (.if_icmp .ge 141, 3) := by decide +kernel
theorem d_Mo_words_70 : decode b_Mo_words 70 = .ok (.iconst 0, 1) := by decide +kernel
theorem d_Mo_words_71 : decode b_Mo_words 71 = .ok (.istore 4, 2) := by decide +kernel
theorem d_Mo_words_73 : decode b_Mo_words 73 = .ok (.iload 4, 2) := by decide +kernel
theorem d_Mo_words_75 : decode b_Mo_words 75 = .ok (.aload_n 0, 1) := by decide +kernel
theorem d_Mo_words_76 : decode b_Mo_words 76 = .ok (.getfield 79, 3) := by decide +kernel
theorem d_Mo_words_79 : decode b_Mo_words 79 = .ok (.iload_n 1, 1) := by decide +kernel
theorem d_Mo_words_80 : decode b_Mo_words 80 = .ok (.iaload, 1) := by decide +kernel
theorem d_Mo_words_81 : decode b_Mo_words 81 = .ok (.if_icmp .ge 17, 3) := by decide +kernel
theorem d_Mo_words_84 : decode b_Mo_words 84 = .ok (.aload_n 0, 1) := by decide +kernel
theorem d_Mo_words_85 : decode b_Mo_words 85 = .ok (.getfield 153, 3) := by decide +kernel
theorem d_Mo_words_88 : decode b_Mo_words 88 = .ok (.iload 4, 2) := by decide +kernel
theorem d_Mo_words_90 : decode b_Mo_words 90 = .ok (.lconst 0, 1) := by decide +kernel
theorem d_Mo_words_91 : decode b_Mo_words 91 = .ok (.lastore, 1) := by decide +kernel
theorem d_Mo_words_92 : decode b_Mo_words 92 = .ok (.iinc 4 1, 3) := by decide +kernel
theorem d_Mo_words_95 : decode b_Mo_words 95 = .ok (.goto (-22), 3) := by decide +kernel
theorem d_Mo_words_98 : decode b_Mo_words 98 = .ok (.iconst 0, 1) := by decide +kernel
theorem d_Mo_words_99 : decode b_Mo_words 99 = .ok (.istore 4, 2) := by decide +kernel
theorem d_Mo_words_101 : decode b_Mo_words 101 = .ok (.iload 4, 2) := by decide +kernel
theorem d_Mo_words_103 : decode b_Mo_words 103 = .ok (.aload_n 0, 1) := by decide +kernel
theorem d_Mo_words_104 : decode b_Mo_words 104 = .ok (.getfield 79, 3) := by decide +kernel
theorem d_Mo_words_107 : decode b_Mo_words 107 = .ok (.iload_n 1, 1) := by decide +kernel
theorem d_Mo_words_108 : decode b_Mo_words 108 = .ok (.iaload, 1) := by decide +kernel
theorem d_Mo_words_109 : decode b_Mo_words 109 = .ok (.if_icmp .ge 59, 3) := by decide +kernel
theorem d_Mo_words_112 : decode b_Mo_words 112 = .ok (.iconst 0, 1) := by decide +kernel
theorem d_Mo_words_113 : decode b_Mo_words 113 = .ok (.istore 5, 2) := by decide +kernel
theorem d_Mo_words_115 : decode b_Mo_words 115 = .ok (.iload 5, 2) := by decide +kernel
theorem d_Mo_words_117 : decode b_Mo_words 117 = .ok (.bipush 9, 2) := by decide +kernel
theorem d_Mo_words_119 : decode b_Mo_words 119 = .ok (.if_icmp .ge 43, 3) := by decide +kernel
theorem d_Mo_words_122 : decode b_Mo_words 122 = .ok (.aload_n 0, 1) := by decide +kernel
theorem d_Mo_words_123 : decode b_Mo_words 123 = .ok (.getfield 153, 3) := by decide +kernel
theorem d_Mo_words_126 : decode b_Mo_words 126 = .ok (.aload_n 0, 1) := by decide +kernel
theorem d_Mo_words_127 : decode b_Mo_words 127 = .ok (.getfield 83, 3) := by decide +kernel
theorem d_Mo_words_130 : decode b_Mo_words 130 = .ok (.bipush 9, 2) := by decide +kernel
theorem d_Mo_words_132 : decode b_Mo_words 132 = .ok (.sipush 1025, 3) := by decide +kernel
theorem d_Mo_words_135 : decode b_Mo_words 135 = .ok (.iload_n 1, 1) := by decide +kernel
theorem d_Mo_words_136 : decode b_Mo_words 136 = .ok (.imul, 1) := by decide +kernel
theorem d_Mo_words_137 : decode b_Mo_words 137 = .ok (.iload 4, 2) := by decide +kernel
theorem d_Mo_words_139 : decode b_Mo_words 139 = .ok (.iadd, 1) := by decide +kernel
theorem d_Mo_words_140 : decode b_Mo_words 140 = .ok (.imul, 1) := by decide +kernel
theorem d_Mo_words_141 : decode b_Mo_words 141 = .ok (.iload 5, 2) := by decide +kernel
theorem d_Mo_words_143 : decode b_Mo_words 143 = .ok (.iadd, 1) := by decide +kernel
theorem d_Mo_words_144 : decode b_Mo_words 144 = .ok (.iaload, 1) := by decide +kernel
theorem d_Mo_words_145 : decode b_Mo_words 145 = .ok (.dup2, 1) := by decide +kernel
theorem d_Mo_words_146 : decode b_Mo_words 146 = .ok (.laload, 1) := by decide +kernel
theorem d_Mo_words_147 : decode b_Mo_words 147 = .ok (.aload_n 0, 1) := by decide +kernel
theorem d_Mo_words_148 : decode b_Mo_words 148 = .ok (.getfield 150, 3) := by decide +kernel
theorem d_Mo_words_151 : decode b_Mo_words 151 = .ok (.iload 4, 2) := by decide +kernel
theorem d_Mo_words_153 : decode b_Mo_words 153 = .ok (.laload, 1) := by decide +kernel
theorem d_Mo_words_154 : decode b_Mo_words 154 = .ok (.ladd, 1) := by decide +kernel
theorem d_Mo_words_155 : decode b_Mo_words 155 = .ok (.lastore, 1) := by decide +kernel
theorem d_Mo_words_156 : decode b_Mo_words 156 = .ok (.iinc 5 1, 3) := by decide +kernel
theorem d_Mo_words_159 : decode b_Mo_words 159 = .ok (.goto (-44), 3) := by decide +kernel
theorem d_Mo_words_162 : decode b_Mo_words 162 = .ok (.iinc 4 1, 3) := by decide +kernel
theorem d_Mo_words_165 : decode b_Mo_words 165 = .ok (.goto (-64), 3) := by decide +kernel
theorem d_Mo_words_168 : decode b_Mo_words 168 = .ok (.iconst 0, 1) := by decide +kernel
theorem d_Mo_words_169 : decode b_Mo_words 169 = .ok (.istore 4, 2) := by decide +kernel
theorem d_Mo_words_171 : decode b_Mo_words 171 = .ok (.iload 4, 2) := by decide +kernel
theorem d_Mo_words_173 : decode b_Mo_words 173 = .ok (.aload_n 0, 1) := by decide +kernel
theorem d_Mo_words_174 : decode b_Mo_words 174 = .ok (.getfield 79, 3) := by decide +kernel
theorem d_Mo_words_177 : decode b_Mo_words 177 = .ok (.iload_n 1, 1) := by decide +kernel
theorem d_Mo_words_178 : decode b_Mo_words 178 = .ok (.iaload, 1) := by decide +kernel
theorem d_Mo_words_179 : decode b_Mo_words 179 = .ok (.if_icmp .ge 23, 3) := by decide +kernel
theorem d_Mo_words_182 : decode b_Mo_words 182 = .ok (.aload_n 0, 1) := by decide +kernel
theorem d_Mo_words_183 : decode b_Mo_words 183 = .ok (.getfield 150, 3) := by decide +kernel
theorem d_Mo_words_186 : decode b_Mo_words 186 = .ok (.iload 4, 2) := by decide +kernel
theorem d_Mo_words_188 : decode b_Mo_words 188 = .ok (.aload_n 0, 1) := by decide +kernel
theorem d_Mo_words_189 : decode b_Mo_words 189 = .ok (.getfield 153, 3) := by decide +kernel
theorem d_Mo_words_192 : decode b_Mo_words 192 = .ok (.iload 4, 2) := by decide +kernel
theorem d_Mo_words_194 : decode b_Mo_words 194 = .ok (.laload, 1) := by decide +kernel
theorem d_Mo_words_195 : decode b_Mo_words 195 = .ok (.lastore, 1) := by decide +kernel
theorem d_Mo_words_196 : decode b_Mo_words 196 = .ok (.iinc 4 1, 3) := by decide +kernel
theorem d_Mo_words_199 : decode b_Mo_words 199 = .ok (.goto (-28), 3) := by decide +kernel
theorem d_Mo_words_202 : decode b_Mo_words 202 = .ok (.iinc 3 1, 3) := by decide +kernel
theorem d_Mo_words_205 : decode b_Mo_words 205 = .ok (.goto (-140), 3) := by decide +kernel
theorem d_Mo_words_208 : decode b_Mo_words 208 = .ok (.lconst 0, 1) := by decide +kernel
theorem d_Mo_words_209 : decode b_Mo_words 209 = .ok (.lstore_n 3, 1) := by decide +kernel
theorem d_Mo_words_210 : decode b_Mo_words 210 = .ok (.iconst 0, 1) := by decide +kernel
theorem d_Mo_words_211 : decode b_Mo_words 211 = .ok (.istore 5, 2) := by decide +kernel
theorem d_Mo_words_213 : decode b_Mo_words 213 = .ok (.iload 5, 2) := by decide +kernel
theorem d_Mo_words_215 : decode b_Mo_words 215 = .ok (.aload_n 0, 1) := by decide +kernel
theorem d_Mo_words_216 : decode b_Mo_words 216 = .ok (.getfield 79, 3) := by decide +kernel
theorem d_Mo_words_219 : decode b_Mo_words 219 = .ok (.iload_n 1, 1) := by decide +kernel
theorem d_Mo_words_220 : decode b_Mo_words 220 = .ok (.iaload, 1) := by decide +kernel
theorem d_Mo_words_221 : decode b_Mo_words 221 = .ok (.if_icmp .ge 39, 3) := by decide +kernel
theorem d_Mo_words_224 : decode b_Mo_words 224 = .ok (.lload_n 3, 1) := by decide +kernel
theorem d_Mo_words_225 : decode b_Mo_words 225 = .ok (.aload_n 0, 1) := by decide +kernel
theorem d_Mo_words_226 : decode b_Mo_words 226 = .ok (.getfield 86, 3) := by decide +kernel
theorem d_Mo_words_229 : decode b_Mo_words 229 = .ok (.sipush 1025, 3) := by decide +kernel
theorem d_Mo_words_232 : decode b_Mo_words 232 = .ok (.iload_n 1, 1) := by decide +kernel
theorem d_Mo_words_233 : decode b_Mo_words 233 = .ok (.imul, 1) := by decide +kernel
theorem d_Mo_words_234 : decode b_Mo_words 234 = .ok (.iload 5, 2) := by decide +kernel
theorem d_Mo_words_236 : decode b_Mo_words 236 = .ok (.iadd, 1) := by decide +kernel
theorem d_Mo_words_237 : decode b_Mo_words 237 = .ok (.baload, 1) := by decide +kernel
theorem d_Mo_words_238 : decode b_Mo_words 238 = .ok (.ifCond .eq 13, 3) := by decide +kernel
theorem d_Mo_words_241 : decode b_Mo_words 241 = .ok (.aload_n 0, 1) := by decide +kernel
theorem d_Mo_words_242 : decode b_Mo_words 242 = .ok (.getfield 150, 3) := by decide +kernel
theorem d_Mo_words_245 : decode b_Mo_words 245 = .ok (.iload 5, 2) := by decide +kernel
theorem d_Mo_words_247 : decode b_Mo_words 247 = .ok (.laload, 1) := by decide +kernel
theorem d_Mo_words_248 : decode b_Mo_words 248 = .ok (.goto 4, 3) := by decide +kernel
theorem d_Mo_words_251 : decode b_Mo_words 251 = .ok (.lconst 0, 1) := by decide +kernel
theorem d_Mo_words_252 : decode b_Mo_words 252 = .ok (.ladd, 1) := by decide +kernel
theorem d_Mo_words_253 : decode b_Mo_words 253 = .ok (.lstore_n 3, 1) := by decide +kernel
theorem d_Mo_words_254 : decode b_Mo_words 254 = .ok (.iinc 5 1, 3) := by decide +kernel
theorem d_Mo_words_257 : decode b_Mo_words 257 = .ok (.goto (-44), 3) := by decide +kernel
theorem d_Mo_words_260 : decode b_Mo_words 260 = .ok (.lload_n 3, 1) := by decide +kernel
theorem d_Mo_words_261 : decode b_Mo_words 261 = .ok (.lreturn, 1) := by decide +kernel
theorem d_Mo_word_0 : decode b_Mo_word 0 = .ok (.aload_n 0, 1) := by decide +kernel
theorem d_Mo_word_1 : decode b_Mo_word 1 = .ok (.iload_n 1, 1) := by decide +kernel
theorem d_Mo_word_2 : decode b_Mo_word 2 = .ok (.invokevirtual 399, 3) := by decide +kernel
theorem d_Mo_word_5 : decode b_Mo_word 5 = .ok (.ifCond .eq 7, 3) := by decide +kernel
theorem d_Mo_word_8 : decode b_Mo_word 8 = .ok (.iload_n 2, 1) := by decide +kernel
theorem d_Mo_word_9 : decode b_Mo_word 9 = .ok (.ifCond .ge 5, 3) := by decide +kernel
theorem d_Mo_word_12 : decode b_Mo_word 12 = .ok (.iconst (-1), 1) := by decide +kernel
theorem d_Mo_word_13 : decode b_Mo_word 13 = .ok (.ireturn, 1) := by decide +kernel
theorem d_Mo_word_14 : decode b_Mo_word 14 = .ok (.aload_n 0, 1) := by decide +kernel
theorem d_Mo_word_15 : decode b_Mo_word 15 = .ok (.iload_n 1, 1) := by decide +kernel
theorem d_Mo_word_16 : decode b_Mo_word 16 = .ok (.invokevirtual 402, 3) := by decide +kernel
theorem d_Mo_word_19 : decode b_Mo_word 19 = .ok (.ifCond .ne 6, 3) := by decide +kernel
theorem d_Mo_word_22 : decode b_Mo_word 22 = .ok (.bipush (-2), 2) := by decide +kernel
theorem d_Mo_word_24 : decode b_Mo_word 24 = .ok (.ireturn, 1) := by decide +kernel
theorem d_Mo_word_25 : decode b_Mo_word 25 = .ok (.aload_n 0, 1) := by decide +kernel
theorem d_Mo_word_26 : decode b_Mo_word 26 = .ok (.getfield 79, 3) := by decide +kernel
theorem d_Mo_word_29 : decode b_Mo_word 29 = .ok (.iload_n 1, 1) := by decide +kernel
theorem d_Mo_word_30 : decode b_Mo_word 30 = .ok (.iaload, 1) := by decide +kernel
theorem d_Mo_word_31 : decode b_Mo_word 31 = .ok (.istore_n 3, 1) := by decide +kernel
theorem d_Mo_word_32 : decode b_Mo_word 32 = .ok (.iconst 0, 1) := by decide +kernel
theorem d_Mo_word_33 : decode b_Mo_word 33 = .ok (.istore 4, 2) := by decide +kernel
theorem d_Mo_word_35 : decode b_Mo_word 35 = .ok (.iload 4, 2) := by decide +kernel
theorem d_Mo_word_37 : decode b_Mo_word 37 = .ok (.iload_n 3, 1) := by decide +kernel
theorem d_Mo_word_38 : decode b_Mo_word 38 = .ok (.if_icmp .ge 39, 3) := by decide +kernel
theorem d_Mo_word_41 : decode b_Mo_word 41 = .ok (.aload_n 0, 1) := by decide +kernel
theorem d_Mo_word_42 : decode b_Mo_word 42 = .ok (.getfield 141, 3) := by decide +kernel
theorem d_Mo_word_45 : decode b_Mo_word 45 = .ok (.iload 4, 2) := by decide +kernel
theorem d_Mo_word_47 : decode b_Mo_word 47 = .ok (.aload_n 0, 1) := by decide +kernel
theorem d_Mo_word_48 : decode b_Mo_word 48 = .ok (.getfield 86, 3) := by decide +kernel
theorem d_Mo_word_51 : decode b_Mo_word 51 = .ok (.sipush 1025, 3) := by decide +kernel
theorem d_Mo_word_54 : decode b_Mo_word 54 = .ok (.iload_n 1, 1) := by decide +kernel
theorem d_Mo_word_55 : decode b_Mo_word 55 = .ok (.imul, 1) := by decide +kernel
theorem d_Mo_word_56 : decode b_Mo_word 56 = .ok (.iload 4, 2) := by decide +kernel
theorem d_Mo_word_58 : decode b_Mo_word 58 = .ok (.iadd, 1) := by decide +kernel
theorem d_Mo_word_59 : decode b_Mo_word 59 = .ok (.baload, 1) := by decide +kernel
theorem d_Mo_word_60 : decode b_Mo_word 60 = .ok (.ifCond .eq 7, 3) := by decide +kernel
theorem d_Mo_word_63 : decode b_Mo_word 63 = .ok (.iconst 0, 1) := by decide +kernel
theorem d_Mo_word_64 : decode b_Mo_word 64 = .ok (.goto 6, 3) := by decide +kernel
theorem d_Mo_word_67 : decode b_Mo_word 67 = .ok (.ldc_w 405, 3) := by decide +kernel
theorem d_Mo_word_70 : decode b_Mo_word 70 = .ok (.iastore, 1) := by decide +kernel
theorem d_Mo_word_71 : decode b_Mo_word 71 = .ok (.iinc 4 1, 3) := by decide +kernel
theorem d_Mo_word_74 : decode b_Mo_word 74 = .ok (.goto (-39), 3) := by decide +kernel
theorem d_Mo_word_77 : decode b_Mo_word 77 = .ok (.iconst 1, 1) := by decide +kernel
theorem d_Mo_word_78 : decode b_Mo_word 78 = .ok (.istore 4, 2) := by decide +kernel
theorem d_Mo_word_80 : decode b_Mo_word 80 = .ok (.iload 4, 2) := by decide +kernel
theorem d_Mo_word_82 : decode b_Mo_word 82 = .ok (.ifCond .eq 92, 3) := by decide +kernel
theorem d_Mo_word_85 : decode b_Mo_word 85 = .ok (.iconst 0, 1) := by decide +kernel
theorem d_Mo_word_86 : decode b_Mo_word 86 = .ok (.istore 4, 2) := by decide +kernel
theorem d_Mo_word_88 : decode b_Mo_word 88 = .ok (.iconst 0, 1) := by decide +kernel
theorem d_Mo_word_89 : decode b_Mo_word 89 = .ok (.istore 5, 2) := by decide +kernel
theorem d_Mo_word_91 : decode b_Mo_word 91 = .ok (.iload 5, 2) := by decide +kernel
theorem d_Mo_word_93 : decode b_Mo_word 93 = .ok (.iload_n 3, 1) := by decide +kernel
theorem d_Mo_word_94 : decode b_Mo_word 94 = .ok (.if_icmp .ge 77, 3) := by decide +kernel
theorem d_Mo_word_97 : decode b_Mo_word 97 = .ok (.iconst 0, 1) := by decide +kernel
theorem d_Mo_word_98 : decode b_Mo_word 98 = .ok (.istore 6, 2) := by decide +kernel
theorem d_Mo_word_100 : decode b_Mo_word 100 = .ok (.iload 6, 2) := by decide +kernel
theorem d_Mo_word_102 : decode b_Mo_word 102 = .ok (.bipush 9, 2) := by decide +kernel
theorem d_Mo_word_104 : decode b_Mo_word 104 = .ok (.if_icmp .ge 61, 3) := by decide +kernel
theorem d_Mo_word_107 : decode b_Mo_word 107 = .ok (.aload_n 0, 1) := by decide +kernel
theorem d_Mo_word_108 : decode b_Mo_word 108 = .ok (.getfield 141, 3) := by decide +kernel
theorem d_Mo_word_111 : decode b_Mo_word 111 = .ok (.aload_n 0, 1) := by decide +kernel
theorem d_Mo_word_112 : decode b_Mo_word 112 = .ok (.getfield 83, 3) := by decide +kernel
theorem d_Mo_word_115 : decode b_Mo_word 115 = .ok (.bipush 9, 2) := by decide +kernel
theorem d_Mo_word_117 : decode b_Mo_word 117 = .ok (.sipush 1025, 3) := by decide +kernel
theorem d_Mo_word_120 : decode b_Mo_word 120 = .ok (.iload_n 1, 1) := by decide +kernel
theorem d_Mo_word_121 : decode b_Mo_word 121 = .ok (.imul, 1) := by decide +kernel
theorem d_Mo_word_122 : decode b_Mo_word 122 = .ok (.iload 5, 2) := by decide +kernel
theorem d_Mo_word_124 : decode b_Mo_word 124 = .ok (.iadd, 1) := by decide +kernel
theorem d_Mo_word_125 : decode b_Mo_word 125 = .ok (.imul, 1) := by decide +kernel
theorem d_Mo_word_126 : decode b_Mo_word 126 = .ok (.iload 6, 2) := by decide +kernel
theorem d_Mo_word_128 : decode b_Mo_word 128 = .ok (.iadd, 1) := by decide +kernel
theorem d_Mo_word_129 : decode b_Mo_word 129 = .ok (.iaload, 1) := by decide +kernel
theorem d_Mo_word_130 : decode b_Mo_word 130 = .ok (.iaload, 1) := by decide +kernel
theorem d_Mo_word_131 : decode b_Mo_word 131 = .ok (.iconst 1, 1) := by decide +kernel
theorem d_Mo_word_132 : decode b_Mo_word 132 = .ok (.iadd, 1) := by decide +kernel
theorem d_Mo_word_133 : decode b_Mo_word 133 = .ok (.istore 7, 2) := by decide +kernel
theorem d_Mo_word_135 : decode b_Mo_word 135 = .ok (.iload 7, 2) := by decide +kernel
theorem d_Mo_word_137 : decode b_Mo_word 137 = .ok (.aload_n 0, 1) := by decide +kernel
theorem d_Mo_word_138 : decode b_Mo_word 138 = .ok (.getfield 141, 3) := by decide +kernel
theorem d_Mo_word_141 : decode b_Mo_word 141 = .ok (.iload 5, 2) := by decide +kernel
theorem d_Mo_word_143 : decode b_Mo_word 143 = .ok (.iaload, 1) := by decide +kernel
theorem d_Mo_word_144 : decode b_Mo_word 144 = .ok (.if_icmp .ge 15, 3) := by decide +kernel
theorem d_Mo_word_147 : decode b_Mo_word 147 = .ok (.aload_n 0, 1) := by decide +kernel
theorem d_Mo_word_148 : decode b_Mo_word 148 = .ok (.getfield 141, 3) := by decide +kernel
theorem d_Mo_word_151 : decode b_Mo_word 151 = .ok (.iload 5, 2) := by decide +kernel
theorem d_Mo_word_153 : decode b_Mo_word 153 = .ok (.iload 7, 2) := by decide +kernel
theorem d_Mo_word_155 : decode b_Mo_word 155 = .ok (.iastore, 1) := by decide +kernel
theorem d_Mo_word_156 : decode b_Mo_word 156 = .ok (.iconst 1, 1) := by decide +kernel
theorem d_Mo_word_157 : decode b_Mo_word 157 = .ok (.istore 4, 2) := by decide +kernel
theorem d_Mo_word_159 : decode b_Mo_word 159 = .ok (.iinc 6 1, 3) := by decide +kernel
theorem d_Mo_word_162 : decode b_Mo_word 162 = .ok (.goto (-62), 3) := by decide +kernel
theorem d_Mo_word_165 : decode b_Mo_word 165 = .ok (.iinc 5 1, 3) := by decide +kernel
theorem d_Mo_word_168 : decode b_Mo_word 168 = .ok (.goto (-77), 3) := by decide +kernel
theorem d_Mo_word_171 : decode b_Mo_word 171 = .ok (.goto (-91), 3) := by decide +kernel
theorem d_Mo_word_174 : decode b_Mo_word 174 = .ok (.iload_n 2, 1) := by decide +kernel
theorem d_Mo_word_175 : decode b_Mo_word 175 = .ok (.aload_n 0, 1) := by decide +kernel
theorem d_Mo_word_176 : decode b_Mo_word 176 = .ok (.getfield 141, 3) := by decide +kernel
theorem d_Mo_word_179 : decode b_Mo_word 179 = .ok (.iconst 0, 1) := by decide +kernel
theorem d_Mo_word_180 : decode b_Mo_word 180 = .ok (.iaload, 1) := by decide +kernel
theorem d_Mo_word_181 : decode b_Mo_word 181 = .ok (.if_icmp .lt 6, 3) := by decide +kernel
theorem d_Mo_word_184 : decode b_Mo_word 184 = .ok (.bipush (-2), 2) := by decide +kernel
theorem d_Mo_word_186 : decode b_Mo_word 186 = .ok (.ireturn, 1) := by decide +kernel
theorem d_Mo_word_187 : decode b_Mo_word 187 = .ok (.iconst 0, 1) := by decide +kernel
theorem d_Mo_word_188 : decode b_Mo_word 188 = .ok (.istore 5, 2) := by decide +kernel
theorem d_Mo_word_190 : decode b_Mo_word 190 = .ok (.iconst 0, 1) := by decide +kernel
theorem d_Mo_word_191 : decode b_Mo_word 191 = .ok (.istore 6, 2) := by decide +kernel
theorem d_Mo_word_193 : decode b_Mo_word 193 = .ok (.iconst 0, 1) := by decide +kernel
theorem d_Mo_word_194 : decode b_Mo_word 194 = .ok (.istore 7, 2) := by decide +kernel
theorem d_Mo_word_196 : decode b_Mo_word 196 = .ok (.iload 7, 2) := by decide +kernel
theorem d_Mo_word_198 : decode b_Mo_word 198 = .ok (.iload_n 2, 1) := by decide +kernel
theorem d_Mo_word_199 : decode b_Mo_word 199 = .ok (.if_icmp .gt 79, 3) := by decide +kernel
theorem d_Mo_word_202 : decode b_Mo_word 202 = .ok (.iconst 0, 1) := by decide +kernel
theorem d_Mo_word_203 : decode b_Mo_word 203 = .ok (.istore 8, 2) := by decide +kernel
theorem d_Mo_word_205 : decode b_Mo_word 205 = .ok (.aload_n 0, 1) := by decide +kernel
theorem d_Mo_word_206 : decode b_Mo_word 206 = .ok (.getfield 141, 3) := by decide +kernel
theorem d_Mo_word_209 : decode b_Mo_word 209 = .ok (.aload_n 0, 1) := by decide +kernel
theorem d_Mo_word_210 : decode b_Mo_word 210 = .ok (.getfield 83, 3) := by decide +kernel
theorem d_Mo_word_213 : decode b_Mo_word 213 = .ok (.bipush 9, 2) := by decide +kernel
theorem d_Mo_word_215 : decode b_Mo_word 215 = .ok (.sipush 1025, 3) := by decide +kernel
theorem d_Mo_word_218 : decode b_Mo_word 218 = .ok (.iload_n 1, 1) := by decide +kernel
theorem d_Mo_word_219 : decode b_Mo_word 219 = .ok (.imul, 1) := by decide +kernel
theorem d_Mo_word_220 : decode b_Mo_word 220 = .ok (.iload 5, 2) := by decide +kernel
theorem d_Mo_word_222 : decode b_Mo_word 222 = .ok (.iadd, 1) := by decide +kernel
theorem d_Mo_word_223 : decode b_Mo_word 223 = .ok (.imul, 1) := by decide +kernel
theorem d_Mo_word_224 : decode b_Mo_word 224 = .ok (.iload 8, 2) := by decide +kernel
theorem d_Mo_word_226 : decode b_Mo_word 226 = .ok (.iadd, 1) := by decide +kernel
theorem d_Mo_word_227 : decode b_Mo_word 227 = .ok (.iaload, 1) := by decide +kernel
theorem d_Mo_word_228 : decode b_Mo_word 228 = .ok (.iaload, 1) := by decide +kernel
theorem d_Mo_word_229 : decode b_Mo_word 229 = .ok (.iconst 1, 1) := by decide +kernel
theorem d_Mo_word_230 : decode b_Mo_word 230 = .ok (.iadd, 1) := by decide +kernel
theorem d_Mo_word_231 : decode b_Mo_word 231 = .ok (.aload_n 0, 1) := by decide +kernel
theorem d_Mo_word_232 : decode b_Mo_word 232 = .ok (.getfield 141, 3) := by decide +kernel
theorem d_Mo_word_235 : decode b_Mo_word 235 = .ok (.iload 5, 2) := by decide +kernel
theorem d_Mo_word_237 : decode b_Mo_word 237 = .ok (.iaload, 1) := by decide +kernel
theorem d_Mo_word_238 : decode b_Mo_word 238 = .ok (.if_icmp .eq 9, 3) := by decide +kernel
theorem d_Mo_word_241 : decode b_Mo_word 241 = .ok (.iinc 8 1, 3) := by decide +kernel
theorem d_Mo_word_244 : decode b_Mo_word 244 = .ok (.goto (-39), 3) := by decide +kernel
theorem d_Mo_word_247 : decode b_Mo_word 247 = .ok (.iload 8, 2) := by decide +kernel
theorem d_Mo_word_249 : decode b_Mo_word 249 = .ok (.istore 6, 2) := by decide +kernel
theorem d_Mo_word_251 : decode b_Mo_word 251 = .ok (.aload_n 0, 1) := by decide +kernel
theorem d_Mo_word_252 : decode b_Mo_word 252 = .ok (.getfield 83, 3) := by decide +kernel
theorem d_Mo_word_255 : decode b_Mo_word 255 = .ok (.bipush 9, 2) := by decide +kernel
theorem d_Mo_word_257 : decode b_Mo_word 257 = .ok (.sipush 1025, 3) := by decide +kernel
theorem d_Mo_word_260 : decode b_Mo_word 260 = .ok (.iload_n 1, 1) := by decide +kernel
theorem d_Mo_word_261 : decode b_Mo_word 261 = .ok (.imul, 1) := by decide +kernel
theorem d_Mo_word_262 : decode b_Mo_word 262 = .ok (.iload 5, 2) := by decide +kernel
theorem d_Mo_word_264 : decode b_Mo_word 264 = .ok (.iadd, 1) := by decide +kernel
theorem d_Mo_word_265 : decode b_Mo_word 265 = .ok (.imul, 1) := by decide +kernel
theorem d_Mo_word_266 : decode b_Mo_word 266 = .ok (.iload 8, 2) := by decide +kernel
theorem d_Mo_word_268 : decode b_Mo_word 268 = .ok (.iadd, 1) := by decide +kernel
theorem d_Mo_word_269 : decode b_Mo_word 269 = .ok (.iaload, 1) := by decide +kernel
theorem d_Mo_word_270 : decode b_Mo_word 270 = .ok (.istore 5, 2) := by decide +kernel
theorem d_Mo_word_272 : decode b_Mo_word 272 = .ok (.iinc 7 1, 3) := by decide +kernel
theorem d_Mo_word_275 : decode b_Mo_word 275 = .ok (.goto (-79), 3) := by decide +kernel
theorem d_Mo_word_278 : decode b_Mo_word 278 = .ok (.iload 6, 2) := by decide +kernel
theorem d_Mo_word_280 : decode b_Mo_word 280 = .ok (.ireturn, 1) := by decide +kernel
theorem d_Mo_count_0 : decode b_Mo_count 0 = .ok (.iconst 0, 1) := by decide +kernel
theorem d_Mo_count_1 : decode b_Mo_count 1 = .ok (.istore_n 2, 1) := by decide +kernel
theorem d_Mo_count_2 : decode b_Mo_count 2 = .ok (.iconst 0, 1) := by decide +kernel
theorem d_Mo_count_3 : decode b_Mo_count 3 = .ok (.istore_n 3, 1) := by decide +kernel
theorem d_Mo_count_4 : decode b_Mo_count 4 = .ok (.iload_n 3, 1) := by decide +kernel
theorem d_Mo_count_5 : decode b_Mo_count 5 = .ok (.aload_n 0, 1) := by decide +kernel
theorem d_Mo_count_6 : decode b_Mo_count 6 = .ok (.getfield 156, 3) := by decide +kernel
theorem d_Mo_count_9 : decode b_Mo_count 9 = .ok (.if_icmp .ge 78, 3) := by decide +kernel
theorem d_Mo_count_12 : decode b_Mo_count 12 = .ok (.iconst 0, 1) := by decide +kernel
theorem d_Mo_count_13 : decode b_Mo_count 13 = .ok (.istore 4, 2) := by decide +kernel
theorem d_Mo_count_15 : decode b_Mo_count 15 = .ok (.iload 4, 2) := by decide +kernel
theorem d_Mo_count_17 : decode b_Mo_count 17 = .ok (.aload_n 0, 1) := by decide +kernel
theorem d_Mo_count_18 : decode b_Mo_count 18 = .ok (.getfield 159, 3) := by decide +kernel
theorem d_Mo_count_21 : decode b_Mo_count 21 = .ok (.if_icmp .ge 60, 3) := by decide +kernel
theorem d_Mo_count_24 : decode b_Mo_count 24 = .ok (.iload_n 2, 1) := by decide +kernel
theorem d_Mo_count_25 : decode b_Mo_count 25 = .ok (.iload_n 1, 1) := by decide +kernel
theorem d_Mo_count_26 : decode b_Mo_count 26 = .ok (.iconst 2, 1) := by decide +kernel
theorem d_Mo_count_27 : decode b_Mo_count 27 = .ok (.if_icmp .ne 26, 3) := by decide +kernel
theorem d_Mo_count_30 : decode b_Mo_count 30 = .ok (.aload_n 0, 1) := by decide +kernel
theorem d_Mo_count_31 : decode b_Mo_count 31 = .ok (.getfield 7, 3) := by decide +kernel
theorem d_Mo_count_34 : decode b_Mo_count 34 = .ok (.bipush 21, 2) := by decide +kernel
theorem d_Mo_count_36 : decode b_Mo_count 36 = .ok (.iload_n 3, 1) := by decide +kernel
theorem d_Mo_count_37 : decode b_Mo_count 37 = .ok (.imul, 1) := by decide +kernel
theorem d_Mo_count_38 : decode b_Mo_count 38 = .ok (.iload 4, 2) := by decide +kernel
theorem d_Mo_count_40 : decode b_Mo_count 40 = .ok (.iadd, 1) := by decide +kernel
theorem d_Mo_count_41 : decode b_Mo_count 41 = .ok (.iaload, 1) := by decide +kernel
theorem d_Mo_count_42 : decode b_Mo_count 42 = .ok (.ifCond .lt 7, 3) := by decide +kernel
theorem d_Mo_count_45 : decode b_Mo_count 45 = .ok (.iconst 1, 1) := by decide +kernel
theorem d_Mo_count_46 : decode b_Mo_count 46 = .ok (.goto 27, 3) := by decide +kernel
theorem d_Mo_count_49 : decode b_Mo_count 49 = .ok (.iconst 0, 1) := by decide +kernel
theorem d_Mo_count_50 : decode b_Mo_count 50 = .ok (.goto 23, 3) := by decide +kernel
theorem d_Mo_count_53 : decode b_Mo_count 53 = .ok (.aload_n 0, 1) := by decide +kernel
theorem d_Mo_count_54 : decode b_Mo_count 54 = .ok (.getfield 31, 3) := by decide +kernel
theorem d_Mo_count_57 : decode b_Mo_count 57 = .ok (.bipush 21, 2) := by decide +kernel
theorem d_Mo_count_59 : decode b_Mo_count 59 = .ok (.iload_n 3, 1) := by decide +kernel
theorem d_Mo_count_60 : decode b_Mo_count 60 = .ok (.imul, 1) := by decide +kernel
theorem d_Mo_count_61 : decode b_Mo_count 61 = .ok (.iload 4, 2) := by decide +kernel
theorem d_Mo_count_63 : decode b_Mo_count 63 = .ok (.iadd, 1) := by decide +kernel
theorem d_Mo_count_64 : decode b_Mo_count 64 = .ok (.iaload, 1) := by decide +kernel
theorem d_Mo_count_65 : decode b_Mo_count 65 = .ok (.ifCond .le 7, 3) := by decide +kernel
theorem d_Mo_count_68 : decode b_Mo_count 68 = .ok (.iconst 1, 1) := by decide +kernel
theorem d_Mo_count_69 : decode b_Mo_count 69 = .ok (.goto 4, 3) := by decide +kernel
theorem d_Mo_count_72 : decode b_Mo_count 72 = .ok (.iconst 0, 1) := by decide +kernel
theorem d_Mo_count_73 : decode b_Mo_count 73 = .ok (.iadd, 1) := by decide +kernel
theorem d_Mo_count_74 : decode b_Mo_count 74 = .ok (.istore_n 2, 1) := by decide +kernel
theorem d_Mo_count_75 : decode b_Mo_count 75 = .ok (.iinc 4 1, 3) := by decide +kernel
theorem d_Mo_count_78 : decode b_Mo_count 78 = .ok (.goto (-63), 3) := by decide +kernel
theorem d_Mo_count_81 : decode b_Mo_count 81 = .ok (.iinc 3 1, 3) := by decide +kernel
theorem d_Mo_count_84 : decode b_Mo_count 84 = .ok (.goto (-80), 3) := by decide +kernel
theorem d_Mo_count_87 : decode b_Mo_count 87 = .ok (.iload_n 1, 1) := by decide +kernel
theorem d_Mo_count_88 : decode b_Mo_count 88 = .ok (.ifCond .ne 10, 3) := by decide +kernel
theorem d_Mo_count_91 : decode b_Mo_count 91 = .ok (.aload_n 0, 1) := by decide +kernel
theorem d_Mo_count_92 : decode b_Mo_count 92 = .ok (.getfield 219, 3) := by decide +kernel
theorem d_Mo_count_95 : decode b_Mo_count 95 = .ok (.goto 42, 3) := by decide +kernel
theorem d_Mo_count_98 : decode b_Mo_count 98 = .ok (.iload_n 1, 1) := by decide +kernel
theorem d_Mo_count_99 : decode b_Mo_count 99 = .ok (.iconst 1, 1) := by decide +kernel
theorem d_Mo_count_100 : decode b_Mo_count 100 = .ok (.if_icmp .ne 10, 3) := by decide +kernel
theorem d_Mo_count_103 : decode b_Mo_count 103 = .ok (.aload_n 0, 1) := by decide +kernel
theorem d_Mo_count_104 : decode b_Mo_count 104 = .ok (.getfield 169, 3) := by decide +kernel
theorem d_Mo_count_107 : decode b_Mo_count 107 = .ok (.goto 30, 3) := by decide +kernel
theorem d_Mo_count_110 : decode b_Mo_count 110 = .ok (.iload_n 1, 1) := by decide +kernel
theorem d_Mo_count_111 : decode b_Mo_count 111 = .ok (.iconst 2, 1) := by decide +kernel
theorem d_Mo_count_112 : decode b_Mo_count 112 = .ok (.if_icmp .eq 8, 3) := by decide +kernel
theorem d_Mo_count_115 : decode b_Mo_count 115 = .ok (.iload_n 1, 1) := by decide +kernel
theorem d_Mo_count_116 : decode b_Mo_count 116 = .ok (.iconst 3, 1) := by decide +kernel
theorem d_Mo_count_117 : decode b_Mo_count 117 = .ok (.if_icmp .ne 7, 3) := by decide +kernel
theorem d_Mo_count_120 : decode b_Mo_count 120 = .ok (.iload_n 2, 1) := by decide +kernel
theorem d_Mo_count_121 : decode b_Mo_count 121 = .ok (.goto 16, 3) := by decide +kernel
theorem d_Mo_count_124 : decode b_Mo_count 124 = .ok (.iload_n 1, 1) := by decide +kernel
theorem d_Mo_count_125 : decode b_Mo_count 125 = .ok (.iconst 4, 1) := by decide +kernel
theorem d_Mo_count_126 : decode b_Mo_count 126 = .ok (.if_icmp .ne 10, 3) := by decide +kernel
theorem d_Mo_count_129 : decode b_Mo_count 129 = .ok (.aload_n 0, 1) := by decide +kernel
theorem d_Mo_count_130 : decode b_Mo_count 130 = .ok (.getfield 396, 3) := by decide +kernel
theorem d_Mo_count_133 : decode b_Mo_count 133 = .ok (.goto 4, 3) := by decide +kernel
theorem d_Mo_count_136 : decode b_Mo_count 136 = .ok (.iconst (-1), 1) := by decide +kernel
theorem d_Mo_count_137 : decode b_Mo_count 137 = .ok (.ireturn, 1) := by decide +kernel
