theorem d_Lw_cell_0 : decode b_Lw_cell 0 = .ok (.iload_n 1, 1) := by decide +kernel
theorem d_Lw_cell_1 : decode b_Lw_cell 1 = .ok (.aload_n 0, 1) := by decide +kernel
theorem d_Lw_cell_2 : decode b_Lw_cell 2 = .ok (.arraylength, 1) := by decide +kernel
theorem d_Lw_cell_3 : decode b_Lw_cell 3 = .ok (.if_icmp .ge 9, 3) := by decide +kernel
theorem d_Lw_cell_6 : decode b_Lw_cell 6 = .ok (.aload_n 0, 1) := by decide +kernel
theorem d_Lw_cell_7 : decode b_Lw_cell 7 = .ok (.iload_n 1, 1) := by decide +kernel
theorem d_Lw_cell_8 : decode b_Lw_cell 8 = .ok (.iaload, 1) := by decide +kernel
theorem d_Lw_cell_9 : decode b_Lw_cell 9 = .ok (.goto 4, 3) := by decide +kernel
theorem d_Lw_cell_12 : decode b_Lw_cell 12 = .ok (.iconst 0, 1) := by decide +kernel
theorem d_Lw_cell_13 : decode b_Lw_cell 13 = .ok (.ireturn, 1) := by decide +kernel
theorem d_Lw_law_0 : decode b_Lw_law 0 = .ok (.new 7, 3) := by decide +kernel
theorem d_Lw_law_3 : decode b_Lw_law 3 = .ok (.dup, 1) := by decide +kernel
theorem d_Lw_law_4 : decode b_Lw_law 4 = .ok (.aload_n 0, 1) := by decide +kernel
theorem d_Lw_law_5 : decode b_Lw_law 5 = .ok (.iconst 0, 1) := by decide +kernel
theorem d_Lw_law_6 : decode b_Lw_law 6 = .ok (.invokestatic 9, 3) := by decide +kernel
theorem d_Lw_law_9 : decode b_Lw_law 9 = .ok (.aload_n 0, 1) := by decide +kernel
theorem d_Lw_law_10 : decode b_Lw_law 10 = .ok (.iconst 1, 1) := by decide +kernel
theorem d_Lw_law_11 : decode b_Lw_law 11 = .ok (.invokestatic 9, 3) := by decide +kernel
theorem d_Lw_law_14 : decode b_Lw_law 14 = .ok (.invokespecial 15, 3) := by decide +kernel
theorem d_Lw_law_17 : decode b_Lw_law 17 = .ok (.astore_n 1, 1) := by decide +kernel
theorem d_Lw_law_18 : decode b_Lw_law 18 = .ok (.new 18, 3) := by decide +kernel
theorem d_Lw_law_21 : decode b_Lw_law 21 = .ok (.dup, 1) := by decide +kernel
theorem d_Lw_law_22 : decode b_Lw_law 22 = .ok (.aload_n 0, 1) := by decide +kernel
theorem d_Lw_law_23 : decode b_Lw_law 23 = .ok (.iconst 0, 1) := by decide +kernel
theorem d_Lw_law_24 : decode b_Lw_law 24 = .ok (.invokestatic 9, 3) := by decide +kernel
theorem d_Lw_law_27 : decode b_Lw_law 27 = .ok (.aload_n 0, 1) := by decide +kernel
theorem d_Lw_law_28 : decode b_Lw_law 28 = .ok (.iconst 1, 1) := by decide +kernel
theorem d_Lw_law_29 : decode b_Lw_law 29 = .ok (.invokestatic 9, 3) := by decide +kernel
theorem d_Lw_law_32 : decode b_Lw_law 32 = .ok (.invokespecial 20, 3) := by decide +kernel
theorem d_Lw_law_35 : decode b_Lw_law 35 = .ok (.astore_n 2, 1) := by decide +kernel
theorem d_Lw_law_36 : decode b_Lw_law 36 = .ok (.iconst 2, 1) := by decide +kernel
theorem d_Lw_law_37 : decode b_Lw_law 37 = .ok (.istore_n 3, 1) := by decide +kernel
theorem d_Lw_law_38 : decode b_Lw_law 38 = .ok (.iload_n 3, 1) := by decide +kernel
theorem d_Lw_law_39 : decode b_Lw_law 39 = .ok (.aload_n 0, 1) := by decide +kernel
theorem d_Lw_law_40 : decode b_Lw_law 40 = .ok (.arraylength, 1) := by decide +kernel
theorem d_Lw_law_41 : decode b_Lw_law 41 = .ok (.iconst 5, 1) := by decide +kernel
theorem d_Lw_law_42 : decode b_Lw_law 42 = .ok (.isub, 1) := by decide +kernel
theorem d_Lw_law_43 : decode b_Lw_law 43 = .ok (.if_icmp .gt 871, 3) := by decide +kernel
theorem d_Lw_law_46 : decode b_Lw_law 46 = .ok (.aload_n 0, 1) := by decide +kernel
theorem d_Lw_law_47 : decode b_Lw_law 47 = .ok (.iload_n 3, 1) := by decide +kernel
theorem d_Lw_law_48 : decode b_Lw_law 48 = .ok (.iaload, 1) := by decide +kernel
theorem d_Lw_law_49 : decode b_Lw_law 49 = .ok (.bipush 31, 2) := by decide +kernel
theorem d_Lw_law_51 : decode b_Lw_law 51 = .ok (.iand, 1) := by decide +kernel
theorem d_Lw_law_52 : decode b_Lw_law 52 = .ok (.tableswitch 856 0 21 #[104, 167, 180, 193, 246, 279, 322, 375, 408, 452, 496, 509, 542, 565, 599, 613, 657, 690, 733, 766, 800, 833], 104) := by decide +kernel
theorem d_Lw_law_156 : decode b_Lw_law 156 = .ok (.aload_n 1, 1) := by decide +kernel
theorem d_Lw_law_157 : decode b_Lw_law 157 = .ok (.aload_n 0, 1) := by decide +kernel
theorem d_Lw_law_158 : decode b_Lw_law 158 = .ok (.iload_n 3, 1) := by decide +kernel
theorem d_Lw_law_159 : decode b_Lw_law 159 = .ok (.iconst 1, 1) := by decide +kernel
theorem d_Lw_law_160 : decode b_Lw_law 160 = .ok (.iadd, 1) := by decide +kernel
theorem d_Lw_law_161 : decode b_Lw_law 161 = .ok (.iaload, 1) := by decide +kernel
theorem d_Lw_law_162 : decode b_Lw_law 162 = .ok (.aload_n 0, 1) := by decide +kernel
theorem d_Lw_law_163 : decode b_Lw_law 163 = .ok (.iload_n 3, 1) := by decide +kernel
theorem d_Lw_law_164 : decode b_Lw_law 164 = .ok (.iconst 2, 1) := by decide +kernel
theorem d_Lw_law_165 : decode b_Lw_law 165 = .ok (.iadd, 1) := by decide +kernel
theorem d_Lw_law_166 : decode b_Lw_law 166 = .ok (.iaload, 1) := by decide +kernel
theorem d_Lw_law_167 : decode b_Lw_law 167 = .ok (.i2l, 1) := by decide +kernel
theorem d_Lw_law_168 : decode b_Lw_law 168 = .ok (.bipush 32, 2) := by decide +kernel
theorem d_Lw_law_170 : decode b_Lw_law 170 = .ok (.lshl, 1) := by decide +kernel
theorem d_Lw_law_171 : decode b_Lw_law 171 = .ok (.aload_n 0, 1) := by decide +kernel
theorem d_Lw_law_172 : decode b_Lw_law 172 = .ok (.iload_n 3, 1) := by decide +kernel
theorem d_Lw_law_173 : decode b_Lw_law 173 = .ok (.iconst 3, 1) := by decide +kernel
theorem d_Lw_law_174 : decode b_Lw_law 174 = .ok (.iadd, 1) := by decide +kernel
theorem d_Lw_law_175 : decode b_Lw_law 175 = .ok (.iaload, 1) := by decide +kernel
theorem d_Lw_law_176 : decode b_Lw_law 176 = .ok (.i2l, 1) := by decide +kernel
theorem d_Lw_law_177 : decode b_Lw_law 177 = .ok (.ldc2_w 21, 3) := by decide +kernel
theorem d_Lw_law_180 : decode b_Lw_law 180 = .ok (.land, 1) := by decide +kernel
theorem d_Lw_law_181 : decode b_Lw_law 181 = .ok (.lor, 1) := by decide +kernel
theorem d_Lw_law_182 : decode b_Lw_law 182 = .ok (.invokevirtual 23, 3) := by decide +kernel
theorem d_Lw_law_185 : decode b_Lw_law 185 = .ok (.aload_n 2, 1) := by decide +kernel
theorem d_Lw_law_186 : decode b_Lw_law 186 = .ok (.aload_n 0, 1) := by decide +kernel
theorem d_Lw_law_187 : decode b_Lw_law 187 = .ok (.iload_n 3, 1) := by decide +kernel
theorem d_Lw_law_188 : decode b_Lw_law 188 = .ok (.iconst 1, 1) := by decide +kernel
theorem d_Lw_law_189 : decode b_Lw_law 189 = .ok (.iadd, 1) := by decide +kernel
theorem d_Lw_law_190 : decode b_Lw_law 190 = .ok (.iaload, 1) := by decide +kernel
theorem d_Lw_law_191 : decode b_Lw_law 191 = .ok (.aload_n 0, 1) := by decide +kernel
theorem d_Lw_law_192 : decode b_Lw_law 192 = .ok (.iload_n 3, 1) := by decide +kernel
theorem d_Lw_law_193 : decode b_Lw_law 193 = .ok (.iconst 2, 1) := by decide +kernel
theorem d_Lw_law_194 : decode b_Lw_law 194 = .ok (.iadd, 1) := by decide +kernel
theorem d_Lw_law_195 : decode b_Lw_law 195 = .ok (.iaload, 1) := by decide +kernel
theorem d_Lw_law_196 : decode b_Lw_law 196 = .ok (.i2l, 1) := by decide +kernel
theorem d_Lw_law_197 : decode b_Lw_law 197 = .ok (.bipush 32, 2) := by decide +kernel
theorem d_Lw_law_199 : decode b_Lw_law 199 = .ok (.lshl, 1) := by decide +kernel
theorem d_Lw_law_200 : decode b_Lw_law 200 = .ok (.aload_n 0, 1) := by decide +kernel
theorem d_Lw_law_201 : decode b_Lw_law 201 = .ok (.iload_n 3, 1) := by decide +kernel
theorem d_Lw_law_202 : decode b_Lw_law 202 = .ok (.iconst 3, 1) := by decide +kernel
theorem d_Lw_law_203 : decode b_Lw_law 203 = .ok (.iadd, 1) := by decide +kernel
theorem d_Lw_law_204 : decode b_Lw_law 204 = .ok (.iaload, 1) := by decide +kernel
theorem d_Lw_law_205 : decode b_Lw_law 205 = .ok (.i2l, 1) := by decide +kernel
theorem d_Lw_law_206 : decode b_Lw_law 206 = .ok (.ldc2_w 21, 3) := by decide +kernel
theorem d_Lw_law_209 : decode b_Lw_law 209 = .ok (.land, 1) := by decide +kernel
theorem d_Lw_law_210 : decode b_Lw_law 210 = .ok (.lor, 1) := by decide +kernel
theorem d_Lw_law_211 : decode b_Lw_law 211 = .ok (.invokevirtual 27, 3) := by decide +kernel
theorem d_Lw_law_214 : decode b_Lw_law 214 = .ok (.if_icmp .eq 694, 3) := by decide +kernel
theorem d_Lw_law_217 : decode b_Lw_law 217 = .ok (.iconst 0, 1) := by decide +kernel
theorem d_Lw_law_218 : decode b_Lw_law 218 = .ok (.ireturn, 1) := by decide +kernel
theorem d_Lw_law_219 : decode b_Lw_law 219 = .ok (.aload_n 1, 1) := by decide +kernel
theorem d_Lw_law_220 : decode b_Lw_law 220 = .ok (.invokevirtual 28, 3) := by decide +kernel
theorem d_Lw_law_223 : decode b_Lw_law 223 = .ok (.aload_n 2, 1) := by decide +kernel
theorem d_Lw_law_224 : decode b_Lw_law 224 = .ok (.invokevirtual 32, 3) := by decide +kernel
theorem d_Lw_law_227 : decode b_Lw_law 227 = .ok (.if_icmp .eq 681, 3) := by decide +kernel
