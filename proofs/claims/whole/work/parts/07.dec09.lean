theorem d_Mo_often_252 : decode b_Mo_often 252 = .ok (.getfield 253, 3) := by decide +kernel
theorem d_Mo_often_255 : decode b_Mo_often 255 = .ok (.imul, 1) := by decide +kernel
theorem d_Mo_often_256 : decode b_Mo_often 256 = .ok (.iload 12, 2) := by decide +kernel
theorem d_Mo_often_258 : decode b_Mo_often 258 = .ok (.iadd, 1) := by decide +kernel
theorem d_Mo_often_259 : decode b_Mo_often 259 = .ok (.iaload, 1) := by decide +kernel
theorem d_Mo_often_260 : decode b_Mo_often 260 = .ok (.iload 8, 2) := by decide +kernel
theorem d_Mo_often_262 : decode b_Mo_often 262 = .ok (.iand, 1) := by decide +kernel
theorem d_Mo_often_263 : decode b_Mo_often 263 = .ok (.iload 11, 2) := by decide +kernel
theorem d_Mo_often_265 : decode b_Mo_often 265 = .ok (.iload 7, 2) := by decide +kernel
theorem d_Mo_often_267 : decode b_Mo_often 267 = .ok (.imul, 1) := by decide +kernel
theorem d_Mo_often_268 : decode b_Mo_often 268 = .ok (.ishl, 1) := by decide +kernel
theorem d_Mo_often_269 : decode b_Mo_often 269 = .ok (.iastore, 1) := by decide +kernel
theorem d_Mo_often_270 : decode b_Mo_often 270 = .ok (.iinc 12 1, 3) := by decide +kernel
theorem d_Mo_often_273 : decode b_Mo_often 273 = .ok (.goto (-93), 3) := by decide +kernel
theorem d_Mo_often_276 : decode b_Mo_often 276 = .ok (.aload_n 0, 1) := by decide +kernel
theorem d_Mo_often_277 : decode b_Mo_often 277 = .ok (.dup, 1) := by decide +kernel
theorem d_Mo_often_278 : decode b_Mo_often 278 = .ok (.getfield 256, 3) := by decide +kernel
theorem d_Mo_often_281 : decode b_Mo_often 281 = .ok (.iload 7, 2) := by decide +kernel
theorem d_Mo_often_283 : decode b_Mo_often 283 = .ok (.iadd, 1) := by decide +kernel
theorem d_Mo_often_284 : decode b_Mo_often 284 = .ok (.putfield 256, 3) := by decide +kernel
theorem d_Mo_often_287 : decode b_Mo_often 287 = .ok (.aload_n 0, 1) := by decide +kernel
theorem d_Mo_often_288 : decode b_Mo_often 288 = .ok (.lload 9, 2) := by decide +kernel
theorem d_Mo_often_290 : decode b_Mo_often 290 = .ok (.lload_n 1, 1) := by decide +kernel
theorem d_Mo_often_291 : decode b_Mo_often 291 = .ok (.invokestatic 263, 3) := by decide +kernel
theorem d_Mo_often_294 : decode b_Mo_often 294 = .ok (.iload 11, 2) := by decide +kernel
theorem d_Mo_often_296 : decode b_Mo_often 296 = .ok (.iload 7, 2) := by decide +kernel
theorem d_Mo_often_298 : decode b_Mo_often 298 = .ok (.imul, 1) := by decide +kernel
theorem d_Mo_often_299 : decode b_Mo_often 299 = .ok (.ishl, 1) := by decide +kernel
theorem d_Mo_often_300 : decode b_Mo_often 300 = .ok (.lload_n 1, 1) := by decide +kernel
theorem d_Mo_often_301 : decode b_Mo_often 301 = .ok (.invokestatic 267, 3) := by decide +kernel
theorem d_Mo_often_304 : decode b_Mo_often 304 = .ok (.iload 11, 2) := by decide +kernel
theorem d_Mo_often_306 : decode b_Mo_often 306 = .ok (.iload 7, 2) := by decide +kernel
theorem d_Mo_often_308 : decode b_Mo_often 308 = .ok (.imul, 1) := by decide +kernel
theorem d_Mo_often_309 : decode b_Mo_often 309 = .ok (.ishl, 1) := by decide +kernel
theorem d_Mo_often_310 : decode b_Mo_often 310 = .ok (.lload_n 1, 1) := by decide +kernel
theorem d_Mo_often_311 : decode b_Mo_often 311 = .ok (.invokestatic 270, 3) := by decide +kernel
theorem d_Mo_often_314 : decode b_Mo_often 314 = .ok (.ifCond .ne 10, 3) := by decide +kernel
theorem d_Mo_often_317 : decode b_Mo_often 317 = .ok (.iload 11, 2) := by decide +kernel
theorem d_Mo_often_319 : decode b_Mo_often 319 = .ok (.iload 5, 2) := by decide +kernel
theorem d_Mo_often_321 : decode b_Mo_often 321 = .ok (.if_icmp .lt 7, 3) := by decide +kernel
theorem d_Mo_often_324 : decode b_Mo_often 324 = .ok (.iconst 1, 1) := by decide +kernel
theorem d_Mo_often_325 : decode b_Mo_often 325 = .ok (.goto 4, 3) := by decide +kernel
theorem d_Mo_often_328 : decode b_Mo_often 328 = .ok (.iconst 0, 1) := by decide +kernel
theorem d_Mo_often_329 : decode b_Mo_often 329 = .ok (.invokestatic 310, 3) := by decide +kernel
theorem d_Mo_often_332 : decode b_Mo_often 332 = .ok (.invokevirtual 314, 3) := by decide +kernel
theorem d_Mo_often_335 : decode b_Mo_often 335 = .ok (.lstore 9, 2) := by decide +kernel
theorem d_Mo_often_337 : decode b_Mo_often 337 = .ok (.iinc 11 1, 3) := by decide +kernel
theorem d_Mo_often_340 : decode b_Mo_often 340 = .ok (.goto (-170), 3) := by decide +kernel
theorem d_Mo_often_343 : decode b_Mo_often 343 = .ok (.lload 9, 2) := by decide +kernel
theorem d_Mo_often_345 : decode b_Mo_often 345 = .ok (.lreturn, 1) := by decide +kernel
theorem d_Mo_build_0 : decode b_Mo_build 0 = .ok (.iconst 0, 1) := by decide +kernel
theorem d_Mo_build_1 : decode b_Mo_build 1 = .ok (.istore_n 2, 1) := by decide +kernel
theorem d_Mo_build_2 : decode b_Mo_build 2 = .ok (.aload_n 0, 1) := by decide +kernel
theorem d_Mo_build_3 : decode b_Mo_build 3 = .ok (.iconst 0, 1) := by decide +kernel
theorem d_Mo_build_4 : decode b_Mo_build 4 = .ok (.invokevirtual 321, 3) := by decide +kernel
theorem d_Mo_build_7 : decode b_Mo_build 7 = .ok (.aload_n 0, 1) := by decide +kernel
theorem d_Mo_build_8 : decode b_Mo_build 8 = .ok (.getfield 247, 3) := by decide +kernel
theorem d_Mo_build_11 : decode b_Mo_build 11 = .ok (.iload_n 1, 1) := by decide +kernel
theorem d_Mo_build_12 : decode b_Mo_build 12 = .ok (.if_icmp .ge 288, 3) := by decide +kernel
theorem d_Mo_build_15 : decode b_Mo_build 15 = .ok (.aload_n 0, 1) := by decide +kernel
theorem d_Mo_build_16 : decode b_Mo_build 16 = .ok (.aload_n 0, 1) := by decide +kernel
theorem d_Mo_build_17 : decode b_Mo_build 17 = .ok (.getfield 247, 3) := by decide +kernel
theorem d_Mo_build_20 : decode b_Mo_build 20 = .ok (.invokevirtual 181, 3) := by decide +kernel
theorem d_Mo_build_23 : decode b_Mo_build 23 = .ok (.istore_n 3, 1) := by decide +kernel
theorem d_Mo_build_24 : decode b_Mo_build 24 = .ok (.iload_n 3, 1) := by decide +kernel
theorem d_Mo_build_25 : decode b_Mo_build 25 = .ok (.bipush 40, 2) := by decide +kernel
theorem d_Mo_build_27 : decode b_Mo_build 27 = .ok (.if_icmp .ne 29, 3) := by decide +kernel
theorem d_Mo_build_30 : decode b_Mo_build 30 = .ok (.aload_n 0, 1) := by decide +kernel
theorem d_Mo_build_31 : decode b_Mo_build 31 = .ok (.dup, 1) := by decide +kernel
theorem d_Mo_build_32 : decode b_Mo_build 32 = .ok (.getfield 247, 3) := by decide +kernel
theorem d_Mo_build_35 : decode b_Mo_build 35 = .ok (.iconst 1, 1) := by decide +kernel
theorem d_Mo_build_36 : decode b_Mo_build 36 = .ok (.iadd, 1) := by decide +kernel
theorem d_Mo_build_37 : decode b_Mo_build 37 = .ok (.putfield 247, 3) := by decide +kernel
theorem d_Mo_build_40 : decode b_Mo_build 40 = .ok (.aload_n 0, 1) := by decide +kernel
theorem d_Mo_build_41 : decode b_Mo_build 41 = .ok (.iload_n 2, 1) := by decide +kernel
theorem d_Mo_build_42 : decode b_Mo_build 42 = .ok (.invokevirtual 318, 3) := by decide +kernel
theorem d_Mo_build_45 : decode b_Mo_build 45 = .ok (.iinc 2 1, 3) := by decide +kernel
theorem d_Mo_build_48 : decode b_Mo_build 48 = .ok (.aload_n 0, 1) := by decide +kernel
theorem d_Mo_build_49 : decode b_Mo_build 49 = .ok (.iload_n 2, 1) := by decide +kernel
theorem d_Mo_build_50 : decode b_Mo_build 50 = .ok (.invokevirtual 321, 3) := by decide +kernel
theorem d_Mo_build_53 : decode b_Mo_build 53 = .ok (.goto 244, 3) := by decide +kernel
theorem d_Mo_build_56 : decode b_Mo_build 56 = .ok (.iload_n 3, 1) := by decide +kernel
theorem d_Mo_build_57 : decode b_Mo_build 57 = .ok (.bipush 41, 2) := by decide +kernel
theorem d_Mo_build_59 : decode b_Mo_build 59 = .ok (.if_icmp .ne 59, 3) := by decide +kernel
theorem d_Mo_build_62 : decode b_Mo_build 62 = .ok (.aload_n 0, 1) := by decide +kernel
theorem d_Mo_build_63 : decode b_Mo_build 63 = .ok (.dup, 1) := by decide +kernel
theorem d_Mo_build_64 : decode b_Mo_build 64 = .ok (.getfield 247, 3) := by decide +kernel
theorem d_Mo_build_67 : decode b_Mo_build 67 = .ok (.iconst 1, 1) := by decide +kernel
theorem d_Mo_build_68 : decode b_Mo_build 68 = .ok (.iadd, 1) := by decide +kernel
theorem d_Mo_build_69 : decode b_Mo_build 69 = .ok (.putfield 247, 3) := by decide +kernel
theorem d_Mo_build_72 : decode b_Mo_build 72 = .ok (.aload_n 0, 1) := by decide +kernel
theorem d_Mo_build_73 : decode b_Mo_build 73 = .ok (.iload_n 2, 1) := by decide +kernel
theorem d_Mo_build_74 : decode b_Mo_build 74 = .ok (.invokevirtual 323, 3) := by decide +kernel
theorem d_Mo_build_77 : decode b_Mo_build 77 = .ok (.iinc 2 (-1), 3) := by decide +kernel
theorem d_Mo_build_80 : decode b_Mo_build 80 = .ok (.aload_n 0, 1) := by decide +kernel
theorem d_Mo_build_81 : decode b_Mo_build 81 = .ok (.getfield 114, 3) := by decide +kernel
theorem d_Mo_build_84 : decode b_Mo_build 84 = .ok (.iload_n 2, 1) := by decide +kernel
theorem d_Mo_build_85 : decode b_Mo_build 85 = .ok (.aload_n 0, 1) := by decide +kernel
theorem d_Mo_build_86 : decode b_Mo_build 86 = .ok (.getfield 107, 3) := by decide +kernel
theorem d_Mo_build_89 : decode b_Mo_build 89 = .ok (.iload_n 2, 1) := by decide +kernel
theorem d_Mo_build_90 : decode b_Mo_build 90 = .ok (.iconst 1, 1) := by decide +kernel
theorem d_Mo_build_91 : decode b_Mo_build 91 = .ok (.iadd, 1) := by decide +kernel
theorem d_Mo_build_92 : decode b_Mo_build 92 = .ok (.laload, 1) := by decide +kernel
theorem d_Mo_build_93 : decode b_Mo_build 93 = .ok (.lastore, 1) := by decide +kernel
theorem d_Mo_build_94 : decode b_Mo_build 94 = .ok (.aload_n 0, 1) := by decide +kernel
theorem d_Mo_build_95 : decode b_Mo_build 95 = .ok (.getfield 123, 3) := by decide +kernel
theorem d_Mo_build_98 : decode b_Mo_build 98 = .ok (.iload_n 2, 1) := by decide +kernel
theorem d_Mo_build_99 : decode b_Mo_build 99 = .ok (.aload_n 0, 1) := by decide +kernel
theorem d_Mo_build_100 : decode b_Mo_build 100 = .ok (.getfield 126, 3) := by decide +kernel
theorem d_Mo_build_103 : decode b_Mo_build 103 = .ok (.iload_n 2, 1) := by decide +kernel
theorem d_Mo_build_104 : decode b_Mo_build 104 = .ok (.iconst 1, 1) := by decide +kernel
theorem d_Mo_build_105 : decode b_Mo_build 105 = .ok (.iadd, 1) := by decide +kernel
theorem d_Mo_build_106 : decode b_Mo_build 106 = .ok (.iaload, 1) := by decide +kernel
theorem d_Mo_build_107 : decode b_Mo_build 107 = .ok (.iastore, 1) := by decide +kernel
theorem d_Mo_build_108 : decode b_Mo_build 108 = .ok (.aload_n 0, 1) := by decide +kernel
theorem d_Mo_build_109 : decode b_Mo_build 109 = .ok (.getfield 104, 3) := by decide +kernel
theorem d_Mo_build_112 : decode b_Mo_build 112 = .ok (.iload_n 2, 1) := by decide +kernel
theorem d_Mo_build_113 : decode b_Mo_build 113 = .ok (.iconst 1, 1) := by decide +kernel
theorem d_Mo_build_114 : decode b_Mo_build 114 = .ok (.bastore, 1) := by decide +kernel
theorem d_Mo_build_115 : decode b_Mo_build 115 = .ok (.goto 182, 3) := by decide +kernel
theorem d_Mo_build_118 : decode b_Mo_build 118 = .ok (.iload_n 3, 1) := by decide +kernel
theorem d_Mo_build_119 : decode b_Mo_build 119 = .ok (.bipush 124, 2) := by decide +kernel
theorem d_Mo_build_121 : decode b_Mo_build 121 = .ok (.if_icmp .ne 21, 3) := by decide +kernel
theorem d_Mo_build_124 : decode b_Mo_build 124 = .ok (.aload_n 0, 1) := by decide +kernel
theorem d_Mo_build_125 : decode b_Mo_build 125 = .ok (.dup, 1) := by decide +kernel
theorem d_Mo_build_126 : decode b_Mo_build 126 = .ok (.getfield 247, 3) := by decide +kernel
theorem d_Mo_build_129 : decode b_Mo_build 129 = .ok (.iconst 1, 1) := by decide +kernel
theorem d_Mo_build_130 : decode b_Mo_build 130 = .ok (.iadd, 1) := by decide +kernel
theorem d_Mo_build_131 : decode b_Mo_build 131 = .ok (.putfield 247, 3) := by decide +kernel
theorem d_Mo_build_134 : decode b_Mo_build 134 = .ok (.aload_n 0, 1) := by decide +kernel
theorem d_Mo_build_135 : decode b_Mo_build 135 = .ok (.iload_n 2, 1) := by decide +kernel
theorem d_Mo_build_136 : decode b_Mo_build 136 = .ok (.invokevirtual 323, 3) := by decide +kernel
theorem d_Mo_build_139 : decode b_Mo_build 139 = .ok (.goto 158, 3) := by decide +kernel
theorem d_Mo_build_142 : decode b_Mo_build 142 = .ok (.iload_n 3, 1) := by decide +kernel
theorem d_Mo_build_143 : decode b_Mo_build 143 = .ok (.invokestatic 283, 3) := by decide +kernel
theorem d_Mo_build_146 : decode b_Mo_build 146 = .ok (.ifCond .eq 129, 3) := by decide +kernel
theorem d_Mo_build_149 : decode b_Mo_build 149 = .ok (.aload_n 0, 1) := by decide +kernel
theorem d_Mo_build_150 : decode b_Mo_build 150 = .ok (.iload_n 2, 1) := by decide +kernel
theorem d_Mo_build_151 : decode b_Mo_build 151 = .ok (.invokevirtual 318, 3) := by decide +kernel
theorem d_Mo_build_154 : decode b_Mo_build 154 = .ok (.sipush 511, 3) := by decide +kernel
theorem d_Mo_build_157 : decode b_Mo_build 157 = .ok (.istore 4, 2) := by decide +kernel
theorem d_Mo_build_159 : decode b_Mo_build 159 = .ok (.iload_n 3, 1) := by decide +kernel
theorem d_Mo_build_160 : decode b_Mo_build 160 = .ok (.bipush 91, 2) := by decide +kernel
theorem d_Mo_build_162 : decode b_Mo_build 162 = .ok (.if_icmp .ne 12, 3) := by decide +kernel
theorem d_Mo_build_165 : decode b_Mo_build 165 = .ok (.aload_n 0, 1) := by decide +kernel
theorem d_Mo_build_166 : decode b_Mo_build 166 = .ok (.invokevirtual 286, 3) := by decide +kernel
theorem d_Mo_build_169 : decode b_Mo_build 169 = .ok (.istore 4, 2) := by decide +kernel
theorem d_Mo_build_171 : decode b_Mo_build 171 = .ok (.goto 33, 3) := by decide +kernel
theorem d_Mo_build_174 : decode b_Mo_build 174 = .ok (.iload_n 3, 1) := by decide +kernel
theorem d_Mo_build_175 : decode b_Mo_build 175 = .ok (.bipush 46, 2) := by decide +kernel
theorem d_Mo_build_177 : decode b_Mo_build 177 = .ok (.if_icmp .ne 9, 3) := by decide +kernel
theorem d_Mo_build_180 : decode b_Mo_build 180 = .ok (.sipush 511, 3) := by decide +kernel
theorem d_Mo_build_183 : decode b_Mo_build 183 = .ok (.goto 9, 3) := by decide +kernel
theorem d_Mo_build_186 : decode b_Mo_build 186 = .ok (.iconst 1, 1) := by decide +kernel
theorem d_Mo_build_187 : decode b_Mo_build 187 = .ok (.iload_n 3, 1) := by decide +kernel
theorem d_Mo_build_188 : decode b_Mo_build 188 = .ok (.invokestatic 277, 3) := by decide +kernel
theorem d_Mo_build_191 : decode b_Mo_build 191 = .ok (.ishl, 1) := by decide +kernel
theorem d_Mo_build_192 : decode b_Mo_build 192 = .ok (.istore 4, 2) := by decide +kernel
theorem d_Mo_build_194 : decode b_Mo_build 194 = .ok (.aload_n 0, 1) := by decide +kernel
theorem d_Mo_build_195 : decode b_Mo_build 195 = .ok (.dup, 1) := by decide +kernel
theorem d_Mo_build_196 : decode b_Mo_build 196 = .ok (.getfield 247, 3) := by decide +kernel
theorem d_Mo_build_199 : decode b_Mo_build 199 = .ok (.iconst 1, 1) := by decide +kernel
theorem d_Mo_build_200 : decode b_Mo_build 200 = .ok (.iadd, 1) := by decide +kernel
theorem d_Mo_build_201 : decode b_Mo_build 201 = .ok (.putfield 247, 3) := by decide +kernel
theorem d_Mo_build_204 : decode b_Mo_build 204 = .ok (.aload_n 0, 1) := by decide +kernel
theorem d_Mo_build_205 : decode b_Mo_build 205 = .ok (.getfield 63, 3) := by decide +kernel
theorem d_Mo_build_208 : decode b_Mo_build 208 = .ok (.bipush 10, 2) := by decide +kernel
theorem d_Mo_build_210 : decode b_Mo_build 210 = .ok (.aload_n 0, 1) := by decide +kernel
theorem d_Mo_build_211 : decode b_Mo_build 211 = .ok (.getfield 253, 3) := by decide +kernel
theorem d_Mo_build_214 : decode b_Mo_build 214 = .ok (.imul, 1) := by decide +kernel
theorem d_Mo_build_215 : decode b_Mo_build 215 = .ok (.aload_n 0, 1) := by decide +kernel
theorem d_Mo_build_216 : decode b_Mo_build 216 = .ok (.getfield 256, 3) := by decide +kernel
theorem d_Mo_build_219 : decode b_Mo_build 219 = .ok (.iadd, 1) := by decide +kernel
theorem d_Mo_build_220 : decode b_Mo_build 220 = .ok (.iload 4, 2) := by decide +kernel
theorem d_Mo_build_222 : decode b_Mo_build 222 = .ok (.iastore, 1) := by decide +kernel
theorem d_Mo_build_223 : decode b_Mo_build 223 = .ok (.aload_n 0, 1) := by decide +kernel
theorem d_Mo_build_224 : decode b_Mo_build 224 = .ok (.getfield 123, 3) := by decide +kernel
theorem d_Mo_build_227 : decode b_Mo_build 227 = .ok (.iload_n 2, 1) := by decide +kernel
theorem d_Mo_build_228 : decode b_Mo_build 228 = .ok (.aload_n 0, 1) := by decide +kernel
theorem d_Mo_build_229 : decode b_Mo_build 229 = .ok (.getfield 256, 3) := by decide +kernel
theorem d_Mo_build_232 : decode b_Mo_build 232 = .ok (.iastore, 1) := by decide +kernel
theorem d_Mo_build_233 : decode b_Mo_build 233 = .ok (.aload_n 0, 1) := by decide +kernel
theorem d_Mo_build_234 : decode b_Mo_build 234 = .ok (.getfield 114, 3) := by decide +kernel
theorem d_Mo_build_237 : decode b_Mo_build 237 = .ok (.iload_n 2, 1) := by decide +kernel
theorem d_Mo_build_238 : decode b_Mo_build 238 = .ok (.iconst 1, 1) := by decide +kernel
theorem d_Mo_build_239 : decode b_Mo_build 239 = .ok (.aload_n 0, 1) := by decide +kernel
theorem d_Mo_build_240 : decode b_Mo_build 240 = .ok (.getfield 256, 3) := by decide +kernel
theorem d_Mo_build_243 : decode b_Mo_build 243 = .ok (.ishl, 1) := by decide +kernel
theorem d_Mo_build_244 : decode b_Mo_build 244 = .ok (.iconst 1, 1) := by decide +kernel
theorem d_Mo_build_245 : decode b_Mo_build 245 = .ok (.aload_n 0, 1) := by decide +kernel
theorem d_Mo_build_246 : decode b_Mo_build 246 = .ok (.getfield 256, 3) := by decide +kernel
theorem d_Mo_build_249 : decode b_Mo_build 249 = .ok (.ishl, 1) := by decide +kernel
theorem d_Mo_build_250 : decode b_Mo_build 250 = .ok (.iconst 0, 1) := by decide +kernel
theorem d_Mo_build_251 : decode b_Mo_build 251 = .ok (.invokestatic 310, 3) := by decide +kernel
theorem d_Mo_build_254 : decode b_Mo_build 254 = .ok (.lastore, 1) := by decide +kernel
theorem d_Mo_build_255 : decode b_Mo_build 255 = .ok (.aload_n 0, 1) := by decide +kernel
theorem d_Mo_build_256 : decode b_Mo_build 256 = .ok (.getfield 104, 3) := by decide +kernel
theorem d_Mo_build_259 : decode b_Mo_build 259 = .ok (.iload_n 2, 1) := by decide +kernel
theorem d_Mo_build_260 : decode b_Mo_build 260 = .ok (.iconst 1, 1) := by decide +kernel
theorem d_Mo_build_261 : decode b_Mo_build 261 = .ok (.bastore, 1) := by decide +kernel
theorem d_Mo_build_262 : decode b_Mo_build 262 = .ok (.aload_n 0, 1) := by decide +kernel
theorem d_Mo_build_263 : decode b_Mo_build 263 = .ok (.dup, 1) := by decide +kernel
theorem d_Mo_build_264 : decode b_Mo_build 264 = .ok (.getfield 256, 3) := by decide +kernel
theorem d_Mo_build_267 : decode b_Mo_build 267 = .ok (.iconst 1, 1) := by decide +kernel
theorem d_Mo_build_268 : decode b_Mo_build 268 = .ok (.iadd, 1) := by decide +kernel
theorem d_Mo_build_269 : decode b_Mo_build 269 = .ok (.putfield 256, 3) := by decide +kernel
theorem d_Mo_build_272 : decode b_Mo_build 272 = .ok (.goto 25, 3) := by decide +kernel
theorem d_Mo_build_275 : decode b_Mo_build 275 = .ok (.aload_n 0, 1) := by decide +kernel
theorem d_Mo_build_276 : decode b_Mo_build 276 = .ok (.getfield 114, 3) := by decide +kernel
theorem d_Mo_build_279 : decode b_Mo_build 279 = .ok (.iload_n 2, 1) := by decide +kernel
theorem d_Mo_build_280 : decode b_Mo_build 280 = .ok (.aload_n 0, 1) := by decide +kernel
theorem d_Mo_build_281 : decode b_Mo_build 281 = .ok (.aload_n 0, 1) := by decide +kernel
theorem d_Mo_build_282 : decode b_Mo_build 282 = .ok (.getfield 114, 3) := by decide +kernel
theorem d_Mo_build_285 : decode b_Mo_build 285 = .ok (.iload_n 2, 1) := by decide +kernel
theorem d_Mo_build_286 : decode b_Mo_build 286 = .ok (.laload, 1) := by decide +kernel
theorem d_Mo_build_287 : decode b_Mo_build 287 = .ok (.aload_n 0, 1) := by decide +kernel
theorem d_Mo_build_288 : decode b_Mo_build 288 = .ok (.getfield 123, 3) := by decide +kernel
theorem d_Mo_build_291 : decode b_Mo_build 291 = .ok (.iload_n 2, 1) := by decide +kernel
theorem d_Mo_build_292 : decode b_Mo_build 292 = .ok (.iaload, 1) := by decide +kernel
theorem d_Mo_build_293 : decode b_Mo_build 293 = .ok (.invokevirtual 326, 3) := by decide +kernel
theorem d_Mo_build_296 : decode b_Mo_build 296 = .ok (.lastore, 1) := by decide +kernel
theorem d_Mo_build_297 : decode b_Mo_build 297 = .ok (.goto (-290), 3) := by decide +kernel
theorem d_Mo_build_300 : decode b_Mo_build 300 = .ok (.aload_n 0, 1) := by decide +kernel
theorem d_Mo_build_301 : decode b_Mo_build 301 = .ok (.iconst 0, 1) := by decide +kernel
theorem d_Mo_build_302 : decode b_Mo_build 302 = .ok (.invokevirtual 323, 3) := by decide +kernel
theorem d_Mo_build_305 : decode b_Mo_build 305 = .ok (.aload_n 0, 1) := by decide +kernel
theorem d_Mo_build_306 : decode b_Mo_build 306 = .ok (.getfield 107, 3) := by decide +kernel
theorem d_Mo_build_309 : decode b_Mo_build 309 = .ok (.iconst 0, 1) := by decide +kernel
theorem d_Mo_build_310 : decode b_Mo_build 310 = .ok (.laload, 1) := by decide +kernel
theorem d_Mo_build_311 : decode b_Mo_build 311 = .ok (.lreturn, 1) := by decide +kernel
theorem d_Mo_lead_0 : decode b_Mo_lead 0 = .ok (.iconst 0, 1) := by decide +kernel
theorem d_Mo_lead_1 : decode b_Mo_lead 1 = .ok (.istore 4, 2) := by decide +kernel
theorem d_Mo_lead_3 : decode b_Mo_lead 3 = .ok (.iconst 0, 1) := by decide +kernel
theorem d_Mo_lead_4 : decode b_Mo_lead 4 = .ok (.istore 5, 2) := by decide +kernel
theorem d_Mo_lead_6 : decode b_Mo_lead 6 = .ok (.iload 5, 2) := by decide +kernel
theorem d_Mo_lead_8 : decode b_Mo_lead 8 = .ok (.bipush 11, 2) := by decide +kernel
theorem d_Mo_lead_10 : decode b_Mo_lead 10 = .ok (.if_icmp .ge 40, 3) := by decide +kernel
theorem d_Mo_lead_13 : decode b_Mo_lead 13 = .ok (.iload 4, 2) := by decide +kernel
theorem d_Mo_lead_15 : decode b_Mo_lead 15 = .ok (.iload_n 2, 1) := by decide +kernel
theorem d_Mo_lead_16 : decode b_Mo_lead 16 = .ok (.iload 5, 2) := by decide +kernel
theorem d_Mo_lead_18 : decode b_Mo_lead 18 = .ok (.ishr, 1) := by decide +kernel
theorem d_Mo_lead_19 : decode b_Mo_lead 19 = .ok (.iconst 1, 1) := by decide +kernel
theorem d_Mo_lead_20 : decode b_Mo_lead 20 = .ok (.iand, 1) := by decide +kernel
theorem d_Mo_lead_21 : decode b_Mo_lead 21 = .ok (.iconst 1, 1) := by decide +kernel
theorem d_Mo_lead_22 : decode b_Mo_lead 22 = .ok (.if_icmp .ne 18, 3) := by decide +kernel
theorem d_Mo_lead_25 : decode b_Mo_lead 25 = .ok (.aload_n 0, 1) := by decide +kernel
theorem d_Mo_lead_26 : decode b_Mo_lead 26 = .ok (.getfield 66, 3) := by decide +kernel
theorem d_Mo_lead_29 : decode b_Mo_lead 29 = .ok (.bipush 11, 2) := by decide +kernel
theorem d_Mo_lead_31 : decode b_Mo_lead 31 = .ok (.iload_n 1, 1) := by decide +kernel
theorem d_Mo_lead_32 : decode b_Mo_lead 32 = .ok (.imul, 1) := by decide +kernel
theorem d_Mo_lead_33 : decode b_Mo_lead 33 = .ok (.iload 5, 2) := by decide +kernel
theorem d_Mo_lead_35 : decode b_Mo_lead 35 = .ok (.iadd, 1) := by decide +kernel
theorem d_Mo_lead_36 : decode b_Mo_lead 36 = .ok (.iaload, 1) := by decide +kernel
theorem d_Mo_lead_37 : decode b_Mo_lead 37 = .ok (.goto 4, 3) := by decide +kernel
theorem d_Mo_lead_40 : decode b_Mo_lead 40 = .ok (.iconst 0, 1) := by decide +kernel
theorem d_Mo_lead_41 : decode b_Mo_lead 41 = .ok (.ior, 1) := by decide +kernel
theorem d_Mo_lead_42 : decode b_Mo_lead 42 = .ok (.istore 4, 2) := by decide +kernel
theorem d_Mo_lead_44 : decode b_Mo_lead 44 = .ok (.iinc 5 1, 3) := by decide +kernel
theorem d_Mo_lead_47 : decode b_Mo_lead 47 = .ok (.goto (-41), 3) := by decide +kernel
theorem d_Mo_lead_50 : decode b_Mo_lead 50 = .ok (.iconst 0, 1) := by decide +kernel
theorem d_Mo_lead_51 : decode b_Mo_lead 51 = .ok (.istore 5, 2) := by decide +kernel
theorem d_Mo_lead_53 : decode b_Mo_lead 53 = .ok (.iconst 0, 1) := by decide +kernel
theorem d_Mo_lead_54 : decode b_Mo_lead 54 = .ok (.istore 6, 2) := by decide +kernel
theorem d_Mo_lead_56 : decode b_Mo_lead 56 = .ok (.iload 6, 2) := by decide +kernel
theorem d_Mo_lead_58 : decode b_Mo_lead 58 = .ok (.aload_n 0, 1) := by decide +kernel
theorem d_Mo_lead_59 : decode b_Mo_lead 59 = .ok (.getfield 76, 3) := by decide +kernel
theorem d_Mo_lead_62 : decode b_Mo_lead 62 = .ok (.iload_n 1, 1) := by decide +kernel
theorem d_Mo_lead_63 : decode b_Mo_lead 63 = .ok (.iaload, 1) := by decide +kernel
theorem d_Mo_lead_64 : decode b_Mo_lead 64 = .ok (.if_icmp .ge 53, 3) := by decide +kernel
theorem d_Mo_lead_67 : decode b_Mo_lead 67 = .ok (.iload 5, 2) := by decide +kernel
theorem d_Mo_lead_69 : decode b_Mo_lead 69 = .ok (.iload 4, 2) := by decide +kernel
theorem d_Mo_lead_71 : decode b_Mo_lead 71 = .ok (.iload 6, 2) := by decide +kernel
theorem d_Mo_lead_73 : decode b_Mo_lead 73 = .ok (.ishr, 1) := by decide +kernel
theorem d_Mo_lead_74 : decode b_Mo_lead 74 = .ok (.iconst 1, 1) := by decide +kernel
theorem d_Mo_lead_75 : decode b_Mo_lead 75 = .ok (.iand, 1) := by decide +kernel
theorem d_Mo_lead_76 : decode b_Mo_lead 76 = .ok (.iconst 1, 1) := by decide +kernel
theorem d_Mo_lead_77 : decode b_Mo_lead 77 = .ok (.if_icmp .ne 30, 3) := by decide +kernel
theorem d_Mo_lead_80 : decode b_Mo_lead 80 = .ok (.aload_n 0, 1) := by decide +kernel
theorem d_Mo_lead_81 : decode b_Mo_lead 81 = .ok (.getfield 63, 3) := by decide +kernel
theorem d_Mo_lead_84 : decode b_Mo_lead 84 = .ok (.bipush 10, 2) := by decide +kernel
theorem d_Mo_lead_86 : decode b_Mo_lead 86 = .ok (.iload_n 1, 1) := by decide +kernel
theorem d_Mo_lead_87 : decode b_Mo_lead 87 = .ok (.imul, 1) := by decide +kernel
theorem d_Mo_lead_88 : decode b_Mo_lead 88 = .ok (.iload 6, 2) := by decide +kernel
theorem d_Mo_lead_90 : decode b_Mo_lead 90 = .ok (.iadd, 1) := by decide +kernel
theorem d_Mo_lead_91 : decode b_Mo_lead 91 = .ok (.iaload, 1) := by decide +kernel
theorem d_Mo_lead_92 : decode b_Mo_lead 92 = .ok (.iload_n 3, 1) := by decide +kernel
theorem d_Mo_lead_93 : decode b_Mo_lead 93 = .ok (.ishr, 1) := by decide +kernel
theorem d_Mo_lead_94 : decode b_Mo_lead 94 = .ok (.iconst 1, 1) := by decide +kernel
theorem d_Mo_lead_95 : decode b_Mo_lead 95 = .ok (.iand, 1) := by decide +kernel
theorem d_Mo_lead_96 : decode b_Mo_lead 96 = .ok (.iconst 1, 1) := by decide +kernel
theorem d_Mo_lead_97 : decode b_Mo_lead 97 = .ok (.if_icmp .ne 10, 3) := by decide +kernel
theorem d_Mo_lead_100 : decode b_Mo_lead 100 = .ok (.iconst 1, 1) := by decide +kernel
theorem d_Mo_lead_101 : decode b_Mo_lead 101 = .ok (.iload 6, 2) := by decide +kernel
theorem d_Mo_lead_103 : decode b_Mo_lead 103 = .ok (.ishl, 1) := by decide +kernel
theorem d_Mo_lead_104 : decode b_Mo_lead 104 = .ok (.goto 4, 3) := by decide +kernel
theorem d_Mo_lead_107 : decode b_Mo_lead 107 = .ok (.iconst 0, 1) := by decide +kernel
theorem d_Mo_lead_108 : decode b_Mo_lead 108 = .ok (.ior, 1) := by decide +kernel
theorem d_Mo_lead_109 : decode b_Mo_lead 109 = .ok (.istore 5, 2) := by decide +kernel
theorem d_Mo_lead_111 : decode b_Mo_lead 111 = .ok (.iinc 6 1, 3) := by decide +kernel
theorem d_Mo_lead_114 : decode b_Mo_lead 114 = .ok (.goto (-58), 3) := by decide +kernel
theorem d_Mo_lead_117 : decode b_Mo_lead 117 = .ok (.iload 5, 2) := by decide +kernel
theorem d_Mo_lead_119 : decode b_Mo_lead 119 = .ok (.ireturn, 1) := by decide +kernel
theorem d_Mo_idOf_0 : decode b_Mo_idOf 0 = .ok (.aload_n 0, 1) := by decide +kernel
theorem d_Mo_idOf_1 : decode b_Mo_idOf 1 = .ok (.getfield 132, 3) := by decide +kernel
theorem d_Mo_idOf_4 : decode b_Mo_idOf 4 = .ok (.iload_n 1, 1) := by decide +kernel
theorem d_Mo_idOf_5 : decode b_Mo_idOf 5 = .ok (.sipush 1024, 3) := by decide +kernel
theorem d_Mo_idOf_8 : decode b_Mo_idOf 8 = .ok (.if_icmp .ne 9, 3) := by decide +kernel
theorem d_Mo_idOf_11 : decode b_Mo_idOf 11 = .ok (.sipush 1024, 3) := by decide +kernel
theorem d_Mo_idOf_14 : decode b_Mo_idOf 14 = .ok (.goto 4, 3) := by decide +kernel
theorem d_Mo_idOf_17 : decode b_Mo_idOf 17 = .ok (.iload_n 1, 1) := by decide +kernel
theorem d_Mo_idOf_18 : decode b_Mo_idOf 18 = .ok (.iaload, 1) := by decide +kernel
theorem d_Mo_idOf_19 : decode b_Mo_idOf 19 = .ok (.ireturn, 1) := by decide +kernel
theorem d_Mo_isEnd_0 : decode b_Mo_isEnd 0 = .ok (.iload_n 2, 1) := by decide +kernel
theorem d_Mo_isEnd_1 : decode b_Mo_isEnd 1 = .ok (.aload_n 0, 1) := by decide +kernel
theorem d_Mo_isEnd_2 : decode b_Mo_isEnd 2 = .ok (.getfield 69, 3) := by decide +kernel
theorem d_Mo_isEnd_5 : decode b_Mo_isEnd 5 = .ok (.iload_n 1, 1) := by decide +kernel
theorem d_Mo_isEnd_6 : decode b_Mo_isEnd 6 = .ok (.iaload, 1) := by decide +kernel
theorem d_Mo_isEnd_7 : decode b_Mo_isEnd 7 = .ok (.iand, 1) := by decide +kernel
theorem d_Mo_isEnd_8 : decode b_Mo_isEnd 8 = .ok (.ifCond .ne 19, 3) := by decide +kernel
theorem d_Mo_isEnd_11 : decode b_Mo_isEnd 11 = .ok (.iload_n 2, 1) := by decide +kernel
theorem d_Mo_isEnd_12 : decode b_Mo_isEnd 12 = .ok (.sipush 1024, 3) := by decide +kernel
theorem d_Mo_isEnd_15 : decode b_Mo_isEnd 15 = .ok (.if_icmp .ne 16, 3) := by decide +kernel
theorem d_Mo_isEnd_18 : decode b_Mo_isEnd 18 = .ok (.aload_n 0, 1) := by decide +kernel
theorem d_Mo_isEnd_19 : decode b_Mo_isEnd 19 = .ok (.getfield 72, 3) := by decide +kernel
theorem d_Mo_isEnd_22 : decode b_Mo_isEnd 22 = .ok (.iload_n 1, 1) := by decide +kernel
theorem d_Mo_isEnd_23 : decode b_Mo_isEnd 23 = .ok (.baload, 1) := by decide +kernel
theorem d_Mo_isEnd_24 : decode b_Mo_isEnd 24 = .ok (.ifCond .eq 7, 3) := by decide +kernel
theorem d_Mo_isEnd_27 : decode b_Mo_isEnd 27 = .ok (.iconst 1, 1) := by decide +kernel
theorem d_Mo_isEnd_28 : decode b_Mo_isEnd 28 = .ok (.goto 4, 3) := by decide +kernel
theorem d_Mo_isEnd_31 : decode b_Mo_isEnd 31 = .ok (.iconst 0, 1) := by decide +kernel
theorem d_Mo_isEnd_32 : decode b_Mo_isEnd 32 = .ok (.ireturn, 1) := by decide +kernel
theorem d_Mo_goesAlike_0 : decode b_Mo_goesAlike 0 = .ok (.aload_n 0, 1) := by decide +kernel
theorem d_Mo_goesAlike_1 : decode b_Mo_goesAlike 1 = .ok (.getfield 138, 3) := by decide +kernel
theorem d_Mo_goesAlike_4 : decode b_Mo_goesAlike 4 = .ok (.iload_n 1, 1) := by decide +kernel
theorem d_Mo_goesAlike_5 : decode b_Mo_goesAlike 5 = .ok (.iaload, 1) := by decide +kernel
theorem d_Mo_goesAlike_6 : decode b_Mo_goesAlike 6 = .ok (.aload_n 0, 1) := by decide +kernel
theorem d_Mo_goesAlike_7 : decode b_Mo_goesAlike 7 = .ok (.getfield 138, 3) := by decide +kernel
theorem d_Mo_goesAlike_10 : decode b_Mo_goesAlike 10 = .ok (.iload_n 2, 1) := by decide +kernel
theorem d_Mo_goesAlike_11 : decode b_Mo_goesAlike 11 = .ok (.iaload, 1) := by decide +kernel
theorem d_Mo_goesAlike_12 : decode b_Mo_goesAlike 12 = .ok (.if_icmp .ne 7, 3) := by decide +kernel
theorem d_Mo_goesAlike_15 : decode b_Mo_goesAlike 15 = .ok (.iconst 1, 1) := by decide +kernel
theorem d_Mo_goesAlike_16 : decode b_Mo_goesAlike 16 = .ok (.goto 4, 3) := by decide +kernel
theorem d_Mo_goesAlike_19 : decode b_Mo_goesAlike 19 = .ok (.iconst 0, 1) := by decide +kernel
theorem d_Mo_goesAlike_20 : decode b_Mo_goesAlike 20 = .ok (.istore_n 3, 1) := by decide +kernel
theorem d_Mo_goesAlike_21 : decode b_Mo_goesAlike 21 = .ok (.iconst 0, 1) := by decide +kernel
theorem d_Mo_goesAlike_22 : decode b_Mo_goesAlike 22 = .ok (.istore 4, 2) := by decide +kernel
theorem d_Mo_goesAlike_24 : decode b_Mo_goesAlike 24 = .ok (.iload 4, 2) := by decide +kernel
theorem d_Mo_goesAlike_26 : decode b_Mo_goesAlike 26 = .ok (.bipush 9, 2) := by decide +kernel
theorem d_Mo_goesAlike_28 : decode b_Mo_goesAlike 28 = .ok (.if_icmp .ge 56, 3) := by decide +kernel
theorem d_Mo_goesAlike_31 : decode b_Mo_goesAlike 31 = .ok (.iload_n 3, 1) := by decide +kernel
theorem d_Mo_goesAlike_32 : decode b_Mo_goesAlike 32 = .ok (.ifCond .eq 52, 3) := by decide +kernel
theorem d_Mo_goesAlike_35 : decode b_Mo_goesAlike 35 = .ok (.aload_n 0, 1) := by decide +kernel
theorem d_Mo_goesAlike_36 : decode b_Mo_goesAlike 36 = .ok (.getfield 138, 3) := by decide +kernel
theorem d_Mo_goesAlike_39 : decode b_Mo_goesAlike 39 = .ok (.aload_n 0, 1) := by decide +kernel
theorem d_Mo_goesAlike_40 : decode b_Mo_goesAlike 40 = .ok (.getfield 135, 3) := by decide +kernel
theorem d_Mo_goesAlike_43 : decode b_Mo_goesAlike 43 = .ok (.bipush 9, 2) := by decide +kernel
theorem d_Mo_goesAlike_45 : decode b_Mo_goesAlike 45 = .ok (.iload_n 1, 1) := by decide +kernel
theorem d_Mo_goesAlike_46 : decode b_Mo_goesAlike 46 = .ok (.imul, 1) := by decide +kernel
theorem d_Mo_goesAlike_47 : decode b_Mo_goesAlike 47 = .ok (.iload 4, 2) := by decide +kernel
theorem d_Mo_goesAlike_49 : decode b_Mo_goesAlike 49 = .ok (.iadd, 1) := by decide +kernel
theorem d_Mo_goesAlike_50 : decode b_Mo_goesAlike 50 = .ok (.iaload, 1) := by decide +kernel
theorem d_Mo_goesAlike_51 : decode b_Mo_goesAlike 51 = .ok (.iaload, 1) := by decide +kernel
theorem d_Mo_goesAlike_52 : decode b_Mo_goesAlike 52 = .ok (.aload_n 0, 1) := by decide +kernel
theorem d_Mo_goesAlike_53 : decode b_Mo_goesAlike 53 = .ok (.getfield 138, 3) := by decide +kernel
theorem d_Mo_goesAlike_56 : decode b_Mo_goesAlike 56 = .ok (.aload_n 0, 1) := by decide +kernel
theorem d_Mo_goesAlike_57 : decode b_Mo_goesAlike 57 = .ok (.getfield 135, 3) := by decide +kernel
theorem d_Mo_goesAlike_60 : decode b_Mo_goesAlike 60 = .ok (.bipush 9, 2) := by decide +kernel
theorem d_Mo_goesAlike_62 : decode b_Mo_goesAlike 62 = .ok (.iload_n 2, 1) := by decide +kernel
theorem d_Mo_goesAlike_63 : decode b_Mo_goesAlike 63 = .ok (.imul, 1) := by decide +kernel
theorem d_Mo_goesAlike_64 : decode b_Mo_goesAlike 64 = .ok (.iload 4, 2) := by decide +kernel
theorem d_Mo_goesAlike_66 : decode b_Mo_goesAlike 66 = .ok (.iadd, 1) := by decide +kernel
theorem d_Mo_goesAlike_67 : decode b_Mo_goesAlike 67 = .ok (.iaload, 1) := by decide +kernel
theorem d_Mo_goesAlike_68 : decode b_Mo_goesAlike 68 = .ok (.iaload, 1) := by decide +kernel
theorem d_Mo_goesAlike_69 : decode b_Mo_goesAlike 69 = .ok (.if_icmp .ne 7, 3) := by decide +kernel
theorem d_Mo_goesAlike_72 : decode b_Mo_goesAlike 72 = .ok (.iconst 1, 1) := by decide +kernel
theorem d_Mo_goesAlike_73 : decode b_Mo_goesAlike 73 = .ok (.goto 4, 3) := by decide +kernel
theorem d_Mo_goesAlike_76 : decode b_Mo_goesAlike 76 = .ok (.iconst 0, 1) := by decide +kernel
theorem d_Mo_goesAlike_77 : decode b_Mo_goesAlike 77 = .ok (.istore_n 3, 1) := by decide +kernel
theorem d_Mo_goesAlike_78 : decode b_Mo_goesAlike 78 = .ok (.iinc 4 1, 3) := by decide +kernel
theorem d_Mo_goesAlike_81 : decode b_Mo_goesAlike 81 = .ok (.goto (-57), 3) := by decide +kernel
theorem d_Mo_goesAlike_84 : decode b_Mo_goesAlike 84 = .ok (.iload_n 3, 1) := by decide +kernel
theorem d_Mo_goesAlike_85 : decode b_Mo_goesAlike 85 = .ok (.ireturn, 1) := by decide +kernel
theorem d_Mo_refine_0 : decode b_Mo_refine 0 = .ok (.iconst 0, 1) := by decide +kernel
theorem d_Mo_refine_1 : decode b_Mo_refine 1 = .ok (.istore_n 2, 1) := by decide +kernel
theorem d_Mo_refine_2 : decode b_Mo_refine 2 = .ok (.iconst 0, 1) := by decide +kernel
theorem d_Mo_refine_3 : decode b_Mo_refine 3 = .ok (.istore_n 3, 1) := by decide +kernel
theorem d_Mo_refine_4 : decode b_Mo_refine 4 = .ok (.iload_n 3, 1) := by decide +kernel
theorem d_Mo_refine_5 : decode b_Mo_refine 5 = .ok (.iload_n 1, 1) := by decide +kernel
theorem d_Mo_refine_6 : decode b_Mo_refine 6 = .ok (.if_icmp .ge 63, 3) := by decide +kernel
theorem d_Mo_refine_9 : decode b_Mo_refine 9 = .ok (.iconst 0, 1) := by decide +kernel
theorem d_Mo_refine_10 : decode b_Mo_refine 10 = .ok (.istore 4, 2) := by decide +kernel
theorem d_Mo_refine_12 : decode b_Mo_refine 12 = .ok (.iload 4, 2) := by decide +kernel
theorem d_Mo_refine_14 : decode b_Mo_refine 14 = .ok (.iload_n 2, 1) := by decide +kernel
theorem d_Mo_refine_15 : decode b_Mo_refine 15 = .ok (.if_icmp .ge 24, 3) := by decide +kernel
theorem d_Mo_refine_18 : decode b_Mo_refine 18 = .ok (.aload_n 0, 1) := by decide +kernel
theorem d_Mo_refine_19 : decode b_Mo_refine 19 = .ok (.iload_n 3, 1) := by decide +kernel
theorem d_Mo_refine_20 : decode b_Mo_refine 20 = .ok (.aload_n 0, 1) := by decide +kernel
theorem d_Mo_refine_21 : decode b_Mo_refine 21 = .ok (.getfield 144, 3) := by decide +kernel
theorem d_Mo_refine_24 : decode b_Mo_refine 24 = .ok (.iload 4, 2) := by decide +kernel
theorem d_Mo_refine_26 : decode b_Mo_refine 26 = .ok (.iaload, 1) := by decide +kernel
theorem d_Mo_refine_27 : decode b_Mo_refine 27 = .ok (.invokevirtual 344, 3) := by decide +kernel
theorem d_Mo_refine_30 : decode b_Mo_refine 30 = .ok (.ifCond .ne 9, 3) := by decide +kernel
theorem d_Mo_refine_33 : decode b_Mo_refine 33 = .ok (.iinc 4 1, 3) := by decide +kernel
theorem d_Mo_refine_36 : decode b_Mo_refine 36 = .ok (.goto (-24), 3) := by decide +kernel
theorem d_Mo_refine_39 : decode b_Mo_refine 39 = .ok (.iload 4, 2) := by decide +kernel
theorem d_Mo_refine_41 : decode b_Mo_refine 41 = .ok (.iload_n 2, 1) := by decide +kernel
theorem d_Mo_refine_42 : decode b_Mo_refine 42 = .ok (.if_icmp .ne 13, 3) := by decide +kernel
theorem d_Mo_refine_45 : decode b_Mo_refine 45 = .ok (.aload_n 0, 1) := by decide +kernel
theorem d_Mo_refine_46 : decode b_Mo_refine 46 = .ok (.getfield 144, 3) := by decide +kernel
theorem d_Mo_refine_49 : decode b_Mo_refine 49 = .ok (.iload_n 2, 1) := by decide +kernel
theorem d_Mo_refine_50 : decode b_Mo_refine 50 = .ok (.iload_n 3, 1) := by decide +kernel
theorem d_Mo_refine_51 : decode b_Mo_refine 51 = .ok (.iastore, 1) := by decide +kernel
theorem d_Mo_refine_52 : decode b_Mo_refine 52 = .ok (.iinc 2 1, 3) := by decide +kernel
theorem d_Mo_refine_55 : decode b_Mo_refine 55 = .ok (.aload_n 0, 1) := by decide +kernel
theorem d_Mo_refine_56 : decode b_Mo_refine 56 = .ok (.getfield 141, 3) := by decide +kernel
theorem d_Mo_refine_59 : decode b_Mo_refine 59 = .ok (.iload_n 3, 1) := by decide +kernel
theorem d_Mo_refine_60 : decode b_Mo_refine 60 = .ok (.iload 4, 2) := by decide +kernel
theorem d_Mo_refine_62 : decode b_Mo_refine 62 = .ok (.iastore, 1) := by decide +kernel
theorem d_Mo_refine_63 : decode b_Mo_refine 63 = .ok (.iinc 3 1, 3) := by decide +kernel
theorem d_Mo_refine_66 : decode b_Mo_refine 66 = .ok (.goto (-62), 3) := by decide +kernel
theorem d_Mo_refine_69 : decode b_Mo_refine 69 = .ok (.iconst 0, 1) := by decide +kernel
theorem d_Mo_refine_70 : decode b_Mo_refine 70 = .ok (.istore_n 3, 1) := by decide +kernel
theorem d_Mo_refine_71 : decode b_Mo_refine 71 = .ok (.iload_n 3, 1) := by decide +kernel
theorem d_Mo_refine_72 : decode b_Mo_refine 72 = .ok (.iload_n 1, 1) := by decide +kernel
theorem d_Mo_refine_73 : decode b_Mo_refine 73 = .ok (.if_icmp .ge 21, 3) := by decide +kernel
theorem d_Mo_refine_76 : decode b_Mo_refine 76 = .ok (.aload_n 0, 1) := by decide +kernel
theorem d_Mo_refine_77 : decode b_Mo_refine 77 = .ok (.getfield 138, 3) := by decide +kernel
theorem d_Mo_refine_80 : decode b_Mo_refine 80 = .ok (.iload_n 3, 1) := by decide +kernel
theorem d_Mo_refine_81 : decode b_Mo_refine 81 = .ok (.aload_n 0, 1) := by decide +kernel
theorem d_Mo_refine_82 : decode b_Mo_refine 82 = .ok (.getfield 141, 3) := by decide +kernel
theorem d_Mo_refine_85 : decode b_Mo_refine 85 = .ok (.iload_n 3, 1) := by decide +kernel
theorem d_Mo_refine_86 : decode b_Mo_refine 86 = .ok (.iaload, 1) := by decide +kernel
theorem d_Mo_refine_87 : decode b_Mo_refine 87 = .ok (.iastore, 1) := by decide +kernel
theorem d_Mo_refine_88 : decode b_Mo_refine 88 = .ok (.iinc 3 1, 3) := by decide +kernel
theorem d_Mo_refine_91 : decode b_Mo_refine 91 = .ok (.goto (-20), 3) := by decide +kernel
theorem d_Mo_refine_94 : decode b_Mo_refine 94 = .ok (.iload_n 2, 1) := by decide +kernel
theorem d_Mo_refine_95 : decode b_Mo_refine 95 = .ok (.ireturn, 1) := by decide +kernel
theorem d_Mo_lay_0 : decode b_Mo_lay 0 = .ok (.iconst 0, 1) := by decide +kernel
theorem d_Mo_lay_1 : decode b_Mo_lay 1 = .ok (.istore_n 3, 1) := by decide +kernel
theorem d_Mo_lay_2 : decode b_Mo_lay 2 = .ok (.iload_n 3, 1) := by decide +kernel
theorem d_Mo_lay_3 : decode b_Mo_lay 3 = .ok (.iload_n 2, 1) := by decide +kernel
theorem d_Mo_lay_4 : decode b_Mo_lay 4 = .ok (.if_icmp .ge 16, 3) := by decide +kernel
theorem d_Mo_lay_7 : decode b_Mo_lay 7 = .ok (.aload_n 0, 1) := by decide +kernel
theorem d_Mo_lay_8 : decode b_Mo_lay 8 = .ok (.getfield 147, 3) := by decide +kernel
theorem d_Mo_lay_11 : decode b_Mo_lay 11 = .ok (.iload_n 3, 1) := by decide +kernel
theorem d_Mo_lay_12 : decode b_Mo_lay 12 = .ok (.iconst (-1), 1) := by decide +kernel
theorem d_Mo_lay_13 : decode b_Mo_lay 13 = .ok (.iastore, 1) := by decide +kernel
theorem d_Mo_lay_14 : decode b_Mo_lay 14 = .ok (.iinc 3 1, 3) := by decide +kernel
theorem d_Mo_lay_17 : decode b_Mo_lay 17 = .ok (.goto (-15), 3) := by decide +kernel
theorem d_Mo_lay_20 : decode b_Mo_lay 20 = .ok (.iconst 1, 1) := by decide +kernel
theorem d_Mo_lay_21 : decode b_Mo_lay 21 = .ok (.istore_n 3, 1) := by decide +kernel
theorem d_Mo_lay_22 : decode b_Mo_lay 22 = .ok (.aload_n 0, 1) := by decide +kernel
theorem d_Mo_lay_23 : decode b_Mo_lay 23 = .ok (.getfield 147, 3) := by decide +kernel
theorem d_Mo_lay_26 : decode b_Mo_lay 26 = .ok (.aload_n 0, 1) := by decide +kernel
theorem d_Mo_lay_27 : decode b_Mo_lay 27 = .ok (.getfield 138, 3) := by decide +kernel
theorem d_Mo_lay_30 : decode b_Mo_lay 30 = .ok (.iconst 0, 1) := by decide +kernel
theorem d_Mo_lay_31 : decode b_Mo_lay 31 = .ok (.iaload, 1) := by decide +kernel
theorem d_Mo_lay_32 : decode b_Mo_lay 32 = .ok (.iconst 0, 1) := by decide +kernel
theorem d_Mo_lay_33 : decode b_Mo_lay 33 = .ok (.iastore, 1) := by decide +kernel
theorem d_Mo_lay_34 : decode b_Mo_lay 34 = .ok (.aload_n 0, 1) := by decide +kernel
theorem d_Mo_lay_35 : decode b_Mo_lay 35 = .ok (.getfield 141, 3) := by decide +kernel
theorem d_Mo_lay_38 : decode b_Mo_lay 38 = .ok (.iconst 0, 1) := by decide +kernel
theorem d_Mo_lay_39 : decode b_Mo_lay 39 = .ok (.iconst 0, 1) := by decide +kernel
theorem d_Mo_lay_40 : decode b_Mo_lay 40 = .ok (.iastore, 1) := by decide +kernel
theorem d_Mo_lay_41 : decode b_Mo_lay 41 = .ok (.iconst 0, 1) := by decide +kernel
theorem d_Mo_lay_42 : decode b_Mo_lay 42 = .ok (.istore 4, 2) := by decide +kernel
theorem d_Mo_lay_44 : decode b_Mo_lay 44 = .ok (.iload 4, 2) := by decide +kernel
theorem d_Mo_lay_46 : decode b_Mo_lay 46 = .ok (.iload_n 3, 1) := by decide +kernel
theorem d_Mo_lay_47 : decode b_Mo_lay 47 = .ok (.if_icmp .ge 144, 3) := by decide +kernel
theorem d_Mo_lay_50 : decode b_Mo_lay 50 = .ok (.aload_n 0, 1) := by decide +kernel
theorem d_Mo_lay_51 : decode b_Mo_lay 51 = .ok (.getfield 141, 3) := by decide +kernel
theorem d_Mo_lay_54 : decode b_Mo_lay 54 = .ok (.iload 4, 2) := by decide +kernel
theorem d_Mo_lay_56 : decode b_Mo_lay 56 = .ok (.iaload, 1) := by decide +kernel
theorem d_Mo_lay_57 : decode b_Mo_lay 57 = .ok (.istore 5, 2) := by decide +kernel
theorem d_Mo_lay_59 : decode b_Mo_lay 59 = .ok (.aload_n 0, 1) := by decide +kernel
theorem d_Mo_lay_60 : decode b_Mo_lay 60 = .ok (.getfield 86, 3) := by decide +kernel
theorem d_Mo_lay_63 : decode b_Mo_lay 63 = .ok (.sipush 1025, 3) := by decide +kernel
theorem d_Mo_lay_66 : decode b_Mo_lay 66 = .ok (.iload_n 1, 1) := by decide +kernel
theorem d_Mo_lay_67 : decode b_Mo_lay 67 = .ok (.imul, 1) := by decide +kernel
theorem d_Mo_lay_68 : decode b_Mo_lay 68 = .ok (.iload 4, 2) := by decide +kernel
theorem d_Mo_lay_70 : decode b_Mo_lay 70 = .ok (.iadd, 1) := by decide +kernel
theorem d_Mo_lay_71 : decode b_Mo_lay 71 = .ok (.aload_n 0, 1) := by decide +kernel
theorem d_Mo_lay_72 : decode b_Mo_lay 72 = .ok (.iload_n 1, 1) := by decide +kernel
theorem d_Mo_lay_73 : decode b_Mo_lay 73 = .ok (.aload_n 0, 1) := by decide +kernel
theorem d_Mo_lay_74 : decode b_Mo_lay 74 = .ok (.getfield 129, 3) := by decide +kernel
theorem d_Mo_lay_77 : decode b_Mo_lay 77 = .ok (.iload 5, 2) := by decide +kernel
theorem d_Mo_lay_79 : decode b_Mo_lay 79 = .ok (.iaload, 1) := by decide +kernel
theorem d_Mo_lay_80 : decode b_Mo_lay 80 = .ok (.invokevirtual 335, 3) := by decide +kernel
theorem d_Mo_lay_83 : decode b_Mo_lay 83 = .ok (.bastore, 1) := by decide +kernel
theorem d_Mo_lay_84 : decode b_Mo_lay 84 = .ok (.iconst 0, 1) := by decide +kernel
theorem d_Mo_lay_85 : decode b_Mo_lay 85 = .ok (.istore 6, 2) := by decide +kernel
theorem d_Mo_lay_87 : decode b_Mo_lay 87 = .ok (.iload 6, 2) := by decide +kernel
theorem d_Mo_lay_89 : decode b_Mo_lay 89 = .ok (.bipush 9, 2) := by decide +kernel
theorem d_Mo_lay_91 : decode b_Mo_lay 91 = .ok (.if_icmp .ge 94, 3) := by decide +kernel
theorem d_Mo_lay_94 : decode b_Mo_lay 94 = .ok (.aload_n 0, 1) := by decide +kernel
theorem d_Mo_lay_95 : decode b_Mo_lay 95 = .ok (.getfield 135, 3) := by decide +kernel
theorem d_Mo_lay_98 : decode b_Mo_lay 98 = .ok (.bipush 9, 2) := by decide +kernel
theorem d_Mo_lay_100 : decode b_Mo_lay 100 = .ok (.iload 5, 2) := by decide +kernel
theorem d_Mo_lay_102 : decode b_Mo_lay 102 = .ok (.imul, 1) := by decide +kernel
theorem d_Mo_lay_103 : decode b_Mo_lay 103 = .ok (.iload 6, 2) := by decide +kernel
theorem d_Mo_lay_105 : decode b_Mo_lay 105 = .ok (.iadd, 1) := by decide +kernel
theorem d_Mo_lay_106 : decode b_Mo_lay 106 = .ok (.iaload, 1) := by decide +kernel
theorem d_Mo_lay_107 : decode b_Mo_lay 107 = .ok (.istore 7, 2) := by decide +kernel
theorem d_Mo_lay_109 : decode b_Mo_lay 109 = .ok (.aload_n 0, 1) := by decide +kernel
theorem d_Mo_lay_110 : decode b_Mo_lay 110 = .ok (.getfield 147, 3) := by decide +kernel
theorem d_Mo_lay_113 : decode b_Mo_lay 113 = .ok (.aload_n 0, 1) := by decide +kernel
theorem d_Mo_lay_114 : decode b_Mo_lay 114 = .ok (.getfield 138, 3) := by decide +kernel
theorem d_Mo_lay_117 : decode b_Mo_lay 117 = .ok (.iload 7, 2) := by decide +kernel
theorem d_Mo_lay_119 : decode b_Mo_lay 119 = .ok (.iaload, 1) := by decide +kernel
theorem d_Mo_lay_120 : decode b_Mo_lay 120 = .ok (.iaload, 1) := by decide +kernel
theorem d_Mo_lay_121 : decode b_Mo_lay 121 = .ok (.ifCond .ge 27, 3) := by decide +kernel
theorem d_Mo_lay_124 : decode b_Mo_lay 124 = .ok (.aload_n 0, 1) := by decide +kernel
theorem d_Mo_lay_125 : decode b_Mo_lay 125 = .ok (.getfield 147, 3) := by decide +kernel
theorem d_Mo_lay_128 : decode b_Mo_lay 128 = .ok (.aload_n 0, 1) := by decide +kernel
theorem d_Mo_lay_129 : decode b_Mo_lay 129 = .ok (.getfield 138, 3) := by decide +kernel
theorem d_Mo_lay_132 : decode b_Mo_lay 132 = .ok (.iload 7, 2) := by decide +kernel
theorem d_Mo_lay_134 : decode b_Mo_lay 134 = .ok (.iaload, 1) := by decide +kernel
theorem d_Mo_lay_135 : decode b_Mo_lay 135 = .ok (.iload_n 3, 1) := by decide +kernel
theorem d_Mo_lay_136 : decode b_Mo_lay 136 = .ok (.iastore, 1) := by decide +kernel
theorem d_Mo_lay_137 : decode b_Mo_lay 137 = .ok (.aload_n 0, 1) := by decide +kernel
theorem d_Mo_lay_138 : decode b_Mo_lay 138 = .ok (.getfield 141, 3) := by decide +kernel
theorem d_Mo_lay_141 : decode b_Mo_lay 141 = .ok (.iload_n 3, 1) := by decide +kernel
theorem d_Mo_lay_142 : decode b_Mo_lay 142 = .ok (.iload 7, 2) := by decide +kernel
theorem d_Mo_lay_144 : decode b_Mo_lay 144 = .ok (.iastore, 1) := by decide +kernel
theorem d_Mo_lay_145 : decode b_Mo_lay 145 = .ok (.iinc 3 1, 3) := by decide +kernel
theorem d_Mo_lay_148 : decode b_Mo_lay 148 = .ok (.aload_n 0, 1) := by decide +kernel
theorem d_Mo_lay_149 : decode b_Mo_lay 149 = .ok (.getfield 83, 3) := by decide +kernel
theorem d_Mo_lay_152 : decode b_Mo_lay 152 = .ok (.bipush 9, 2) := by decide +kernel
theorem d_Mo_lay_154 : decode b_Mo_lay 154 = .ok (.sipush 1025, 3) := by decide +kernel
theorem d_Mo_lay_157 : decode b_Mo_lay 157 = .ok (.iload_n 1, 1) := by decide +kernel
theorem d_Mo_lay_158 : decode b_Mo_lay 158 = .ok (.imul, 1) := by decide +kernel
theorem d_Mo_lay_159 : decode b_Mo_lay 159 = .ok (.iload 4, 2) := by decide +kernel
theorem d_Mo_lay_161 : decode b_Mo_lay 161 = .ok (.iadd, 1) := by decide +kernel
theorem d_Mo_lay_162 : decode b_Mo_lay 162 = .ok (.imul, 1) := by decide +kernel
theorem d_Mo_lay_163 : decode b_Mo_lay 163 = .ok (.iload 6, 2) := by decide +kernel
theorem d_Mo_lay_165 : decode b_Mo_lay 165 = .ok (.iadd, 1) := by decide +kernel
theorem d_Mo_lay_166 : decode b_Mo_lay 166 = .ok (.aload_n 0, 1) := by decide +kernel
theorem d_Mo_lay_167 : decode b_Mo_lay 167 = .ok (.getfield 147, 3) := by decide +kernel
theorem d_Mo_lay_170 : decode b_Mo_lay 170 = .ok (.aload_n 0, 1) := by decide +kernel
theorem d_Mo_lay_171 : decode b_Mo_lay 171 = .ok (.getfield 138, 3) := by decide +kernel
theorem d_Mo_lay_174 : decode b_Mo_lay 174 = .ok (.iload 7, 2) := by decide +kernel
theorem d_Mo_lay_176 : decode b_Mo_lay 176 = .ok (.iaload, 1) := by decide +kernel
theorem d_Mo_lay_177 : decode b_Mo_lay 177 = .ok (.iaload, 1) := by decide +kernel
theorem d_Mo_lay_178 : decode b_Mo_lay 178 = .ok (.iastore, 1) := by decide +kernel
theorem d_Mo_lay_179 : decode b_Mo_lay 179 = .ok (.iinc 6 1, 3) := by decide +kernel
theorem d_Mo_lay_182 : decode b_Mo_lay 182 = .ok (.goto (-95), 3) := by decide +kernel
theorem d_Mo_lay_185 : decode b_Mo_lay 185 = .ok (.iinc 4 1, 3) := by decide +kernel
theorem d_Mo_lay_188 : decode b_Mo_lay 188 = .ok (.goto (-144), 3) := by decide +kernel
theorem d_Mo_lay_191 : decode b_Mo_lay 191 = .ok (.aload_n 0, 1) := by decide +kernel
theorem d_Mo_lay_192 : decode b_Mo_lay 192 = .ok (.getfield 79, 3) := by decide +kernel
theorem d_Mo_lay_195 : decode b_Mo_lay 195 = .ok (.iload_n 1, 1) := by decide +kernel
theorem d_Mo_lay_196 : decode b_Mo_lay 196 = .ok (.iload_n 3, 1) := by decide +kernel
theorem d_Mo_lay_197 : decode b_Mo_lay 197 = .ok (.iastore, 1) := by decide +kernel
theorem d_Mo_lay_198 : decode b_Mo_lay 198 = .ok (.return_, 1) := by decide +kernel
theorem d_Mo_automaton_0 : decode b_Mo_automaton 0 = .ok (.iconst 0, 1) := by decide +kernel
theorem d_Mo_automaton_1 : decode b_Mo_automaton 1 = .ok (.istore_n 2, 1) := by decide +kernel
theorem d_Mo_automaton_2 : decode b_Mo_automaton 2 = .ok (.iload_n 2, 1) := by decide +kernel
theorem d_Mo_automaton_3 : decode b_Mo_automaton 3 = .ok (.sipush 1025, 3) := by decide +kernel
theorem d_Mo_automaton_6 : decode b_Mo_automaton 6 = .ok (.if_icmp .ge 16, 3) := by decide +kernel
theorem d_Mo_automaton_9 : decode b_Mo_automaton 9 = .ok (.aload_n 0, 1) := by decide +kernel
theorem d_Mo_automaton_10 : decode b_Mo_automaton 10 = .ok (.getfield 132, 3) := by decide +kernel
theorem d_Mo_automaton_13 : decode b_Mo_automaton 13 = .ok (.iload_n 2, 1) := by decide +kernel
theorem d_Mo_automaton_14 : decode b_Mo_automaton 14 = .ok (.iconst (-1), 1) := by decide +kernel
theorem d_Mo_automaton_15 : decode b_Mo_automaton 15 = .ok (.iastore, 1) := by decide +kernel
theorem d_Mo_automaton_16 : decode b_Mo_automaton 16 = .ok (.iinc 2 1, 3) := by decide +kernel
theorem d_Mo_automaton_19 : decode b_Mo_automaton 19 = .ok (.goto (-17), 3) := by decide +kernel
theorem d_Mo_automaton_22 : decode b_Mo_automaton 22 = .ok (.iconst 1, 1) := by decide +kernel
theorem d_Mo_automaton_23 : decode b_Mo_automaton 23 = .ok (.istore_n 2, 1) := by decide +kernel
theorem d_Mo_automaton_24 : decode b_Mo_automaton 24 = .ok (.aload_n 0, 1) := by decide +kernel
theorem d_Mo_automaton_25 : decode b_Mo_automaton 25 = .ok (.getfield 129, 3) := by decide +kernel
theorem d_Mo_automaton_28 : decode b_Mo_automaton 28 = .ok (.iconst 0, 1) := by decide +kernel
theorem d_Mo_automaton_29 : decode b_Mo_automaton 29 = .ok (.sipush 1024, 3) := by decide +kernel
theorem d_Mo_automaton_32 : decode b_Mo_automaton 32 = .ok (.iastore, 1) := by decide +kernel
theorem d_Mo_automaton_33 : decode b_Mo_automaton 33 = .ok (.aload_n 0, 1) := by decide +kernel
theorem d_Mo_automaton_34 : decode b_Mo_automaton 34 = .ok (.getfield 132, 3) := by decide +kernel
theorem d_Mo_automaton_37 : decode b_Mo_automaton 37 = .ok (.sipush 1024, 3) := by decide +kernel
theorem d_Mo_automaton_40 : decode b_Mo_automaton 40 = .ok (.iconst 0, 1) := by decide +kernel
theorem d_Mo_automaton_41 : decode b_Mo_automaton 41 = .ok (.iastore, 1) := by decide +kernel
theorem d_Mo_automaton_42 : decode b_Mo_automaton 42 = .ok (.iconst 0, 1) := by decide +kernel
theorem d_Mo_automaton_43 : decode b_Mo_automaton 43 = .ok (.istore_n 3, 1) := by decide +kernel
theorem d_Mo_automaton_44 : decode b_Mo_automaton 44 = .ok (.iload_n 3, 1) := by decide +kernel
theorem d_Mo_automaton_45 : decode b_Mo_automaton 45 = .ok (.iload_n 2, 1) := by decide +kernel
theorem d_Mo_automaton_46 : decode b_Mo_automaton 46 = .ok (.if_icmp .ge 86, 3) := by decide +kernel
theorem d_Mo_automaton_49 : decode b_Mo_automaton 49 = .ok (.iconst 0, 1) := by decide +kernel
theorem d_Mo_automaton_50 : decode b_Mo_automaton 50 = .ok (.istore 4, 2) := by decide +kernel
theorem d_Mo_automaton_52 : decode b_Mo_automaton 52 = .ok (.iload 4, 2) := by decide +kernel
theorem d_Mo_automaton_54 : decode b_Mo_automaton 54 = .ok (.bipush 9, 2) := by decide +kernel
theorem d_Mo_automaton_56 : decode b_Mo_automaton 56 = .ok (.if_icmp .ge 70, 3) := by decide +kernel
theorem d_Mo_automaton_59 : decode b_Mo_automaton 59 = .ok (.aload_n 0, 1) := by decide +kernel
theorem d_Mo_automaton_60 : decode b_Mo_automaton 60 = .ok (.iload_n 1, 1) := by decide +kernel
theorem d_Mo_automaton_61 : decode b_Mo_automaton 61 = .ok (.aload_n 0, 1) := by decide +kernel
theorem d_Mo_automaton_62 : decode b_Mo_automaton 62 = .ok (.getfield 129, 3) := by decide +kernel
theorem d_Mo_automaton_65 : decode b_Mo_automaton 65 = .ok (.iload_n 3, 1) := by decide +kernel
theorem d_Mo_automaton_66 : decode b_Mo_automaton 66 = .ok (.iaload, 1) := by decide +kernel
theorem d_Mo_automaton_67 : decode b_Mo_automaton 67 = .ok (.iload 4, 2) := by decide +kernel
theorem d_Mo_automaton_69 : decode b_Mo_automaton 69 = .ok (.invokevirtual 330, 3) := by decide +kernel
theorem d_Mo_automaton_72 : decode b_Mo_automaton 72 = .ok (.istore 5, 2) := by decide +kernel
theorem d_Mo_automaton_74 : decode b_Mo_automaton 74 = .ok (.aload_n 0, 1) := by decide +kernel
theorem d_Mo_automaton_75 : decode b_Mo_automaton 75 = .ok (.iload 5, 2) := by decide +kernel
theorem d_Mo_automaton_77 : decode b_Mo_automaton 77 = .ok (.invokevirtual 333, 3) := by decide +kernel
