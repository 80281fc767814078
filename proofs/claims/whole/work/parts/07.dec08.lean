theorem d_Mo_check_42 : decode b_Mo_check 42 = .ok (.dup, 1) := by decide +kernel
theorem d_Mo_check_43 : decode b_Mo_check 43 = .ok (.getfield 247, 3) := by decide +kernel
theorem d_Mo_check_46 : decode b_Mo_check 46 = .ok (.iconst 1, 1) := by decide +kernel
theorem d_Mo_check_47 : decode b_Mo_check 47 = .ok (.iadd, 1) := by decide +kernel
theorem d_Mo_check_48 : decode b_Mo_check 48 = .ok (.putfield 247, 3) := by decide +kernel
theorem d_Mo_check_51 : decode b_Mo_check 51 = .ok (.iinc 2 1, 3) := by decide +kernel
theorem d_Mo_check_54 : decode b_Mo_check 54 = .ok (.aload_n 0, 1) := by decide +kernel
theorem d_Mo_check_55 : decode b_Mo_check 55 = .ok (.iload_n 2, 1) := by decide +kernel
theorem d_Mo_check_56 : decode b_Mo_check 56 = .ok (.invokevirtual 280, 3) := by decide +kernel
theorem d_Mo_check_59 : decode b_Mo_check 59 = .ok (.iconst 0, 1) := by decide +kernel
theorem d_Mo_check_60 : decode b_Mo_check 60 = .ok (.istore_n 3, 1) := by decide +kernel
theorem d_Mo_check_61 : decode b_Mo_check 61 = .ok (.goto 351, 3) := by decide +kernel
theorem d_Mo_check_64 : decode b_Mo_check 64 = .ok (.iload 4, 2) := by decide +kernel
theorem d_Mo_check_66 : decode b_Mo_check 66 = .ok (.invokestatic 283, 3) := by decide +kernel
theorem d_Mo_check_69 : decode b_Mo_check 69 = .ok (.ifCond .eq 39, 3) := by decide +kernel
theorem d_Mo_check_72 : decode b_Mo_check 72 = .ok (.iload 4, 2) := by decide +kernel
theorem d_Mo_check_74 : decode b_Mo_check 74 = .ok (.bipush 91, 2) := by decide +kernel
theorem d_Mo_check_76 : decode b_Mo_check 76 = .ok (.if_icmp .ne 11, 3) := by decide +kernel
theorem d_Mo_check_79 : decode b_Mo_check 79 = .ok (.aload_n 0, 1) := by decide +kernel
theorem d_Mo_check_80 : decode b_Mo_check 80 = .ok (.invokevirtual 286, 3) := by decide +kernel
theorem d_Mo_check_83 : decode b_Mo_check 83 = .ok (.pop, 1) := by decide +kernel
theorem d_Mo_check_84 : decode b_Mo_check 84 = .ok (.goto 13, 3) := by decide +kernel
theorem d_Mo_check_87 : decode b_Mo_check 87 = .ok (.aload_n 0, 1) := by decide +kernel
theorem d_Mo_check_88 : decode b_Mo_check 88 = .ok (.dup, 1) := by decide +kernel
theorem d_Mo_check_89 : decode b_Mo_check 89 = .ok (.getfield 247, 3) := by decide +kernel
theorem d_Mo_check_92 : decode b_Mo_check 92 = .ok (.iconst 1, 1) := by decide +kernel
theorem d_Mo_check_93 : decode b_Mo_check 93 = .ok (.iadd, 1) := by decide +kernel
theorem d_Mo_check_94 : decode b_Mo_check 94 = .ok (.putfield 247, 3) := by decide +kernel
theorem d_Mo_check_97 : decode b_Mo_check 97 = .ok (.aload_n 0, 1) := by decide +kernel
theorem d_Mo_check_98 : decode b_Mo_check 98 = .ok (.iload_n 2, 1) := by decide +kernel
theorem d_Mo_check_99 : decode b_Mo_check 99 = .ok (.iconst 1, 1) := by decide +kernel
theorem d_Mo_check_100 : decode b_Mo_check 100 = .ok (.invokevirtual 290, 3) := by decide +kernel
theorem d_Mo_check_103 : decode b_Mo_check 103 = .ok (.iconst 1, 1) := by decide +kernel
theorem d_Mo_check_104 : decode b_Mo_check 104 = .ok (.istore_n 3, 1) := by decide +kernel
theorem d_Mo_check_105 : decode b_Mo_check 105 = .ok (.goto 307, 3) := by decide +kernel
theorem d_Mo_check_108 : decode b_Mo_check 108 = .ok (.iload_n 3, 1) := by decide +kernel
theorem d_Mo_check_109 : decode b_Mo_check 109 = .ok (.ifCond .eq 39, 3) := by decide +kernel
theorem d_Mo_check_112 : decode b_Mo_check 112 = .ok (.iload 4, 2) := by decide +kernel
theorem d_Mo_check_114 : decode b_Mo_check 114 = .ok (.bipush 42, 2) := by decide +kernel
theorem d_Mo_check_116 : decode b_Mo_check 116 = .ok (.if_icmp .eq 17, 3) := by decide +kernel
theorem d_Mo_check_119 : decode b_Mo_check 119 = .ok (.iload 4, 2) := by decide +kernel
theorem d_Mo_check_121 : decode b_Mo_check 121 = .ok (.bipush 43, 2) := by decide +kernel
theorem d_Mo_check_123 : decode b_Mo_check 123 = .ok (.if_icmp .eq 10, 3) := by decide +kernel
theorem d_Mo_check_126 : decode b_Mo_check 126 = .ok (.iload 4, 2) := by decide +kernel
theorem d_Mo_check_128 : decode b_Mo_check 128 = .ok (.bipush 63, 2) := by decide +kernel
theorem d_Mo_check_130 : decode b_Mo_check 130 = .ok (.if_icmp .ne 18, 3) := by decide +kernel
theorem d_Mo_check_133 : decode b_Mo_check 133 = .ok (.aload_n 0, 1) := by decide +kernel
theorem d_Mo_check_134 : decode b_Mo_check 134 = .ok (.dup, 1) := by decide +kernel
theorem d_Mo_check_135 : decode b_Mo_check 135 = .ok (.getfield 247, 3) := by decide +kernel
theorem d_Mo_check_138 : decode b_Mo_check 138 = .ok (.iconst 1, 1) := by decide +kernel
theorem d_Mo_check_139 : decode b_Mo_check 139 = .ok (.iadd, 1) := by decide +kernel
theorem d_Mo_check_140 : decode b_Mo_check 140 = .ok (.putfield 247, 3) := by decide +kernel
theorem d_Mo_check_143 : decode b_Mo_check 143 = .ok (.iconst 0, 1) := by decide +kernel
theorem d_Mo_check_144 : decode b_Mo_check 144 = .ok (.istore_n 3, 1) := by decide +kernel
theorem d_Mo_check_145 : decode b_Mo_check 145 = .ok (.goto 267, 3) := by decide +kernel
theorem d_Mo_check_148 : decode b_Mo_check 148 = .ok (.iload_n 3, 1) := by decide +kernel
theorem d_Mo_check_149 : decode b_Mo_check 149 = .ok (.ifCond .eq 100, 3) := by decide +kernel
theorem d_Mo_check_152 : decode b_Mo_check 152 = .ok (.iload 4, 2) := by decide +kernel
theorem d_Mo_check_154 : decode b_Mo_check 154 = .ok (.bipush 123, 2) := by decide +kernel
theorem d_Mo_check_156 : decode b_Mo_check 156 = .ok (.if_icmp .ne 93, 3) := by decide +kernel
theorem d_Mo_check_159 : decode b_Mo_check 159 = .ok (.aload_n 0, 1) := by decide +kernel
theorem d_Mo_check_160 : decode b_Mo_check 160 = .ok (.dup, 1) := by decide +kernel
theorem d_Mo_check_161 : decode b_Mo_check 161 = .ok (.getfield 247, 3) := by decide +kernel
theorem d_Mo_check_164 : decode b_Mo_check 164 = .ok (.iconst 1, 1) := by decide +kernel
theorem d_Mo_check_165 : decode b_Mo_check 165 = .ok (.iadd, 1) := by decide +kernel
theorem d_Mo_check_166 : decode b_Mo_check 166 = .ok (.putfield 247, 3) := by decide +kernel
theorem d_Mo_check_169 : decode b_Mo_check 169 = .ok (.aload_n 0, 1) := by decide +kernel
theorem d_Mo_check_170 : decode b_Mo_check 170 = .ok (.invokevirtual 294, 3) := by decide +kernel
theorem d_Mo_check_173 : decode b_Mo_check 173 = .ok (.istore 5, 2) := by decide +kernel
theorem d_Mo_check_175 : decode b_Mo_check 175 = .ok (.aload_n 0, 1) := by decide +kernel
theorem d_Mo_check_176 : decode b_Mo_check 176 = .ok (.bipush 44, 2) := by decide +kernel
theorem d_Mo_check_178 : decode b_Mo_check 178 = .ok (.invokevirtual 297, 3) := by decide +kernel
theorem d_Mo_check_181 : decode b_Mo_check 181 = .ok (.aload_n 0, 1) := by decide +kernel
theorem d_Mo_check_182 : decode b_Mo_check 182 = .ok (.getfield 247, 3) := by decide +kernel
theorem d_Mo_check_185 : decode b_Mo_check 185 = .ok (.istore 6, 2) := by decide +kernel
theorem d_Mo_check_187 : decode b_Mo_check 187 = .ok (.aload_n 0, 1) := by decide +kernel
theorem d_Mo_check_188 : decode b_Mo_check 188 = .ok (.invokevirtual 294, 3) := by decide +kernel
theorem d_Mo_check_191 : decode b_Mo_check 191 = .ok (.istore 7, 2) := by decide +kernel
theorem d_Mo_check_193 : decode b_Mo_check 193 = .ok (.aload_n 0, 1) := by decide +kernel
theorem d_Mo_check_194 : decode b_Mo_check 194 = .ok (.getfield 172, 3) := by decide +kernel
theorem d_Mo_check_197 : decode b_Mo_check 197 = .ok (.ifCond .ne 23, 3) := by decide +kernel
theorem d_Mo_check_200 : decode b_Mo_check 200 = .ok (.iload 7, 2) := by decide +kernel
theorem d_Mo_check_202 : decode b_Mo_check 202 = .ok (.ifCond .eq 10, 3) := by decide +kernel
theorem d_Mo_check_205 : decode b_Mo_check 205 = .ok (.iload 7, 2) := by decide +kernel
theorem d_Mo_check_207 : decode b_Mo_check 207 = .ok (.iload 5, 2) := by decide +kernel
theorem d_Mo_check_209 : decode b_Mo_check 209 = .ok (.if_icmp .ge 11, 3) := by decide +kernel
theorem d_Mo_check_212 : decode b_Mo_check 212 = .ok (.aload_n 0, 1) := by decide +kernel
theorem d_Mo_check_213 : decode b_Mo_check 213 = .ok (.iconst 4, 1) := by decide +kernel
theorem d_Mo_check_214 : decode b_Mo_check 214 = .ok (.iload 6, 2) := by decide +kernel
theorem d_Mo_check_216 : decode b_Mo_check 216 = .ok (.invokevirtual 198, 3) := by decide +kernel
theorem d_Mo_check_219 : decode b_Mo_check 219 = .ok (.pop, 1) := by decide +kernel
theorem d_Mo_check_220 : decode b_Mo_check 220 = .ok (.aload_n 0, 1) := by decide +kernel
theorem d_Mo_check_221 : decode b_Mo_check 221 = .ok (.bipush 125, 2) := by decide +kernel
theorem d_Mo_check_223 : decode b_Mo_check 223 = .ok (.invokevirtual 297, 3) := by decide +kernel
theorem d_Mo_check_226 : decode b_Mo_check 226 = .ok (.aload_n 0, 1) := by decide +kernel
theorem d_Mo_check_227 : decode b_Mo_check 227 = .ok (.getfield 101, 3) := by decide +kernel
theorem d_Mo_check_230 : decode b_Mo_check 230 = .ok (.iload_n 2, 1) := by decide +kernel
theorem d_Mo_check_231 : decode b_Mo_check 231 = .ok (.aload_n 0, 1) := by decide +kernel
theorem d_Mo_check_232 : decode b_Mo_check 232 = .ok (.getfield 101, 3) := by decide +kernel
theorem d_Mo_check_235 : decode b_Mo_check 235 = .ok (.iload_n 2, 1) := by decide +kernel
theorem d_Mo_check_236 : decode b_Mo_check 236 = .ok (.iaload, 1) := by decide +kernel
theorem d_Mo_check_237 : decode b_Mo_check 237 = .ok (.iload 7, 2) := by decide +kernel
theorem d_Mo_check_239 : decode b_Mo_check 239 = .ok (.imul, 1) := by decide +kernel
theorem d_Mo_check_240 : decode b_Mo_check 240 = .ok (.invokestatic 300, 3) := by decide +kernel
theorem d_Mo_check_243 : decode b_Mo_check 243 = .ok (.iastore, 1) := by decide +kernel
theorem d_Mo_check_244 : decode b_Mo_check 244 = .ok (.iconst 0, 1) := by decide +kernel
theorem d_Mo_check_245 : decode b_Mo_check 245 = .ok (.istore_n 3, 1) := by decide +kernel
theorem d_Mo_check_246 : decode b_Mo_check 246 = .ok (.goto 166, 3) := by decide +kernel
theorem d_Mo_check_249 : decode b_Mo_check 249 = .ok (.aload_n 0, 1) := by decide +kernel
theorem d_Mo_check_250 : decode b_Mo_check 250 = .ok (.getfield 104, 3) := by decide +kernel
theorem d_Mo_check_253 : decode b_Mo_check 253 = .ok (.iload_n 2, 1) := by decide +kernel
theorem d_Mo_check_254 : decode b_Mo_check 254 = .ok (.baload, 1) := by decide +kernel
theorem d_Mo_check_255 : decode b_Mo_check 255 = .ok (.ifCond .eq 75, 3) := by decide +kernel
theorem d_Mo_check_258 : decode b_Mo_check 258 = .ok (.iload 4, 2) := by decide +kernel
theorem d_Mo_check_260 : decode b_Mo_check 260 = .ok (.bipush 124, 2) := by decide +kernel
theorem d_Mo_check_262 : decode b_Mo_check 262 = .ok (.if_icmp .ne 68, 3) := by decide +kernel
theorem d_Mo_check_265 : decode b_Mo_check 265 = .ok (.aload_n 0, 1) := by decide +kernel
theorem d_Mo_check_266 : decode b_Mo_check 266 = .ok (.dup, 1) := by decide +kernel
theorem d_Mo_check_267 : decode b_Mo_check 267 = .ok (.getfield 247, 3) := by decide +kernel
theorem d_Mo_check_270 : decode b_Mo_check 270 = .ok (.iconst 1, 1) := by decide +kernel
theorem d_Mo_check_271 : decode b_Mo_check 271 = .ok (.iadd, 1) := by decide +kernel
theorem d_Mo_check_272 : decode b_Mo_check 272 = .ok (.putfield 247, 3) := by decide +kernel
theorem d_Mo_check_275 : decode b_Mo_check 275 = .ok (.aload_n 0, 1) := by decide +kernel
theorem d_Mo_check_276 : decode b_Mo_check 276 = .ok (.getfield 95, 3) := by decide +kernel
theorem d_Mo_check_279 : decode b_Mo_check 279 = .ok (.iload_n 2, 1) := by decide +kernel
theorem d_Mo_check_280 : decode b_Mo_check 280 = .ok (.aload_n 0, 1) := by decide +kernel
theorem d_Mo_check_281 : decode b_Mo_check 281 = .ok (.getfield 95, 3) := by decide +kernel
theorem d_Mo_check_284 : decode b_Mo_check 284 = .ok (.iload_n 2, 1) := by decide +kernel
theorem d_Mo_check_285 : decode b_Mo_check 285 = .ok (.iaload, 1) := by decide +kernel
theorem d_Mo_check_286 : decode b_Mo_check 286 = .ok (.aload_n 0, 1) := by decide +kernel
theorem d_Mo_check_287 : decode b_Mo_check 287 = .ok (.getfield 98, 3) := by decide +kernel
theorem d_Mo_check_290 : decode b_Mo_check 290 = .ok (.iload_n 2, 1) := by decide +kernel
theorem d_Mo_check_291 : decode b_Mo_check 291 = .ok (.iaload, 1) := by decide +kernel
theorem d_Mo_check_292 : decode b_Mo_check 292 = .ok (.iadd, 1) := by decide +kernel
theorem d_Mo_check_293 : decode b_Mo_check 293 = .ok (.aload_n 0, 1) := by decide +kernel
theorem d_Mo_check_294 : decode b_Mo_check 294 = .ok (.getfield 101, 3) := by decide +kernel
theorem d_Mo_check_297 : decode b_Mo_check 297 = .ok (.iload_n 2, 1) := by decide +kernel
theorem d_Mo_check_298 : decode b_Mo_check 298 = .ok (.iaload, 1) := by decide +kernel
theorem d_Mo_check_299 : decode b_Mo_check 299 = .ok (.iadd, 1) := by decide +kernel
theorem d_Mo_check_300 : decode b_Mo_check 300 = .ok (.invokestatic 300, 3) := by decide +kernel
theorem d_Mo_check_303 : decode b_Mo_check 303 = .ok (.iastore, 1) := by decide +kernel
theorem d_Mo_check_304 : decode b_Mo_check 304 = .ok (.aload_n 0, 1) := by decide +kernel
theorem d_Mo_check_305 : decode b_Mo_check 305 = .ok (.getfield 98, 3) := by decide +kernel
theorem d_Mo_check_308 : decode b_Mo_check 308 = .ok (.iload_n 2, 1) := by decide +kernel
theorem d_Mo_check_309 : decode b_Mo_check 309 = .ok (.iconst 0, 1) := by decide +kernel
theorem d_Mo_check_310 : decode b_Mo_check 310 = .ok (.iastore, 1) := by decide +kernel
theorem d_Mo_check_311 : decode b_Mo_check 311 = .ok (.aload_n 0, 1) := by decide +kernel
theorem d_Mo_check_312 : decode b_Mo_check 312 = .ok (.getfield 101, 3) := by decide +kernel
theorem d_Mo_check_315 : decode b_Mo_check 315 = .ok (.iload_n 2, 1) := by decide +kernel
theorem d_Mo_check_316 : decode b_Mo_check 316 = .ok (.iconst 0, 1) := by decide +kernel
theorem d_Mo_check_317 : decode b_Mo_check 317 = .ok (.iastore, 1) := by decide +kernel
theorem d_Mo_check_318 : decode b_Mo_check 318 = .ok (.aload_n 0, 1) := by decide +kernel
theorem d_Mo_check_319 : decode b_Mo_check 319 = .ok (.getfield 104, 3) := by decide +kernel
theorem d_Mo_check_322 : decode b_Mo_check 322 = .ok (.iload_n 2, 1) := by decide +kernel
theorem d_Mo_check_323 : decode b_Mo_check 323 = .ok (.iconst 0, 1) := by decide +kernel
theorem d_Mo_check_324 : decode b_Mo_check 324 = .ok (.bastore, 1) := by decide +kernel
theorem d_Mo_check_325 : decode b_Mo_check 325 = .ok (.iconst 0, 1) := by decide +kernel
theorem d_Mo_check_326 : decode b_Mo_check 326 = .ok (.istore_n 3, 1) := by decide +kernel
theorem d_Mo_check_327 : decode b_Mo_check 327 = .ok (.goto 85, 3) := by decide +kernel
theorem d_Mo_check_330 : decode b_Mo_check 330 = .ok (.aload_n 0, 1) := by decide +kernel
theorem d_Mo_check_331 : decode b_Mo_check 331 = .ok (.getfield 104, 3) := by decide +kernel
theorem d_Mo_check_334 : decode b_Mo_check 334 = .ok (.iload_n 2, 1) := by decide +kernel
theorem d_Mo_check_335 : decode b_Mo_check 335 = .ok (.baload, 1) := by decide +kernel
theorem d_Mo_check_336 : decode b_Mo_check 336 = .ok (.ifCond .eq 66, 3) := by decide +kernel
theorem d_Mo_check_339 : decode b_Mo_check 339 = .ok (.iload 4, 2) := by decide +kernel
theorem d_Mo_check_341 : decode b_Mo_check 341 = .ok (.bipush 41, 2) := by decide +kernel
theorem d_Mo_check_343 : decode b_Mo_check 343 = .ok (.if_icmp .ne 59, 3) := by decide +kernel
theorem d_Mo_check_346 : decode b_Mo_check 346 = .ok (.iload_n 2, 1) := by decide +kernel
theorem d_Mo_check_347 : decode b_Mo_check 347 = .ok (.ifCond .le 55, 3) := by decide +kernel
theorem d_Mo_check_350 : decode b_Mo_check 350 = .ok (.aload_n 0, 1) := by decide +kernel
theorem d_Mo_check_351 : decode b_Mo_check 351 = .ok (.dup, 1) := by decide +kernel
theorem d_Mo_check_352 : decode b_Mo_check 352 = .ok (.getfield 247, 3) := by decide +kernel
theorem d_Mo_check_355 : decode b_Mo_check 355 = .ok (.iconst 1, 1) := by decide +kernel
theorem d_Mo_check_356 : decode b_Mo_check 356 = .ok (.iadd, 1) := by decide +kernel
theorem d_Mo_check_357 : decode b_Mo_check 357 = .ok (.putfield 247, 3) := by decide +kernel
theorem d_Mo_check_360 : decode b_Mo_check 360 = .ok (.iinc 2 (-1), 3) := by decide +kernel
theorem d_Mo_check_363 : decode b_Mo_check 363 = .ok (.aload_n 0, 1) := by decide +kernel
theorem d_Mo_check_364 : decode b_Mo_check 364 = .ok (.iload_n 2, 1) := by decide +kernel
theorem d_Mo_check_365 : decode b_Mo_check 365 = .ok (.aload_n 0, 1) := by decide +kernel
theorem d_Mo_check_366 : decode b_Mo_check 366 = .ok (.getfield 95, 3) := by decide +kernel
theorem d_Mo_check_369 : decode b_Mo_check 369 = .ok (.iload_n 2, 1) := by decide +kernel
theorem d_Mo_check_370 : decode b_Mo_check 370 = .ok (.iconst 1, 1) := by decide +kernel
theorem d_Mo_check_371 : decode b_Mo_check 371 = .ok (.iadd, 1) := by decide +kernel
theorem d_Mo_check_372 : decode b_Mo_check 372 = .ok (.iaload, 1) := by decide +kernel
theorem d_Mo_check_373 : decode b_Mo_check 373 = .ok (.aload_n 0, 1) := by decide +kernel
theorem d_Mo_check_374 : decode b_Mo_check 374 = .ok (.getfield 98, 3) := by decide +kernel
theorem d_Mo_check_377 : decode b_Mo_check 377 = .ok (.iload_n 2, 1) := by decide +kernel
theorem d_Mo_check_378 : decode b_Mo_check 378 = .ok (.iconst 1, 1) := by decide +kernel
theorem d_Mo_check_379 : decode b_Mo_check 379 = .ok (.iadd, 1) := by decide +kernel
theorem d_Mo_check_380 : decode b_Mo_check 380 = .ok (.iaload, 1) := by decide +kernel
theorem d_Mo_check_381 : decode b_Mo_check 381 = .ok (.iadd, 1) := by decide +kernel
theorem d_Mo_check_382 : decode b_Mo_check 382 = .ok (.aload_n 0, 1) := by decide +kernel
theorem d_Mo_check_383 : decode b_Mo_check 383 = .ok (.getfield 101, 3) := by decide +kernel
theorem d_Mo_check_386 : decode b_Mo_check 386 = .ok (.iload_n 2, 1) := by decide +kernel
theorem d_Mo_check_387 : decode b_Mo_check 387 = .ok (.iconst 1, 1) := by decide +kernel
theorem d_Mo_check_388 : decode b_Mo_check 388 = .ok (.iadd, 1) := by decide +kernel
theorem d_Mo_check_389 : decode b_Mo_check 389 = .ok (.iaload, 1) := by decide +kernel
theorem d_Mo_check_390 : decode b_Mo_check 390 = .ok (.iadd, 1) := by decide +kernel
theorem d_Mo_check_391 : decode b_Mo_check 391 = .ok (.invokestatic 300, 3) := by decide +kernel
theorem d_Mo_check_394 : decode b_Mo_check 394 = .ok (.invokevirtual 290, 3) := by decide +kernel
theorem d_Mo_check_397 : decode b_Mo_check 397 = .ok (.iconst 1, 1) := by decide +kernel
theorem d_Mo_check_398 : decode b_Mo_check 398 = .ok (.istore_n 3, 1) := by decide +kernel
theorem d_Mo_check_399 : decode b_Mo_check 399 = .ok (.goto 13, 3) := by decide +kernel
theorem d_Mo_check_402 : decode b_Mo_check 402 = .ok (.aload_n 0, 1) := by decide +kernel
theorem d_Mo_check_403 : decode b_Mo_check 403 = .ok (.iconst 2, 1) := by decide +kernel
theorem d_Mo_check_404 : decode b_Mo_check 404 = .ok (.aload_n 0, 1) := by decide +kernel
theorem d_Mo_check_405 : decode b_Mo_check 405 = .ok (.getfield 247, 3) := by decide +kernel
theorem d_Mo_check_408 : decode b_Mo_check 408 = .ok (.invokevirtual 198, 3) := by decide +kernel
theorem d_Mo_check_411 : decode b_Mo_check 411 = .ok (.pop, 1) := by decide +kernel
theorem d_Mo_check_412 : decode b_Mo_check 412 = .ok (.goto (-403), 3) := by decide +kernel
theorem d_Mo_check_415 : decode b_Mo_check 415 = .ok (.aload_n 0, 1) := by decide +kernel
theorem d_Mo_check_416 : decode b_Mo_check 416 = .ok (.getfield 172, 3) := by decide +kernel
theorem d_Mo_check_419 : decode b_Mo_check 419 = .ok (.ifCond .ne 26, 3) := by decide +kernel
theorem d_Mo_check_422 : decode b_Mo_check 422 = .ok (.iload_n 2, 1) := by decide +kernel
theorem d_Mo_check_423 : decode b_Mo_check 423 = .ok (.ifCond .gt 12, 3) := by decide +kernel
theorem d_Mo_check_426 : decode b_Mo_check 426 = .ok (.aload_n 0, 1) := by decide +kernel
theorem d_Mo_check_427 : decode b_Mo_check 427 = .ok (.getfield 104, 3) := by decide +kernel
theorem d_Mo_check_430 : decode b_Mo_check 430 = .ok (.iconst 0, 1) := by decide +kernel
theorem d_Mo_check_431 : decode b_Mo_check 431 = .ok (.baload, 1) := by decide +kernel
theorem d_Mo_check_432 : decode b_Mo_check 432 = .ok (.ifCond .ne 13, 3) := by decide +kernel
theorem d_Mo_check_435 : decode b_Mo_check 435 = .ok (.aload_n 0, 1) := by decide +kernel
theorem d_Mo_check_436 : decode b_Mo_check 436 = .ok (.iconst 2, 1) := by decide +kernel
theorem d_Mo_check_437 : decode b_Mo_check 437 = .ok (.aload_n 0, 1) := by decide +kernel
theorem d_Mo_check_438 : decode b_Mo_check 438 = .ok (.getfield 247, 3) := by decide +kernel
theorem d_Mo_check_441 : decode b_Mo_check 441 = .ok (.invokevirtual 198, 3) := by decide +kernel
theorem d_Mo_check_444 : decode b_Mo_check 444 = .ok (.pop, 1) := by decide +kernel
theorem d_Mo_check_445 : decode b_Mo_check 445 = .ok (.aload_n 0, 1) := by decide +kernel
theorem d_Mo_check_446 : decode b_Mo_check 446 = .ok (.getfield 95, 3) := by decide +kernel
theorem d_Mo_check_449 : decode b_Mo_check 449 = .ok (.iconst 0, 1) := by decide +kernel
theorem d_Mo_check_450 : decode b_Mo_check 450 = .ok (.iaload, 1) := by decide +kernel
theorem d_Mo_check_451 : decode b_Mo_check 451 = .ok (.aload_n 0, 1) := by decide +kernel
theorem d_Mo_check_452 : decode b_Mo_check 452 = .ok (.getfield 98, 3) := by decide +kernel
theorem d_Mo_check_455 : decode b_Mo_check 455 = .ok (.iconst 0, 1) := by decide +kernel
theorem d_Mo_check_456 : decode b_Mo_check 456 = .ok (.iaload, 1) := by decide +kernel
theorem d_Mo_check_457 : decode b_Mo_check 457 = .ok (.iadd, 1) := by decide +kernel
theorem d_Mo_check_458 : decode b_Mo_check 458 = .ok (.aload_n 0, 1) := by decide +kernel
theorem d_Mo_check_459 : decode b_Mo_check 459 = .ok (.getfield 101, 3) := by decide +kernel
theorem d_Mo_check_462 : decode b_Mo_check 462 = .ok (.iconst 0, 1) := by decide +kernel
theorem d_Mo_check_463 : decode b_Mo_check 463 = .ok (.iaload, 1) := by decide +kernel
theorem d_Mo_check_464 : decode b_Mo_check 464 = .ok (.iadd, 1) := by decide +kernel
theorem d_Mo_check_465 : decode b_Mo_check 465 = .ok (.invokestatic 300, 3) := by decide +kernel
theorem d_Mo_check_468 : decode b_Mo_check 468 = .ok (.ireturn, 1) := by decide +kernel
theorem d_Mo_begin_0 : decode b_Mo_begin 0 = .ok (.aload_n 0, 1) := by decide +kernel
theorem d_Mo_begin_1 : decode b_Mo_begin 1 = .ok (.getfield 117, 3) := by decide +kernel
theorem d_Mo_begin_4 : decode b_Mo_begin 4 = .ok (.iload_n 1, 1) := by decide +kernel
theorem d_Mo_begin_5 : decode b_Mo_begin 5 = .ok (.iconst 0, 1) := by decide +kernel
theorem d_Mo_begin_6 : decode b_Mo_begin 6 = .ok (.bastore, 1) := by decide +kernel
theorem d_Mo_begin_7 : decode b_Mo_begin 7 = .ok (.aload_n 0, 1) := by decide +kernel
theorem d_Mo_begin_8 : decode b_Mo_begin 8 = .ok (.getfield 120, 3) := by decide +kernel
theorem d_Mo_begin_11 : decode b_Mo_begin 11 = .ok (.iload_n 1, 1) := by decide +kernel
theorem d_Mo_begin_12 : decode b_Mo_begin 12 = .ok (.iconst 0, 1) := by decide +kernel
theorem d_Mo_begin_13 : decode b_Mo_begin 13 = .ok (.bastore, 1) := by decide +kernel
theorem d_Mo_begin_14 : decode b_Mo_begin 14 = .ok (.aload_n 0, 1) := by decide +kernel
theorem d_Mo_begin_15 : decode b_Mo_begin 15 = .ok (.getfield 104, 3) := by decide +kernel
theorem d_Mo_begin_18 : decode b_Mo_begin 18 = .ok (.iload_n 1, 1) := by decide +kernel
theorem d_Mo_begin_19 : decode b_Mo_begin 19 = .ok (.iconst 0, 1) := by decide +kernel
theorem d_Mo_begin_20 : decode b_Mo_begin 20 = .ok (.bastore, 1) := by decide +kernel
theorem d_Mo_begin_21 : decode b_Mo_begin 21 = .ok (.aload_n 0, 1) := by decide +kernel
theorem d_Mo_begin_22 : decode b_Mo_begin 22 = .ok (.getfield 126, 3) := by decide +kernel
theorem d_Mo_begin_25 : decode b_Mo_begin 25 = .ok (.iload_n 1, 1) := by decide +kernel
theorem d_Mo_begin_26 : decode b_Mo_begin 26 = .ok (.aload_n 0, 1) := by decide +kernel
theorem d_Mo_begin_27 : decode b_Mo_begin 27 = .ok (.getfield 256, 3) := by decide +kernel
theorem d_Mo_begin_30 : decode b_Mo_begin 30 = .ok (.iastore, 1) := by decide +kernel
theorem d_Mo_begin_31 : decode b_Mo_begin 31 = .ok (.return_, 1) := by decide +kernel
theorem d_Mo_lastOf_0 : decode b_Mo_lastOf 0 = .ok (.lload_n 0, 1) := by decide +kernel
theorem d_Mo_lastOf_1 : decode b_Mo_lastOf 1 = .ok (.bipush 16, 2) := by decide +kernel
theorem d_Mo_lastOf_3 : decode b_Mo_lastOf 3 = .ok (.lshr, 1) := by decide +kernel
theorem d_Mo_lastOf_4 : decode b_Mo_lastOf 4 = .ok (.ldc2_w 305, 3) := by decide +kernel
theorem d_Mo_lastOf_7 : decode b_Mo_lastOf 7 = .ok (.land, 1) := by decide +kernel
theorem d_Mo_lastOf_8 : decode b_Mo_lastOf 8 = .ok (.l2i, 1) := by decide +kernel
theorem d_Mo_lastOf_9 : decode b_Mo_lastOf 9 = .ok (.ireturn, 1) := by decide +kernel
theorem d_Mo_firstOf_0 : decode b_Mo_firstOf 0 = .ok (.lload_n 0, 1) := by decide +kernel
theorem d_Mo_firstOf_1 : decode b_Mo_firstOf 1 = .ok (.ldc2_w 305, 3) := by decide +kernel
theorem d_Mo_firstOf_4 : decode b_Mo_firstOf 4 = .ok (.land, 1) := by decide +kernel
theorem d_Mo_firstOf_5 : decode b_Mo_firstOf 5 = .ok (.l2i, 1) := by decide +kernel
theorem d_Mo_firstOf_6 : decode b_Mo_firstOf 6 = .ok (.ireturn, 1) := by decide +kernel
theorem d_Mo_join_0 : decode b_Mo_join 0 = .ok (.iconst 0, 1) := by decide +kernel
theorem d_Mo_join_1 : decode b_Mo_join 1 = .ok (.istore_n 3, 1) := by decide +kernel
theorem d_Mo_join_2 : decode b_Mo_join 2 = .ok (.iload_n 3, 1) := by decide +kernel
theorem d_Mo_join_3 : decode b_Mo_join 3 = .ok (.bipush 10, 2) := by decide +kernel
theorem d_Mo_join_5 : decode b_Mo_join 5 = .ok (.if_icmp .ge 36, 3) := by decide +kernel
theorem d_Mo_join_8 : decode b_Mo_join 8 = .ok (.iload_n 1, 1) := by decide +kernel
theorem d_Mo_join_9 : decode b_Mo_join 9 = .ok (.iload_n 3, 1) := by decide +kernel
theorem d_Mo_join_10 : decode b_Mo_join 10 = .ok (.ishr, 1) := by decide +kernel
theorem d_Mo_join_11 : decode b_Mo_join 11 = .ok (.iconst 1, 1) := by decide +kernel
theorem d_Mo_join_12 : decode b_Mo_join 12 = .ok (.iand, 1) := by decide +kernel
theorem d_Mo_join_13 : decode b_Mo_join 13 = .ok (.iconst 1, 1) := by decide +kernel
theorem d_Mo_join_14 : decode b_Mo_join 14 = .ok (.if_icmp .ne 21, 3) := by decide +kernel
theorem d_Mo_join_17 : decode b_Mo_join 17 = .ok (.aload_n 0, 1) := by decide +kernel
theorem d_Mo_join_18 : decode b_Mo_join 18 = .ok (.getfield 66, 3) := by decide +kernel
theorem d_Mo_join_21 : decode b_Mo_join 21 = .ok (.bipush 11, 2) := by decide +kernel
theorem d_Mo_join_23 : decode b_Mo_join 23 = .ok (.aload_n 0, 1) := by decide +kernel
theorem d_Mo_join_24 : decode b_Mo_join 24 = .ok (.getfield 253, 3) := by decide +kernel
theorem d_Mo_join_27 : decode b_Mo_join 27 = .ok (.imul, 1) := by decide +kernel
theorem d_Mo_join_28 : decode b_Mo_join 28 = .ok (.iload_n 3, 1) := by decide +kernel
theorem d_Mo_join_29 : decode b_Mo_join 29 = .ok (.iadd, 1) := by decide +kernel
theorem d_Mo_join_30 : decode b_Mo_join 30 = .ok (.dup2, 1) := by decide +kernel
theorem d_Mo_join_31 : decode b_Mo_join 31 = .ok (.iaload, 1) := by decide +kernel
theorem d_Mo_join_32 : decode b_Mo_join 32 = .ok (.iload_n 2, 1) := by decide +kernel
theorem d_Mo_join_33 : decode b_Mo_join 33 = .ok (.ior, 1) := by decide +kernel
theorem d_Mo_join_34 : decode b_Mo_join 34 = .ok (.iastore, 1) := by decide +kernel
theorem d_Mo_join_35 : decode b_Mo_join 35 = .ok (.iinc 3 1, 3) := by decide +kernel
theorem d_Mo_join_38 : decode b_Mo_join 38 = .ok (.goto (-36), 3) := by decide +kernel
theorem d_Mo_join_41 : decode b_Mo_join 41 = .ok (.return_, 1) := by decide +kernel
theorem d_Mo_noneOf_0 : decode b_Mo_noneOf 0 = .ok (.lload_n 0, 1) := by decide +kernel
theorem d_Mo_noneOf_1 : decode b_Mo_noneOf 1 = .ok (.bipush 32, 2) := by decide +kernel
theorem d_Mo_noneOf_3 : decode b_Mo_noneOf 3 = .ok (.lshr, 1) := by decide +kernel
theorem d_Mo_noneOf_4 : decode b_Mo_noneOf 4 = .ok (.lconst 1, 1) := by decide +kernel
theorem d_Mo_noneOf_5 : decode b_Mo_noneOf 5 = .ok (.lcmp, 1) := by decide +kernel
theorem d_Mo_noneOf_6 : decode b_Mo_noneOf 6 = .ok (.ifCond .ne 7, 3) := by decide +kernel
theorem d_Mo_noneOf_9 : decode b_Mo_noneOf 9 = .ok (.iconst 1, 1) := by decide +kernel
theorem d_Mo_noneOf_10 : decode b_Mo_noneOf 10 = .ok (.goto 4, 3) := by decide +kernel
theorem d_Mo_noneOf_13 : decode b_Mo_noneOf 13 = .ok (.iconst 0, 1) := by decide +kernel
theorem d_Mo_noneOf_14 : decode b_Mo_noneOf 14 = .ok (.ireturn, 1) := by decide +kernel
theorem d_Mo_part_0 : decode b_Mo_part 0 = .ok (.iload_n 0, 1) := by decide +kernel
theorem d_Mo_part_1 : decode b_Mo_part 1 = .ok (.i2l, 1) := by decide +kernel
theorem d_Mo_part_2 : decode b_Mo_part 2 = .ok (.iload_n 1, 1) := by decide +kernel
theorem d_Mo_part_3 : decode b_Mo_part 3 = .ok (.i2l, 1) := by decide +kernel
theorem d_Mo_part_4 : decode b_Mo_part 4 = .ok (.bipush 16, 2) := by decide +kernel
theorem d_Mo_part_6 : decode b_Mo_part 6 = .ok (.lshl, 1) := by decide +kernel
theorem d_Mo_part_7 : decode b_Mo_part 7 = .ok (.lor, 1) := by decide +kernel
theorem d_Mo_part_8 : decode b_Mo_part 8 = .ok (.iload_n 2, 1) := by decide +kernel
theorem d_Mo_part_9 : decode b_Mo_part 9 = .ok (.ifCond .eq 9, 3) := by decide +kernel
theorem d_Mo_part_12 : decode b_Mo_part 12 = .ok (.ldc2_w 303, 3) := by decide +kernel
theorem d_Mo_part_15 : decode b_Mo_part 15 = .ok (.goto 4, 3) := by decide +kernel
theorem d_Mo_part_18 : decode b_Mo_part 18 = .ok (.lconst 0, 1) := by decide +kernel
theorem d_Mo_part_19 : decode b_Mo_part 19 = .ok (.lor, 1) := by decide +kernel
theorem d_Mo_part_20 : decode b_Mo_part 20 = .ok (.lreturn, 1) := by decide +kernel
theorem d_Mo_behind_0 : decode b_Mo_behind 0 = .ok (.aload_n 0, 1) := by decide +kernel
theorem d_Mo_behind_1 : decode b_Mo_behind 1 = .ok (.lload_n 1, 1) := by decide +kernel
theorem d_Mo_behind_2 : decode b_Mo_behind 2 = .ok (.invokestatic 267, 3) := by decide +kernel
theorem d_Mo_behind_5 : decode b_Mo_behind 5 = .ok (.lload_n 3, 1) := by decide +kernel
theorem d_Mo_behind_6 : decode b_Mo_behind 6 = .ok (.invokestatic 263, 3) := by decide +kernel
theorem d_Mo_behind_9 : decode b_Mo_behind 9 = .ok (.invokevirtual 307, 3) := by decide +kernel
theorem d_Mo_behind_12 : decode b_Mo_behind 12 = .ok (.lload_n 1, 1) := by decide +kernel
theorem d_Mo_behind_13 : decode b_Mo_behind 13 = .ok (.invokestatic 263, 3) := by decide +kernel
theorem d_Mo_behind_16 : decode b_Mo_behind 16 = .ok (.lload_n 1, 1) := by decide +kernel
theorem d_Mo_behind_17 : decode b_Mo_behind 17 = .ok (.invokestatic 270, 3) := by decide +kernel
theorem d_Mo_behind_20 : decode b_Mo_behind 20 = .ok (.ifCond .eq 10, 3) := by decide +kernel
theorem d_Mo_behind_23 : decode b_Mo_behind 23 = .ok (.lload_n 3, 1) := by decide +kernel
theorem d_Mo_behind_24 : decode b_Mo_behind 24 = .ok (.invokestatic 263, 3) := by decide +kernel
theorem d_Mo_behind_27 : decode b_Mo_behind 27 = .ok (.goto 4, 3) := by decide +kernel
theorem d_Mo_behind_30 : decode b_Mo_behind 30 = .ok (.iconst 0, 1) := by decide +kernel
theorem d_Mo_behind_31 : decode b_Mo_behind 31 = .ok (.ior, 1) := by decide +kernel
theorem d_Mo_behind_32 : decode b_Mo_behind 32 = .ok (.lload_n 3, 1) := by decide +kernel
theorem d_Mo_behind_33 : decode b_Mo_behind 33 = .ok (.invokestatic 267, 3) := by decide +kernel
theorem d_Mo_behind_36 : decode b_Mo_behind 36 = .ok (.lload_n 3, 1) := by decide +kernel
theorem d_Mo_behind_37 : decode b_Mo_behind 37 = .ok (.invokestatic 270, 3) := by decide +kernel
theorem d_Mo_behind_40 : decode b_Mo_behind 40 = .ok (.ifCond .eq 10, 3) := by decide +kernel
theorem d_Mo_behind_43 : decode b_Mo_behind 43 = .ok (.lload_n 1, 1) := by decide +kernel
theorem d_Mo_behind_44 : decode b_Mo_behind 44 = .ok (.invokestatic 267, 3) := by decide +kernel
theorem d_Mo_behind_47 : decode b_Mo_behind 47 = .ok (.goto 4, 3) := by decide +kernel
theorem d_Mo_behind_50 : decode b_Mo_behind 50 = .ok (.iconst 0, 1) := by decide +kernel
theorem d_Mo_behind_51 : decode b_Mo_behind 51 = .ok (.ior, 1) := by decide +kernel
theorem d_Mo_behind_52 : decode b_Mo_behind 52 = .ok (.lload_n 1, 1) := by decide +kernel
theorem d_Mo_behind_53 : decode b_Mo_behind 53 = .ok (.invokestatic 270, 3) := by decide +kernel
theorem d_Mo_behind_56 : decode b_Mo_behind 56 = .ok (.ifCond .eq 14, 3) := by decide +kernel
theorem d_Mo_behind_59 : decode b_Mo_behind 59 = .ok (.lload_n 3, 1) := by decide +kernel
theorem d_Mo_behind_60 : decode b_Mo_behind 60 = .ok (.invokestatic 270, 3) := by decide +kernel
theorem d_Mo_behind_63 : decode b_Mo_behind 63 = .ok (.ifCond .eq 7, 3) := by decide +kernel
theorem d_Mo_behind_66 : decode b_Mo_behind 66 = .ok (.iconst 1, 1) := by decide +kernel
theorem d_Mo_behind_67 : decode b_Mo_behind 67 = .ok (.goto 4, 3) := by decide +kernel
theorem d_Mo_behind_70 : decode b_Mo_behind 70 = .ok (.iconst 0, 1) := by decide +kernel
theorem d_Mo_behind_71 : decode b_Mo_behind 71 = .ok (.invokestatic 310, 3) := by decide +kernel
theorem d_Mo_behind_74 : decode b_Mo_behind 74 = .ok (.lreturn, 1) := by decide +kernel
theorem d_Mo_settle_0 : decode b_Mo_settle 0 = .ok (.aload_n 0, 1) := by decide +kernel
theorem d_Mo_settle_1 : decode b_Mo_settle 1 = .ok (.getfield 104, 3) := by decide +kernel
theorem d_Mo_settle_4 : decode b_Mo_settle 4 = .ok (.iload_n 1, 1) := by decide +kernel
theorem d_Mo_settle_5 : decode b_Mo_settle 5 = .ok (.baload, 1) := by decide +kernel
theorem d_Mo_settle_6 : decode b_Mo_settle 6 = .ok (.ifCond .eq 57, 3) := by decide +kernel
theorem d_Mo_settle_9 : decode b_Mo_settle 9 = .ok (.aload_n 0, 1) := by decide +kernel
theorem d_Mo_settle_10 : decode b_Mo_settle 10 = .ok (.getfield 111, 3) := by decide +kernel
theorem d_Mo_settle_13 : decode b_Mo_settle 13 = .ok (.iload_n 1, 1) := by decide +kernel
theorem d_Mo_settle_14 : decode b_Mo_settle 14 = .ok (.aload_n 0, 1) := by decide +kernel
theorem d_Mo_settle_15 : decode b_Mo_settle 15 = .ok (.getfield 120, 3) := by decide +kernel
theorem d_Mo_settle_18 : decode b_Mo_settle 18 = .ok (.iload_n 1, 1) := by decide +kernel
theorem d_Mo_settle_19 : decode b_Mo_settle 19 = .ok (.baload, 1) := by decide +kernel
theorem d_Mo_settle_20 : decode b_Mo_settle 20 = .ok (.ifCond .eq 22, 3) := by decide +kernel
theorem d_Mo_settle_23 : decode b_Mo_settle 23 = .ok (.aload_n 0, 1) := by decide +kernel
theorem d_Mo_settle_24 : decode b_Mo_settle 24 = .ok (.aload_n 0, 1) := by decide +kernel
theorem d_Mo_settle_25 : decode b_Mo_settle 25 = .ok (.getfield 111, 3) := by decide +kernel
theorem d_Mo_settle_28 : decode b_Mo_settle 28 = .ok (.iload_n 1, 1) := by decide +kernel
theorem d_Mo_settle_29 : decode b_Mo_settle 29 = .ok (.laload, 1) := by decide +kernel
theorem d_Mo_settle_30 : decode b_Mo_settle 30 = .ok (.aload_n 0, 1) := by decide +kernel
theorem d_Mo_settle_31 : decode b_Mo_settle 31 = .ok (.getfield 114, 3) := by decide +kernel
theorem d_Mo_settle_34 : decode b_Mo_settle 34 = .ok (.iload_n 1, 1) := by decide +kernel
theorem d_Mo_settle_35 : decode b_Mo_settle 35 = .ok (.laload, 1) := by decide +kernel
theorem d_Mo_settle_36 : decode b_Mo_settle 36 = .ok (.invokevirtual 314, 3) := by decide +kernel
theorem d_Mo_settle_39 : decode b_Mo_settle 39 = .ok (.goto 9, 3) := by decide +kernel
theorem d_Mo_settle_42 : decode b_Mo_settle 42 = .ok (.aload_n 0, 1) := by decide +kernel
theorem d_Mo_settle_43 : decode b_Mo_settle 43 = .ok (.getfield 114, 3) := by decide +kernel
theorem d_Mo_settle_46 : decode b_Mo_settle 46 = .ok (.iload_n 1, 1) := by decide +kernel
theorem d_Mo_settle_47 : decode b_Mo_settle 47 = .ok (.laload, 1) := by decide +kernel
theorem d_Mo_settle_48 : decode b_Mo_settle 48 = .ok (.lastore, 1) := by decide +kernel
theorem d_Mo_settle_49 : decode b_Mo_settle 49 = .ok (.aload_n 0, 1) := by decide +kernel
theorem d_Mo_settle_50 : decode b_Mo_settle 50 = .ok (.getfield 120, 3) := by decide +kernel
theorem d_Mo_settle_53 : decode b_Mo_settle 53 = .ok (.iload_n 1, 1) := by decide +kernel
theorem d_Mo_settle_54 : decode b_Mo_settle 54 = .ok (.iconst 1, 1) := by decide +kernel
theorem d_Mo_settle_55 : decode b_Mo_settle 55 = .ok (.bastore, 1) := by decide +kernel
theorem d_Mo_settle_56 : decode b_Mo_settle 56 = .ok (.aload_n 0, 1) := by decide +kernel
theorem d_Mo_settle_57 : decode b_Mo_settle 57 = .ok (.getfield 104, 3) := by decide +kernel
theorem d_Mo_settle_60 : decode b_Mo_settle 60 = .ok (.iload_n 1, 1) := by decide +kernel
theorem d_Mo_settle_61 : decode b_Mo_settle 61 = .ok (.iconst 0, 1) := by decide +kernel
theorem d_Mo_settle_62 : decode b_Mo_settle 62 = .ok (.bastore, 1) := by decide +kernel
theorem d_Mo_settle_63 : decode b_Mo_settle 63 = .ok (.return_, 1) := by decide +kernel
theorem d_Mo_finish_0 : decode b_Mo_finish 0 = .ok (.aload_n 0, 1) := by decide +kernel
theorem d_Mo_finish_1 : decode b_Mo_finish 1 = .ok (.iload_n 1, 1) := by decide +kernel
theorem d_Mo_finish_2 : decode b_Mo_finish 2 = .ok (.invokevirtual 318, 3) := by decide +kernel
theorem d_Mo_finish_5 : decode b_Mo_finish 5 = .ok (.aload_n 0, 1) := by decide +kernel
theorem d_Mo_finish_6 : decode b_Mo_finish 6 = .ok (.getfield 107, 3) := by decide +kernel
theorem d_Mo_finish_9 : decode b_Mo_finish 9 = .ok (.iload_n 1, 1) := by decide +kernel
theorem d_Mo_finish_10 : decode b_Mo_finish 10 = .ok (.laload, 1) := by decide +kernel
theorem d_Mo_finish_11 : decode b_Mo_finish 11 = .ok (.lstore_n 2, 1) := by decide +kernel
theorem d_Mo_finish_12 : decode b_Mo_finish 12 = .ok (.aload_n 0, 1) := by decide +kernel
theorem d_Mo_finish_13 : decode b_Mo_finish 13 = .ok (.getfield 111, 3) := by decide +kernel
theorem d_Mo_finish_16 : decode b_Mo_finish 16 = .ok (.iload_n 1, 1) := by decide +kernel
theorem d_Mo_finish_17 : decode b_Mo_finish 17 = .ok (.laload, 1) := by decide +kernel
theorem d_Mo_finish_18 : decode b_Mo_finish 18 = .ok (.lstore 4, 2) := by decide +kernel
theorem d_Mo_finish_20 : decode b_Mo_finish 20 = .ok (.aload_n 0, 1) := by decide +kernel
theorem d_Mo_finish_21 : decode b_Mo_finish 21 = .ok (.getfield 107, 3) := by decide +kernel
theorem d_Mo_finish_24 : decode b_Mo_finish 24 = .ok (.iload_n 1, 1) := by decide +kernel
theorem d_Mo_finish_25 : decode b_Mo_finish 25 = .ok (.aload_n 0, 1) := by decide +kernel
theorem d_Mo_finish_26 : decode b_Mo_finish 26 = .ok (.getfield 117, 3) := by decide +kernel
theorem d_Mo_finish_29 : decode b_Mo_finish 29 = .ok (.iload_n 1, 1) := by decide +kernel
theorem d_Mo_finish_30 : decode b_Mo_finish 30 = .ok (.baload, 1) := by decide +kernel
theorem d_Mo_finish_31 : decode b_Mo_finish 31 = .ok (.ifCond .eq 49, 3) := by decide +kernel
theorem d_Mo_finish_34 : decode b_Mo_finish 34 = .ok (.lload_n 2, 1) := by decide +kernel
theorem d_Mo_finish_35 : decode b_Mo_finish 35 = .ok (.invokestatic 263, 3) := by decide +kernel
theorem d_Mo_finish_38 : decode b_Mo_finish 38 = .ok (.lload 4, 2) := by decide +kernel
theorem d_Mo_finish_40 : decode b_Mo_finish 40 = .ok (.invokestatic 263, 3) := by decide +kernel
theorem d_Mo_finish_43 : decode b_Mo_finish 43 = .ok (.ior, 1) := by decide +kernel
theorem d_Mo_finish_44 : decode b_Mo_finish 44 = .ok (.lload_n 2, 1) := by decide +kernel
theorem d_Mo_finish_45 : decode b_Mo_finish 45 = .ok (.invokestatic 267, 3) := by decide +kernel
theorem d_Mo_finish_48 : decode b_Mo_finish 48 = .ok (.lload 4, 2) := by decide +kernel
theorem d_Mo_finish_50 : decode b_Mo_finish 50 = .ok (.invokestatic 267, 3) := by decide +kernel
theorem d_Mo_finish_53 : decode b_Mo_finish 53 = .ok (.ior, 1) := by decide +kernel
theorem d_Mo_finish_54 : decode b_Mo_finish 54 = .ok (.lload_n 2, 1) := by decide +kernel
theorem d_Mo_finish_55 : decode b_Mo_finish 55 = .ok (.invokestatic 270, 3) := by decide +kernel
theorem d_Mo_finish_58 : decode b_Mo_finish 58 = .ok (.ifCond .ne 11, 3) := by decide +kernel
theorem d_Mo_finish_61 : decode b_Mo_finish 61 = .ok (.lload 4, 2) := by decide +kernel
theorem d_Mo_finish_63 : decode b_Mo_finish 63 = .ok (.invokestatic 270, 3) := by decide +kernel
theorem d_Mo_finish_66 : decode b_Mo_finish 66 = .ok (.ifCond .eq 7, 3) := by decide +kernel
theorem d_Mo_finish_69 : decode b_Mo_finish 69 = .ok (.iconst 1, 1) := by decide +kernel
theorem d_Mo_finish_70 : decode b_Mo_finish 70 = .ok (.goto 4, 3) := by decide +kernel
theorem d_Mo_finish_73 : decode b_Mo_finish 73 = .ok (.iconst 0, 1) := by decide +kernel
theorem d_Mo_finish_74 : decode b_Mo_finish 74 = .ok (.invokestatic 310, 3) := by decide +kernel
theorem d_Mo_finish_77 : decode b_Mo_finish 77 = .ok (.goto 5, 3) := by decide +kernel
theorem d_Mo_finish_80 : decode b_Mo_finish 80 = .ok (.lload 4, 2) := by decide +kernel
theorem d_Mo_finish_82 : decode b_Mo_finish 82 = .ok (.lastore, 1) := by decide +kernel
theorem d_Mo_finish_83 : decode b_Mo_finish 83 = .ok (.aload_n 0, 1) := by decide +kernel
theorem d_Mo_finish_84 : decode b_Mo_finish 84 = .ok (.getfield 117, 3) := by decide +kernel
theorem d_Mo_finish_87 : decode b_Mo_finish 87 = .ok (.iload_n 1, 1) := by decide +kernel
theorem d_Mo_finish_88 : decode b_Mo_finish 88 = .ok (.iconst 1, 1) := by decide +kernel
theorem d_Mo_finish_89 : decode b_Mo_finish 89 = .ok (.bastore, 1) := by decide +kernel
theorem d_Mo_finish_90 : decode b_Mo_finish 90 = .ok (.aload_n 0, 1) := by decide +kernel
theorem d_Mo_finish_91 : decode b_Mo_finish 91 = .ok (.getfield 120, 3) := by decide +kernel
theorem d_Mo_finish_94 : decode b_Mo_finish 94 = .ok (.iload_n 1, 1) := by decide +kernel
theorem d_Mo_finish_95 : decode b_Mo_finish 95 = .ok (.iconst 0, 1) := by decide +kernel
theorem d_Mo_finish_96 : decode b_Mo_finish 96 = .ok (.bastore, 1) := by decide +kernel
theorem d_Mo_finish_97 : decode b_Mo_finish 97 = .ok (.return_, 1) := by decide +kernel
theorem d_Mo_often_0 : decode b_Mo_often 0 = .ok (.aload_n 0, 1) := by decide +kernel
theorem d_Mo_often_1 : decode b_Mo_often 1 = .ok (.aload_n 0, 1) := by decide +kernel
theorem d_Mo_often_2 : decode b_Mo_often 2 = .ok (.getfield 247, 3) := by decide +kernel
theorem d_Mo_often_5 : decode b_Mo_often 5 = .ok (.invokevirtual 181, 3) := by decide +kernel
theorem d_Mo_often_8 : decode b_Mo_often 8 = .ok (.istore 4, 2) := by decide +kernel
theorem d_Mo_often_10 : decode b_Mo_often 10 = .ok (.iload 4, 2) := by decide +kernel
theorem d_Mo_often_12 : decode b_Mo_often 12 = .ok (.bipush 123, 2) := by decide +kernel
theorem d_Mo_often_14 : decode b_Mo_often 14 = .ok (.if_icmp .eq 63, 3) := by decide +kernel
theorem d_Mo_often_17 : decode b_Mo_often 17 = .ok (.aload_n 0, 1) := by decide +kernel
theorem d_Mo_often_18 : decode b_Mo_often 18 = .ok (.dup, 1) := by decide +kernel
theorem d_Mo_often_19 : decode b_Mo_often 19 = .ok (.getfield 247, 3) := by decide +kernel
theorem d_Mo_often_22 : decode b_Mo_often 22 = .ok (.iconst 1, 1) := by decide +kernel
theorem d_Mo_often_23 : decode b_Mo_often 23 = .ok (.iadd, 1) := by decide +kernel
theorem d_Mo_often_24 : decode b_Mo_often 24 = .ok (.putfield 247, 3) := by decide +kernel
theorem d_Mo_often_27 : decode b_Mo_often 27 = .ok (.iload 4, 2) := by decide +kernel
theorem d_Mo_often_29 : decode b_Mo_often 29 = .ok (.bipush 63, 2) := by decide +kernel
theorem d_Mo_often_31 : decode b_Mo_often 31 = .ok (.if_icmp .eq 15, 3) := by decide +kernel
theorem d_Mo_often_34 : decode b_Mo_often 34 = .ok (.aload_n 0, 1) := by decide +kernel
theorem d_Mo_often_35 : decode b_Mo_often 35 = .ok (.lload_n 1, 1) := by decide +kernel
theorem d_Mo_often_36 : decode b_Mo_often 36 = .ok (.invokestatic 267, 3) := by decide +kernel
theorem d_Mo_often_39 : decode b_Mo_often 39 = .ok (.lload_n 1, 1) := by decide +kernel
theorem d_Mo_often_40 : decode b_Mo_often 40 = .ok (.invokestatic 263, 3) := by decide +kernel
theorem d_Mo_often_43 : decode b_Mo_often 43 = .ok (.invokevirtual 307, 3) := by decide +kernel
theorem d_Mo_often_46 : decode b_Mo_often 46 = .ok (.lload_n 1, 1) := by decide +kernel
theorem d_Mo_often_47 : decode b_Mo_often 47 = .ok (.invokestatic 263, 3) := by decide +kernel
theorem d_Mo_often_50 : decode b_Mo_often 50 = .ok (.lload_n 1, 1) := by decide +kernel
theorem d_Mo_often_51 : decode b_Mo_often 51 = .ok (.invokestatic 267, 3) := by decide +kernel
theorem d_Mo_often_54 : decode b_Mo_often 54 = .ok (.lload_n 1, 1) := by decide +kernel
theorem d_Mo_often_55 : decode b_Mo_often 55 = .ok (.invokestatic 270, 3) := by decide +kernel
theorem d_Mo_often_58 : decode b_Mo_often 58 = .ok (.ifCond .ne 10, 3) := by decide +kernel
theorem d_Mo_often_61 : decode b_Mo_often 61 = .ok (.iload 4, 2) := by decide +kernel
theorem d_Mo_often_63 : decode b_Mo_often 63 = .ok (.bipush 43, 2) := by decide +kernel
theorem d_Mo_often_65 : decode b_Mo_often 65 = .ok (.if_icmp .eq 7, 3) := by decide +kernel
theorem d_Mo_often_68 : decode b_Mo_often 68 = .ok (.iconst 1, 1) := by decide +kernel
theorem d_Mo_often_69 : decode b_Mo_often 69 = .ok (.goto 4, 3) := by decide +kernel
theorem d_Mo_often_72 : decode b_Mo_often 72 = .ok (.iconst 0, 1) := by decide +kernel
theorem d_Mo_often_73 : decode b_Mo_often 73 = .ok (.invokestatic 310, 3) := by decide +kernel
theorem d_Mo_often_76 : decode b_Mo_often 76 = .ok (.lreturn, 1) := by decide +kernel
theorem d_Mo_often_77 : decode b_Mo_often 77 = .ok (.aload_n 0, 1) := by decide +kernel
theorem d_Mo_often_78 : decode b_Mo_often 78 = .ok (.aload_n 0, 1) := by decide +kernel
theorem d_Mo_often_79 : decode b_Mo_often 79 = .ok (.getfield 247, 3) := by decide +kernel
theorem d_Mo_often_82 : decode b_Mo_often 82 = .ok (.iconst 1, 1) := by decide +kernel
theorem d_Mo_often_83 : decode b_Mo_often 83 = .ok (.iadd, 1) := by decide +kernel
theorem d_Mo_often_84 : decode b_Mo_often 84 = .ok (.invokevirtual 181, 3) := by decide +kernel
theorem d_Mo_often_87 : decode b_Mo_often 87 = .ok (.bipush 48, 2) := by decide +kernel
theorem d_Mo_often_89 : decode b_Mo_often 89 = .ok (.isub, 1) := by decide +kernel
theorem d_Mo_often_90 : decode b_Mo_often 90 = .ok (.istore 5, 2) := by decide +kernel
theorem d_Mo_often_92 : decode b_Mo_often 92 = .ok (.aload_n 0, 1) := by decide +kernel
theorem d_Mo_often_93 : decode b_Mo_often 93 = .ok (.aload_n 0, 1) := by decide +kernel
theorem d_Mo_often_94 : decode b_Mo_often 94 = .ok (.getfield 247, 3) := by decide +kernel
theorem d_Mo_often_97 : decode b_Mo_often 97 = .ok (.iconst 3, 1) := by decide +kernel
theorem d_Mo_often_98 : decode b_Mo_often 98 = .ok (.iadd, 1) := by decide +kernel
theorem d_Mo_often_99 : decode b_Mo_often 99 = .ok (.invokevirtual 181, 3) := by decide +kernel
theorem d_Mo_often_102 : decode b_Mo_often 102 = .ok (.bipush 48, 2) := by decide +kernel
theorem d_Mo_often_104 : decode b_Mo_often 104 = .ok (.isub, 1) := by decide +kernel
theorem d_Mo_often_105 : decode b_Mo_often 105 = .ok (.istore 6, 2) := by decide +kernel
theorem d_Mo_often_107 : decode b_Mo_often 107 = .ok (.aload_n 0, 1) := by decide +kernel
theorem d_Mo_often_108 : decode b_Mo_often 108 = .ok (.dup, 1) := by decide +kernel
theorem d_Mo_often_109 : decode b_Mo_often 109 = .ok (.getfield 247, 3) := by decide +kernel
theorem d_Mo_often_112 : decode b_Mo_often 112 = .ok (.iconst 5, 1) := by decide +kernel
theorem d_Mo_often_113 : decode b_Mo_often 113 = .ok (.iadd, 1) := by decide +kernel
theorem d_Mo_often_114 : decode b_Mo_often 114 = .ok (.putfield 247, 3) := by decide +kernel
theorem d_Mo_often_117 : decode b_Mo_often 117 = .ok (.aload_n 0, 1) := by decide +kernel
theorem d_Mo_often_118 : decode b_Mo_often 118 = .ok (.getfield 256, 3) := by decide +kernel
theorem d_Mo_often_121 : decode b_Mo_often 121 = .ok (.iload_n 3, 1) := by decide +kernel
theorem d_Mo_often_122 : decode b_Mo_often 122 = .ok (.isub, 1) := by decide +kernel
theorem d_Mo_often_123 : decode b_Mo_often 123 = .ok (.istore 7, 2) := by decide +kernel
theorem d_Mo_often_125 : decode b_Mo_often 125 = .ok (.iconst 1, 1) := by decide +kernel
theorem d_Mo_often_126 : decode b_Mo_often 126 = .ok (.aload_n 0, 1) := by decide +kernel
theorem d_Mo_often_127 : decode b_Mo_often 127 = .ok (.getfield 256, 3) := by decide +kernel
theorem d_Mo_often_130 : decode b_Mo_often 130 = .ok (.ishl, 1) := by decide +kernel
theorem d_Mo_often_131 : decode b_Mo_often 131 = .ok (.iconst 1, 1) := by decide +kernel
theorem d_Mo_often_132 : decode b_Mo_often 132 = .ok (.iload_n 3, 1) := by decide +kernel
theorem d_Mo_often_133 : decode b_Mo_often 133 = .ok (.ishl, 1) := by decide +kernel
theorem d_Mo_often_134 : decode b_Mo_often 134 = .ok (.isub, 1) := by decide +kernel
theorem d_Mo_often_135 : decode b_Mo_often 135 = .ok (.istore 8, 2) := by decide +kernel
theorem d_Mo_often_137 : decode b_Mo_often 137 = .ok (.lload_n 1, 1) := by decide +kernel
theorem d_Mo_often_138 : decode b_Mo_often 138 = .ok (.invokestatic 263, 3) := by decide +kernel
theorem d_Mo_often_141 : decode b_Mo_often 141 = .ok (.lload_n 1, 1) := by decide +kernel
theorem d_Mo_often_142 : decode b_Mo_often 142 = .ok (.invokestatic 267, 3) := by decide +kernel
theorem d_Mo_often_145 : decode b_Mo_often 145 = .ok (.lload_n 1, 1) := by decide +kernel
theorem d_Mo_often_146 : decode b_Mo_often 146 = .ok (.invokestatic 270, 3) := by decide +kernel
theorem d_Mo_often_149 : decode b_Mo_often 149 = .ok (.ifCond .ne 8, 3) := by decide +kernel
theorem d_Mo_often_152 : decode b_Mo_often 152 = .ok (.iload 5, 2) := by decide +kernel
theorem d_Mo_often_154 : decode b_Mo_often 154 = .ok (.ifCond .ne 7, 3) := by decide +kernel
theorem d_Mo_often_157 : decode b_Mo_often 157 = .ok (.iconst 1, 1) := by decide +kernel
theorem d_Mo_often_158 : decode b_Mo_often 158 = .ok (.goto 4, 3) := by decide +kernel
theorem d_Mo_often_161 : decode b_Mo_often 161 = .ok (.iconst 0, 1) := by decide +kernel
theorem d_Mo_often_162 : decode b_Mo_often 162 = .ok (.invokestatic 310, 3) := by decide +kernel
theorem d_Mo_often_165 : decode b_Mo_often 165 = .ok (.lstore 9, 2) := by decide +kernel
theorem d_Mo_often_167 : decode b_Mo_often 167 = .ok (.iconst 1, 1) := by decide +kernel
theorem d_Mo_often_168 : decode b_Mo_often 168 = .ok (.istore 11, 2) := by decide +kernel
theorem d_Mo_often_170 : decode b_Mo_often 170 = .ok (.iload 11, 2) := by decide +kernel
theorem d_Mo_often_172 : decode b_Mo_often 172 = .ok (.iload 6, 2) := by decide +kernel
theorem d_Mo_often_174 : decode b_Mo_often 174 = .ok (.if_icmp .ge 169, 3) := by decide +kernel
theorem d_Mo_often_177 : decode b_Mo_often 177 = .ok (.iload_n 3, 1) := by decide +kernel
theorem d_Mo_often_178 : decode b_Mo_often 178 = .ok (.istore 12, 2) := by decide +kernel
theorem d_Mo_often_180 : decode b_Mo_often 180 = .ok (.iload 12, 2) := by decide +kernel
theorem d_Mo_often_182 : decode b_Mo_often 182 = .ok (.iload_n 3, 1) := by decide +kernel
theorem d_Mo_often_183 : decode b_Mo_often 183 = .ok (.iload 7, 2) := by decide +kernel
theorem d_Mo_often_185 : decode b_Mo_often 185 = .ok (.iadd, 1) := by decide +kernel
theorem d_Mo_often_186 : decode b_Mo_often 186 = .ok (.if_icmp .ge 90, 3) := by decide +kernel
theorem d_Mo_often_189 : decode b_Mo_often 189 = .ok (.aload_n 0, 1) := by decide +kernel
theorem d_Mo_often_190 : decode b_Mo_often 190 = .ok (.getfield 63, 3) := by decide +kernel
theorem d_Mo_often_193 : decode b_Mo_often 193 = .ok (.bipush 10, 2) := by decide +kernel
theorem d_Mo_often_195 : decode b_Mo_often 195 = .ok (.aload_n 0, 1) := by decide +kernel
theorem d_Mo_often_196 : decode b_Mo_often 196 = .ok (.getfield 253, 3) := by decide +kernel
theorem d_Mo_often_199 : decode b_Mo_often 199 = .ok (.imul, 1) := by decide +kernel
theorem d_Mo_often_200 : decode b_Mo_often 200 = .ok (.iload 12, 2) := by decide +kernel
theorem d_Mo_often_202 : decode b_Mo_often 202 = .ok (.iadd, 1) := by decide +kernel
theorem d_Mo_often_203 : decode b_Mo_often 203 = .ok (.iload 11, 2) := by decide +kernel
theorem d_Mo_often_205 : decode b_Mo_often 205 = .ok (.iload 7, 2) := by decide +kernel
theorem d_Mo_often_207 : decode b_Mo_often 207 = .ok (.imul, 1) := by decide +kernel
theorem d_Mo_often_208 : decode b_Mo_often 208 = .ok (.iadd, 1) := by decide +kernel
theorem d_Mo_often_209 : decode b_Mo_often 209 = .ok (.aload_n 0, 1) := by decide +kernel
theorem d_Mo_often_210 : decode b_Mo_often 210 = .ok (.getfield 63, 3) := by decide +kernel
theorem d_Mo_often_213 : decode b_Mo_often 213 = .ok (.bipush 10, 2) := by decide +kernel
theorem d_Mo_often_215 : decode b_Mo_often 215 = .ok (.aload_n 0, 1) := by decide +kernel
theorem d_Mo_often_216 : decode b_Mo_often 216 = .ok (.getfield 253, 3) := by decide +kernel
theorem d_Mo_often_219 : decode b_Mo_often 219 = .ok (.imul, 1) := by decide +kernel
theorem d_Mo_often_220 : decode b_Mo_often 220 = .ok (.iload 12, 2) := by decide +kernel
theorem d_Mo_often_222 : decode b_Mo_often 222 = .ok (.iadd, 1) := by decide +kernel
theorem d_Mo_often_223 : decode b_Mo_often 223 = .ok (.iaload, 1) := by decide +kernel
theorem d_Mo_often_224 : decode b_Mo_often 224 = .ok (.iastore, 1) := by decide +kernel
theorem d_Mo_often_225 : decode b_Mo_often 225 = .ok (.aload_n 0, 1) := by decide +kernel
theorem d_Mo_often_226 : decode b_Mo_often 226 = .ok (.getfield 66, 3) := by decide +kernel
theorem d_Mo_often_229 : decode b_Mo_often 229 = .ok (.bipush 11, 2) := by decide +kernel
theorem d_Mo_often_231 : decode b_Mo_often 231 = .ok (.aload_n 0, 1) := by decide +kernel
theorem d_Mo_often_232 : decode b_Mo_often 232 = .ok (.getfield 253, 3) := by decide +kernel
theorem d_Mo_often_235 : decode b_Mo_often 235 = .ok (.imul, 1) := by decide +kernel
theorem d_Mo_often_236 : decode b_Mo_often 236 = .ok (.iload 12, 2) := by decide +kernel
theorem d_Mo_often_238 : decode b_Mo_often 238 = .ok (.iadd, 1) := by decide +kernel
theorem d_Mo_often_239 : decode b_Mo_often 239 = .ok (.iload 11, 2) := by decide +kernel
theorem d_Mo_often_241 : decode b_Mo_often 241 = .ok (.iload 7, 2) := by decide +kernel
theorem d_Mo_often_243 : decode b_Mo_often 243 = .ok (.imul, 1) := by decide +kernel
theorem d_Mo_often_244 : decode b_Mo_often 244 = .ok (.iadd, 1) := by decide +kernel
theorem d_Mo_often_245 : decode b_Mo_often 245 = .ok (.aload_n 0, 1) := by decide +kernel
theorem d_Mo_often_246 : decode b_Mo_often 246 = .ok (.getfield 66, 3) := by decide +kernel
theorem d_Mo_often_249 : decode b_Mo_often 249 = .ok (.bipush 11, 2) := by decide +kernel
theorem d_Mo_often_251 : decode b_Mo_often 251 = .ok (.aload_n 0, 1) := by decide +kernel
