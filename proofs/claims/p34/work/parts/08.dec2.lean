theorem dL_plays_313 : decode cL_plays 313 = .ok (.iinc 4 (-1), 3) := by decide +kernel
theorem dL_plays_316 : decode cL_plays 316 = .ok (.goto (-102), 3) := by decide +kernel
theorem dL_plays_319 : decode cL_plays 319 = .ok (.aload_n 0, 1) := by decide +kernel
theorem dL_plays_320 : decode cL_plays 320 = .ok (.aload_n 3, 1) := by decide +kernel
theorem dL_plays_321 : decode cL_plays 321 = .ok (.invokevirtual 70, 3) := by decide +kernel
theorem dL_plays_324 : decode cL_plays 324 = .ok (.invokestatic 97, 3) := by decide +kernel
theorem dL_plays_327 : decode cL_plays 327 = .ok (.ifCond .eq 14, 3) := by decide +kernel
theorem dL_plays_330 : decode cL_plays 330 = .ok (.aload_n 0, 1) := by decide +kernel
theorem dL_plays_331 : decode cL_plays 331 = .ok (.aload_n 3, 1) := by decide +kernel
theorem dL_plays_332 : decode cL_plays 332 = .ok (.invokevirtual 101, 3) := by decide +kernel
theorem dL_plays_335 : decode cL_plays 335 = .ok (.invokevirtual 102, 3) := by decide +kernel
theorem dL_plays_338 : decode cL_plays 338 = .ok (.ifCond .eq 5, 3) := by decide +kernel
theorem dL_plays_341 : decode cL_plays 341 = .ok (.iconst 0, 1) := by decide +kernel
theorem dL_plays_342 : decode cL_plays 342 = .ok (.ireturn, 1) := by decide +kernel
theorem dL_plays_343 : decode cL_plays 343 = .ok (.iconst 0, 1) := by decide +kernel
theorem dL_plays_344 : decode cL_plays 344 = .ok (.istore 4, 2) := by decide +kernel
theorem dL_plays_346 : decode cL_plays 346 = .ok (.iload 4, 2) := by decide +kernel
theorem dL_plays_348 : decode cL_plays 348 = .ok (.bipush 18, 2) := by decide +kernel
theorem dL_plays_350 : decode cL_plays 350 = .ok (.if_icmp .ge 45, 3) := by decide +kernel
theorem dL_plays_353 : decode cL_plays 353 = .ok (.aload_n 0, 1) := by decide +kernel
theorem dL_plays_354 : decode cL_plays 354 = .ok (.aload_n 2, 1) := by decide +kernel
theorem dL_plays_355 : decode cL_plays 355 = .ok (.aload_n 1, 1) := by decide +kernel
theorem dL_plays_356 : decode cL_plays 356 = .ok (.invokestatic 106, 3) := by decide +kernel
theorem dL_plays_359 : decode cL_plays 359 = .ok (.ifCond .eq 28, 3) := by decide +kernel
theorem dL_plays_362 : decode cL_plays 362 = .ok (.aload_n 0, 1) := by decide +kernel
theorem dL_plays_363 : decode cL_plays 363 = .ok (.aload_n 2, 1) := by decide +kernel
theorem dL_plays_364 : decode cL_plays 364 = .ok (.invokestatic 110, 3) := by decide +kernel
theorem dL_plays_367 : decode cL_plays 367 = .ok (.ifCond .eq 20, 3) := by decide +kernel
theorem dL_plays_370 : decode cL_plays 370 = .ok (.aload_n 0, 1) := by decide +kernel
theorem dL_plays_371 : decode cL_plays 371 = .ok (.aload_n 2, 1) := by decide +kernel
theorem dL_plays_372 : decode cL_plays 372 = .ok (.invokestatic 113, 3) := by decide +kernel
theorem dL_plays_375 : decode cL_plays 375 = .ok (.ifCond .eq 12, 3) := by decide +kernel
theorem dL_plays_378 : decode cL_plays 378 = .ok (.aload_n 0, 1) := by decide +kernel
theorem dL_plays_379 : decode cL_plays 379 = .ok (.aload_n 2, 1) := by decide +kernel
theorem dL_plays_380 : decode cL_plays 380 = .ok (.aload_n 1, 1) := by decide +kernel
theorem dL_plays_381 : decode cL_plays 381 = .ok (.invokestatic 116, 3) := by decide +kernel
theorem dL_plays_384 : decode cL_plays 384 = .ok (.ifCond .ne 5, 3) := by decide +kernel
theorem dL_plays_387 : decode cL_plays 387 = .ok (.iconst 0, 1) := by decide +kernel
theorem dL_plays_388 : decode cL_plays 388 = .ok (.ireturn, 1) := by decide +kernel
theorem dL_plays_389 : decode cL_plays 389 = .ok (.iinc 4 1, 3) := by decide +kernel
theorem dL_plays_392 : decode cL_plays 392 = .ok (.goto (-46), 3) := by decide +kernel
theorem dL_plays_395 : decode cL_plays 395 = .ok (.iconst 1, 1) := by decide +kernel
theorem dL_plays_396 : decode cL_plays 396 = .ok (.ireturn, 1) := by decide +kernel
theorem dL_blocks_0 : decode cL_blocks 0 = .ok (.iconst 5, 1) := by decide +kernel
theorem dL_blocks_1 : decode cL_blocks 1 = .ok (.newarray .int, 2) := by decide +kernel
theorem dL_blocks_3 : decode cL_blocks 3 = .ok (.astore_n 2, 1) := by decide +kernel
theorem dL_blocks_4 : decode cL_blocks 4 = .ok (.iconst 0, 1) := by decide +kernel
theorem dL_blocks_5 : decode cL_blocks 5 = .ok (.istore_n 3, 1) := by decide +kernel
theorem dL_blocks_6 : decode cL_blocks 6 = .ok (.iconst 0, 1) := by decide +kernel
theorem dL_blocks_7 : decode cL_blocks 7 = .ok (.istore 4, 2) := by decide +kernel
theorem dL_blocks_9 : decode cL_blocks 9 = .ok (.iconst 0, 1) := by decide +kernel
theorem dL_blocks_10 : decode cL_blocks 10 = .ok (.istore 5, 2) := by decide +kernel
theorem dL_blocks_12 : decode cL_blocks 12 = .ok (.iconst 0, 1) := by decide +kernel
theorem dL_blocks_13 : decode cL_blocks 13 = .ok (.istore 6, 2) := by decide +kernel
theorem dL_blocks_15 : decode cL_blocks 15 = .ok (.iload 6, 2) := by decide +kernel
theorem dL_blocks_17 : decode cL_blocks 17 = .ok (.aload_n 1, 1) := by decide +kernel
theorem dL_blocks_18 : decode cL_blocks 18 = .ok (.getfield 39, 3) := by decide +kernel
theorem dL_blocks_21 : decode cL_blocks 21 = .ok (.if_icmp .ge 334, 3) := by decide +kernel
theorem dL_blocks_24 : decode cL_blocks 24 = .ok (.aload_n 2, 1) := by decide +kernel
theorem dL_blocks_25 : decode cL_blocks 25 = .ok (.aload_n 1, 1) := by decide +kernel
theorem dL_blocks_26 : decode cL_blocks 26 = .ok (.iload 6, 2) := by decide +kernel
theorem dL_blocks_28 : decode cL_blocks 28 = .ok (.invokevirtual 118, 3) := by decide +kernel
theorem dL_blocks_31 : decode cL_blocks 31 = .ok (.dup2, 1) := by decide +kernel
theorem dL_blocks_32 : decode cL_blocks 32 = .ok (.iaload, 1) := by decide +kernel
theorem dL_blocks_33 : decode cL_blocks 33 = .ok (.iconst 1, 1) := by decide +kernel
theorem dL_blocks_34 : decode cL_blocks 34 = .ok (.iadd, 1) := by decide +kernel
theorem dL_blocks_35 : decode cL_blocks 35 = .ok (.iastore, 1) := by decide +kernel
theorem dL_blocks_36 : decode cL_blocks 36 = .ok (.iload_n 3, 1) := by decide +kernel
theorem dL_blocks_37 : decode cL_blocks 37 = .ok (.aload_n 1, 1) := by decide +kernel
theorem dL_blocks_38 : decode cL_blocks 38 = .ok (.getfield 77, 3) := by decide +kernel
theorem dL_blocks_41 : decode cL_blocks 41 = .ok (.iload 6, 2) := by decide +kernel
theorem dL_blocks_43 : decode cL_blocks 43 = .ok (.baload, 1) := by decide +kernel
theorem dL_blocks_44 : decode cL_blocks 44 = .ok (.ifCond .eq 7, 3) := by decide +kernel
theorem dL_blocks_47 : decode cL_blocks 47 = .ok (.iconst 1, 1) := by decide +kernel
theorem dL_blocks_48 : decode cL_blocks 48 = .ok (.goto 4, 3) := by decide +kernel
theorem dL_blocks_51 : decode cL_blocks 51 = .ok (.iconst 0, 1) := by decide +kernel
theorem dL_blocks_52 : decode cL_blocks 52 = .ok (.iadd, 1) := by decide +kernel
theorem dL_blocks_53 : decode cL_blocks 53 = .ok (.istore_n 3, 1) := by decide +kernel
theorem dL_blocks_54 : decode cL_blocks 54 = .ok (.iload 4, 2) := by decide +kernel
theorem dL_blocks_56 : decode cL_blocks 56 = .ok (.iload 6, 2) := by decide +kernel
theorem dL_blocks_58 : decode cL_blocks 58 = .ok (.aload_n 1, 1) := by decide +kernel
theorem dL_blocks_59 : decode cL_blocks 59 = .ok (.invokevirtual 121, 3) := by decide +kernel
theorem dL_blocks_62 : decode cL_blocks 62 = .ok (.if_icmp .lt 17, 3) := by decide +kernel
theorem dL_blocks_65 : decode cL_blocks 65 = .ok (.aload_n 1, 1) := by decide +kernel
theorem dL_blocks_66 : decode cL_blocks 66 = .ok (.getfield 124, 3) := by decide +kernel
theorem dL_blocks_69 : decode cL_blocks 69 = .ok (.iload 6, 2) := by decide +kernel
theorem dL_blocks_71 : decode cL_blocks 71 = .ok (.iaload, 1) := by decide +kernel
theorem dL_blocks_72 : decode cL_blocks 72 = .ok (.ifCond .ne 7, 3) := by decide +kernel
theorem dL_blocks_75 : decode cL_blocks 75 = .ok (.iconst 1, 1) := by decide +kernel
theorem dL_blocks_76 : decode cL_blocks 76 = .ok (.goto 4, 3) := by decide +kernel
theorem dL_blocks_79 : decode cL_blocks 79 = .ok (.iconst 0, 1) := by decide +kernel
theorem dL_blocks_80 : decode cL_blocks 80 = .ok (.iadd, 1) := by decide +kernel
theorem dL_blocks_81 : decode cL_blocks 81 = .ok (.istore 4, 2) := by decide +kernel
theorem dL_blocks_83 : decode cL_blocks 83 = .ok (.bipush 7, 2) := by decide +kernel
theorem dL_blocks_85 : decode cL_blocks 85 = .ok (.newarray .int, 2) := by decide +kernel
theorem dL_blocks_87 : decode cL_blocks 87 = .ok (.dup, 1) := by decide +kernel
theorem dL_blocks_88 : decode cL_blocks 88 = .ok (.iconst 0, 1) := by decide +kernel
theorem dL_blocks_89 : decode cL_blocks 89 = .ok (.aload_n 1, 1) := by decide +kernel
theorem dL_blocks_90 : decode cL_blocks 90 = .ok (.getfield 124, 3) := by decide +kernel
theorem dL_blocks_93 : decode cL_blocks 93 = .ok (.iload 6, 2) := by decide +kernel
theorem dL_blocks_95 : decode cL_blocks 95 = .ok (.iaload, 1) := by decide +kernel
theorem dL_blocks_96 : decode cL_blocks 96 = .ok (.iastore, 1) := by decide +kernel
theorem dL_blocks_97 : decode cL_blocks 97 = .ok (.dup, 1) := by decide +kernel
theorem dL_blocks_98 : decode cL_blocks 98 = .ok (.iconst 1, 1) := by decide +kernel
theorem dL_blocks_99 : decode cL_blocks 99 = .ok (.aload_n 1, 1) := by decide +kernel
theorem dL_blocks_100 : decode cL_blocks 100 = .ok (.getfield 77, 3) := by decide +kernel
theorem dL_blocks_103 : decode cL_blocks 103 = .ok (.iload 6, 2) := by decide +kernel
theorem dL_blocks_105 : decode cL_blocks 105 = .ok (.baload, 1) := by decide +kernel
theorem dL_blocks_106 : decode cL_blocks 106 = .ok (.ifCond .eq 7, 3) := by decide +kernel
theorem dL_blocks_109 : decode cL_blocks 109 = .ok (.iconst 1, 1) := by decide +kernel
theorem dL_blocks_110 : decode cL_blocks 110 = .ok (.goto 4, 3) := by decide +kernel
theorem dL_blocks_113 : decode cL_blocks 113 = .ok (.iconst 0, 1) := by decide +kernel
theorem dL_blocks_114 : decode cL_blocks 114 = .ok (.iastore, 1) := by decide +kernel
theorem dL_blocks_115 : decode cL_blocks 115 = .ok (.dup, 1) := by decide +kernel
theorem dL_blocks_116 : decode cL_blocks 116 = .ok (.iconst 2, 1) := by decide +kernel
theorem dL_blocks_117 : decode cL_blocks 117 = .ok (.aload_n 1, 1) := by decide +kernel
theorem dL_blocks_118 : decode cL_blocks 118 = .ok (.getfield 128, 3) := by decide +kernel
theorem dL_blocks_121 : decode cL_blocks 121 = .ok (.iload 6, 2) := by decide +kernel
theorem dL_blocks_123 : decode cL_blocks 123 = .ok (.baload, 1) := by decide +kernel
theorem dL_blocks_124 : decode cL_blocks 124 = .ok (.ifCond .eq 7, 3) := by decide +kernel
theorem dL_blocks_127 : decode cL_blocks 127 = .ok (.iconst 1, 1) := by decide +kernel
theorem dL_blocks_128 : decode cL_blocks 128 = .ok (.goto 4, 3) := by decide +kernel
theorem dL_blocks_131 : decode cL_blocks 131 = .ok (.iconst 0, 1) := by decide +kernel
theorem dL_blocks_132 : decode cL_blocks 132 = .ok (.iastore, 1) := by decide +kernel
theorem dL_blocks_133 : decode cL_blocks 133 = .ok (.dup, 1) := by decide +kernel
theorem dL_blocks_134 : decode cL_blocks 134 = .ok (.iconst 3, 1) := by decide +kernel
theorem dL_blocks_135 : decode cL_blocks 135 = .ok (.aload_n 1, 1) := by decide +kernel
theorem dL_blocks_136 : decode cL_blocks 136 = .ok (.getfield 131, 3) := by decide +kernel
theorem dL_blocks_139 : decode cL_blocks 139 = .ok (.iload 6, 2) := by decide +kernel
theorem dL_blocks_141 : decode cL_blocks 141 = .ok (.iaload, 1) := by decide +kernel
theorem dL_blocks_142 : decode cL_blocks 142 = .ok (.iastore, 1) := by decide +kernel
theorem dL_blocks_143 : decode cL_blocks 143 = .ok (.dup, 1) := by decide +kernel
theorem dL_blocks_144 : decode cL_blocks 144 = .ok (.iconst 4, 1) := by decide +kernel
theorem dL_blocks_145 : decode cL_blocks 145 = .ok (.aload_n 1, 1) := by decide +kernel
theorem dL_blocks_146 : decode cL_blocks 146 = .ok (.getfield 134, 3) := by decide +kernel
theorem dL_blocks_149 : decode cL_blocks 149 = .ok (.iload 6, 2) := by decide +kernel
theorem dL_blocks_151 : decode cL_blocks 151 = .ok (.aaload, 1) := by decide +kernel
theorem dL_blocks_152 : decode cL_blocks 152 = .ok (.ifnonnull 7, 3) := by decide +kernel
theorem dL_blocks_155 : decode cL_blocks 155 = .ok (.iconst (-1), 1) := by decide +kernel
theorem dL_blocks_156 : decode cL_blocks 156 = .ok (.goto 13, 3) := by decide +kernel
theorem dL_blocks_159 : decode cL_blocks 159 = .ok (.aload_n 1, 1) := by decide +kernel
theorem dL_blocks_160 : decode cL_blocks 160 = .ok (.getfield 134, 3) := by decide +kernel
theorem dL_blocks_163 : decode cL_blocks 163 = .ok (.iload 6, 2) := by decide +kernel
theorem dL_blocks_165 : decode cL_blocks 165 = .ok (.aaload, 1) := by decide +kernel
theorem dL_blocks_166 : decode cL_blocks 166 = .ok (.getfield 138, 3) := by decide +kernel
theorem dL_blocks_169 : decode cL_blocks 169 = .ok (.iastore, 1) := by decide +kernel
theorem dL_blocks_170 : decode cL_blocks 170 = .ok (.dup, 1) := by decide +kernel
theorem dL_blocks_171 : decode cL_blocks 171 = .ok (.iconst 5, 1) := by decide +kernel
theorem dL_blocks_172 : decode cL_blocks 172 = .ok (.aload_n 1, 1) := by decide +kernel
theorem dL_blocks_173 : decode cL_blocks 173 = .ok (.getfield 143, 3) := by decide +kernel
theorem dL_blocks_176 : decode cL_blocks 176 = .ok (.iload 6, 2) := by decide +kernel
theorem dL_blocks_178 : decode cL_blocks 178 = .ok (.iaload, 1) := by decide +kernel
theorem dL_blocks_179 : decode cL_blocks 179 = .ok (.iastore, 1) := by decide +kernel
theorem dL_blocks_180 : decode cL_blocks 180 = .ok (.dup, 1) := by decide +kernel
theorem dL_blocks_181 : decode cL_blocks 181 = .ok (.bipush 6, 2) := by decide +kernel
theorem dL_blocks_183 : decode cL_blocks 183 = .ok (.aload_n 1, 1) := by decide +kernel
theorem dL_blocks_184 : decode cL_blocks 184 = .ok (.getfield 145, 3) := by decide +kernel
theorem dL_blocks_187 : decode cL_blocks 187 = .ok (.iload 6, 2) := by decide +kernel
theorem dL_blocks_189 : decode cL_blocks 189 = .ok (.iaload, 1) := by decide +kernel
theorem dL_blocks_190 : decode cL_blocks 190 = .ok (.iastore, 1) := by decide +kernel
theorem dL_blocks_191 : decode cL_blocks 191 = .ok (.astore 7, 2) := by decide +kernel
theorem dL_blocks_193 : decode cL_blocks 193 = .ok (.iconst 0, 1) := by decide +kernel
theorem dL_blocks_194 : decode cL_blocks 194 = .ok (.istore 8, 2) := by decide +kernel
theorem dL_blocks_196 : decode cL_blocks 196 = .ok (.iload 8, 2) := by decide +kernel
theorem dL_blocks_198 : decode cL_blocks 198 = .ok (.bipush 7, 2) := by decide +kernel
theorem dL_blocks_200 : decode cL_blocks 200 = .ok (.if_icmp .ge 27, 3) := by decide +kernel
theorem dL_blocks_203 : decode cL_blocks 203 = .ok (.aload_n 0, 1) := by decide +kernel
theorem dL_blocks_204 : decode cL_blocks 204 = .ok (.iload 6, 2) := by decide +kernel
theorem dL_blocks_206 : decode cL_blocks 206 = .ok (.iload 8, 2) := by decide +kernel
theorem dL_blocks_208 : decode cL_blocks 208 = .ok (.invokevirtual 148, 3) := by decide +kernel
theorem dL_blocks_211 : decode cL_blocks 211 = .ok (.aload 7, 2) := by decide +kernel
theorem dL_blocks_213 : decode cL_blocks 213 = .ok (.iload 8, 2) := by decide +kernel
theorem dL_blocks_215 : decode cL_blocks 215 = .ok (.iaload, 1) := by decide +kernel
theorem dL_blocks_216 : decode cL_blocks 216 = .ok (.if_icmp .eq 5, 3) := by decide +kernel
theorem dL_blocks_219 : decode cL_blocks 219 = .ok (.iconst 0, 1) := by decide +kernel
theorem dL_blocks_220 : decode cL_blocks 220 = .ok (.ireturn, 1) := by decide +kernel
theorem dL_blocks_221 : decode cL_blocks 221 = .ok (.iinc 8 1, 3) := by decide +kernel
theorem dL_blocks_224 : decode cL_blocks 224 = .ok (.goto (-28), 3) := by decide +kernel
theorem dL_blocks_227 : decode cL_blocks 227 = .ok (.aload_n 0, 1) := by decide +kernel
theorem dL_blocks_228 : decode cL_blocks 228 = .ok (.iload 6, 2) := by decide +kernel
theorem dL_blocks_230 : decode cL_blocks 230 = .ok (.invokevirtual 151, 3) := by decide +kernel
theorem dL_blocks_233 : decode cL_blocks 233 = .ok (.iload 6, 2) := by decide +kernel
theorem dL_blocks_235 : decode cL_blocks 235 = .ok (.aload_n 1, 1) := by decide +kernel
theorem dL_blocks_236 : decode cL_blocks 236 = .ok (.invokevirtual 121, 3) := by decide +kernel
theorem dL_blocks_239 : decode cL_blocks 239 = .ok (.if_icmp .ge 13, 3) := by decide +kernel
theorem dL_blocks_242 : decode cL_blocks 242 = .ok (.aload_n 1, 1) := by decide +kernel
theorem dL_blocks_243 : decode cL_blocks 243 = .ok (.getfield 124, 3) := by decide +kernel
theorem dL_blocks_246 : decode cL_blocks 246 = .ok (.iload 6, 2) := by decide +kernel
theorem dL_blocks_248 : decode cL_blocks 248 = .ok (.iaload, 1) := by decide +kernel
theorem dL_blocks_249 : decode cL_blocks 249 = .ok (.ifCond .ne 7, 3) := by decide +kernel
theorem dL_blocks_252 : decode cL_blocks 252 = .ok (.iconst (-1), 1) := by decide +kernel
theorem dL_blocks_253 : decode cL_blocks 253 = .ok (.goto 25, 3) := by decide +kernel
theorem dL_blocks_256 : decode cL_blocks 256 = .ok (.aload_n 1, 1) := by decide +kernel
theorem dL_blocks_257 : decode cL_blocks 257 = .ok (.getfield 154, 3) := by decide +kernel
theorem dL_blocks_260 : decode cL_blocks 260 = .ok (.iload 6, 2) := by decide +kernel
theorem dL_blocks_262 : decode cL_blocks 262 = .ok (.iaload, 1) := by decide +kernel
theorem dL_blocks_263 : decode cL_blocks 263 = .ok (.ifCond .ge 8, 3) := by decide +kernel
theorem dL_blocks_266 : decode cL_blocks 266 = .ok (.iload 6, 2) := by decide +kernel
theorem dL_blocks_268 : decode cL_blocks 268 = .ok (.goto 10, 3) := by decide +kernel
theorem dL_blocks_271 : decode cL_blocks 271 = .ok (.aload_n 1, 1) := by decide +kernel
theorem dL_blocks_272 : decode cL_blocks 272 = .ok (.getfield 154, 3) := by decide +kernel
theorem dL_blocks_275 : decode cL_blocks 275 = .ok (.iload 6, 2) := by decide +kernel
theorem dL_blocks_277 : decode cL_blocks 277 = .ok (.iaload, 1) := by decide +kernel
theorem dL_blocks_278 : decode cL_blocks 278 = .ok (.if_icmp .eq 5, 3) := by decide +kernel
theorem dL_blocks_281 : decode cL_blocks 281 = .ok (.iconst 0, 1) := by decide +kernel
theorem dL_blocks_282 : decode cL_blocks 282 = .ok (.ireturn, 1) := by decide +kernel
theorem dL_blocks_283 : decode cL_blocks 283 = .ok (.aload_n 1, 1) := by decide +kernel
theorem dL_blocks_284 : decode cL_blocks 284 = .ok (.getfield 154, 3) := by decide +kernel
theorem dL_blocks_287 : decode cL_blocks 287 = .ok (.iload 6, 2) := by decide +kernel
theorem dL_blocks_289 : decode cL_blocks 289 = .ok (.iaload, 1) := by decide +kernel
theorem dL_blocks_290 : decode cL_blocks 290 = .ok (.ifCond .lt 59, 3) := by decide +kernel
theorem dL_blocks_293 : decode cL_blocks 293 = .ok (.aload_n 1, 1) := by decide +kernel
theorem dL_blocks_294 : decode cL_blocks 294 = .ok (.getfield 157, 3) := by decide +kernel
theorem dL_blocks_297 : decode cL_blocks 297 = .ok (.aload_n 1, 1) := by decide +kernel
theorem dL_blocks_298 : decode cL_blocks 298 = .ok (.getfield 131, 3) := by decide +kernel
theorem dL_blocks_301 : decode cL_blocks 301 = .ok (.iload 6, 2) := by decide +kernel
theorem dL_blocks_303 : decode cL_blocks 303 = .ok (.iaload, 1) := by decide +kernel
theorem dL_blocks_304 : decode cL_blocks 304 = .ok (.aaload, 1) := by decide +kernel
theorem dL_blocks_305 : decode cL_blocks 305 = .ok (.getfield 161, 3) := by decide +kernel
theorem dL_blocks_308 : decode cL_blocks 308 = .ok (.iconst 2, 1) := by decide +kernel
theorem dL_blocks_309 : decode cL_blocks 309 = .ok (.if_icmp .ne 6, 3) := by decide +kernel
theorem dL_blocks_312 : decode cL_blocks 312 = .ok (.goto 37, 3) := by decide +kernel
theorem dL_blocks_315 : decode cL_blocks 315 = .ok (.aload_n 0, 1) := by decide +kernel
theorem dL_blocks_316 : decode cL_blocks 316 = .ok (.iload 5, 2) := by decide +kernel
theorem dL_blocks_318 : decode cL_blocks 318 = .ok (.iconst 0, 1) := by decide +kernel
theorem dL_blocks_319 : decode cL_blocks 319 = .ok (.invokevirtual 166, 3) := by decide +kernel
theorem dL_blocks_322 : decode cL_blocks 322 = .ok (.iload 6, 2) := by decide +kernel
theorem dL_blocks_324 : decode cL_blocks 324 = .ok (.if_icmp .ne 20, 3) := by decide +kernel
theorem dL_blocks_327 : decode cL_blocks 327 = .ok (.aload_n 0, 1) := by decide +kernel
theorem dL_blocks_328 : decode cL_blocks 328 = .ok (.iload 5, 2) := by decide +kernel
theorem dL_blocks_330 : decode cL_blocks 330 = .ok (.iconst 1, 1) := by decide +kernel
theorem dL_blocks_331 : decode cL_blocks 331 = .ok (.invokevirtual 166, 3) := by decide +kernel
theorem dL_blocks_334 : decode cL_blocks 334 = .ok (.aload_n 1, 1) := by decide +kernel
theorem dL_blocks_335 : decode cL_blocks 335 = .ok (.getfield 154, 3) := by decide +kernel
theorem dL_blocks_338 : decode cL_blocks 338 = .ok (.iload 6, 2) := by decide +kernel
theorem dL_blocks_340 : decode cL_blocks 340 = .ok (.iaload, 1) := by decide +kernel
theorem dL_blocks_341 : decode cL_blocks 341 = .ok (.if_icmp .eq 5, 3) := by decide +kernel
theorem dL_blocks_344 : decode cL_blocks 344 = .ok (.iconst 0, 1) := by decide +kernel
theorem dL_blocks_345 : decode cL_blocks 345 = .ok (.ireturn, 1) := by decide +kernel
theorem dL_blocks_346 : decode cL_blocks 346 = .ok (.iinc 5 1, 3) := by decide +kernel
theorem dL_blocks_349 : decode cL_blocks 349 = .ok (.iinc 6 1, 3) := by decide +kernel
theorem dL_blocks_352 : decode cL_blocks 352 = .ok (.goto (-337), 3) := by decide +kernel
theorem dL_blocks_355 : decode cL_blocks 355 = .ok (.iconst 0, 1) := by decide +kernel
theorem dL_blocks_356 : decode cL_blocks 356 = .ok (.istore 6, 2) := by decide +kernel
theorem dL_blocks_358 : decode cL_blocks 358 = .ok (.iload 6, 2) := by decide +kernel
theorem dL_blocks_360 : decode cL_blocks 360 = .ok (.iconst 5, 1) := by decide +kernel
theorem dL_blocks_361 : decode cL_blocks 361 = .ok (.if_icmp .ge 24, 3) := by decide +kernel
theorem dL_blocks_364 : decode cL_blocks 364 = .ok (.aload_n 0, 1) := by decide +kernel
theorem dL_blocks_365 : decode cL_blocks 365 = .ok (.iload 6, 2) := by decide +kernel
theorem dL_blocks_367 : decode cL_blocks 367 = .ok (.invokevirtual 170, 3) := by decide +kernel
theorem dL_blocks_370 : decode cL_blocks 370 = .ok (.aload_n 2, 1) := by decide +kernel
theorem dL_blocks_371 : decode cL_blocks 371 = .ok (.iload 6, 2) := by decide +kernel
theorem dL_blocks_373 : decode cL_blocks 373 = .ok (.iaload, 1) := by decide +kernel
theorem dL_blocks_374 : decode cL_blocks 374 = .ok (.if_icmp .eq 5, 3) := by decide +kernel
theorem dL_blocks_377 : decode cL_blocks 377 = .ok (.iconst 0, 1) := by decide +kernel
theorem dL_blocks_378 : decode cL_blocks 378 = .ok (.ireturn, 1) := by decide +kernel
theorem dL_blocks_379 : decode cL_blocks 379 = .ok (.iinc 6 1, 3) := by decide +kernel
theorem dL_blocks_382 : decode cL_blocks 382 = .ok (.goto (-24), 3) := by decide +kernel
theorem dL_blocks_385 : decode cL_blocks 385 = .ok (.bipush 11, 2) := by decide +kernel
theorem dL_blocks_387 : decode cL_blocks 387 = .ok (.newarray .int, 2) := by decide +kernel
theorem dL_blocks_389 : decode cL_blocks 389 = .ok (.dup, 1) := by decide +kernel
theorem dL_blocks_390 : decode cL_blocks 390 = .ok (.iconst 0, 1) := by decide +kernel
theorem dL_blocks_391 : decode cL_blocks 391 = .ok (.aload_n 1, 1) := by decide +kernel
theorem dL_blocks_392 : decode cL_blocks 392 = .ok (.getfield 39, 3) := by decide +kernel
theorem dL_blocks_395 : decode cL_blocks 395 = .ok (.iastore, 1) := by decide +kernel
theorem dL_blocks_396 : decode cL_blocks 396 = .ok (.dup, 1) := by decide +kernel
theorem dL_blocks_397 : decode cL_blocks 397 = .ok (.iconst 1, 1) := by decide +kernel
theorem dL_blocks_398 : decode cL_blocks 398 = .ok (.aload_n 1, 1) := by decide +kernel
theorem dL_blocks_399 : decode cL_blocks 399 = .ok (.getfield 49, 3) := by decide +kernel
theorem dL_blocks_402 : decode cL_blocks 402 = .ok (.iastore, 1) := by decide +kernel
theorem dL_blocks_403 : decode cL_blocks 403 = .ok (.dup, 1) := by decide +kernel
theorem dL_blocks_404 : decode cL_blocks 404 = .ok (.iconst 2, 1) := by decide +kernel
theorem dL_blocks_405 : decode cL_blocks 405 = .ok (.aload_n 1, 1) := by decide +kernel
theorem dL_blocks_406 : decode cL_blocks 406 = .ok (.getfield 52, 3) := by decide +kernel
theorem dL_blocks_409 : decode cL_blocks 409 = .ok (.iastore, 1) := by decide +kernel
theorem dL_blocks_410 : decode cL_blocks 410 = .ok (.dup, 1) := by decide +kernel
theorem dL_blocks_411 : decode cL_blocks 411 = .ok (.iconst 3, 1) := by decide +kernel
theorem dL_blocks_412 : decode cL_blocks 412 = .ok (.aload_n 1, 1) := by decide +kernel
theorem dL_blocks_413 : decode cL_blocks 413 = .ok (.getfield 173, 3) := by decide +kernel
theorem dL_blocks_416 : decode cL_blocks 416 = .ok (.iastore, 1) := by decide +kernel
theorem dL_blocks_417 : decode cL_blocks 417 = .ok (.dup, 1) := by decide +kernel
theorem dL_blocks_418 : decode cL_blocks 418 = .ok (.iconst 4, 1) := by decide +kernel
theorem dL_blocks_419 : decode cL_blocks 419 = .ok (.aload_n 1, 1) := by decide +kernel
theorem dL_blocks_420 : decode cL_blocks 420 = .ok (.getfield 175, 3) := by decide +kernel
theorem dL_blocks_423 : decode cL_blocks 423 = .ok (.iastore, 1) := by decide +kernel
theorem dL_blocks_424 : decode cL_blocks 424 = .ok (.dup, 1) := by decide +kernel
theorem dL_blocks_425 : decode cL_blocks 425 = .ok (.iconst 5, 1) := by decide +kernel
theorem dL_blocks_426 : decode cL_blocks 426 = .ok (.iload 4, 2) := by decide +kernel
theorem dL_blocks_428 : decode cL_blocks 428 = .ok (.iastore, 1) := by decide +kernel
theorem dL_blocks_429 : decode cL_blocks 429 = .ok (.dup, 1) := by decide +kernel
theorem dL_blocks_430 : decode cL_blocks 430 = .ok (.bipush 6, 2) := by decide +kernel
theorem dL_blocks_432 : decode cL_blocks 432 = .ok (.iload_n 3, 1) := by decide +kernel
theorem dL_blocks_433 : decode cL_blocks 433 = .ok (.iastore, 1) := by decide +kernel
theorem dL_blocks_434 : decode cL_blocks 434 = .ok (.dup, 1) := by decide +kernel
theorem dL_blocks_435 : decode cL_blocks 435 = .ok (.bipush 7, 2) := by decide +kernel
theorem dL_blocks_437 : decode cL_blocks 437 = .ok (.aload_n 1, 1) := by decide +kernel
theorem dL_blocks_438 : decode cL_blocks 438 = .ok (.bipush 12, 2) := by decide +kernel
theorem dL_blocks_440 : decode cL_blocks 440 = .ok (.invokevirtual 178, 3) := by decide +kernel
theorem dL_blocks_443 : decode cL_blocks 443 = .ok (.iastore, 1) := by decide +kernel
theorem dL_blocks_444 : decode cL_blocks 444 = .ok (.dup, 1) := by decide +kernel
theorem dL_blocks_445 : decode cL_blocks 445 = .ok (.bipush 8, 2) := by decide +kernel
theorem dL_blocks_447 : decode cL_blocks 447 = .ok (.aload_n 1, 1) := by decide +kernel
theorem dL_blocks_448 : decode cL_blocks 448 = .ok (.invokevirtual 181, 3) := by decide +kernel
theorem dL_blocks_451 : decode cL_blocks 451 = .ok (.invokestatic 184, 3) := by decide +kernel
theorem dL_blocks_454 : decode cL_blocks 454 = .ok (.iastore, 1) := by decide +kernel
theorem dL_blocks_455 : decode cL_blocks 455 = .ok (.dup, 1) := by decide +kernel
theorem dL_blocks_456 : decode cL_blocks 456 = .ok (.bipush 9, 2) := by decide +kernel
theorem dL_blocks_458 : decode cL_blocks 458 = .ok (.aload_n 1, 1) := by decide +kernel
theorem dL_blocks_459 : decode cL_blocks 459 = .ok (.invokevirtual 189, 3) := by decide +kernel
theorem dL_blocks_462 : decode cL_blocks 462 = .ok (.ifnonnull 7, 3) := by decide +kernel
theorem dL_blocks_465 : decode cL_blocks 465 = .ok (.iconst 0, 1) := by decide +kernel
theorem dL_blocks_466 : decode cL_blocks 466 = .ok (.goto 4, 3) := by decide +kernel
theorem dL_blocks_469 : decode cL_blocks 469 = .ok (.iconst 1, 1) := by decide +kernel
theorem dL_blocks_470 : decode cL_blocks 470 = .ok (.iastore, 1) := by decide +kernel
theorem dL_blocks_471 : decode cL_blocks 471 = .ok (.dup, 1) := by decide +kernel
theorem dL_blocks_472 : decode cL_blocks 472 = .ok (.bipush 10, 2) := by decide +kernel
theorem dL_blocks_474 : decode cL_blocks 474 = .ok (.aload_n 1, 1) := by decide +kernel
theorem dL_blocks_475 : decode cL_blocks 475 = .ok (.getfield 193, 3) := by decide +kernel
theorem dL_blocks_478 : decode cL_blocks 478 = .ok (.ifCond .eq 7, 3) := by decide +kernel
theorem dL_blocks_481 : decode cL_blocks 481 = .ok (.iconst 1, 1) := by decide +kernel
theorem dL_blocks_482 : decode cL_blocks 482 = .ok (.goto 4, 3) := by decide +kernel
theorem dL_blocks_485 : decode cL_blocks 485 = .ok (.iconst 0, 1) := by decide +kernel
theorem dL_blocks_486 : decode cL_blocks 486 = .ok (.iastore, 1) := by decide +kernel
theorem dL_blocks_487 : decode cL_blocks 487 = .ok (.astore 6, 2) := by decide +kernel
theorem dL_blocks_489 : decode cL_blocks 489 = .ok (.iconst 0, 1) := by decide +kernel
theorem dL_blocks_490 : decode cL_blocks 490 = .ok (.istore 7, 2) := by decide +kernel
theorem dL_blocks_492 : decode cL_blocks 492 = .ok (.iload 7, 2) := by decide +kernel
theorem dL_blocks_494 : decode cL_blocks 494 = .ok (.bipush 11, 2) := by decide +kernel
theorem dL_blocks_496 : decode cL_blocks 496 = .ok (.if_icmp .ge 25, 3) := by decide +kernel
theorem dL_blocks_499 : decode cL_blocks 499 = .ok (.aload_n 0, 1) := by decide +kernel
theorem dL_blocks_500 : decode cL_blocks 500 = .ok (.iload 7, 2) := by decide +kernel
theorem dL_blocks_502 : decode cL_blocks 502 = .ok (.invokevirtual 197, 3) := by decide +kernel
theorem dL_blocks_505 : decode cL_blocks 505 = .ok (.aload 6, 2) := by decide +kernel
theorem dL_blocks_507 : decode cL_blocks 507 = .ok (.iload 7, 2) := by decide +kernel
theorem dL_blocks_509 : decode cL_blocks 509 = .ok (.iaload, 1) := by decide +kernel
theorem dL_blocks_510 : decode cL_blocks 510 = .ok (.if_icmp .eq 5, 3) := by decide +kernel
theorem dL_blocks_513 : decode cL_blocks 513 = .ok (.iconst 0, 1) := by decide +kernel
theorem dL_blocks_514 : decode cL_blocks 514 = .ok (.ireturn, 1) := by decide +kernel
theorem dL_blocks_515 : decode cL_blocks 515 = .ok (.iinc 7 1, 3) := by decide +kernel
theorem dL_blocks_518 : decode cL_blocks 518 = .ok (.goto (-26), 3) := by decide +kernel
theorem dL_blocks_521 : decode cL_blocks 521 = .ok (.aload_n 0, 1) := by decide +kernel
theorem dL_blocks_522 : decode cL_blocks 522 = .ok (.bipush 12, 2) := by decide +kernel
theorem dL_blocks_524 : decode cL_blocks 524 = .ok (.invokevirtual 197, 3) := by decide +kernel
theorem dL_blocks_527 : decode cL_blocks 527 = .ok (.aload_n 1, 1) := by decide +kernel
theorem dL_blocks_528 : decode cL_blocks 528 = .ok (.getfield 200, 3) := by decide +kernel
theorem dL_blocks_531 : decode cL_blocks 531 = .ok (.if_icmp .ne 54, 3) := by decide +kernel
theorem dL_blocks_534 : decode cL_blocks 534 = .ok (.aload_n 0, 1) := by decide +kernel
theorem dL_blocks_535 : decode cL_blocks 535 = .ok (.iload 5, 2) := by decide +kernel
theorem dL_blocks_537 : decode cL_blocks 537 = .ok (.iconst 1, 1) := by decide +kernel
theorem dL_blocks_538 : decode cL_blocks 538 = .ok (.invokevirtual 166, 3) := by decide +kernel
theorem dL_blocks_541 : decode cL_blocks 541 = .ok (.iconst (-1), 1) := by decide +kernel
theorem dL_blocks_542 : decode cL_blocks 542 = .ok (.if_icmp .ne 43, 3) := by decide +kernel
theorem dL_blocks_545 : decode cL_blocks 545 = .ok (.aload_n 0, 1) := by decide +kernel
theorem dL_blocks_546 : decode cL_blocks 546 = .ok (.invokevirtual 203, 3) := by decide +kernel
theorem dL_blocks_549 : decode cL_blocks 549 = .ok (.aload_n 2, 1) := by decide +kernel
theorem dL_blocks_550 : decode cL_blocks 550 = .ok (.iconst 0, 1) := by decide +kernel
theorem dL_blocks_551 : decode cL_blocks 551 = .ok (.iaload, 1) := by decide +kernel
theorem dL_blocks_552 : decode cL_blocks 552 = .ok (.aload_n 1, 1) := by decide +kernel
theorem dL_blocks_553 : decode cL_blocks 553 = .ok (.getfield 39, 3) := by decide +kernel
theorem dL_blocks_556 : decode cL_blocks 556 = .ok (.if_icmp .ne 7, 3) := by decide +kernel
theorem dL_blocks_559 : decode cL_blocks 559 = .ok (.dconst 1, 1) := by decide +kernel
theorem dL_blocks_560 : decode cL_blocks 560 = .ok (.goto 17, 3) := by decide +kernel
theorem dL_blocks_563 : decode cL_blocks 563 = .ok (.aload_n 2, 1) := by decide +kernel
theorem dL_blocks_564 : decode cL_blocks 564 = .ok (.iconst 1, 1) := by decide +kernel
theorem dL_blocks_565 : decode cL_blocks 565 = .ok (.iaload, 1) := by decide +kernel
theorem dL_blocks_566 : decode cL_blocks 566 = .ok (.i2d, 1) := by decide +kernel
theorem dL_blocks_567 : decode cL_blocks 567 = .ok (.aload_n 1, 1) := by decide +kernel
theorem dL_blocks_568 : decode cL_blocks 568 = .ok (.getfield 39, 3) := by decide +kernel
theorem dL_blocks_571 : decode cL_blocks 571 = .ok (.aload_n 2, 1) := by decide +kernel
theorem dL_blocks_572 : decode cL_blocks 572 = .ok (.iconst 0, 1) := by decide +kernel
theorem dL_blocks_573 : decode cL_blocks 573 = .ok (.iaload, 1) := by decide +kernel
theorem dL_blocks_574 : decode cL_blocks 574 = .ok (.isub, 1) := by decide +kernel
theorem dL_blocks_575 : decode cL_blocks 575 = .ok (.i2d, 1) := by decide +kernel
theorem dL_blocks_576 : decode cL_blocks 576 = .ok (.ddiv, 1) := by decide +kernel
theorem dL_blocks_577 : decode cL_blocks 577 = .ok (.dcmp .l, 1) := by decide +kernel
theorem dL_blocks_578 : decode cL_blocks 578 = .ok (.ifCond .ne 7, 3) := by decide +kernel
theorem dL_blocks_581 : decode cL_blocks 581 = .ok (.iconst 1, 1) := by decide +kernel
theorem dL_blocks_582 : decode cL_blocks 582 = .ok (.goto 4, 3) := by decide +kernel
theorem dL_blocks_585 : decode cL_blocks 585 = .ok (.iconst 0, 1) := by decide +kernel
theorem dL_blocks_586 : decode cL_blocks 586 = .ok (.ireturn, 1) := by decide +kernel
theorem dL_sessions_0 : decode cL_sessions 0 = .ok (.iconst 0, 1) := by decide +kernel
theorem dL_sessions_1 : decode cL_sessions 1 = .ok (.istore_n 2, 1) := by decide +kernel
theorem dL_sessions_2 : decode cL_sessions 2 = .ok (.iload_n 2, 1) := by decide +kernel
theorem dL_sessions_3 : decode cL_sessions 3 = .ok (.aload_n 1, 1) := by decide +kernel
theorem dL_sessions_4 : decode cL_sessions 4 = .ok (.getfield 173, 3) := by decide +kernel
theorem dL_sessions_7 : decode cL_sessions 7 = .ok (.if_icmp .ge 437, 3) := by decide +kernel
theorem dL_sessions_10 : decode cL_sessions 10 = .ok (.aload_n 1, 1) := by decide +kernel
theorem dL_sessions_11 : decode cL_sessions 11 = .ok (.getfield 157, 3) := by decide +kernel
theorem dL_sessions_14 : decode cL_sessions 14 = .ok (.iload_n 2, 1) := by decide +kernel
theorem dL_sessions_15 : decode cL_sessions 15 = .ok (.aaload, 1) := by decide +kernel
theorem dL_sessions_16 : decode cL_sessions 16 = .ok (.astore_n 3, 1) := by decide +kernel
theorem dL_sessions_17 : decode cL_sessions 17 = .ok (.iconst 0, 1) := by decide +kernel
theorem dL_sessions_18 : decode cL_sessions 18 = .ok (.istore 4, 2) := by decide +kernel
theorem dL_sessions_20 : decode cL_sessions 20 = .ok (.iconst 0, 1) := by decide +kernel
theorem dL_sessions_21 : decode cL_sessions 21 = .ok (.istore 5, 2) := by decide +kernel
theorem dL_sessions_23 : decode cL_sessions 23 = .ok (.iconst 5, 1) := by decide +kernel
theorem dL_sessions_24 : decode cL_sessions 24 = .ok (.newarray .int, 2) := by decide +kernel
theorem dL_sessions_26 : decode cL_sessions 26 = .ok (.astore 6, 2) := by decide +kernel
theorem dL_sessions_28 : decode cL_sessions 28 = .ok (.iconst 0, 1) := by decide +kernel
theorem dL_sessions_29 : decode cL_sessions 29 = .ok (.istore 7, 2) := by decide +kernel
theorem dL_sessions_31 : decode cL_sessions 31 = .ok (.iload 7, 2) := by decide +kernel
theorem dL_sessions_33 : decode cL_sessions 33 = .ok (.aload_n 1, 1) := by decide +kernel
theorem dL_sessions_34 : decode cL_sessions 34 = .ok (.getfield 39, 3) := by decide +kernel
theorem dL_sessions_37 : decode cL_sessions 37 = .ok (.if_icmp .ge 74, 3) := by decide +kernel
theorem dL_sessions_40 : decode cL_sessions 40 = .ok (.aload_n 1, 1) := by decide +kernel
theorem dL_sessions_41 : decode cL_sessions 41 = .ok (.getfield 131, 3) := by decide +kernel
theorem dL_sessions_44 : decode cL_sessions 44 = .ok (.iload 7, 2) := by decide +kernel
theorem dL_sessions_46 : decode cL_sessions 46 = .ok (.iaload, 1) := by decide +kernel
theorem dL_sessions_47 : decode cL_sessions 47 = .ok (.iload_n 2, 1) := by decide +kernel
theorem dL_sessions_48 : decode cL_sessions 48 = .ok (.if_icmp .eq 6, 3) := by decide +kernel
theorem dL_sessions_51 : decode cL_sessions 51 = .ok (.goto 54, 3) := by decide +kernel
theorem dL_sessions_54 : decode cL_sessions 54 = .ok (.aload 6, 2) := by decide +kernel
theorem dL_sessions_56 : decode cL_sessions 56 = .ok (.aload_n 1, 1) := by decide +kernel
theorem dL_sessions_57 : decode cL_sessions 57 = .ok (.iload 7, 2) := by decide +kernel
theorem dL_sessions_59 : decode cL_sessions 59 = .ok (.invokevirtual 118, 3) := by decide +kernel
theorem dL_sessions_62 : decode cL_sessions 62 = .ok (.dup2, 1) := by decide +kernel
theorem dL_sessions_63 : decode cL_sessions 63 = .ok (.iaload, 1) := by decide +kernel
theorem dL_sessions_64 : decode cL_sessions 64 = .ok (.iconst 1, 1) := by decide +kernel
theorem dL_sessions_65 : decode cL_sessions 65 = .ok (.iadd, 1) := by decide +kernel
theorem dL_sessions_66 : decode cL_sessions 66 = .ok (.iastore, 1) := by decide +kernel
theorem dL_sessions_67 : decode cL_sessions 67 = .ok (.iload 4, 2) := by decide +kernel
theorem dL_sessions_69 : decode cL_sessions 69 = .ok (.iload 7, 2) := by decide +kernel
theorem dL_sessions_71 : decode cL_sessions 71 = .ok (.aload_n 1, 1) := by decide +kernel
theorem dL_sessions_72 : decode cL_sessions 72 = .ok (.invokevirtual 121, 3) := by decide +kernel
theorem dL_sessions_75 : decode cL_sessions 75 = .ok (.if_icmp .ge 7, 3) := by decide +kernel
theorem dL_sessions_78 : decode cL_sessions 78 = .ok (.iconst 1, 1) := by decide +kernel
theorem dL_sessions_79 : decode cL_sessions 79 = .ok (.goto 4, 3) := by decide +kernel
theorem dL_sessions_82 : decode cL_sessions 82 = .ok (.iconst 0, 1) := by decide +kernel
theorem dL_sessions_83 : decode cL_sessions 83 = .ok (.iadd, 1) := by decide +kernel
theorem dL_sessions_84 : decode cL_sessions 84 = .ok (.istore 4, 2) := by decide +kernel
theorem dL_sessions_86 : decode cL_sessions 86 = .ok (.iload 5, 2) := by decide +kernel
theorem dL_sessions_88 : decode cL_sessions 88 = .ok (.iload 7, 2) := by decide +kernel
theorem dL_sessions_90 : decode cL_sessions 90 = .ok (.aload_n 1, 1) := by decide +kernel
theorem dL_sessions_91 : decode cL_sessions 91 = .ok (.invokevirtual 121, 3) := by decide +kernel
theorem dL_sessions_94 : decode cL_sessions 94 = .ok (.if_icmp .ge 7, 3) := by decide +kernel
theorem dL_sessions_97 : decode cL_sessions 97 = .ok (.iconst 0, 1) := by decide +kernel
theorem dL_sessions_98 : decode cL_sessions 98 = .ok (.goto 4, 3) := by decide +kernel
theorem dL_sessions_101 : decode cL_sessions 101 = .ok (.iconst 1, 1) := by decide +kernel
theorem dL_sessions_102 : decode cL_sessions 102 = .ok (.iadd, 1) := by decide +kernel
theorem dL_sessions_103 : decode cL_sessions 103 = .ok (.istore 5, 2) := by decide +kernel
theorem dL_sessions_105 : decode cL_sessions 105 = .ok (.iinc 7 1, 3) := by decide +kernel
theorem dL_sessions_108 : decode cL_sessions 108 = .ok (.goto (-77), 3) := by decide +kernel
theorem dL_sessions_111 : decode cL_sessions 111 = .ok (.bipush 9, 2) := by decide +kernel
theorem dL_sessions_113 : decode cL_sessions 113 = .ok (.newarray .int, 2) := by decide +kernel
theorem dL_sessions_115 : decode cL_sessions 115 = .ok (.dup, 1) := by decide +kernel
theorem dL_sessions_116 : decode cL_sessions 116 = .ok (.iconst 0, 1) := by decide +kernel
theorem dL_sessions_117 : decode cL_sessions 117 = .ok (.aload_n 3, 1) := by decide +kernel
theorem dL_sessions_118 : decode cL_sessions 118 = .ok (.getfield 161, 3) := by decide +kernel
theorem dL_sessions_121 : decode cL_sessions 121 = .ok (.iastore, 1) := by decide +kernel
theorem dL_sessions_122 : decode cL_sessions 122 = .ok (.dup, 1) := by decide +kernel
theorem dL_sessions_123 : decode cL_sessions 123 = .ok (.iconst 1, 1) := by decide +kernel
theorem dL_sessions_124 : decode cL_sessions 124 = .ok (.aload_n 3, 1) := by decide +kernel
theorem dL_sessions_125 : decode cL_sessions 125 = .ok (.getfield 207, 3) := by decide +kernel
theorem dL_sessions_128 : decode cL_sessions 128 = .ok (.iastore, 1) := by decide +kernel
theorem dL_sessions_129 : decode cL_sessions 129 = .ok (.dup, 1) := by decide +kernel
theorem dL_sessions_130 : decode cL_sessions 130 = .ok (.iconst 2, 1) := by decide +kernel
theorem dL_sessions_131 : decode cL_sessions 131 = .ok (.iload 4, 2) := by decide +kernel
theorem dL_sessions_133 : decode cL_sessions 133 = .ok (.iastore, 1) := by decide +kernel
theorem dL_sessions_134 : decode cL_sessions 134 = .ok (.dup, 1) := by decide +kernel
theorem dL_sessions_135 : decode cL_sessions 135 = .ok (.iconst 3, 1) := by decide +kernel
theorem dL_sessions_136 : decode cL_sessions 136 = .ok (.aload_n 3, 1) := by decide +kernel
theorem dL_sessions_137 : decode cL_sessions 137 = .ok (.getfield 210, 3) := by decide +kernel
theorem dL_sessions_140 : decode cL_sessions 140 = .ok (.iastore, 1) := by decide +kernel
theorem dL_sessions_141 : decode cL_sessions 141 = .ok (.dup, 1) := by decide +kernel
theorem dL_sessions_142 : decode cL_sessions 142 = .ok (.iconst 4, 1) := by decide +kernel
theorem dL_sessions_143 : decode cL_sessions 143 = .ok (.aload_n 3, 1) := by decide +kernel
theorem dL_sessions_144 : decode cL_sessions 144 = .ok (.getfield 213, 3) := by decide +kernel
theorem dL_sessions_147 : decode cL_sessions 147 = .ok (.iastore, 1) := by decide +kernel
theorem dL_sessions_148 : decode cL_sessions 148 = .ok (.dup, 1) := by decide +kernel
theorem dL_sessions_149 : decode cL_sessions 149 = .ok (.iconst 5, 1) := by decide +kernel
theorem dL_sessions_150 : decode cL_sessions 150 = .ok (.aload_n 1, 1) := by decide +kernel
theorem dL_sessions_151 : decode cL_sessions 151 = .ok (.aload_n 3, 1) := by decide +kernel
theorem dL_sessions_152 : decode cL_sessions 152 = .ok (.invokevirtual 216, 3) := by decide +kernel
theorem dL_sessions_155 : decode cL_sessions 155 = .ok (.ifCond .eq 7, 3) := by decide +kernel
theorem dL_sessions_158 : decode cL_sessions 158 = .ok (.iconst 1, 1) := by decide +kernel
theorem dL_sessions_159 : decode cL_sessions 159 = .ok (.goto 4, 3) := by decide +kernel
theorem dL_sessions_162 : decode cL_sessions 162 = .ok (.iconst 0, 1) := by decide +kernel
theorem dL_sessions_163 : decode cL_sessions 163 = .ok (.iastore, 1) := by decide +kernel
theorem dL_sessions_164 : decode cL_sessions 164 = .ok (.dup, 1) := by decide +kernel
theorem dL_sessions_165 : decode cL_sessions 165 = .ok (.bipush 6, 2) := by decide +kernel
theorem dL_sessions_167 : decode cL_sessions 167 = .ok (.aload_n 3, 1) := by decide +kernel
theorem dL_sessions_168 : decode cL_sessions 168 = .ok (.getfield 220, 3) := by decide +kernel
theorem dL_sessions_171 : decode cL_sessions 171 = .ok (.iastore, 1) := by decide +kernel
theorem dL_sessions_172 : decode cL_sessions 172 = .ok (.dup, 1) := by decide +kernel
theorem dL_sessions_173 : decode cL_sessions 173 = .ok (.bipush 7, 2) := by decide +kernel
theorem dL_sessions_175 : decode cL_sessions 175 = .ok (.aload_n 1, 1) := by decide +kernel
theorem dL_sessions_176 : decode cL_sessions 176 = .ok (.iload_n 2, 1) := by decide +kernel
theorem dL_sessions_177 : decode cL_sessions 177 = .ok (.invokevirtual 223, 3) := by decide +kernel
theorem dL_sessions_180 : decode cL_sessions 180 = .ok (.ifCond .eq 7, 3) := by decide +kernel
theorem dL_sessions_183 : decode cL_sessions 183 = .ok (.iconst 1, 1) := by decide +kernel
theorem dL_sessions_184 : decode cL_sessions 184 = .ok (.goto 4, 3) := by decide +kernel
theorem dL_sessions_187 : decode cL_sessions 187 = .ok (.iconst 0, 1) := by decide +kernel
theorem dL_sessions_188 : decode cL_sessions 188 = .ok (.iastore, 1) := by decide +kernel
theorem dL_sessions_189 : decode cL_sessions 189 = .ok (.dup, 1) := by decide +kernel
theorem dL_sessions_190 : decode cL_sessions 190 = .ok (.bipush 8, 2) := by decide +kernel
theorem dL_sessions_192 : decode cL_sessions 192 = .ok (.iload 5, 2) := by decide +kernel
theorem dL_sessions_194 : decode cL_sessions 194 = .ok (.iastore, 1) := by decide +kernel
theorem dL_sessions_195 : decode cL_sessions 195 = .ok (.astore 7, 2) := by decide +kernel
theorem dL_sessions_197 : decode cL_sessions 197 = .ok (.iconst 0, 1) := by decide +kernel
theorem dL_sessions_198 : decode cL_sessions 198 = .ok (.istore 8, 2) := by decide +kernel
theorem dL_sessions_200 : decode cL_sessions 200 = .ok (.iload 8, 2) := by decide +kernel
theorem dL_sessions_202 : decode cL_sessions 202 = .ok (.bipush 9, 2) := by decide +kernel
theorem dL_sessions_204 : decode cL_sessions 204 = .ok (.if_icmp .ge 26, 3) := by decide +kernel
theorem dL_sessions_207 : decode cL_sessions 207 = .ok (.aload_n 0, 1) := by decide +kernel
theorem dL_sessions_208 : decode cL_sessions 208 = .ok (.iload_n 2, 1) := by decide +kernel
theorem dL_sessions_209 : decode cL_sessions 209 = .ok (.iload 8, 2) := by decide +kernel
theorem dL_sessions_211 : decode cL_sessions 211 = .ok (.invokevirtual 227, 3) := by decide +kernel
theorem dL_sessions_214 : decode cL_sessions 214 = .ok (.aload 7, 2) := by decide +kernel
theorem dL_sessions_216 : decode cL_sessions 216 = .ok (.iload 8, 2) := by decide +kernel
theorem dL_sessions_218 : decode cL_sessions 218 = .ok (.iaload, 1) := by decide +kernel
theorem dL_sessions_219 : decode cL_sessions 219 = .ok (.if_icmp .eq 5, 3) := by decide +kernel
theorem dL_sessions_222 : decode cL_sessions 222 = .ok (.iconst 0, 1) := by decide +kernel
theorem dL_sessions_223 : decode cL_sessions 223 = .ok (.ireturn, 1) := by decide +kernel
theorem dL_sessions_224 : decode cL_sessions 224 = .ok (.iinc 8 1, 3) := by decide +kernel
theorem dL_sessions_227 : decode cL_sessions 227 = .ok (.goto (-27), 3) := by decide +kernel
theorem dL_sessions_230 : decode cL_sessions 230 = .ok (.iconst 1, 1) := by decide +kernel
theorem dL_sessions_231 : decode cL_sessions 231 = .ok (.istore 8, 2) := by decide +kernel
theorem dL_sessions_233 : decode cL_sessions 233 = .ok (.iload 8, 2) := by decide +kernel
theorem dL_sessions_235 : decode cL_sessions 235 = .ok (.iconst 5, 1) := by decide +kernel
theorem dL_sessions_236 : decode cL_sessions 236 = .ok (.if_icmp .ge 26, 3) := by decide +kernel
theorem dL_sessions_239 : decode cL_sessions 239 = .ok (.aload_n 0, 1) := by decide +kernel
theorem dL_sessions_240 : decode cL_sessions 240 = .ok (.iload_n 2, 1) := by decide +kernel
theorem dL_sessions_241 : decode cL_sessions 241 = .ok (.iload 8, 2) := by decide +kernel
theorem dL_sessions_243 : decode cL_sessions 243 = .ok (.invokevirtual 229, 3) := by decide +kernel
theorem dL_sessions_246 : decode cL_sessions 246 = .ok (.aload 6, 2) := by decide +kernel
theorem dL_sessions_248 : decode cL_sessions 248 = .ok (.iload 8, 2) := by decide +kernel
theorem dL_sessions_250 : decode cL_sessions 250 = .ok (.iaload, 1) := by decide +kernel
theorem dL_sessions_251 : decode cL_sessions 251 = .ok (.if_icmp .eq 5, 3) := by decide +kernel
theorem dL_sessions_254 : decode cL_sessions 254 = .ok (.iconst 0, 1) := by decide +kernel
theorem dL_sessions_255 : decode cL_sessions 255 = .ok (.ireturn, 1) := by decide +kernel
theorem dL_sessions_256 : decode cL_sessions 256 = .ok (.iinc 8 1, 3) := by decide +kernel
theorem dL_sessions_259 : decode cL_sessions 259 = .ok (.goto (-26), 3) := by decide +kernel
theorem dL_sessions_262 : decode cL_sessions 262 = .ok (.iconst 0, 1) := by decide +kernel
theorem dL_sessions_263 : decode cL_sessions 263 = .ok (.istore 8, 2) := by decide +kernel
theorem dL_sessions_265 : decode cL_sessions 265 = .ok (.iload 8, 2) := by decide +kernel
theorem dL_sessions_267 : decode cL_sessions 267 = .ok (.aload_n 3, 1) := by decide +kernel
theorem dL_sessions_268 : decode cL_sessions 268 = .ok (.getfield 210, 3) := by decide +kernel
theorem dL_sessions_271 : decode cL_sessions 271 = .ok (.if_icmp .ge 138, 3) := by decide +kernel
theorem dL_sessions_274 : decode cL_sessions 274 = .ok (.aload_n 3, 1) := by decide +kernel
theorem dL_sessions_275 : decode cL_sessions 275 = .ok (.getfield 232, 3) := by decide +kernel
theorem dL_sessions_278 : decode cL_sessions 278 = .ok (.iload 8, 2) := by decide +kernel
theorem dL_sessions_280 : decode cL_sessions 280 = .ok (.aaload, 1) := by decide +kernel
theorem dL_sessions_281 : decode cL_sessions 281 = .ok (.astore 9, 2) := by decide +kernel
theorem dL_sessions_283 : decode cL_sessions 283 = .ok (.aload_n 0, 1) := by decide +kernel
theorem dL_sessions_284 : decode cL_sessions 284 = .ok (.iload_n 2, 1) := by decide +kernel
theorem dL_sessions_285 : decode cL_sessions 285 = .ok (.iload 8, 2) := by decide +kernel
theorem dL_sessions_287 : decode cL_sessions 287 = .ok (.iconst 0, 1) := by decide +kernel
theorem dL_sessions_288 : decode cL_sessions 288 = .ok (.invokevirtual 235, 3) := by decide +kernel
theorem dL_sessions_291 : decode cL_sessions 291 = .ok (.aload_n 3, 1) := by decide +kernel
theorem dL_sessions_292 : decode cL_sessions 292 = .ok (.getfield 238, 3) := by decide +kernel
theorem dL_sessions_295 : decode cL_sessions 295 = .ok (.iload 8, 2) := by decide +kernel
theorem dL_sessions_297 : decode cL_sessions 297 = .ok (.iaload, 1) := by decide +kernel
theorem dL_sessions_298 : decode cL_sessions 298 = .ok (.if_icmp .ne 103, 3) := by decide +kernel
theorem dL_sessions_301 : decode cL_sessions 301 = .ok (.aload_n 0, 1) := by decide +kernel
theorem dL_sessions_302 : decode cL_sessions 302 = .ok (.iload_n 2, 1) := by decide +kernel
theorem dL_sessions_303 : decode cL_sessions 303 = .ok (.iload 8, 2) := by decide +kernel
theorem dL_sessions_305 : decode cL_sessions 305 = .ok (.iconst 1, 1) := by decide +kernel
theorem dL_sessions_306 : decode cL_sessions 306 = .ok (.invokevirtual 235, 3) := by decide +kernel
theorem dL_sessions_309 : decode cL_sessions 309 = .ok (.aload 9, 2) := by decide +kernel
theorem dL_sessions_311 : decode cL_sessions 311 = .ok (.ifnonnull 7, 3) := by decide +kernel
theorem dL_sessions_314 : decode cL_sessions 314 = .ok (.iconst (-1), 1) := by decide +kernel
theorem dL_sessions_315 : decode cL_sessions 315 = .ok (.goto 8, 3) := by decide +kernel
theorem dL_sessions_318 : decode cL_sessions 318 = .ok (.aload 9, 2) := by decide +kernel
theorem dL_sessions_320 : decode cL_sessions 320 = .ok (.getfield 138, 3) := by decide +kernel
theorem dL_sessions_323 : decode cL_sessions 323 = .ok (.if_icmp .ne 78, 3) := by decide +kernel
theorem dL_sessions_326 : decode cL_sessions 326 = .ok (.aload_n 0, 1) := by decide +kernel
theorem dL_sessions_327 : decode cL_sessions 327 = .ok (.iload_n 2, 1) := by decide +kernel
theorem dL_sessions_328 : decode cL_sessions 328 = .ok (.iload 8, 2) := by decide +kernel
theorem dL_sessions_330 : decode cL_sessions 330 = .ok (.iconst 2, 1) := by decide +kernel
theorem dL_sessions_331 : decode cL_sessions 331 = .ok (.invokevirtual 235, 3) := by decide +kernel
theorem dL_sessions_334 : decode cL_sessions 334 = .ok (.aload 9, 2) := by decide +kernel
theorem dL_sessions_336 : decode cL_sessions 336 = .ok (.ifnonnull 7, 3) := by decide +kernel
theorem dL_sessions_339 : decode cL_sessions 339 = .ok (.iconst (-1), 1) := by decide +kernel
theorem dL_sessions_340 : decode cL_sessions 340 = .ok (.goto 8, 3) := by decide +kernel
theorem dL_sessions_343 : decode cL_sessions 343 = .ok (.aload 9, 2) := by decide +kernel
theorem dL_sessions_345 : decode cL_sessions 345 = .ok (.getfield 241, 3) := by decide +kernel
theorem dL_sessions_348 : decode cL_sessions 348 = .ok (.if_icmp .ne 53, 3) := by decide +kernel
theorem dL_sessions_351 : decode cL_sessions 351 = .ok (.aload_n 0, 1) := by decide +kernel
theorem dL_sessions_352 : decode cL_sessions 352 = .ok (.iload_n 2, 1) := by decide +kernel
theorem dL_sessions_353 : decode cL_sessions 353 = .ok (.iload 8, 2) := by decide +kernel
theorem dL_sessions_355 : decode cL_sessions 355 = .ok (.iconst 3, 1) := by decide +kernel
theorem dL_sessions_356 : decode cL_sessions 356 = .ok (.invokevirtual 235, 3) := by decide +kernel
theorem dL_sessions_359 : decode cL_sessions 359 = .ok (.aload 9, 2) := by decide +kernel
theorem dL_sessions_361 : decode cL_sessions 361 = .ok (.ifnonnull 7, 3) := by decide +kernel
theorem dL_sessions_364 : decode cL_sessions 364 = .ok (.iconst 0, 1) := by decide +kernel
theorem dL_sessions_365 : decode cL_sessions 365 = .ok (.goto 8, 3) := by decide +kernel
theorem dL_sessions_368 : decode cL_sessions 368 = .ok (.aload 9, 2) := by decide +kernel
theorem dL_sessions_370 : decode cL_sessions 370 = .ok (.getfield 242, 3) := by decide +kernel
theorem dL_sessions_373 : decode cL_sessions 373 = .ok (.if_icmp .ne 28, 3) := by decide +kernel
theorem dL_sessions_376 : decode cL_sessions 376 = .ok (.aload_n 0, 1) := by decide +kernel
theorem dL_sessions_377 : decode cL_sessions 377 = .ok (.iload_n 2, 1) := by decide +kernel
theorem dL_sessions_378 : decode cL_sessions 378 = .ok (.iload 8, 2) := by decide +kernel
theorem dL_sessions_380 : decode cL_sessions 380 = .ok (.iconst 4, 1) := by decide +kernel
theorem dL_sessions_381 : decode cL_sessions 381 = .ok (.invokevirtual 235, 3) := by decide +kernel
theorem dL_sessions_384 : decode cL_sessions 384 = .ok (.aload 9, 2) := by decide +kernel
theorem dL_sessions_386 : decode cL_sessions 386 = .ok (.ifnonnull 7, 3) := by decide +kernel
theorem dL_sessions_389 : decode cL_sessions 389 = .ok (.iconst (-1), 1) := by decide +kernel
theorem dL_sessions_390 : decode cL_sessions 390 = .ok (.goto 8, 3) := by decide +kernel
theorem dL_sessions_393 : decode cL_sessions 393 = .ok (.aload 9, 2) := by decide +kernel
theorem dL_sessions_395 : decode cL_sessions 395 = .ok (.getfield 244, 3) := by decide +kernel
theorem dL_sessions_398 : decode cL_sessions 398 = .ok (.if_icmp .eq 5, 3) := by decide +kernel
theorem dL_sessions_401 : decode cL_sessions 401 = .ok (.iconst 0, 1) := by decide +kernel
theorem dL_sessions_402 : decode cL_sessions 402 = .ok (.ireturn, 1) := by decide +kernel
theorem dL_sessions_403 : decode cL_sessions 403 = .ok (.iinc 8 1, 3) := by decide +kernel
theorem dL_sessions_406 : decode cL_sessions 406 = .ok (.goto (-141), 3) := by decide +kernel
theorem dL_sessions_409 : decode cL_sessions 409 = .ok (.aload_n 0, 1) := by decide +kernel
theorem dL_sessions_410 : decode cL_sessions 410 = .ok (.iload_n 2, 1) := by decide +kernel
theorem dL_sessions_411 : decode cL_sessions 411 = .ok (.aload_n 3, 1) := by decide +kernel
theorem dL_sessions_412 : decode cL_sessions 412 = .ok (.getfield 210, 3) := by decide +kernel
theorem dL_sessions_415 : decode cL_sessions 415 = .ok (.iconst 0, 1) := by decide +kernel
theorem dL_sessions_416 : decode cL_sessions 416 = .ok (.invokevirtual 235, 3) := by decide +kernel
theorem dL_sessions_419 : decode cL_sessions 419 = .ok (.iconst (-1), 1) := by decide +kernel
theorem dL_sessions_420 : decode cL_sessions 420 = .ok (.if_icmp .ne 16, 3) := by decide +kernel
theorem dL_sessions_423 : decode cL_sessions 423 = .ok (.aload_n 0, 1) := by decide +kernel
theorem dL_sessions_424 : decode cL_sessions 424 = .ok (.iload_n 2, 1) := by decide +kernel
theorem dL_sessions_425 : decode cL_sessions 425 = .ok (.invokevirtual 247, 3) := by decide +kernel
theorem dL_sessions_428 : decode cL_sessions 428 = .ok (.aload_n 1, 1) := by decide +kernel
theorem dL_sessions_429 : decode cL_sessions 429 = .ok (.iload_n 2, 1) := by decide +kernel
theorem dL_sessions_430 : decode cL_sessions 430 = .ok (.invokevirtual 178, 3) := by decide +kernel
theorem dL_sessions_433 : decode cL_sessions 433 = .ok (.if_icmp .eq 5, 3) := by decide +kernel
theorem dL_sessions_436 : decode cL_sessions 436 = .ok (.iconst 0, 1) := by decide +kernel
theorem dL_sessions_437 : decode cL_sessions 437 = .ok (.ireturn, 1) := by decide +kernel
theorem dL_sessions_438 : decode cL_sessions 438 = .ok (.iinc 2 1, 3) := by decide +kernel
theorem dL_sessions_441 : decode cL_sessions 441 = .ok (.goto (-439), 3) := by decide +kernel
theorem dL_sessions_444 : decode cL_sessions 444 = .ok (.iconst 1, 1) := by decide +kernel
theorem dL_sessions_445 : decode cL_sessions 445 = .ok (.ireturn, 1) := by decide +kernel
theorem dL_files_0 : decode cL_files 0 = .ok (.iconst 0, 1) := by decide +kernel
theorem dL_files_1 : decode cL_files 1 = .ok (.istore_n 3, 1) := by decide +kernel
theorem dL_files_2 : decode cL_files 2 = .ok (.iload_n 3, 1) := by decide +kernel
theorem dL_files_3 : decode cL_files 3 = .ok (.aload_n 1, 1) := by decide +kernel
theorem dL_files_4 : decode cL_files 4 = .ok (.getfield 52, 3) := by decide +kernel
theorem dL_files_7 : decode cL_files 7 = .ok (.if_icmp .ge 329, 3) := by decide +kernel
theorem dL_files_10 : decode cL_files 10 = .ok (.aload_n 1, 1) := by decide +kernel
theorem dL_files_11 : decode cL_files 11 = .ok (.iload_n 3, 1) := by decide +kernel
theorem dL_files_12 : decode cL_files 12 = .ok (.bipush 12, 2) := by decide +kernel
theorem dL_files_14 : decode cL_files 14 = .ok (.invokevirtual 250, 3) := by decide +kernel
theorem dL_files_17 : decode cL_files 17 = .ok (.astore 4, 2) := by decide +kernel
theorem dL_files_19 : decode cL_files 19 = .ok (.aload_n 1, 1) := by decide +kernel
theorem dL_files_20 : decode cL_files 20 = .ok (.iload_n 3, 1) := by decide +kernel
theorem dL_files_21 : decode cL_files 21 = .ok (.bipush 12, 2) := by decide +kernel
theorem dL_files_23 : decode cL_files 23 = .ok (.invokevirtual 254, 3) := by decide +kernel
theorem dL_files_26 : decode cL_files 26 = .ok (.astore 5, 2) := by decide +kernel
theorem dL_files_28 : decode cL_files 28 = .ok (.iconst (-1), 1) := by decide +kernel
theorem dL_files_29 : decode cL_files 29 = .ok (.istore 6, 2) := by decide +kernel
theorem dL_files_31 : decode cL_files 31 = .ok (.iconst 0, 1) := by decide +kernel
theorem dL_files_32 : decode cL_files 32 = .ok (.istore 7, 2) := by decide +kernel
theorem dL_files_34 : decode cL_files 34 = .ok (.iload 7, 2) := by decide +kernel
theorem dL_files_36 : decode cL_files 36 = .ok (.aload_n 1, 1) := by decide +kernel
theorem dL_files_37 : decode cL_files 37 = .ok (.getfield 173, 3) := by decide +kernel
theorem dL_files_40 : decode cL_files 40 = .ok (.if_icmp .ge 25, 3) := by decide +kernel
theorem dL_files_43 : decode cL_files 43 = .ok (.aload_n 1, 1) := by decide +kernel
theorem dL_files_44 : decode cL_files 44 = .ok (.getfield 157, 3) := by decide +kernel
theorem dL_files_47 : decode cL_files 47 = .ok (.iload 7, 2) := by decide +kernel
theorem dL_files_49 : decode cL_files 49 = .ok (.aaload, 1) := by decide +kernel
theorem dL_files_50 : decode cL_files 50 = .ok (.aload 4, 2) := by decide +kernel
theorem dL_files_52 : decode cL_files 52 = .ok (.if_acmp .ne 7, 3) := by decide +kernel
theorem dL_files_55 : decode cL_files 55 = .ok (.iload 7, 2) := by decide +kernel
theorem dL_files_57 : decode cL_files 57 = .ok (.istore 6, 2) := by decide +kernel
theorem dL_files_59 : decode cL_files 59 = .ok (.iinc 7 1, 3) := by decide +kernel
theorem dL_files_62 : decode cL_files 62 = .ok (.goto (-28), 3) := by decide +kernel
theorem dL_files_65 : decode cL_files 65 = .ok (.iconst 0, 1) := by decide +kernel
theorem dL_files_66 : decode cL_files 66 = .ok (.istore 7, 2) := by decide +kernel
theorem dL_files_68 : decode cL_files 68 = .ok (.iconst 0, 1) := by decide +kernel
theorem dL_files_69 : decode cL_files 69 = .ok (.istore 8, 2) := by decide +kernel
theorem dL_files_71 : decode cL_files 71 = .ok (.iload 8, 2) := by decide +kernel
theorem dL_files_73 : decode cL_files 73 = .ok (.aload_n 1, 1) := by decide +kernel
theorem dL_files_74 : decode cL_files 74 = .ok (.getfield 200, 3) := by decide +kernel
theorem dL_files_77 : decode cL_files 77 = .ok (.if_icmp .ge 33, 3) := by decide +kernel
theorem dL_files_80 : decode cL_files 80 = .ok (.iload 7, 2) := by decide +kernel
theorem dL_files_82 : decode cL_files 82 = .ok (.aload_n 1, 1) := by decide +kernel
theorem dL_files_83 : decode cL_files 83 = .ok (.getfield 257, 3) := by decide +kernel
theorem dL_files_86 : decode cL_files 86 = .ok (.iload 8, 2) := by decide +kernel
theorem dL_files_88 : decode cL_files 88 = .ok (.aaload, 1) := by decide +kernel
theorem dL_files_89 : decode cL_files 89 = .ok (.getfield 260, 3) := by decide +kernel
theorem dL_files_92 : decode cL_files 92 = .ok (.iload_n 3, 1) := by decide +kernel
theorem dL_files_93 : decode cL_files 93 = .ok (.if_icmp .ne 7, 3) := by decide +kernel
theorem dL_files_96 : decode cL_files 96 = .ok (.iconst 1, 1) := by decide +kernel
theorem dL_files_97 : decode cL_files 97 = .ok (.goto 4, 3) := by decide +kernel
theorem dL_files_100 : decode cL_files 100 = .ok (.iconst 0, 1) := by decide +kernel
theorem dL_files_101 : decode cL_files 101 = .ok (.iadd, 1) := by decide +kernel
theorem dL_files_102 : decode cL_files 102 = .ok (.istore 7, 2) := by decide +kernel
theorem dL_files_104 : decode cL_files 104 = .ok (.iinc 8 1, 3) := by decide +kernel
theorem dL_files_107 : decode cL_files 107 = .ok (.goto (-36), 3) := by decide +kernel
theorem dL_files_110 : decode cL_files 110 = .ok (.bipush 7, 2) := by decide +kernel
theorem dL_files_112 : decode cL_files 112 = .ok (.newarray .int, 2) := by decide +kernel
theorem dL_files_114 : decode cL_files 114 = .ok (.dup, 1) := by decide +kernel
theorem dL_files_115 : decode cL_files 115 = .ok (.iconst 0, 1) := by decide +kernel
theorem dL_files_116 : decode cL_files 116 = .ok (.aload 5, 2) := by decide +kernel
theorem dL_files_118 : decode cL_files 118 = .ok (.ifnonnull 7, 3) := by decide +kernel
theorem dL_files_121 : decode cL_files 121 = .ok (.iconst 0, 1) := by decide +kernel
theorem dL_files_122 : decode cL_files 122 = .ok (.goto 4, 3) := by decide +kernel
theorem dL_files_125 : decode cL_files 125 = .ok (.iconst 1, 1) := by decide +kernel
theorem dL_files_126 : decode cL_files 126 = .ok (.iastore, 1) := by decide +kernel
theorem dL_files_127 : decode cL_files 127 = .ok (.dup, 1) := by decide +kernel
theorem dL_files_128 : decode cL_files 128 = .ok (.iconst 1, 1) := by decide +kernel
theorem dL_files_129 : decode cL_files 129 = .ok (.aload 5, 2) := by decide +kernel
theorem dL_files_131 : decode cL_files 131 = .ok (.ifnull 16, 3) := by decide +kernel
theorem dL_files_134 : decode cL_files 134 = .ok (.aload_n 1, 1) := by decide +kernel
theorem dL_files_135 : decode cL_files 135 = .ok (.aload 5, 2) := by decide +kernel
theorem dL_files_137 : decode cL_files 137 = .ok (.invokevirtual 262, 3) := by decide +kernel
theorem dL_files_140 : decode cL_files 140 = .ok (.ifCond .eq 7, 3) := by decide +kernel
theorem dL_files_143 : decode cL_files 143 = .ok (.iconst 1, 1) := by decide +kernel
theorem dL_files_144 : decode cL_files 144 = .ok (.goto 4, 3) := by decide +kernel
theorem dL_files_147 : decode cL_files 147 = .ok (.iconst 0, 1) := by decide +kernel
theorem dL_files_148 : decode cL_files 148 = .ok (.iastore, 1) := by decide +kernel
theorem dL_files_149 : decode cL_files 149 = .ok (.dup, 1) := by decide +kernel
theorem dL_files_150 : decode cL_files 150 = .ok (.iconst 2, 1) := by decide +kernel
theorem dL_files_151 : decode cL_files 151 = .ok (.aload 5, 2) := by decide +kernel
theorem dL_files_153 : decode cL_files 153 = .ok (.ifnonnull 7, 3) := by decide +kernel
theorem dL_files_156 : decode cL_files 156 = .ok (.iconst (-1), 1) := by decide +kernel
theorem dL_files_157 : decode cL_files 157 = .ok (.goto 8, 3) := by decide +kernel
theorem dL_files_160 : decode cL_files 160 = .ok (.aload 5, 2) := by decide +kernel
theorem dL_files_162 : decode cL_files 162 = .ok (.getfield 138, 3) := by decide +kernel
theorem dL_files_165 : decode cL_files 165 = .ok (.iastore, 1) := by decide +kernel
theorem dL_files_166 : decode cL_files 166 = .ok (.dup, 1) := by decide +kernel
theorem dL_files_167 : decode cL_files 167 = .ok (.iconst 3, 1) := by decide +kernel
theorem dL_files_168 : decode cL_files 168 = .ok (.aload 5, 2) := by decide +kernel
theorem dL_files_170 : decode cL_files 170 = .ok (.ifnonnull 7, 3) := by decide +kernel
theorem dL_files_173 : decode cL_files 173 = .ok (.iconst 0, 1) := by decide +kernel
theorem dL_files_174 : decode cL_files 174 = .ok (.goto 8, 3) := by decide +kernel
theorem dL_files_177 : decode cL_files 177 = .ok (.aload 5, 2) := by decide +kernel
theorem dL_files_179 : decode cL_files 179 = .ok (.getfield 242, 3) := by decide +kernel
theorem dL_files_182 : decode cL_files 182 = .ok (.iastore, 1) := by decide +kernel
theorem dL_files_183 : decode cL_files 183 = .ok (.dup, 1) := by decide +kernel
theorem dL_files_184 : decode cL_files 184 = .ok (.iconst 4, 1) := by decide +kernel
theorem dL_files_185 : decode cL_files 185 = .ok (.aload 5, 2) := by decide +kernel
theorem dL_files_187 : decode cL_files 187 = .ok (.ifnonnull 7, 3) := by decide +kernel
theorem dL_files_190 : decode cL_files 190 = .ok (.iconst (-1), 1) := by decide +kernel
theorem dL_files_191 : decode cL_files 191 = .ok (.goto 8, 3) := by decide +kernel
theorem dL_files_194 : decode cL_files 194 = .ok (.aload 5, 2) := by decide +kernel
theorem dL_files_196 : decode cL_files 196 = .ok (.getfield 244, 3) := by decide +kernel
theorem dL_files_199 : decode cL_files 199 = .ok (.iastore, 1) := by decide +kernel
theorem dL_files_200 : decode cL_files 200 = .ok (.dup, 1) := by decide +kernel
theorem dL_files_201 : decode cL_files 201 = .ok (.iconst 5, 1) := by decide +kernel
theorem dL_files_202 : decode cL_files 202 = .ok (.iload 6, 2) := by decide +kernel
theorem dL_files_204 : decode cL_files 204 = .ok (.iastore, 1) := by decide +kernel
theorem dL_files_205 : decode cL_files 205 = .ok (.dup, 1) := by decide +kernel
theorem dL_files_206 : decode cL_files 206 = .ok (.bipush 6, 2) := by decide +kernel
theorem dL_files_208 : decode cL_files 208 = .ok (.iload 7, 2) := by decide +kernel
theorem dL_files_210 : decode cL_files 210 = .ok (.iastore, 1) := by decide +kernel
theorem dL_files_211 : decode cL_files 211 = .ok (.astore 8, 2) := by decide +kernel
theorem dL_files_213 : decode cL_files 213 = .ok (.iconst 0, 1) := by decide +kernel
theorem dL_files_214 : decode cL_files 214 = .ok (.istore 9, 2) := by decide +kernel
theorem dL_files_216 : decode cL_files 216 = .ok (.iload 9, 2) := by decide +kernel
theorem dL_files_218 : decode cL_files 218 = .ok (.bipush 7, 2) := by decide +kernel
theorem dL_files_220 : decode cL_files 220 = .ok (.if_icmp .ge 26, 3) := by decide +kernel
theorem dL_files_223 : decode cL_files 223 = .ok (.aload_n 0, 1) := by decide +kernel
theorem dL_files_224 : decode cL_files 224 = .ok (.iload_n 3, 1) := by decide +kernel
theorem dL_files_225 : decode cL_files 225 = .ok (.iload 9, 2) := by decide +kernel
theorem dL_files_227 : decode cL_files 227 = .ok (.invokevirtual 265, 3) := by decide +kernel
theorem dL_files_230 : decode cL_files 230 = .ok (.aload 8, 2) := by decide +kernel
theorem dL_files_232 : decode cL_files 232 = .ok (.iload 9, 2) := by decide +kernel
theorem dL_files_234 : decode cL_files 234 = .ok (.iaload, 1) := by decide +kernel
theorem dL_files_235 : decode cL_files 235 = .ok (.if_icmp .eq 5, 3) := by decide +kernel
theorem dL_files_238 : decode cL_files 238 = .ok (.iconst 0, 1) := by decide +kernel
theorem dL_files_239 : decode cL_files 239 = .ok (.ireturn, 1) := by decide +kernel
theorem dL_files_240 : decode cL_files 240 = .ok (.iinc 9 1, 3) := by decide +kernel
theorem dL_files_243 : decode cL_files 243 = .ok (.goto (-27), 3) := by decide +kernel
theorem dL_files_246 : decode cL_files 246 = .ok (.iconst 1, 1) := by decide +kernel
theorem dL_files_247 : decode cL_files 247 = .ok (.aload_n 2, 1) := by decide +kernel
theorem dL_files_248 : decode cL_files 248 = .ok (.bipush 8, 2) := by decide +kernel
theorem dL_files_250 : decode cL_files 250 = .ok (.invokestatic 35, 3) := by decide +kernel
theorem dL_files_253 : decode cL_files 253 = .ok (.iadd, 1) := by decide +kernel
theorem dL_files_254 : decode cL_files 254 = .ok (.istore 9, 2) := by decide +kernel
theorem dL_files_256 : decode cL_files 256 = .ok (.aload_n 0, 1) := by decide +kernel
theorem dL_files_257 : decode cL_files 257 = .ok (.iload_n 3, 1) := by decide +kernel
theorem dL_files_258 : decode cL_files 258 = .ok (.iload 9, 2) := by decide +kernel
theorem dL_files_260 : decode cL_files 260 = .ok (.invokevirtual 267, 3) := by decide +kernel
theorem dL_files_263 : decode cL_files 263 = .ok (.aload_n 1, 1) := by decide +kernel
theorem dL_files_264 : decode cL_files 264 = .ok (.iload_n 3, 1) := by decide +kernel
theorem dL_files_265 : decode cL_files 265 = .ok (.iload 9, 2) := by decide +kernel
theorem dL_files_267 : decode cL_files 267 = .ok (.invokevirtual 88, 3) := by decide +kernel
theorem dL_files_270 : decode cL_files 270 = .ok (.if_icmp .eq 5, 3) := by decide +kernel
theorem dL_files_273 : decode cL_files 273 = .ok (.iconst 0, 1) := by decide +kernel
theorem dL_files_274 : decode cL_files 274 = .ok (.ireturn, 1) := by decide +kernel
theorem dL_files_275 : decode cL_files 275 = .ok (.iconst 0, 1) := by decide +kernel
theorem dL_files_276 : decode cL_files 276 = .ok (.istore 10, 2) := by decide +kernel
theorem dL_files_278 : decode cL_files 278 = .ok (.iload 10, 2) := by decide +kernel
theorem dL_files_280 : decode cL_files 280 = .ok (.bipush 8, 2) := by decide +kernel
theorem dL_files_282 : decode cL_files 282 = .ok (.if_icmp .ge 48, 3) := by decide +kernel
theorem dL_files_285 : decode cL_files 285 = .ok (.aload_n 0, 1) := by decide +kernel
theorem dL_files_286 : decode cL_files 286 = .ok (.iload_n 3, 1) := by decide +kernel
theorem dL_files_287 : decode cL_files 287 = .ok (.iload 10, 2) := by decide +kernel
theorem dL_files_289 : decode cL_files 289 = .ok (.invokevirtual 270, 3) := by decide +kernel
theorem dL_files_292 : decode cL_files 292 = .ok (.aload 5, 2) := by decide +kernel
theorem dL_files_294 : decode cL_files 294 = .ok (.ifnull 13, 3) := by decide +kernel
theorem dL_files_297 : decode cL_files 297 = .ok (.iload 10, 2) := by decide +kernel
theorem dL_files_299 : decode cL_files 299 = .ok (.aload 5, 2) := by decide +kernel
theorem dL_files_301 : decode cL_files 301 = .ok (.getfield 242, 3) := by decide +kernel
theorem dL_files_304 : decode cL_files 304 = .ok (.if_icmp .lt 7, 3) := by decide +kernel
theorem dL_files_307 : decode cL_files 307 = .ok (.iconst (-1), 1) := by decide +kernel
theorem dL_files_308 : decode cL_files 308 = .ok (.goto 11, 3) := by decide +kernel
theorem dL_files_311 : decode cL_files 311 = .ok (.aload 5, 2) := by decide +kernel
theorem dL_files_313 : decode cL_files 313 = .ok (.getfield 273, 3) := by decide +kernel
theorem dL_files_316 : decode cL_files 316 = .ok (.iload 10, 2) := by decide +kernel
theorem dL_files_318 : decode cL_files 318 = .ok (.iaload, 1) := by decide +kernel
theorem dL_files_319 : decode cL_files 319 = .ok (.if_icmp .eq 5, 3) := by decide +kernel
theorem dL_files_322 : decode cL_files 322 = .ok (.iconst 0, 1) := by decide +kernel
theorem dL_files_323 : decode cL_files 323 = .ok (.ireturn, 1) := by decide +kernel
theorem dL_files_324 : decode cL_files 324 = .ok (.iinc 10 1, 3) := by decide +kernel
theorem dL_files_327 : decode cL_files 327 = .ok (.goto (-49), 3) := by decide +kernel
theorem dL_files_330 : decode cL_files 330 = .ok (.iinc 3 1, 3) := by decide +kernel
theorem dL_files_333 : decode cL_files 333 = .ok (.goto (-331), 3) := by decide +kernel
theorem dL_files_336 : decode cL_files 336 = .ok (.bipush 10, 2) := by decide +kernel
theorem dL_files_338 : decode cL_files 338 = .ok (.anewarray 139, 3) := by decide +kernel
theorem dL_files_341 : decode cL_files 341 = .ok (.astore_n 3, 1) := by decide +kernel
theorem dL_files_342 : decode cL_files 342 = .ok (.aload_n 1, 1) := by decide +kernel
theorem dL_files_343 : decode cL_files 343 = .ok (.aload_n 3, 1) := by decide +kernel
theorem dL_files_344 : decode cL_files 344 = .ok (.invokevirtual 276, 3) := by decide +kernel
theorem dL_files_347 : decode cL_files 347 = .ok (.istore 4, 2) := by decide +kernel
theorem dL_files_349 : decode cL_files 349 = .ok (.aload_n 0, 1) := by decide +kernel
theorem dL_files_350 : decode cL_files 350 = .ok (.invokevirtual 280, 3) := by decide +kernel
theorem dL_files_353 : decode cL_files 353 = .ok (.iload 4, 2) := by decide +kernel
theorem dL_files_355 : decode cL_files 355 = .ok (.if_icmp .ne 49, 3) := by decide +kernel
theorem dL_files_358 : decode cL_files 358 = .ok (.aload_n 0, 1) := by decide +kernel
theorem dL_files_359 : decode cL_files 359 = .ok (.iconst 2, 1) := by decide +kernel
theorem dL_files_360 : decode cL_files 360 = .ok (.invokevirtual 283, 3) := by decide +kernel
theorem dL_files_363 : decode cL_files 363 = .ok (.aload_n 1, 1) := by decide +kernel
theorem dL_files_364 : decode cL_files 364 = .ok (.iload 4, 2) := by decide +kernel
theorem dL_files_366 : decode cL_files 366 = .ok (.invokevirtual 286, 3) := by decide +kernel
theorem dL_files_369 : decode cL_files 369 = .ok (.if_icmp .ne 35, 3) := by decide +kernel
theorem dL_files_372 : decode cL_files 372 = .ok (.aload_n 0, 1) := by decide +kernel
theorem dL_files_373 : decode cL_files 373 = .ok (.iconst 0, 1) := by decide +kernel
theorem dL_files_374 : decode cL_files 374 = .ok (.invokevirtual 283, 3) := by decide +kernel
theorem dL_files_377 : decode cL_files 377 = .ok (.aload_n 1, 1) := by decide +kernel
theorem dL_files_378 : decode cL_files 378 = .ok (.invokevirtual 289, 3) := by decide +kernel
theorem dL_files_381 : decode cL_files 381 = .ok (.if_icmp .ne 23, 3) := by decide +kernel
theorem dL_files_384 : decode cL_files 384 = .ok (.aload_n 0, 1) := by decide +kernel
theorem dL_files_385 : decode cL_files 385 = .ok (.iconst 1, 1) := by decide +kernel
theorem dL_files_386 : decode cL_files 386 = .ok (.invokevirtual 283, 3) := by decide +kernel
theorem dL_files_389 : decode cL_files 389 = .ok (.aload_n 1, 1) := by decide +kernel
theorem dL_files_390 : decode cL_files 390 = .ok (.invokevirtual 189, 3) := by decide +kernel
theorem dL_files_393 : decode cL_files 393 = .ok (.ifnonnull 7, 3) := by decide +kernel
theorem dL_files_396 : decode cL_files 396 = .ok (.iconst 1, 1) := by decide +kernel
theorem dL_files_397 : decode cL_files 397 = .ok (.goto 4, 3) := by decide +kernel
theorem dL_files_400 : decode cL_files 400 = .ok (.iconst 0, 1) := by decide +kernel
theorem dL_files_401 : decode cL_files 401 = .ok (.if_icmp .eq 5, 3) := by decide +kernel
theorem dL_files_404 : decode cL_files 404 = .ok (.iconst 0, 1) := by decide +kernel
theorem dL_files_405 : decode cL_files 405 = .ok (.ireturn, 1) := by decide +kernel
theorem dL_files_406 : decode cL_files 406 = .ok (.aload_n 1, 1) := by decide +kernel
theorem dL_files_407 : decode cL_files 407 = .ok (.invokevirtual 181, 3) := by decide +kernel
theorem dL_files_410 : decode cL_files 410 = .ok (.istore 5, 2) := by decide +kernel
theorem dL_files_412 : decode cL_files 412 = .ok (.iconst 0, 1) := by decide +kernel
theorem dL_files_413 : decode cL_files 413 = .ok (.istore 6, 2) := by decide +kernel
theorem dL_files_415 : decode cL_files 415 = .ok (.iconst 0, 1) := by decide +kernel
theorem dL_files_416 : decode cL_files 416 = .ok (.istore 7, 2) := by decide +kernel
theorem dL_files_418 : decode cL_files 418 = .ok (.iconst 0, 1) := by decide +kernel
theorem dL_files_419 : decode cL_files 419 = .ok (.istore 8, 2) := by decide +kernel
theorem dL_files_421 : decode cL_files 421 = .ok (.iload 8, 2) := by decide +kernel
theorem dL_files_423 : decode cL_files 423 = .ok (.aload_n 1, 1) := by decide +kernel
theorem dL_files_424 : decode cL_files 424 = .ok (.getfield 39, 3) := by decide +kernel
theorem dL_files_427 : decode cL_files 427 = .ok (.if_icmp .ge 113, 3) := by decide +kernel
theorem dL_files_430 : decode cL_files 430 = .ok (.aload_n 1, 1) := by decide +kernel
theorem dL_files_431 : decode cL_files 431 = .ok (.getfield 128, 3) := by decide +kernel
theorem dL_files_434 : decode cL_files 434 = .ok (.iload 8, 2) := by decide +kernel
theorem dL_files_436 : decode cL_files 436 = .ok (.baload, 1) := by decide +kernel
theorem dL_files_437 : decode cL_files 437 = .ok (.istore 9, 2) := by decide +kernel
theorem dL_files_439 : decode cL_files 439 = .ok (.aload_n 1, 1) := by decide +kernel
theorem dL_files_440 : decode cL_files 440 = .ok (.getfield 128, 3) := by decide +kernel
theorem dL_files_443 : decode cL_files 443 = .ok (.iload 8, 2) := by decide +kernel
theorem dL_files_445 : decode cL_files 445 = .ok (.iload 9, 2) := by decide +kernel
theorem dL_files_447 : decode cL_files 447 = .ok (.ifCond .ne 13, 3) := by decide +kernel
theorem dL_files_450 : decode cL_files 450 = .ok (.aload_n 1, 1) := by decide +kernel
theorem dL_files_451 : decode cL_files 451 = .ok (.getfield 124, 3) := by decide +kernel
theorem dL_files_454 : decode cL_files 454 = .ok (.iload 8, 2) := by decide +kernel
theorem dL_files_456 : decode cL_files 456 = .ok (.iaload, 1) := by decide +kernel
theorem dL_files_457 : decode cL_files 457 = .ok (.ifCond .le 7, 3) := by decide +kernel
theorem dL_files_460 : decode cL_files 460 = .ok (.iconst 1, 1) := by decide +kernel
theorem dL_files_461 : decode cL_files 461 = .ok (.goto 4, 3) := by decide +kernel
theorem dL_files_464 : decode cL_files 464 = .ok (.iconst 0, 1) := by decide +kernel
theorem dL_files_465 : decode cL_files 465 = .ok (.bastore, 1) := by decide +kernel
theorem dL_files_466 : decode cL_files 466 = .ok (.iload 5, 2) := by decide +kernel
theorem dL_files_468 : decode cL_files 468 = .ok (.aload_n 1, 1) := by decide +kernel
theorem dL_files_469 : decode cL_files 469 = .ok (.invokevirtual 181, 3) := by decide +kernel
theorem dL_files_472 : decode cL_files 472 = .ok (.iconst (-1), 1) := by decide +kernel
theorem dL_files_473 : decode cL_files 473 = .ok (.ixor, 1) := by decide +kernel
theorem dL_files_474 : decode cL_files 474 = .ok (.iand, 1) := by decide +kernel
theorem dL_files_475 : decode cL_files 475 = .ok (.invokestatic 184, 3) := by decide +kernel
theorem dL_files_478 : decode cL_files 478 = .ok (.istore 10, 2) := by decide +kernel
theorem dL_files_480 : decode cL_files 480 = .ok (.aload_n 1, 1) := by decide +kernel
theorem dL_files_481 : decode cL_files 481 = .ok (.getfield 128, 3) := by decide +kernel
theorem dL_files_484 : decode cL_files 484 = .ok (.iload 8, 2) := by decide +kernel
theorem dL_files_486 : decode cL_files 486 = .ok (.iload 9, 2) := by decide +kernel
theorem dL_files_488 : decode cL_files 488 = .ok (.bastore, 1) := by decide +kernel
theorem dL_files_489 : decode cL_files 489 = .ok (.iload 10, 2) := by decide +kernel
theorem dL_files_491 : decode cL_files 491 = .ok (.iload 6, 2) := by decide +kernel
theorem dL_files_493 : decode cL_files 493 = .ok (.if_icmp .le 7, 3) := by decide +kernel
theorem dL_files_496 : decode cL_files 496 = .ok (.iload 8, 2) := by decide +kernel
theorem dL_files_498 : decode cL_files 498 = .ok (.istore 7, 2) := by decide +kernel
theorem dL_files_500 : decode cL_files 500 = .ok (.iload 6, 2) := by decide +kernel
theorem dL_files_502 : decode cL_files 502 = .ok (.iload 10, 2) := by decide +kernel
theorem dL_files_504 : decode cL_files 504 = .ok (.invokestatic 292, 3) := by decide +kernel
theorem dL_files_507 : decode cL_files 507 = .ok (.istore 6, 2) := by decide +kernel
theorem dL_files_509 : decode cL_files 509 = .ok (.iload 8, 2) := by decide +kernel
theorem dL_files_511 : decode cL_files 511 = .ok (.iconst 4, 1) := by decide +kernel
theorem dL_files_512 : decode cL_files 512 = .ok (.irem, 1) := by decide +kernel
theorem dL_files_513 : decode cL_files 513 = .ok (.aload_n 2, 1) := by decide +kernel
theorem dL_files_514 : decode cL_files 514 = .ok (.iconst 4, 1) := by decide +kernel
theorem dL_files_515 : decode cL_files 515 = .ok (.invokestatic 35, 3) := by decide +kernel
theorem dL_files_518 : decode cL_files 518 = .ok (.if_icmp .ne 16, 3) := by decide +kernel
theorem dL_files_521 : decode cL_files 521 = .ok (.aload_n 0, 1) := by decide +kernel
theorem dL_files_522 : decode cL_files 522 = .ok (.iload 8, 2) := by decide +kernel
theorem dL_files_524 : decode cL_files 524 = .ok (.invokevirtual 295, 3) := by decide +kernel
theorem dL_files_527 : decode cL_files 527 = .ok (.iload 10, 2) := by decide +kernel
theorem dL_files_529 : decode cL_files 529 = .ok (.if_icmp .eq 5, 3) := by decide +kernel
theorem dL_files_532 : decode cL_files 532 = .ok (.iconst 0, 1) := by decide +kernel
theorem dL_files_533 : decode cL_files 533 = .ok (.ireturn, 1) := by decide +kernel
theorem dL_files_534 : decode cL_files 534 = .ok (.iinc 8 1, 3) := by decide +kernel
theorem dL_files_537 : decode cL_files 537 = .ok (.goto (-116), 3) := by decide +kernel
theorem dL_files_540 : decode cL_files 540 = .ok (.aload_n 0, 1) := by decide +kernel
theorem dL_files_541 : decode cL_files 541 = .ok (.invokevirtual 298, 3) := by decide +kernel
theorem dL_files_544 : decode cL_files 544 = .ok (.iload 7, 2) := by decide +kernel
theorem dL_files_546 : decode cL_files 546 = .ok (.if_icmp .ne 7, 3) := by decide +kernel
theorem dL_files_549 : decode cL_files 549 = .ok (.iconst 1, 1) := by decide +kernel
theorem dL_files_550 : decode cL_files 550 = .ok (.goto 4, 3) := by decide +kernel
theorem dL_files_553 : decode cL_files 553 = .ok (.iconst 0, 1) := by decide +kernel
theorem dL_files_554 : decode cL_files 554 = .ok (.ireturn, 1) := by decide +kernel
theorem dL_changes_0 : decode cL_changes 0 = .ok (.aload_n 2, 1) := by decide +kernel
theorem dL_changes_1 : decode cL_changes 1 = .ok (.aload_n 1, 1) := by decide +kernel
theorem dL_changes_2 : decode cL_changes 2 = .ok (.getfield 52, 3) := by decide +kernel
theorem dL_changes_5 : decode cL_changes 5 = .ok (.invokestatic 35, 3) := by decide +kernel
theorem dL_changes_8 : decode cL_changes 8 = .ok (.istore_n 3, 1) := by decide +kernel
theorem dL_changes_9 : decode cL_changes 9 = .ok (.aload_n 2, 1) := by decide +kernel
theorem dL_changes_10 : decode cL_changes 10 = .ok (.bipush 10, 2) := by decide +kernel
theorem dL_changes_12 : decode cL_changes 12 = .ok (.invokestatic 35, 3) := by decide +kernel
theorem dL_changes_15 : decode cL_changes 15 = .ok (.tableswitch 430 0 6 #[41, 76, 76, 108, 203, 303, 388], 41) := by decide +kernel
theorem dL_changes_56 : decode cL_changes 56 = .ok (.aload_n 1, 1) := by decide +kernel
theorem dL_changes_57 : decode cL_changes 57 = .ok (.iload_n 3, 1) := by decide +kernel
theorem dL_changes_58 : decode cL_changes 58 = .ok (.invokevirtual 301, 3) := by decide +kernel
theorem dL_changes_61 : decode cL_changes 61 = .ok (.ifCond .le 5, 3) := by decide +kernel
theorem dL_changes_64 : decode cL_changes 64 = .ok (.iconst 1, 1) := by decide +kernel
theorem dL_changes_65 : decode cL_changes 65 = .ok (.ireturn, 1) := by decide +kernel
theorem dL_changes_66 : decode cL_changes 66 = .ok (.aload_n 1, 1) := by decide +kernel
theorem dL_changes_67 : decode cL_changes 67 = .ok (.iload_n 3, 1) := by decide +kernel
theorem dL_changes_68 : decode cL_changes 68 = .ok (.invokevirtual 304, 3) := by decide +kernel
theorem dL_changes_71 : decode cL_changes 71 = .ok (.aload_n 0, 1) := by decide +kernel
theorem dL_changes_72 : decode cL_changes 72 = .ok (.iload_n 3, 1) := by decide +kernel
theorem dL_changes_73 : decode cL_changes 73 = .ok (.invokevirtual 308, 3) := by decide +kernel
theorem dL_changes_76 : decode cL_changes 76 = .ok (.aload_n 1, 1) := by decide +kernel
theorem dL_changes_77 : decode cL_changes 77 = .ok (.bipush 12, 2) := by decide +kernel
theorem dL_changes_79 : decode cL_changes 79 = .ok (.invokevirtual 178, 3) := by decide +kernel
theorem dL_changes_82 : decode cL_changes 82 = .ok (.if_icmp .ne 7, 3) := by decide +kernel
theorem dL_changes_85 : decode cL_changes 85 = .ok (.iconst 1, 1) := by decide +kernel
theorem dL_changes_86 : decode cL_changes 86 = .ok (.goto 4, 3) := by decide +kernel
theorem dL_changes_89 : decode cL_changes 89 = .ok (.iconst 0, 1) := by decide +kernel
theorem dL_changes_90 : decode cL_changes 90 = .ok (.ireturn, 1) := by decide +kernel
theorem dL_changes_91 : decode cL_changes 91 = .ok (.aload_n 1, 1) := by decide +kernel
theorem dL_changes_92 : decode cL_changes 92 = .ok (.invokevirtual 289, 3) := by decide +kernel
theorem dL_changes_95 : decode cL_changes 95 = .ok (.ifCond .le 5, 3) := by decide +kernel
theorem dL_changes_98 : decode cL_changes 98 = .ok (.iconst 1, 1) := by decide +kernel
theorem dL_changes_99 : decode cL_changes 99 = .ok (.ireturn, 1) := by decide +kernel
theorem dL_changes_100 : decode cL_changes 100 = .ok (.aload_n 1, 1) := by decide +kernel
theorem dL_changes_101 : decode cL_changes 101 = .ok (.invokevirtual 310, 3) := by decide +kernel
theorem dL_changes_104 : decode cL_changes 104 = .ok (.aload_n 0, 1) := by decide +kernel
theorem dL_changes_105 : decode cL_changes 105 = .ok (.invokevirtual 313, 3) := by decide +kernel
theorem dL_changes_108 : decode cL_changes 108 = .ok (.aload_n 1, 1) := by decide +kernel
theorem dL_changes_109 : decode cL_changes 109 = .ok (.getfield 173, 3) := by decide +kernel
theorem dL_changes_112 : decode cL_changes 112 = .ok (.iconst 1, 1) := by decide +kernel
theorem dL_changes_113 : decode cL_changes 113 = .ok (.isub, 1) := by decide +kernel
theorem dL_changes_114 : decode cL_changes 114 = .ok (.if_icmp .ne 7, 3) := by decide +kernel
theorem dL_changes_117 : decode cL_changes 117 = .ok (.iconst 1, 1) := by decide +kernel
theorem dL_changes_118 : decode cL_changes 118 = .ok (.goto 4, 3) := by decide +kernel
theorem dL_changes_121 : decode cL_changes 121 = .ok (.iconst 0, 1) := by decide +kernel
theorem dL_changes_122 : decode cL_changes 122 = .ok (.ireturn, 1) := by decide +kernel
theorem dL_changes_123 : decode cL_changes 123 = .ok (.aload_n 1, 1) := by decide +kernel
theorem dL_changes_124 : decode cL_changes 124 = .ok (.invokevirtual 189, 3) := by decide +kernel
theorem dL_changes_127 : decode cL_changes 127 = .ok (.astore 4, 2) := by decide +kernel
theorem dL_changes_129 : decode cL_changes 129 = .ok (.aload 4, 2) := by decide +kernel
theorem dL_changes_131 : decode cL_changes 131 = .ok (.ifnull 11, 3) := by decide +kernel
theorem dL_changes_134 : decode cL_changes 134 = .ok (.aload_n 2, 1) := by decide +kernel
theorem dL_changes_135 : decode cL_changes 135 = .ok (.iconst 2, 1) := by decide +kernel
theorem dL_changes_136 : decode cL_changes 136 = .ok (.invokestatic 35, 3) := by decide +kernel
theorem dL_changes_139 : decode cL_changes 139 = .ok (.ifCond .ne 5, 3) := by decide +kernel
theorem dL_changes_142 : decode cL_changes 142 = .ok (.iconst 1, 1) := by decide +kernel
theorem dL_changes_143 : decode cL_changes 143 = .ok (.ireturn, 1) := by decide +kernel
theorem dL_changes_144 : decode cL_changes 144 = .ok (.aload 4, 2) := by decide +kernel
theorem dL_changes_146 : decode cL_changes 146 = .ok (.iconst 2, 1) := by decide +kernel
theorem dL_changes_147 : decode cL_changes 147 = .ok (.putfield 161, 3) := by decide +kernel
theorem dL_changes_150 : decode cL_changes 150 = .ok (.aload 4, 2) := by decide +kernel
theorem dL_changes_152 : decode cL_changes 152 = .ok (.iconst 0, 1) := by decide +kernel
theorem dL_changes_153 : decode cL_changes 153 = .ok (.putfield 210, 3) := by decide +kernel
theorem dL_changes_156 : decode cL_changes 156 = .ok (.iconst 0, 1) := by decide +kernel
theorem dL_changes_157 : decode cL_changes 157 = .ok (.istore 5, 2) := by decide +kernel
theorem dL_changes_159 : decode cL_changes 159 = .ok (.iconst 0, 1) := by decide +kernel
theorem dL_changes_160 : decode cL_changes 160 = .ok (.istore 6, 2) := by decide +kernel
theorem dL_changes_162 : decode cL_changes 162 = .ok (.iload 6, 2) := by decide +kernel
theorem dL_changes_164 : decode cL_changes 164 = .ok (.aload_n 1, 1) := by decide +kernel
theorem dL_changes_165 : decode cL_changes 165 = .ok (.invokevirtual 121, 3) := by decide +kernel
theorem dL_changes_168 : decode cL_changes 168 = .ok (.if_icmp .ge 35, 3) := by decide +kernel
theorem dL_changes_171 : decode cL_changes 171 = .ok (.iload 5, 2) := by decide +kernel
theorem dL_changes_173 : decode cL_changes 173 = .ok (.aload_n 1, 1) := by decide +kernel
theorem dL_changes_174 : decode cL_changes 174 = .ok (.getfield 131, 3) := by decide +kernel
theorem dL_changes_177 : decode cL_changes 177 = .ok (.iload 6, 2) := by decide +kernel
theorem dL_changes_179 : decode cL_changes 179 = .ok (.iaload, 1) := by decide +kernel
theorem dL_changes_180 : decode cL_changes 180 = .ok (.aload_n 1, 1) := by decide +kernel
theorem dL_changes_181 : decode cL_changes 181 = .ok (.getfield 173, 3) := by decide +kernel
theorem dL_changes_184 : decode cL_changes 184 = .ok (.iconst 1, 1) := by decide +kernel
theorem dL_changes_185 : decode cL_changes 185 = .ok (.isub, 1) := by decide +kernel
theorem dL_changes_186 : decode cL_changes 186 = .ok (.if_icmp .ne 7, 3) := by decide +kernel
theorem dL_changes_189 : decode cL_changes 189 = .ok (.iconst 1, 1) := by decide +kernel
theorem dL_changes_190 : decode cL_changes 190 = .ok (.goto 4, 3) := by decide +kernel
theorem dL_changes_193 : decode cL_changes 193 = .ok (.iconst 0, 1) := by decide +kernel
theorem dL_changes_194 : decode cL_changes 194 = .ok (.iadd, 1) := by decide +kernel
theorem dL_changes_195 : decode cL_changes 195 = .ok (.istore 5, 2) := by decide +kernel
theorem dL_changes_197 : decode cL_changes 197 = .ok (.iinc 6 1, 3) := by decide +kernel
theorem dL_changes_200 : decode cL_changes 200 = .ok (.goto (-38), 3) := by decide +kernel
theorem dL_changes_203 : decode cL_changes 203 = .ok (.aload_n 0, 1) := by decide +kernel
theorem dL_changes_204 : decode cL_changes 204 = .ok (.invokevirtual 315, 3) := by decide +kernel
theorem dL_changes_207 : decode cL_changes 207 = .ok (.iload 5, 2) := by decide +kernel
theorem dL_changes_209 : decode cL_changes 209 = .ok (.if_icmp .ne 7, 3) := by decide +kernel
theorem dL_changes_212 : decode cL_changes 212 = .ok (.iconst 1, 1) := by decide +kernel
theorem dL_changes_213 : decode cL_changes 213 = .ok (.goto 4, 3) := by decide +kernel
theorem dL_changes_216 : decode cL_changes 216 = .ok (.iconst 0, 1) := by decide +kernel
theorem dL_changes_217 : decode cL_changes 217 = .ok (.ireturn, 1) := by decide +kernel
theorem dL_changes_218 : decode cL_changes 218 = .ok (.bipush 10, 2) := by decide +kernel
theorem dL_changes_220 : decode cL_changes 220 = .ok (.anewarray 139, 3) := by decide +kernel
theorem dL_changes_223 : decode cL_changes 223 = .ok (.astore 4, 2) := by decide +kernel
theorem dL_changes_225 : decode cL_changes 225 = .ok (.aload_n 1, 1) := by decide +kernel
theorem dL_changes_226 : decode cL_changes 226 = .ok (.aload 4, 2) := by decide +kernel
theorem dL_changes_228 : decode cL_changes 228 = .ok (.invokevirtual 276, 3) := by decide +kernel
theorem dL_changes_231 : decode cL_changes 231 = .ok (.istore 5, 2) := by decide +kernel
theorem dL_changes_233 : decode cL_changes 233 = .ok (.aload_n 1, 1) := by decide +kernel
theorem dL_changes_234 : decode cL_changes 234 = .ok (.iload 5, 2) := by decide +kernel
theorem dL_changes_236 : decode cL_changes 236 = .ok (.invokevirtual 286, 3) := by decide +kernel
theorem dL_changes_239 : decode cL_changes 239 = .ok (.ifCond .le 5, 3) := by decide +kernel
theorem dL_changes_242 : decode cL_changes 242 = .ok (.iconst 1, 1) := by decide +kernel
theorem dL_changes_243 : decode cL_changes 243 = .ok (.ireturn, 1) := by decide +kernel
theorem dL_changes_244 : decode cL_changes 244 = .ok (.aload_n 1, 1) := by decide +kernel
theorem dL_changes_245 : decode cL_changes 245 = .ok (.getfield 157, 3) := by decide +kernel
theorem dL_changes_248 : decode cL_changes 248 = .ok (.aload_n 1, 1) := by decide +kernel
theorem dL_changes_249 : decode cL_changes 249 = .ok (.getfield 173, 3) := by decide +kernel
theorem dL_changes_252 : decode cL_changes 252 = .ok (.iconst 1, 1) := by decide +kernel
theorem dL_changes_253 : decode cL_changes 253 = .ok (.isub, 1) := by decide +kernel
theorem dL_changes_254 : decode cL_changes 254 = .ok (.aaload, 1) := by decide +kernel
theorem dL_changes_255 : decode cL_changes 255 = .ok (.iconst 3, 1) := by decide +kernel
theorem dL_changes_256 : decode cL_changes 256 = .ok (.putfield 161, 3) := by decide +kernel
theorem dL_changes_259 : decode cL_changes 259 = .ok (.aload_n 1, 1) := by decide +kernel
theorem dL_changes_260 : decode cL_changes 260 = .ok (.invokevirtual 318, 3) := by decide +kernel
theorem dL_changes_263 : decode cL_changes 263 = .ok (.astore 6, 2) := by decide +kernel
theorem dL_changes_265 : decode cL_changes 265 = .ok (.iconst 0, 1) := by decide +kernel
theorem dL_changes_266 : decode cL_changes 266 = .ok (.istore 7, 2) := by decide +kernel
theorem dL_changes_268 : decode cL_changes 268 = .ok (.iload 7, 2) := by decide +kernel
theorem dL_changes_270 : decode cL_changes 270 = .ok (.iload 5, 2) := by decide +kernel
theorem dL_changes_272 : decode cL_changes 272 = .ok (.if_icmp .ge 27, 3) := by decide +kernel
theorem dL_changes_275 : decode cL_changes 275 = .ok (.aload 6, 2) := by decide +kernel
theorem dL_changes_277 : decode cL_changes 277 = .ok (.aload 4, 2) := by decide +kernel
theorem dL_changes_279 : decode cL_changes 279 = .ok (.iload 7, 2) := by decide +kernel
theorem dL_changes_281 : decode cL_changes 281 = .ok (.aaload, 1) := by decide +kernel
theorem dL_changes_282 : decode cL_changes 282 = .ok (.getfield 260, 3) := by decide +kernel
theorem dL_changes_285 : decode cL_changes 285 = .ok (.aload 4, 2) := by decide +kernel
theorem dL_changes_287 : decode cL_changes 287 = .ok (.iload 7, 2) := by decide +kernel
theorem dL_changes_289 : decode cL_changes 289 = .ok (.aaload, 1) := by decide +kernel
theorem dL_changes_290 : decode cL_changes 290 = .ok (.invokevirtual 321, 3) := by decide +kernel
theorem dL_changes_293 : decode cL_changes 293 = .ok (.iinc 7 1, 3) := by decide +kernel
theorem dL_changes_296 : decode cL_changes 296 = .ok (.goto (-28), 3) := by decide +kernel
theorem dL_changes_299 : decode cL_changes 299 = .ok (.aload_n 1, 1) := by decide +kernel
theorem dL_changes_300 : decode cL_changes 300 = .ok (.invokevirtual 310, 3) := by decide +kernel
theorem dL_changes_303 : decode cL_changes 303 = .ok (.aload_n 0, 1) := by decide +kernel
theorem dL_changes_304 : decode cL_changes 304 = .ok (.invokevirtual 325, 3) := by decide +kernel
theorem dL_changes_307 : decode cL_changes 307 = .ok (.iload 5, 2) := by decide +kernel
theorem dL_changes_309 : decode cL_changes 309 = .ok (.if_icmp .ne 7, 3) := by decide +kernel
theorem dL_changes_312 : decode cL_changes 312 = .ok (.iconst 1, 1) := by decide +kernel
theorem dL_changes_313 : decode cL_changes 313 = .ok (.goto 4, 3) := by decide +kernel
theorem dL_changes_316 : decode cL_changes 316 = .ok (.iconst 0, 1) := by decide +kernel
theorem dL_changes_317 : decode cL_changes 317 = .ok (.ireturn, 1) := by decide +kernel
theorem dL_changes_318 : decode cL_changes 318 = .ok (.aload_n 2, 1) := by decide +kernel
theorem dL_changes_319 : decode cL_changes 319 = .ok (.aload_n 1, 1) := by decide +kernel
theorem dL_changes_320 : decode cL_changes 320 = .ok (.getfield 39, 3) := by decide +kernel
theorem dL_changes_323 : decode cL_changes 323 = .ok (.invokestatic 35, 3) := by decide +kernel
theorem dL_changes_326 : decode cL_changes 326 = .ok (.istore 4, 2) := by decide +kernel
theorem dL_changes_328 : decode cL_changes 328 = .ok (.aload_n 1, 1) := by decide +kernel
theorem dL_changes_329 : decode cL_changes 329 = .ok (.getfield 124, 3) := by decide +kernel
theorem dL_changes_332 : decode cL_changes 332 = .ok (.iload 4, 2) := by decide +kernel
theorem dL_changes_334 : decode cL_changes 334 = .ok (.iaload, 1) := by decide +kernel
theorem dL_changes_335 : decode cL_changes 335 = .ok (.ifCond .ne 13, 3) := by decide +kernel
theorem dL_changes_338 : decode cL_changes 338 = .ok (.aload_n 1, 1) := by decide +kernel
theorem dL_changes_339 : decode cL_changes 339 = .ok (.getfield 77, 3) := by decide +kernel
theorem dL_changes_342 : decode cL_changes 342 = .ok (.iload 4, 2) := by decide +kernel
theorem dL_changes_344 : decode cL_changes 344 = .ok (.baload, 1) := by decide +kernel
theorem dL_changes_345 : decode cL_changes 345 = .ok (.goto 10, 3) := by decide +kernel
theorem dL_changes_348 : decode cL_changes 348 = .ok (.aload_n 1, 1) := by decide +kernel
theorem dL_changes_349 : decode cL_changes 349 = .ok (.getfield 128, 3) := by decide +kernel
theorem dL_changes_352 : decode cL_changes 352 = .ok (.iload 4, 2) := by decide +kernel
theorem dL_changes_354 : decode cL_changes 354 = .ok (.baload, 1) := by decide +kernel
theorem dL_changes_355 : decode cL_changes 355 = .ok (.istore 5, 2) := by decide +kernel
theorem dL_changes_357 : decode cL_changes 357 = .ok (.aload_n 1, 1) := by decide +kernel
theorem dL_changes_358 : decode cL_changes 358 = .ok (.getfield 124, 3) := by decide +kernel
theorem dL_changes_361 : decode cL_changes 361 = .ok (.iload 4, 2) := by decide +kernel
theorem dL_changes_363 : decode cL_changes 363 = .ok (.iaload, 1) := by decide +kernel
theorem dL_changes_364 : decode cL_changes 364 = .ok (.ifCond .ne 14, 3) := by decide +kernel
theorem dL_changes_367 : decode cL_changes 367 = .ok (.aload_n 1, 1) := by decide +kernel
theorem dL_changes_368 : decode cL_changes 368 = .ok (.getfield 77, 3) := by decide +kernel
theorem dL_changes_371 : decode cL_changes 371 = .ok (.iload 4, 2) := by decide +kernel
theorem dL_changes_373 : decode cL_changes 373 = .ok (.iconst 1, 1) := by decide +kernel
theorem dL_changes_374 : decode cL_changes 374 = .ok (.bastore, 1) := by decide +kernel
theorem dL_changes_375 : decode cL_changes 375 = .ok (.goto 11, 3) := by decide +kernel
theorem dL_changes_378 : decode cL_changes 378 = .ok (.aload_n 1, 1) := by decide +kernel
theorem dL_changes_379 : decode cL_changes 379 = .ok (.getfield 128, 3) := by decide +kernel
theorem dL_changes_382 : decode cL_changes 382 = .ok (.iload 4, 2) := by decide +kernel
theorem dL_changes_384 : decode cL_changes 384 = .ok (.iconst 1, 1) := by decide +kernel
theorem dL_changes_385 : decode cL_changes 385 = .ok (.bastore, 1) := by decide +kernel
theorem dL_changes_386 : decode cL_changes 386 = .ok (.aload_n 0, 1) := by decide +kernel
theorem dL_changes_387 : decode cL_changes 387 = .ok (.iload 4, 2) := by decide +kernel
theorem dL_changes_389 : decode cL_changes 389 = .ok (.invokevirtual 328, 3) := by decide +kernel
theorem dL_changes_392 : decode cL_changes 392 = .ok (.iload 5, 2) := by decide +kernel
theorem dL_changes_394 : decode cL_changes 394 = .ok (.if_icmp .eq 7, 3) := by decide +kernel
theorem dL_changes_397 : decode cL_changes 397 = .ok (.iconst 1, 1) := by decide +kernel
theorem dL_changes_398 : decode cL_changes 398 = .ok (.goto 4, 3) := by decide +kernel
theorem dL_changes_401 : decode cL_changes 401 = .ok (.iconst 0, 1) := by decide +kernel
theorem dL_changes_402 : decode cL_changes 402 = .ok (.ireturn, 1) := by decide +kernel
theorem dL_changes_403 : decode cL_changes 403 = .ok (.aload_n 1, 1) := by decide +kernel
theorem dL_changes_404 : decode cL_changes 404 = .ok (.getfield 193, 3) := by decide +kernel
theorem dL_changes_407 : decode cL_changes 407 = .ok (.istore 4, 2) := by decide +kernel
theorem dL_changes_409 : decode cL_changes 409 = .ok (.aload_n 1, 1) := by decide +kernel
theorem dL_changes_410 : decode cL_changes 410 = .ok (.aload_n 2, 1) := by decide +kernel
theorem dL_changes_411 : decode cL_changes 411 = .ok (.iconst 2, 1) := by decide +kernel
theorem dL_changes_412 : decode cL_changes 412 = .ok (.invokestatic 35, 3) := by decide +kernel
theorem dL_changes_415 : decode cL_changes 415 = .ok (.ifCond .ne 7, 3) := by decide +kernel
theorem dL_changes_418 : decode cL_changes 418 = .ok (.iconst 1, 1) := by decide +kernel
theorem dL_changes_419 : decode cL_changes 419 = .ok (.goto 4, 3) := by decide +kernel
theorem dL_changes_422 : decode cL_changes 422 = .ok (.iconst 0, 1) := by decide +kernel
theorem dL_changes_423 : decode cL_changes 423 = .ok (.putfield 193, 3) := by decide +kernel
theorem dL_changes_426 : decode cL_changes 426 = .ok (.aload_n 0, 1) := by decide +kernel
theorem dL_changes_427 : decode cL_changes 427 = .ok (.aload_n 1, 1) := by decide +kernel
theorem dL_changes_428 : decode cL_changes 428 = .ok (.getfield 193, 3) := by decide +kernel
theorem dL_changes_431 : decode cL_changes 431 = .ok (.invokevirtual 331, 3) := by decide +kernel
theorem dL_changes_434 : decode cL_changes 434 = .ok (.iload 4, 2) := by decide +kernel
theorem dL_changes_436 : decode cL_changes 436 = .ok (.if_icmp .ne 7, 3) := by decide +kernel
theorem dL_changes_439 : decode cL_changes 439 = .ok (.iconst 1, 1) := by decide +kernel
theorem dL_changes_440 : decode cL_changes 440 = .ok (.goto 4, 3) := by decide +kernel
theorem dL_changes_443 : decode cL_changes 443 = .ok (.iconst 0, 1) := by decide +kernel
theorem dL_changes_444 : decode cL_changes 444 = .ok (.ireturn, 1) := by decide +kernel
theorem dL_changes_445 : decode cL_changes 445 = .ok (.iconst 1, 1) := by decide +kernel
theorem dL_changes_446 : decode cL_changes 446 = .ok (.aload_n 2, 1) := by decide +kernel
theorem dL_changes_447 : decode cL_changes 447 = .ok (.iconst 3, 1) := by decide +kernel
theorem dL_changes_448 : decode cL_changes 448 = .ok (.invokestatic 35, 3) := by decide +kernel
theorem dL_changes_451 : decode cL_changes 451 = .ok (.iadd, 1) := by decide +kernel
theorem dL_changes_452 : decode cL_changes 452 = .ok (.istore 4, 2) := by decide +kernel
theorem dL_changes_454 : decode cL_changes 454 = .ok (.aload_n 2, 1) := by decide +kernel
theorem dL_changes_455 : decode cL_changes 455 = .ok (.sipush 1000, 3) := by decide +kernel
theorem dL_changes_458 : decode cL_changes 458 = .ok (.invokestatic 35, 3) := by decide +kernel
theorem dL_changes_461 : decode cL_changes 461 = .ok (.istore 5, 2) := by decide +kernel
theorem dL_changes_463 : decode cL_changes 463 = .ok (.aload_n 1, 1) := by decide +kernel
theorem dL_changes_464 : decode cL_changes 464 = .ok (.iload_n 3, 1) := by decide +kernel
theorem dL_changes_465 : decode cL_changes 465 = .ok (.iload 4, 2) := by decide +kernel
theorem dL_changes_467 : decode cL_changes 467 = .ok (.invokevirtual 88, 3) := by decide +kernel
theorem dL_changes_470 : decode cL_changes 470 = .ok (.ifCond .gt 24, 3) := by decide +kernel
theorem dL_changes_473 : decode cL_changes 473 = .ok (.aload_n 0, 1) := by decide +kernel
theorem dL_changes_474 : decode cL_changes 474 = .ok (.iload_n 3, 1) := by decide +kernel
theorem dL_changes_475 : decode cL_changes 475 = .ok (.iload 4, 2) := by decide +kernel
theorem dL_changes_477 : decode cL_changes 477 = .ok (.iload 5, 2) := by decide +kernel
theorem dL_changes_479 : decode cL_changes 479 = .ok (.invokevirtual 335, 3) := by decide +kernel
theorem dL_changes_482 : decode cL_changes 482 = .ok (.aload_n 1, 1) := by decide +kernel
theorem dL_changes_483 : decode cL_changes 483 = .ok (.iload_n 3, 1) := by decide +kernel
theorem dL_changes_484 : decode cL_changes 484 = .ok (.iload 4, 2) := by decide +kernel
theorem dL_changes_486 : decode cL_changes 486 = .ok (.iload 5, 2) := by decide +kernel
theorem dL_changes_488 : decode cL_changes 488 = .ok (.invokevirtual 91, 3) := by decide +kernel
theorem dL_changes_491 : decode cL_changes 491 = .ok (.if_icmp .ne 7, 3) := by decide +kernel
theorem dL_changes_494 : decode cL_changes 494 = .ok (.iconst 1, 1) := by decide +kernel
theorem dL_changes_495 : decode cL_changes 495 = .ok (.goto 4, 3) := by decide +kernel
theorem dL_changes_498 : decode cL_changes 498 = .ok (.iconst 0, 1) := by decide +kernel
theorem dL_changes_499 : decode cL_changes 499 = .ok (.ireturn, 1) := by decide +kernel
theorem dX0_init_0 : decode cX0_init 0 = .ok (.aload_n 0, 1) := by decide +kernel
theorem dX0_init_1 : decode cX0_init 1 = .ok (.invokespecial 3, 3) := by decide +kernel
theorem dX0_init_4 : decode cX0_init 4 = .ok (.aload_n 0, 1) := by decide +kernel
theorem dX0_init_5 : decode cX0_init 5 = .ok (.iconst 0, 1) := by decide +kernel
theorem dX0_init_6 : decode cX0_init 6 = .ok (.putfield 9, 3) := by decide +kernel
theorem dX0_init_9 : decode cX0_init 9 = .ok (.aload_n 0, 1) := by decide +kernel
theorem dX0_init_10 : decode cX0_init 10 = .ok (.iconst 0, 1) := by decide +kernel
theorem dX0_init_11 : decode cX0_init 11 = .ok (.putfield 15, 3) := by decide +kernel
theorem dX0_init_14 : decode cX0_init 14 = .ok (.aload_n 0, 1) := by decide +kernel
theorem dX0_init_15 : decode cX0_init 15 = .ok (.iconst 0, 1) := by decide +kernel
theorem dX0_init_16 : decode cX0_init 16 = .ok (.putfield 18, 3) := by decide +kernel
theorem dX0_init_19 : decode cX0_init 19 = .ok (.aload_n 0, 1) := by decide +kernel
theorem dX0_init_20 : decode cX0_init 20 = .ok (.bipush 96, 2) := by decide +kernel
theorem dX0_init_22 : decode cX0_init 22 = .ok (.newarray .int, 2) := by decide +kernel
theorem dX0_init_24 : decode cX0_init 24 = .ok (.putfield 21, 3) := by decide +kernel
theorem dX0_init_27 : decode cX0_init 27 = .ok (.aload_n 0, 1) := by decide +kernel
theorem dX0_init_28 : decode cX0_init 28 = .ok (.bipush 96, 2) := by decide +kernel
theorem dX0_init_30 : decode cX0_init 30 = .ok (.newarray .boolean, 2) := by decide +kernel
theorem dX0_init_32 : decode cX0_init 32 = .ok (.putfield 25, 3) := by decide +kernel
theorem dX0_init_35 : decode cX0_init 35 = .ok (.aload_n 0, 1) := by decide +kernel
theorem dX0_init_36 : decode cX0_init 36 = .ok (.bipush 96, 2) := by decide +kernel
theorem dX0_init_38 : decode cX0_init 38 = .ok (.newarray .boolean, 2) := by decide +kernel
theorem dX0_init_40 : decode cX0_init 40 = .ok (.putfield 29, 3) := by decide +kernel
theorem dX0_init_43 : decode cX0_init 43 = .ok (.aload_n 0, 1) := by decide +kernel
theorem dX0_init_44 : decode cX0_init 44 = .ok (.bipush 96, 2) := by decide +kernel
theorem dX0_init_46 : decode cX0_init 46 = .ok (.newarray .int, 2) := by decide +kernel
theorem dX0_init_48 : decode cX0_init 48 = .ok (.putfield 32, 3) := by decide +kernel
theorem dX0_init_51 : decode cX0_init 51 = .ok (.aload_n 0, 1) := by decide +kernel
theorem dX0_init_52 : decode cX0_init 52 = .ok (.bipush 96, 2) := by decide +kernel
theorem dX0_init_54 : decode cX0_init 54 = .ok (.newarray .int, 2) := by decide +kernel
theorem dX0_init_56 : decode cX0_init 56 = .ok (.putfield 35, 3) := by decide +kernel
theorem dX0_init_59 : decode cX0_init 59 = .ok (.aload_n 0, 1) := by decide +kernel
theorem dX0_init_60 : decode cX0_init 60 = .ok (.bipush 96, 2) := by decide +kernel
theorem dX0_init_62 : decode cX0_init 62 = .ok (.newarray .int, 2) := by decide +kernel
theorem dX0_init_64 : decode cX0_init 64 = .ok (.putfield 38, 3) := by decide +kernel
theorem dX0_init_67 : decode cX0_init 67 = .ok (.aload_n 0, 1) := by decide +kernel
theorem dX0_init_68 : decode cX0_init 68 = .ok (.bipush 96, 2) := by decide +kernel
theorem dX0_init_70 : decode cX0_init 70 = .ok (.newarray .int, 2) := by decide +kernel
theorem dX0_init_72 : decode cX0_init 72 = .ok (.putfield 41, 3) := by decide +kernel
theorem dX0_init_75 : decode cX0_init 75 = .ok (.aload_n 0, 1) := by decide +kernel
theorem dX0_init_76 : decode cX0_init 76 = .ok (.bipush 96, 2) := by decide +kernel
theorem dX0_init_78 : decode cX0_init 78 = .ok (.newarray .int, 2) := by decide +kernel
theorem dX0_init_80 : decode cX0_init 80 = .ok (.putfield 44, 3) := by decide +kernel
theorem dX0_init_83 : decode cX0_init 83 = .ok (.return_, 1) := by decide +kernel
theorem dX0_format_0 : decode cX0_format 0 = .ok (.aload_n 0, 1) := by decide +kernel
theorem dX0_format_1 : decode cX0_format 1 = .ok (.iload_n 1, 1) := by decide +kernel
theorem dX0_format_2 : decode cX0_format 2 = .ok (.putfield 9, 3) := by decide +kernel
theorem dX0_format_5 : decode cX0_format 5 = .ok (.aload_n 0, 1) := by decide +kernel
theorem dX0_format_6 : decode cX0_format 6 = .ok (.iload_n 1, 1) := by decide +kernel
theorem dX0_format_7 : decode cX0_format 7 = .ok (.iload_n 2, 1) := by decide +kernel
theorem dX0_format_8 : decode cX0_format 8 = .ok (.isub, 1) := by decide +kernel
theorem dX0_format_9 : decode cX0_format 9 = .ok (.putfield 15, 3) := by decide +kernel
theorem dX0_format_12 : decode cX0_format 12 = .ok (.aload_n 0, 1) := by decide +kernel
theorem dX0_format_13 : decode cX0_format 13 = .ok (.iconst 0, 1) := by decide +kernel
theorem dX0_format_14 : decode cX0_format 14 = .ok (.putfield 18, 3) := by decide +kernel
theorem dX0_format_17 : decode cX0_format 17 = .ok (.aload_n 0, 1) := by decide +kernel
theorem dX0_format_18 : decode cX0_format 18 = .ok (.getfield 21, 3) := by decide +kernel
theorem dX0_format_21 : decode cX0_format 21 = .ok (.iconst 0, 1) := by decide +kernel
theorem dX0_format_22 : decode cX0_format 22 = .ok (.invokestatic 47, 3) := by decide +kernel
theorem dX0_format_25 : decode cX0_format 25 = .ok (.aload_n 0, 1) := by decide +kernel
theorem dX0_format_26 : decode cX0_format 26 = .ok (.getfield 25, 3) := by decide +kernel
theorem dX0_format_29 : decode cX0_format 29 = .ok (.iconst 0, 1) := by decide +kernel
theorem dX0_format_30 : decode cX0_format 30 = .ok (.invokestatic 51, 3) := by decide +kernel
theorem dX0_format_33 : decode cX0_format 33 = .ok (.aload_n 0, 1) := by decide +kernel
theorem dX0_format_34 : decode cX0_format 34 = .ok (.getfield 29, 3) := by decide +kernel
theorem dX0_format_37 : decode cX0_format 37 = .ok (.iconst 0, 1) := by decide +kernel
theorem dX0_format_38 : decode cX0_format 38 = .ok (.invokestatic 51, 3) := by decide +kernel
theorem dX0_format_41 : decode cX0_format 41 = .ok (.aload_n 0, 1) := by decide +kernel
theorem dX0_format_42 : decode cX0_format 42 = .ok (.getfield 32, 3) := by decide +kernel
theorem dX0_format_45 : decode cX0_format 45 = .ok (.iconst (-1), 1) := by decide +kernel
theorem dX0_format_46 : decode cX0_format 46 = .ok (.invokestatic 47, 3) := by decide +kernel
theorem dX0_format_49 : decode cX0_format 49 = .ok (.aload_n 0, 1) := by decide +kernel
theorem dX0_format_50 : decode cX0_format 50 = .ok (.getfield 35, 3) := by decide +kernel
theorem dX0_format_53 : decode cX0_format 53 = .ok (.iconst (-1), 1) := by decide +kernel
theorem dX0_format_54 : decode cX0_format 54 = .ok (.invokestatic 47, 3) := by decide +kernel
theorem dX0_format_57 : decode cX0_format 57 = .ok (.aload_n 0, 1) := by decide +kernel
theorem dX0_format_58 : decode cX0_format 58 = .ok (.getfield 38, 3) := by decide +kernel
theorem dX0_format_61 : decode cX0_format 61 = .ok (.iconst (-1), 1) := by decide +kernel
theorem dX0_format_62 : decode cX0_format 62 = .ok (.invokestatic 47, 3) := by decide +kernel
theorem dX0_format_65 : decode cX0_format 65 = .ok (.aload_n 0, 1) := by decide +kernel
theorem dX0_format_66 : decode cX0_format 66 = .ok (.getfield 41, 3) := by decide +kernel
theorem dX0_format_69 : decode cX0_format 69 = .ok (.iconst (-1), 1) := by decide +kernel
theorem dX0_format_70 : decode cX0_format 70 = .ok (.invokestatic 47, 3) := by decide +kernel
theorem dX0_format_73 : decode cX0_format 73 = .ok (.aload_n 0, 1) := by decide +kernel
theorem dX0_format_74 : decode cX0_format 74 = .ok (.getfield 44, 3) := by decide +kernel
theorem dX0_format_77 : decode cX0_format 77 = .ok (.iconst (-1), 1) := by decide +kernel
theorem dX0_format_78 : decode cX0_format 78 = .ok (.invokestatic 47, 3) := by decide +kernel
theorem dX0_format_81 : decode cX0_format 81 = .ok (.return_, 1) := by decide +kernel
theorem dX0_takeFrom_0 : decode cX0_takeFrom 0 = .ok (.aload_n 0, 1) := by decide +kernel
theorem dX0_takeFrom_1 : decode cX0_takeFrom 1 = .ok (.aload_n 1, 1) := by decide +kernel
theorem dX0_takeFrom_2 : decode cX0_takeFrom 2 = .ok (.getfield 9, 3) := by decide +kernel
theorem dX0_takeFrom_5 : decode cX0_takeFrom 5 = .ok (.putfield 9, 3) := by decide +kernel
theorem dX0_takeFrom_8 : decode cX0_takeFrom 8 = .ok (.aload_n 0, 1) := by decide +kernel
theorem dX0_takeFrom_9 : decode cX0_takeFrom 9 = .ok (.aload_n 1, 1) := by decide +kernel
theorem dX0_takeFrom_10 : decode cX0_takeFrom 10 = .ok (.getfield 15, 3) := by decide +kernel
theorem dX0_takeFrom_13 : decode cX0_takeFrom 13 = .ok (.putfield 15, 3) := by decide +kernel
theorem dX0_takeFrom_16 : decode cX0_takeFrom 16 = .ok (.aload_n 0, 1) := by decide +kernel
theorem dX0_takeFrom_17 : decode cX0_takeFrom 17 = .ok (.aload_n 1, 1) := by decide +kernel
theorem dX0_takeFrom_18 : decode cX0_takeFrom 18 = .ok (.getfield 18, 3) := by decide +kernel
theorem dX0_takeFrom_21 : decode cX0_takeFrom 21 = .ok (.putfield 18, 3) := by decide +kernel
theorem dX0_takeFrom_24 : decode cX0_takeFrom 24 = .ok (.aload_n 1, 1) := by decide +kernel
theorem dX0_takeFrom_25 : decode cX0_takeFrom 25 = .ok (.getfield 21, 3) := by decide +kernel
theorem dX0_takeFrom_28 : decode cX0_takeFrom 28 = .ok (.aload_n 0, 1) := by decide +kernel
theorem dX0_takeFrom_29 : decode cX0_takeFrom 29 = .ok (.getfield 21, 3) := by decide +kernel
theorem dX0_takeFrom_32 : decode cX0_takeFrom 32 = .ok (.invokestatic 54, 3) := by decide +kernel
theorem dX0_takeFrom_35 : decode cX0_takeFrom 35 = .ok (.aload_n 1, 1) := by decide +kernel
theorem dX0_takeFrom_36 : decode cX0_takeFrom 36 = .ok (.getfield 25, 3) := by decide +kernel
theorem dX0_takeFrom_39 : decode cX0_takeFrom 39 = .ok (.aload_n 0, 1) := by decide +kernel
theorem dX0_takeFrom_40 : decode cX0_takeFrom 40 = .ok (.getfield 25, 3) := by decide +kernel
theorem dX0_takeFrom_43 : decode cX0_takeFrom 43 = .ok (.invokestatic 58, 3) := by decide +kernel
theorem dX0_takeFrom_46 : decode cX0_takeFrom 46 = .ok (.aload_n 1, 1) := by decide +kernel
theorem dX0_takeFrom_47 : decode cX0_takeFrom 47 = .ok (.getfield 29, 3) := by decide +kernel
theorem dX0_takeFrom_50 : decode cX0_takeFrom 50 = .ok (.aload_n 0, 1) := by decide +kernel
theorem dX0_takeFrom_51 : decode cX0_takeFrom 51 = .ok (.getfield 29, 3) := by decide +kernel
theorem dX0_takeFrom_54 : decode cX0_takeFrom 54 = .ok (.invokestatic 58, 3) := by decide +kernel
theorem dX0_takeFrom_57 : decode cX0_takeFrom 57 = .ok (.aload_n 1, 1) := by decide +kernel
theorem dX0_takeFrom_58 : decode cX0_takeFrom 58 = .ok (.getfield 32, 3) := by decide +kernel
theorem dX0_takeFrom_61 : decode cX0_takeFrom 61 = .ok (.aload_n 0, 1) := by decide +kernel
theorem dX0_takeFrom_62 : decode cX0_takeFrom 62 = .ok (.getfield 32, 3) := by decide +kernel
theorem dX0_takeFrom_65 : decode cX0_takeFrom 65 = .ok (.invokestatic 54, 3) := by decide +kernel
theorem dX0_takeFrom_68 : decode cX0_takeFrom 68 = .ok (.aload_n 1, 1) := by decide +kernel
theorem dX0_takeFrom_69 : decode cX0_takeFrom 69 = .ok (.getfield 35, 3) := by decide +kernel
theorem dX0_takeFrom_72 : decode cX0_takeFrom 72 = .ok (.aload_n 0, 1) := by decide +kernel
theorem dX0_takeFrom_73 : decode cX0_takeFrom 73 = .ok (.getfield 35, 3) := by decide +kernel
theorem dX0_takeFrom_76 : decode cX0_takeFrom 76 = .ok (.invokestatic 54, 3) := by decide +kernel
theorem dX0_takeFrom_79 : decode cX0_takeFrom 79 = .ok (.aload_n 1, 1) := by decide +kernel
theorem dX0_takeFrom_80 : decode cX0_takeFrom 80 = .ok (.getfield 38, 3) := by decide +kernel
theorem dX0_takeFrom_83 : decode cX0_takeFrom 83 = .ok (.aload_n 0, 1) := by decide +kernel
theorem dX0_takeFrom_84 : decode cX0_takeFrom 84 = .ok (.getfield 38, 3) := by decide +kernel
theorem dX0_takeFrom_87 : decode cX0_takeFrom 87 = .ok (.invokestatic 54, 3) := by decide +kernel
theorem dX0_takeFrom_90 : decode cX0_takeFrom 90 = .ok (.aload_n 1, 1) := by decide +kernel
theorem dX0_takeFrom_91 : decode cX0_takeFrom 91 = .ok (.getfield 41, 3) := by decide +kernel
theorem dX0_takeFrom_94 : decode cX0_takeFrom 94 = .ok (.aload_n 0, 1) := by decide +kernel
theorem dX0_takeFrom_95 : decode cX0_takeFrom 95 = .ok (.getfield 41, 3) := by decide +kernel
theorem dX0_takeFrom_98 : decode cX0_takeFrom 98 = .ok (.invokestatic 54, 3) := by decide +kernel
theorem dX0_takeFrom_101 : decode cX0_takeFrom 101 = .ok (.aload_n 1, 1) := by decide +kernel
theorem dX0_takeFrom_102 : decode cX0_takeFrom 102 = .ok (.getfield 44, 3) := by decide +kernel
theorem dX0_takeFrom_105 : decode cX0_takeFrom 105 = .ok (.aload_n 0, 1) := by decide +kernel
theorem dX0_takeFrom_106 : decode cX0_takeFrom 106 = .ok (.getfield 44, 3) := by decide +kernel
theorem dX0_takeFrom_109 : decode cX0_takeFrom 109 = .ok (.invokestatic 54, 3) := by decide +kernel
theorem dX0_takeFrom_112 : decode cX0_takeFrom 112 = .ok (.return_, 1) := by decide +kernel
theorem dX0_kindOf_0 : decode cX0_kindOf 0 = .ok (.aload_n 0, 1) := by decide +kernel
theorem dX0_kindOf_1 : decode cX0_kindOf 1 = .ok (.getfield 21, 3) := by decide +kernel
theorem dX0_kindOf_4 : decode cX0_kindOf 4 = .ok (.iload_n 1, 1) := by decide +kernel
theorem dX0_kindOf_5 : decode cX0_kindOf 5 = .ok (.iconst 0, 1) := by decide +kernel
theorem dX0_kindOf_6 : decode cX0_kindOf 6 = .ok (.invokestatic 61, 3) := by decide +kernel
theorem dX0_kindOf_9 : decode cX0_kindOf 9 = .ok (.ireturn, 1) := by decide +kernel
theorem dX0_writerOf_0 : decode cX0_writerOf 0 = .ok (.aload_n 0, 1) := by decide +kernel
theorem dX0_writerOf_1 : decode cX0_writerOf 1 = .ok (.getfield 32, 3) := by decide +kernel
theorem dX0_writerOf_4 : decode cX0_writerOf 4 = .ok (.iload_n 1, 1) := by decide +kernel
theorem dX0_writerOf_5 : decode cX0_writerOf 5 = .ok (.iconst (-1), 1) := by decide +kernel
theorem dX0_writerOf_6 : decode cX0_writerOf 6 = .ok (.invokestatic 61, 3) := by decide +kernel
theorem dX0_writerOf_9 : decode cX0_writerOf 9 = .ok (.ireturn, 1) := by decide +kernel
theorem dX0_dataVersionOf_0 : decode cX0_dataVersionOf 0 = .ok (.aload_n 0, 1) := by decide +kernel
theorem dX0_dataVersionOf_1 : decode cX0_dataVersionOf 1 = .ok (.getfield 35, 3) := by decide +kernel
theorem dX0_dataVersionOf_4 : decode cX0_dataVersionOf 4 = .ok (.iload_n 1, 1) := by decide +kernel
theorem dX0_dataVersionOf_5 : decode cX0_dataVersionOf 5 = .ok (.iconst (-1), 1) := by decide +kernel
theorem dX0_dataVersionOf_6 : decode cX0_dataVersionOf 6 = .ok (.invokestatic 61, 3) := by decide +kernel
theorem dX0_dataVersionOf_9 : decode cX0_dataVersionOf 9 = .ok (.ireturn, 1) := by decide +kernel
theorem dX0_placeOf_0 : decode cX0_placeOf 0 = .ok (.aload_n 0, 1) := by decide +kernel
theorem dX0_placeOf_1 : decode cX0_placeOf 1 = .ok (.getfield 44, 3) := by decide +kernel
theorem dX0_placeOf_4 : decode cX0_placeOf 4 = .ok (.iload_n 1, 1) := by decide +kernel
theorem dX0_placeOf_5 : decode cX0_placeOf 5 = .ok (.iconst (-1), 1) := by decide +kernel
theorem dX0_placeOf_6 : decode cX0_placeOf 6 = .ok (.invokestatic 61, 3) := by decide +kernel
theorem dX0_placeOf_9 : decode cX0_placeOf 9 = .ok (.ireturn, 1) := by decide +kernel
theorem dX0_isBad_0 : decode cX0_isBad 0 = .ok (.aload_n 0, 1) := by decide +kernel
theorem dX0_isBad_1 : decode cX0_isBad 1 = .ok (.getfield 25, 3) := by decide +kernel
theorem dX0_isBad_4 : decode cX0_isBad 4 = .ok (.iload_n 1, 1) := by decide +kernel
theorem dX0_isBad_5 : decode cX0_isBad 5 = .ok (.invokestatic 65, 3) := by decide +kernel
theorem dX0_isBad_8 : decode cX0_isBad 8 = .ok (.ireturn, 1) := by decide +kernel
theorem dX0_isUnreadable_0 : decode cX0_isUnreadable 0 = .ok (.aload_n 0, 1) := by decide +kernel
theorem dX0_isUnreadable_1 : decode cX0_isUnreadable 1 = .ok (.getfield 29, 3) := by decide +kernel
theorem dX0_isUnreadable_4 : decode cX0_isUnreadable 4 = .ok (.iload_n 1, 1) := by decide +kernel
theorem dX0_isUnreadable_5 : decode cX0_isUnreadable 5 = .ok (.invokestatic 65, 3) := by decide +kernel
theorem dX0_isUnreadable_8 : decode cX0_isUnreadable 8 = .ok (.ireturn, 1) := by decide +kernel
theorem dX0_property_0 : decode cX0_property 0 = .ok (.iload_n 2, 1) := by decide +kernel
theorem dX0_property_1 : decode cX0_property 1 = .ok (.tableswitch 85 0 5 #[39, 45, 54, 63, 69, 75], 39) := by decide +kernel
theorem dX0_property_40 : decode cX0_property 40 = .ok (.aload_n 0, 1) := by decide +kernel
theorem dX0_property_41 : decode cX0_property 41 = .ok (.iload_n 1, 1) := by decide +kernel
theorem dX0_property_42 : decode cX0_property 42 = .ok (.invokevirtual 69, 3) := by decide +kernel
theorem dX0_property_45 : decode cX0_property 45 = .ok (.ireturn, 1) := by decide +kernel
theorem dX0_property_46 : decode cX0_property 46 = .ok (.aload_n 0, 1) := by decide +kernel
theorem dX0_property_47 : decode cX0_property 47 = .ok (.iload_n 1, 1) := by decide +kernel
theorem dX0_property_48 : decode cX0_property 48 = .ok (.invokevirtual 73, 3) := by decide +kernel
theorem dX0_property_51 : decode cX0_property 51 = .ok (.invokestatic 77, 3) := by decide +kernel
theorem dX0_property_54 : decode cX0_property 54 = .ok (.ireturn, 1) := by decide +kernel
theorem dX0_property_55 : decode cX0_property 55 = .ok (.aload_n 0, 1) := by decide +kernel
theorem dX0_property_56 : decode cX0_property 56 = .ok (.iload_n 1, 1) := by decide +kernel
theorem dX0_property_57 : decode cX0_property 57 = .ok (.invokevirtual 81, 3) := by decide +kernel
theorem dX0_property_60 : decode cX0_property 60 = .ok (.invokestatic 77, 3) := by decide +kernel
theorem dX0_property_63 : decode cX0_property 63 = .ok (.ireturn, 1) := by decide +kernel
theorem dX0_property_64 : decode cX0_property 64 = .ok (.aload_n 0, 1) := by decide +kernel
theorem dX0_property_65 : decode cX0_property 65 = .ok (.iload_n 1, 1) := by decide +kernel
theorem dX0_property_66 : decode cX0_property 66 = .ok (.invokevirtual 84, 3) := by decide +kernel
theorem dX0_property_69 : decode cX0_property 69 = .ok (.ireturn, 1) := by decide +kernel
theorem dX0_property_70 : decode cX0_property 70 = .ok (.aload_n 0, 1) := by decide +kernel
theorem dX0_property_71 : decode cX0_property 71 = .ok (.iload_n 1, 1) := by decide +kernel
theorem dX0_property_72 : decode cX0_property 72 = .ok (.invokevirtual 87, 3) := by decide +kernel
theorem dX0_property_75 : decode cX0_property 75 = .ok (.ireturn, 1) := by decide +kernel
theorem dX0_property_76 : decode cX0_property 76 = .ok (.aload_n 0, 1) := by decide +kernel
theorem dX0_property_77 : decode cX0_property 77 = .ok (.getfield 38, 3) := by decide +kernel
theorem dX0_property_80 : decode cX0_property 80 = .ok (.iload_n 1, 1) := by decide +kernel
theorem dX0_property_81 : decode cX0_property 81 = .ok (.iconst (-1), 1) := by decide +kernel
theorem dX0_property_82 : decode cX0_property 82 = .ok (.invokestatic 61, 3) := by decide +kernel
theorem dX0_property_85 : decode cX0_property 85 = .ok (.ireturn, 1) := by decide +kernel
theorem dX0_property_86 : decode cX0_property 86 = .ok (.aload_n 0, 1) := by decide +kernel
theorem dX0_property_87 : decode cX0_property 87 = .ok (.getfield 41, 3) := by decide +kernel
theorem dX0_property_90 : decode cX0_property 90 = .ok (.iload_n 1, 1) := by decide +kernel
theorem dX0_property_91 : decode cX0_property 91 = .ok (.iconst (-1), 1) := by decide +kernel
theorem dX0_property_92 : decode cX0_property 92 = .ok (.invokestatic 61, 3) := by decide +kernel
theorem dX0_property_95 : decode cX0_property 95 = .ok (.ireturn, 1) := by decide +kernel
theorem dX0_emptySpares_0 : decode cX0_emptySpares 0 = .ok (.iconst 0, 1) := by decide +kernel
theorem dX0_emptySpares_1 : decode cX0_emptySpares 1 = .ok (.istore_n 1, 1) := by decide +kernel
theorem dX0_emptySpares_2 : decode cX0_emptySpares 2 = .ok (.aload_n 0, 1) := by decide +kernel
theorem dX0_emptySpares_3 : decode cX0_emptySpares 3 = .ok (.getfield 15, 3) := by decide +kernel
theorem dX0_emptySpares_6 : decode cX0_emptySpares 6 = .ok (.istore_n 2, 1) := by decide +kernel
theorem dX0_emptySpares_7 : decode cX0_emptySpares 7 = .ok (.iload_n 2, 1) := by decide +kernel
theorem dX0_emptySpares_8 : decode cX0_emptySpares 8 = .ok (.aload_n 0, 1) := by decide +kernel
theorem dX0_emptySpares_9 : decode cX0_emptySpares 9 = .ok (.getfield 9, 3) := by decide +kernel
theorem dX0_emptySpares_12 : decode cX0_emptySpares 12 = .ok (.if_icmp .ge 28, 3) := by decide +kernel
theorem dX0_emptySpares_15 : decode cX0_emptySpares 15 = .ok (.iload_n 1, 1) := by decide +kernel
theorem dX0_emptySpares_16 : decode cX0_emptySpares 16 = .ok (.aload_n 0, 1) := by decide +kernel
theorem dX0_emptySpares_17 : decode cX0_emptySpares 17 = .ok (.iload_n 2, 1) := by decide +kernel
theorem dX0_emptySpares_18 : decode cX0_emptySpares 18 = .ok (.invokevirtual 69, 3) := by decide +kernel
theorem dX0_emptySpares_21 : decode cX0_emptySpares 21 = .ok (.ifCond .ne 7, 3) := by decide +kernel
theorem dX0_emptySpares_24 : decode cX0_emptySpares 24 = .ok (.iconst 1, 1) := by decide +kernel
theorem dX0_emptySpares_25 : decode cX0_emptySpares 25 = .ok (.goto 4, 3) := by decide +kernel
theorem dX0_emptySpares_28 : decode cX0_emptySpares 28 = .ok (.iconst 0, 1) := by decide +kernel
theorem dX0_emptySpares_29 : decode cX0_emptySpares 29 = .ok (.invokestatic 77, 3) := by decide +kernel
theorem dX0_emptySpares_32 : decode cX0_emptySpares 32 = .ok (.iadd, 1) := by decide +kernel
theorem dX0_emptySpares_33 : decode cX0_emptySpares 33 = .ok (.istore_n 1, 1) := by decide +kernel
theorem dX0_emptySpares_34 : decode cX0_emptySpares 34 = .ok (.iinc 2 1, 3) := by decide +kernel
theorem dX0_emptySpares_37 : decode cX0_emptySpares 37 = .ok (.goto (-30), 3) := by decide +kernel
theorem dX0_emptySpares_40 : decode cX0_emptySpares 40 = .ok (.iload_n 1, 1) := by decide +kernel
theorem dX0_emptySpares_41 : decode cX0_emptySpares 41 = .ok (.ireturn, 1) := by decide +kernel
theorem dX0_badOnes_0 : decode cX0_badOnes 0 = .ok (.iconst 0, 1) := by decide +kernel
theorem dX0_badOnes_1 : decode cX0_badOnes 1 = .ok (.istore_n 1, 1) := by decide +kernel
theorem dX0_badOnes_2 : decode cX0_badOnes 2 = .ok (.iconst 0, 1) := by decide +kernel
theorem dX0_badOnes_3 : decode cX0_badOnes 3 = .ok (.istore_n 2, 1) := by decide +kernel
theorem dX0_badOnes_4 : decode cX0_badOnes 4 = .ok (.iload_n 2, 1) := by decide +kernel
theorem dX0_badOnes_5 : decode cX0_badOnes 5 = .ok (.aload_n 0, 1) := by decide +kernel
theorem dX0_badOnes_6 : decode cX0_badOnes 6 = .ok (.getfield 9, 3) := by decide +kernel
theorem dX0_badOnes_9 : decode cX0_badOnes 9 = .ok (.if_icmp .ge 20, 3) := by decide +kernel
theorem dX0_badOnes_12 : decode cX0_badOnes 12 = .ok (.iload_n 1, 1) := by decide +kernel
theorem dX0_badOnes_13 : decode cX0_badOnes 13 = .ok (.aload_n 0, 1) := by decide +kernel
theorem dX0_badOnes_14 : decode cX0_badOnes 14 = .ok (.iload_n 2, 1) := by decide +kernel
theorem dX0_badOnes_15 : decode cX0_badOnes 15 = .ok (.invokevirtual 73, 3) := by decide +kernel
theorem dX0_badOnes_18 : decode cX0_badOnes 18 = .ok (.invokestatic 77, 3) := by decide +kernel
theorem dX0_badOnes_21 : decode cX0_badOnes 21 = .ok (.iadd, 1) := by decide +kernel
theorem dX0_badOnes_22 : decode cX0_badOnes 22 = .ok (.istore_n 1, 1) := by decide +kernel
theorem dX0_badOnes_23 : decode cX0_badOnes 23 = .ok (.iinc 2 1, 3) := by decide +kernel
theorem dX0_badOnes_26 : decode cX0_badOnes 26 = .ok (.goto (-22), 3) := by decide +kernel
theorem dX0_badOnes_29 : decode cX0_badOnes 29 = .ok (.iload_n 1, 1) := by decide +kernel
theorem dX0_badOnes_30 : decode cX0_badOnes 30 = .ok (.ireturn, 1) := by decide +kernel
theorem dX0_mainBlocksOf_0 : decode cX0_mainBlocksOf 0 = .ok (.aload_n 0, 1) := by decide +kernel
theorem dX0_mainBlocksOf_1 : decode cX0_mainBlocksOf 1 = .ok (.iload_n 1, 1) := by decide +kernel
theorem dX0_mainBlocksOf_2 : decode cX0_mainBlocksOf 2 = .ok (.iconst 0, 1) := by decide +kernel
theorem dX0_mainBlocksOf_3 : decode cX0_mainBlocksOf 3 = .ok (.aload_n 0, 1) := by decide +kernel
theorem dX0_mainBlocksOf_4 : decode cX0_mainBlocksOf 4 = .ok (.getfield 15, 3) := by decide +kernel
theorem dX0_mainBlocksOf_7 : decode cX0_mainBlocksOf 7 = .ok (.invokevirtual 90, 3) := by decide +kernel
theorem dX0_mainBlocksOf_10 : decode cX0_mainBlocksOf 10 = .ok (.ireturn, 1) := by decide +kernel
theorem dX0_spareBlocksOf_0 : decode cX0_spareBlocksOf 0 = .ok (.aload_n 0, 1) := by decide +kernel
theorem dX0_spareBlocksOf_1 : decode cX0_spareBlocksOf 1 = .ok (.iload_n 1, 1) := by decide +kernel
theorem dX0_spareBlocksOf_2 : decode cX0_spareBlocksOf 2 = .ok (.aload_n 0, 1) := by decide +kernel
theorem dX0_spareBlocksOf_3 : decode cX0_spareBlocksOf 3 = .ok (.getfield 15, 3) := by decide +kernel
theorem dX0_spareBlocksOf_6 : decode cX0_spareBlocksOf 6 = .ok (.aload_n 0, 1) := by decide +kernel
theorem dX0_spareBlocksOf_7 : decode cX0_spareBlocksOf 7 = .ok (.getfield 9, 3) := by decide +kernel
theorem dX0_spareBlocksOf_10 : decode cX0_spareBlocksOf 10 = .ok (.invokevirtual 90, 3) := by decide +kernel
theorem dX0_spareBlocksOf_13 : decode cX0_spareBlocksOf 13 = .ok (.ireturn, 1) := by decide +kernel
theorem dX0_blocksOf_0 : decode cX0_blocksOf 0 = .ok (.iconst 0, 1) := by decide +kernel
theorem dX0_blocksOf_1 : decode cX0_blocksOf 1 = .ok (.istore 4, 2) := by decide +kernel
theorem dX0_blocksOf_3 : decode cX0_blocksOf 3 = .ok (.iload_n 2, 1) := by decide +kernel
theorem dX0_blocksOf_4 : decode cX0_blocksOf 4 = .ok (.istore 5, 2) := by decide +kernel
theorem dX0_blocksOf_6 : decode cX0_blocksOf 6 = .ok (.iload 5, 2) := by decide +kernel
theorem dX0_blocksOf_8 : decode cX0_blocksOf 8 = .ok (.iload_n 3, 1) := by decide +kernel
theorem dX0_blocksOf_9 : decode cX0_blocksOf 9 = .ok (.if_icmp .ge 32, 3) := by decide +kernel
theorem dX0_blocksOf_12 : decode cX0_blocksOf 12 = .ok (.iload 4, 2) := by decide +kernel
theorem dX0_blocksOf_14 : decode cX0_blocksOf 14 = .ok (.aload_n 0, 1) := by decide +kernel
theorem dX0_blocksOf_15 : decode cX0_blocksOf 15 = .ok (.iload 5, 2) := by decide +kernel
theorem dX0_blocksOf_17 : decode cX0_blocksOf 17 = .ok (.invokevirtual 84, 3) := by decide +kernel
theorem dX0_blocksOf_20 : decode cX0_blocksOf 20 = .ok (.iload_n 1, 1) := by decide +kernel
theorem dX0_blocksOf_21 : decode cX0_blocksOf 21 = .ok (.if_icmp .ne 7, 3) := by decide +kernel
theorem dX0_blocksOf_24 : decode cX0_blocksOf 24 = .ok (.iconst 1, 1) := by decide +kernel
theorem dX0_blocksOf_25 : decode cX0_blocksOf 25 = .ok (.goto 4, 3) := by decide +kernel
theorem dX0_blocksOf_28 : decode cX0_blocksOf 28 = .ok (.iconst 0, 1) := by decide +kernel
theorem dX0_blocksOf_29 : decode cX0_blocksOf 29 = .ok (.invokestatic 77, 3) := by decide +kernel
theorem dX0_blocksOf_32 : decode cX0_blocksOf 32 = .ok (.iadd, 1) := by decide +kernel
theorem dX0_blocksOf_33 : decode cX0_blocksOf 33 = .ok (.istore 4, 2) := by decide +kernel
theorem dX0_blocksOf_35 : decode cX0_blocksOf 35 = .ok (.iinc 5 1, 3) := by decide +kernel
theorem dX0_blocksOf_38 : decode cX0_blocksOf 38 = .ok (.goto (-32), 3) := by decide +kernel
theorem dX0_blocksOf_41 : decode cX0_blocksOf 41 = .ok (.iload 4, 2) := by decide +kernel
theorem dX0_blocksOf_43 : decode cX0_blocksOf 43 = .ok (.ireturn, 1) := by decide +kernel
theorem dX0_hasRoomFor_0 : decode cX0_hasRoomFor 0 = .ok (.aload_n 0, 1) := by decide +kernel
theorem dX0_hasRoomFor_1 : decode cX0_hasRoomFor 1 = .ok (.getfield 18, 3) := by decide +kernel
theorem dX0_hasRoomFor_4 : decode cX0_hasRoomFor 4 = .ok (.iload_n 1, 1) := by decide +kernel
theorem dX0_hasRoomFor_5 : decode cX0_hasRoomFor 5 = .ok (.iadd, 1) := by decide +kernel
theorem dX0_hasRoomFor_6 : decode cX0_hasRoomFor 6 = .ok (.aload_n 0, 1) := by decide +kernel
theorem dX0_hasRoomFor_7 : decode cX0_hasRoomFor 7 = .ok (.getfield 15, 3) := by decide +kernel
theorem dX0_hasRoomFor_10 : decode cX0_hasRoomFor 10 = .ok (.if_icmp .gt 7, 3) := by decide +kernel
theorem dX0_hasRoomFor_13 : decode cX0_hasRoomFor 13 = .ok (.iconst 1, 1) := by decide +kernel
theorem dX0_hasRoomFor_14 : decode cX0_hasRoomFor 14 = .ok (.goto 4, 3) := by decide +kernel
theorem dX0_hasRoomFor_17 : decode cX0_hasRoomFor 17 = .ok (.iconst 0, 1) := by decide +kernel
theorem dX0_hasRoomFor_18 : decode cX0_hasRoomFor 18 = .ok (.ireturn, 1) := by decide +kernel
theorem dX0_canRelocate_0 : decode cX0_canRelocate 0 = .ok (.iconst 0, 1) := by decide +kernel
theorem dX0_canRelocate_1 : decode cX0_canRelocate 1 = .ok (.istore_n 2, 1) := by decide +kernel
theorem dX0_canRelocate_2 : decode cX0_canRelocate 2 = .ok (.aload_n 0, 1) := by decide +kernel
theorem dX0_canRelocate_3 : decode cX0_canRelocate 3 = .ok (.getfield 18, 3) := by decide +kernel
theorem dX0_canRelocate_6 : decode cX0_canRelocate 6 = .ok (.istore_n 3, 1) := by decide +kernel
theorem dX0_canRelocate_7 : decode cX0_canRelocate 7 = .ok (.iload_n 3, 1) := by decide +kernel
theorem dX0_canRelocate_8 : decode cX0_canRelocate 8 = .ok (.aload_n 0, 1) := by decide +kernel
theorem dX0_canRelocate_9 : decode cX0_canRelocate 9 = .ok (.getfield 18, 3) := by decide +kernel
theorem dX0_canRelocate_12 : decode cX0_canRelocate 12 = .ok (.iload_n 1, 1) := by decide +kernel
theorem dX0_canRelocate_13 : decode cX0_canRelocate 13 = .ok (.iadd, 1) := by decide +kernel
theorem dX0_canRelocate_14 : decode cX0_canRelocate 14 = .ok (.if_icmp .ge 28, 3) := by decide +kernel
theorem dX0_canRelocate_17 : decode cX0_canRelocate 17 = .ok (.iload_n 3, 1) := by decide +kernel
theorem dX0_canRelocate_18 : decode cX0_canRelocate 18 = .ok (.aload_n 0, 1) := by decide +kernel
theorem dX0_canRelocate_19 : decode cX0_canRelocate 19 = .ok (.getfield 15, 3) := by decide +kernel
theorem dX0_canRelocate_22 : decode cX0_canRelocate 22 = .ok (.if_icmp .ge 20, 3) := by decide +kernel
theorem dX0_canRelocate_25 : decode cX0_canRelocate 25 = .ok (.iload_n 2, 1) := by decide +kernel
theorem dX0_canRelocate_26 : decode cX0_canRelocate 26 = .ok (.aload_n 0, 1) := by decide +kernel
theorem dX0_canRelocate_27 : decode cX0_canRelocate 27 = .ok (.iload_n 3, 1) := by decide +kernel
theorem dX0_canRelocate_28 : decode cX0_canRelocate 28 = .ok (.invokevirtual 73, 3) := by decide +kernel
theorem dX0_canRelocate_31 : decode cX0_canRelocate 31 = .ok (.invokestatic 77, 3) := by decide +kernel
theorem dX0_canRelocate_34 : decode cX0_canRelocate 34 = .ok (.iadd, 1) := by decide +kernel
theorem dX0_canRelocate_35 : decode cX0_canRelocate 35 = .ok (.istore_n 2, 1) := by decide +kernel
theorem dX0_canRelocate_36 : decode cX0_canRelocate 36 = .ok (.iinc 3 1, 3) := by decide +kernel
theorem dX0_canRelocate_39 : decode cX0_canRelocate 39 = .ok (.goto (-32), 3) := by decide +kernel
theorem dX0_canRelocate_42 : decode cX0_canRelocate 42 = .ok (.iconst 0, 1) := by decide +kernel
theorem dX0_canRelocate_43 : decode cX0_canRelocate 43 = .ok (.istore_n 3, 1) := by decide +kernel
theorem dX0_canRelocate_44 : decode cX0_canRelocate 44 = .ok (.aload_n 0, 1) := by decide +kernel
theorem dX0_canRelocate_45 : decode cX0_canRelocate 45 = .ok (.getfield 15, 3) := by decide +kernel
theorem dX0_canRelocate_48 : decode cX0_canRelocate 48 = .ok (.istore 4, 2) := by decide +kernel
theorem dX0_canRelocate_50 : decode cX0_canRelocate 50 = .ok (.iload 4, 2) := by decide +kernel
theorem dX0_canRelocate_52 : decode cX0_canRelocate 52 = .ok (.aload_n 0, 1) := by decide +kernel
theorem dX0_canRelocate_53 : decode cX0_canRelocate 53 = .ok (.getfield 9, 3) := by decide +kernel
theorem dX0_canRelocate_56 : decode cX0_canRelocate 56 = .ok (.if_icmp .ge 38, 3) := by decide +kernel
theorem dX0_canRelocate_59 : decode cX0_canRelocate 59 = .ok (.iload_n 3, 1) := by decide +kernel
theorem dX0_canRelocate_60 : decode cX0_canRelocate 60 = .ok (.aload_n 0, 1) := by decide +kernel
