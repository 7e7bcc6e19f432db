theorem dX8_reads_26 : decode cX8_reads 26 = .ok (.iload_n 3, 1) := by decide +kernel
theorem dX8_reads_27 : decode cX8_reads 27 = .ok (.ifCond .eq 454, 3) := by decide +kernel
theorem dX8_reads_30 : decode cX8_reads 30 = .ok (.aload_n 0, 1) := by decide +kernel
theorem dX8_reads_31 : decode cX8_reads 31 = .ok (.getfield 143, 3) := by decide +kernel
theorem dX8_reads_34 : decode cX8_reads 34 = .ok (.iconst (-1), 1) := by decide +kernel
theorem dX8_reads_35 : decode cX8_reads 35 = .ok (.if_icmp .ne 446, 3) := by decide +kernel
theorem dX8_reads_38 : decode cX8_reads 38 = .ok (.aload_n 0, 1) := by decide +kernel
theorem dX8_reads_39 : decode cX8_reads 39 = .ok (.invokevirtual 148, 3) := by decide +kernel
theorem dX8_reads_42 : decode cX8_reads 42 = .ok (.istore 4, 2) := by decide +kernel
theorem dX8_reads_44 : decode cX8_reads 44 = .ok (.iload_n 2, 1) := by decide +kernel
theorem dX8_reads_45 : decode cX8_reads 45 = .ok (.ifCond .eq 202, 3) := by decide +kernel
theorem dX8_reads_48 : decode cX8_reads 48 = .ok (.iload 4, 2) := by decide +kernel
theorem dX8_reads_50 : decode cX8_reads 50 = .ok (.invokestatic 140, 3) := by decide +kernel
theorem dX8_reads_53 : decode cX8_reads 53 = .ok (.ifCond .eq 16, 3) := by decide +kernel
theorem dX8_reads_56 : decode cX8_reads 56 = .ok (.aload_n 0, 1) := by decide +kernel
theorem dX8_reads_57 : decode cX8_reads 57 = .ok (.aload_n 0, 1) := by decide +kernel
theorem dX8_reads_58 : decode cX8_reads 58 = .ok (.invokevirtual 151, 3) := by decide +kernel
theorem dX8_reads_61 : decode cX8_reads 61 = .ok (.invokevirtual 155, 3) := by decide +kernel
theorem dX8_reads_64 : decode cX8_reads 64 = .ok (.iconst 0, 1) := by decide +kernel
theorem dX8_reads_65 : decode cX8_reads 65 = .ok (.istore_n 2, 1) := by decide +kernel
theorem dX8_reads_66 : decode cX8_reads 66 = .ok (.goto 412, 3) := by decide +kernel
theorem dX8_reads_69 : decode cX8_reads 69 = .ok (.iload 4, 2) := by decide +kernel
theorem dX8_reads_71 : decode cX8_reads 71 = .ok (.invokestatic 159, 3) := by decide +kernel
theorem dX8_reads_74 : decode cX8_reads 74 = .ok (.iconst (-1), 1) := by decide +kernel
theorem dX8_reads_75 : decode cX8_reads 75 = .ok (.if_icmp .eq 32, 3) := by decide +kernel
theorem dX8_reads_78 : decode cX8_reads 78 = .ok (.aload_n 0, 1) := by decide +kernel
theorem dX8_reads_79 : decode cX8_reads 79 = .ok (.dup, 1) := by decide +kernel
theorem dX8_reads_80 : decode cX8_reads 80 = .ok (.getfield 114, 3) := by decide +kernel
theorem dX8_reads_83 : decode cX8_reads 83 = .ok (.iconst 1, 1) := by decide +kernel
theorem dX8_reads_84 : decode cX8_reads 84 = .ok (.iadd, 1) := by decide +kernel
theorem dX8_reads_85 : decode cX8_reads 85 = .ok (.putfield 114, 3) := by decide +kernel
theorem dX8_reads_88 : decode cX8_reads 88 = .ok (.aload_n 0, 1) := by decide +kernel
theorem dX8_reads_89 : decode cX8_reads 89 = .ok (.aload_n 0, 1) := by decide +kernel
theorem dX8_reads_90 : decode cX8_reads 90 = .ok (.getfield 34, 3) := by decide +kernel
theorem dX8_reads_93 : decode cX8_reads 93 = .ok (.iload 4, 2) := by decide +kernel
theorem dX8_reads_95 : decode cX8_reads 95 = .ok (.invokestatic 159, 3) := by decide +kernel
theorem dX8_reads_98 : decode cX8_reads 98 = .ok (.laload, 1) := by decide +kernel
theorem dX8_reads_99 : decode cX8_reads 99 = .ok (.invokevirtual 155, 3) := by decide +kernel
theorem dX8_reads_102 : decode cX8_reads 102 = .ok (.iconst 0, 1) := by decide +kernel
theorem dX8_reads_103 : decode cX8_reads 103 = .ok (.istore_n 2, 1) := by decide +kernel
theorem dX8_reads_104 : decode cX8_reads 104 = .ok (.goto 374, 3) := by decide +kernel
theorem dX8_reads_107 : decode cX8_reads 107 = .ok (.iload 4, 2) := by decide +kernel
theorem dX8_reads_109 : decode cX8_reads 109 = .ok (.bipush 33, 2) := by decide +kernel
theorem dX8_reads_111 : decode cX8_reads 111 = .ok (.if_icmp .eq 10, 3) := by decide +kernel
theorem dX8_reads_114 : decode cX8_reads 114 = .ok (.iload 4, 2) := by decide +kernel
theorem dX8_reads_116 : decode cX8_reads 116 = .ok (.bipush 45, 2) := by decide +kernel
theorem dX8_reads_118 : decode cX8_reads 118 = .ok (.if_icmp .ne 51, 3) := by decide +kernel
theorem dX8_reads_121 : decode cX8_reads 121 = .ok (.aload_n 0, 1) := by decide +kernel
theorem dX8_reads_122 : decode cX8_reads 122 = .ok (.dup, 1) := by decide +kernel
theorem dX8_reads_123 : decode cX8_reads 123 = .ok (.getfield 114, 3) := by decide +kernel
theorem dX8_reads_126 : decode cX8_reads 126 = .ok (.iconst 1, 1) := by decide +kernel
theorem dX8_reads_127 : decode cX8_reads 127 = .ok (.iadd, 1) := by decide +kernel
theorem dX8_reads_128 : decode cX8_reads 128 = .ok (.putfield 114, 3) := by decide +kernel
theorem dX8_reads_131 : decode cX8_reads 131 = .ok (.aload_n 0, 1) := by decide +kernel
theorem dX8_reads_132 : decode cX8_reads 132 = .ok (.getfield 31, 3) := by decide +kernel
theorem dX8_reads_135 : decode cX8_reads 135 = .ok (.aload_n 0, 1) := by decide +kernel
theorem dX8_reads_136 : decode cX8_reads 136 = .ok (.getfield 124, 3) := by decide +kernel
theorem dX8_reads_139 : decode cX8_reads 139 = .ok (.iload 4, 2) := by decide +kernel
theorem dX8_reads_141 : decode cX8_reads 141 = .ok (.bipush 33, 2) := by decide +kernel
theorem dX8_reads_143 : decode cX8_reads 143 = .ok (.if_icmp .ne 9, 3) := by decide +kernel
theorem dX8_reads_146 : decode cX8_reads 146 = .ok (.sipush 1001, 3) := by decide +kernel
theorem dX8_reads_149 : decode cX8_reads 149 = .ok (.goto 6, 3) := by decide +kernel
theorem dX8_reads_152 : decode cX8_reads 152 = .ok (.sipush 1002, 3) := by decide +kernel
theorem dX8_reads_155 : decode cX8_reads 155 = .ok (.iastore, 1) := by decide +kernel
theorem dX8_reads_156 : decode cX8_reads 156 = .ok (.aload_n 0, 1) := by decide +kernel
theorem dX8_reads_157 : decode cX8_reads 157 = .ok (.dup, 1) := by decide +kernel
theorem dX8_reads_158 : decode cX8_reads 158 = .ok (.getfield 124, 3) := by decide +kernel
theorem dX8_reads_161 : decode cX8_reads 161 = .ok (.iconst 1, 1) := by decide +kernel
theorem dX8_reads_162 : decode cX8_reads 162 = .ok (.iadd, 1) := by decide +kernel
theorem dX8_reads_163 : decode cX8_reads 163 = .ok (.putfield 124, 3) := by decide +kernel
theorem dX8_reads_166 : decode cX8_reads 166 = .ok (.goto 312, 3) := by decide +kernel
theorem dX8_reads_169 : decode cX8_reads 169 = .ok (.iload 4, 2) := by decide +kernel
theorem dX8_reads_171 : decode cX8_reads 171 = .ok (.bipush 40, 2) := by decide +kernel
theorem dX8_reads_173 : decode cX8_reads 173 = .ok (.if_icmp .ne 47, 3) := by decide +kernel
theorem dX8_reads_176 : decode cX8_reads 176 = .ok (.iload_n 1, 1) := by decide +kernel
theorem dX8_reads_177 : decode cX8_reads 177 = .ok (.bipush 8, 2) := by decide +kernel
theorem dX8_reads_179 : decode cX8_reads 179 = .ok (.if_icmp .ge 41, 3) := by decide +kernel
theorem dX8_reads_182 : decode cX8_reads 182 = .ok (.aload_n 0, 1) := by decide +kernel
theorem dX8_reads_183 : decode cX8_reads 183 = .ok (.dup, 1) := by decide +kernel
theorem dX8_reads_184 : decode cX8_reads 184 = .ok (.getfield 114, 3) := by decide +kernel
theorem dX8_reads_187 : decode cX8_reads 187 = .ok (.iconst 1, 1) := by decide +kernel
theorem dX8_reads_188 : decode cX8_reads 188 = .ok (.iadd, 1) := by decide +kernel
theorem dX8_reads_189 : decode cX8_reads 189 = .ok (.putfield 114, 3) := by decide +kernel
theorem dX8_reads_192 : decode cX8_reads 192 = .ok (.iinc 1 1, 3) := by decide +kernel
theorem dX8_reads_195 : decode cX8_reads 195 = .ok (.aload_n 0, 1) := by decide +kernel
theorem dX8_reads_196 : decode cX8_reads 196 = .ok (.getfield 31, 3) := by decide +kernel
theorem dX8_reads_199 : decode cX8_reads 199 = .ok (.aload_n 0, 1) := by decide +kernel
theorem dX8_reads_200 : decode cX8_reads 200 = .ok (.getfield 124, 3) := by decide +kernel
theorem dX8_reads_203 : decode cX8_reads 203 = .ok (.sipush 1000, 3) := by decide +kernel
theorem dX8_reads_206 : decode cX8_reads 206 = .ok (.iastore, 1) := by decide +kernel
theorem dX8_reads_207 : decode cX8_reads 207 = .ok (.aload_n 0, 1) := by decide +kernel
theorem dX8_reads_208 : decode cX8_reads 208 = .ok (.dup, 1) := by decide +kernel
theorem dX8_reads_209 : decode cX8_reads 209 = .ok (.getfield 124, 3) := by decide +kernel
theorem dX8_reads_212 : decode cX8_reads 212 = .ok (.iconst 1, 1) := by decide +kernel
theorem dX8_reads_213 : decode cX8_reads 213 = .ok (.iadd, 1) := by decide +kernel
theorem dX8_reads_214 : decode cX8_reads 214 = .ok (.putfield 124, 3) := by decide +kernel
theorem dX8_reads_217 : decode cX8_reads 217 = .ok (.goto 261, 3) := by decide +kernel
theorem dX8_reads_220 : decode cX8_reads 220 = .ok (.aload_n 0, 1) := by decide +kernel
theorem dX8_reads_221 : decode cX8_reads 221 = .ok (.bipush 10, 2) := by decide +kernel
theorem dX8_reads_223 : decode cX8_reads 223 = .ok (.aload_n 0, 1) := by decide +kernel
theorem dX8_reads_224 : decode cX8_reads 224 = .ok (.getfield 114, 3) := by decide +kernel
theorem dX8_reads_227 : decode cX8_reads 227 = .ok (.imul, 1) := by decide +kernel
theorem dX8_reads_228 : decode cX8_reads 228 = .ok (.iload 4, 2) := by decide +kernel
theorem dX8_reads_230 : decode cX8_reads 230 = .ok (.bipush 40, 2) := by decide +kernel
theorem dX8_reads_232 : decode cX8_reads 232 = .ok (.if_icmp .ne 7, 3) := by decide +kernel
theorem dX8_reads_235 : decode cX8_reads 235 = .ok (.iconst 3, 1) := by decide +kernel
theorem dX8_reads_236 : decode cX8_reads 236 = .ok (.goto 4, 3) := by decide +kernel
theorem dX8_reads_239 : decode cX8_reads 239 = .ok (.iconst 1, 1) := by decide +kernel
theorem dX8_reads_240 : decode cX8_reads 240 = .ok (.iadd, 1) := by decide +kernel
theorem dX8_reads_241 : decode cX8_reads 241 = .ok (.putfield 143, 3) := by decide +kernel
theorem dX8_reads_244 : decode cX8_reads 244 = .ok (.goto 234, 3) := by decide +kernel
theorem dX8_reads_247 : decode cX8_reads 247 = .ok (.iload 4, 2) := by decide +kernel
theorem dX8_reads_249 : decode cX8_reads 249 = .ok (.bipush 41, 2) := by decide +kernel
theorem dX8_reads_251 : decode cX8_reads 251 = .ok (.if_icmp .ne 61, 3) := by decide +kernel
theorem dX8_reads_254 : decode cX8_reads 254 = .ok (.iload_n 1, 1) := by decide +kernel
theorem dX8_reads_255 : decode cX8_reads 255 = .ok (.ifCond .le 57, 3) := by decide +kernel
theorem dX8_reads_258 : decode cX8_reads 258 = .ok (.aload_n 0, 1) := by decide +kernel
theorem dX8_reads_259 : decode cX8_reads 259 = .ok (.dup, 1) := by decide +kernel
theorem dX8_reads_260 : decode cX8_reads 260 = .ok (.getfield 114, 3) := by decide +kernel
theorem dX8_reads_263 : decode cX8_reads 263 = .ok (.iconst 1, 1) := by decide +kernel
theorem dX8_reads_264 : decode cX8_reads 264 = .ok (.iadd, 1) := by decide +kernel
theorem dX8_reads_265 : decode cX8_reads 265 = .ok (.putfield 114, 3) := by decide +kernel
theorem dX8_reads_268 : decode cX8_reads 268 = .ok (.iinc 1 (-1), 3) := by decide +kernel
theorem dX8_reads_271 : decode cX8_reads 271 = .ok (.aload_n 0, 1) := by decide +kernel
theorem dX8_reads_272 : decode cX8_reads 272 = .ok (.iconst 1, 1) := by decide +kernel
theorem dX8_reads_273 : decode cX8_reads 273 = .ok (.invokevirtual 162, 3) := by decide +kernel
theorem dX8_reads_276 : decode cX8_reads 276 = .ok (.aload_n 0, 1) := by decide +kernel
theorem dX8_reads_277 : decode cX8_reads 277 = .ok (.dup, 1) := by decide +kernel
theorem dX8_reads_278 : decode cX8_reads 278 = .ok (.getfield 124, 3) := by decide +kernel
theorem dX8_reads_281 : decode cX8_reads 281 = .ok (.iconst 1, 1) := by decide +kernel
theorem dX8_reads_282 : decode cX8_reads 282 = .ok (.isub, 1) := by decide +kernel
theorem dX8_reads_283 : decode cX8_reads 283 = .ok (.putfield 124, 3) := by decide +kernel
theorem dX8_reads_286 : decode cX8_reads 286 = .ok (.aload_n 0, 1) := by decide +kernel
theorem dX8_reads_287 : decode cX8_reads 287 = .ok (.dup, 1) := by decide +kernel
theorem dX8_reads_288 : decode cX8_reads 288 = .ok (.getfield 127, 3) := by decide +kernel
theorem dX8_reads_291 : decode cX8_reads 291 = .ok (.iconst 1, 1) := by decide +kernel
theorem dX8_reads_292 : decode cX8_reads 292 = .ok (.isub, 1) := by decide +kernel
theorem dX8_reads_293 : decode cX8_reads 293 = .ok (.putfield 127, 3) := by decide +kernel
theorem dX8_reads_296 : decode cX8_reads 296 = .ok (.aload_n 0, 1) := by decide +kernel
theorem dX8_reads_297 : decode cX8_reads 297 = .ok (.aload_n 0, 1) := by decide +kernel
theorem dX8_reads_298 : decode cX8_reads 298 = .ok (.getfield 27, 3) := by decide +kernel
theorem dX8_reads_301 : decode cX8_reads 301 = .ok (.aload_n 0, 1) := by decide +kernel
theorem dX8_reads_302 : decode cX8_reads 302 = .ok (.getfield 127, 3) := by decide +kernel
theorem dX8_reads_305 : decode cX8_reads 305 = .ok (.laload, 1) := by decide +kernel
theorem dX8_reads_306 : decode cX8_reads 306 = .ok (.invokevirtual 155, 3) := by decide +kernel
theorem dX8_reads_309 : decode cX8_reads 309 = .ok (.goto 169, 3) := by decide +kernel
theorem dX8_reads_312 : decode cX8_reads 312 = .ok (.iload 4, 2) := by decide +kernel
theorem dX8_reads_314 : decode cX8_reads 314 = .ok (.invokestatic 130, 3) := by decide +kernel
theorem dX8_reads_317 : decode cX8_reads 317 = .ok (.ifCond .le 128, 3) := by decide +kernel
theorem dX8_reads_320 : decode cX8_reads 320 = .ok (.aload_n 0, 1) := by decide +kernel
theorem dX8_reads_321 : decode cX8_reads 321 = .ok (.iload 4, 2) := by decide +kernel
theorem dX8_reads_323 : decode cX8_reads 323 = .ok (.invokestatic 130, 3) := by decide +kernel
theorem dX8_reads_326 : decode cX8_reads 326 = .ok (.iconst 3, 1) := by decide +kernel
theorem dX8_reads_327 : decode cX8_reads 327 = .ok (.if_icmp .ne 7, 3) := by decide +kernel
theorem dX8_reads_330 : decode cX8_reads 330 = .ok (.iconst 4, 1) := by decide +kernel
theorem dX8_reads_331 : decode cX8_reads 331 = .ok (.goto 8, 3) := by decide +kernel
theorem dX8_reads_334 : decode cX8_reads 334 = .ok (.iload 4, 2) := by decide +kernel
theorem dX8_reads_336 : decode cX8_reads 336 = .ok (.invokestatic 130, 3) := by decide +kernel
theorem dX8_reads_339 : decode cX8_reads 339 = .ok (.invokevirtual 162, 3) := by decide +kernel
theorem dX8_reads_342 : decode cX8_reads 342 = .ok (.iload 4, 2) := by decide +kernel
theorem dX8_reads_344 : decode cX8_reads 344 = .ok (.invokestatic 130, 3) := by decide +kernel
theorem dX8_reads_347 : decode cX8_reads 347 = .ok (.iconst 3, 1) := by decide +kernel
theorem dX8_reads_348 : decode cX8_reads 348 = .ok (.if_icmp .ne 61, 3) := by decide +kernel
theorem dX8_reads_351 : decode cX8_reads 351 = .ok (.aload_n 0, 1) := by decide +kernel
theorem dX8_reads_352 : decode cX8_reads 352 = .ok (.getfield 124, 3) := by decide +kernel
theorem dX8_reads_355 : decode cX8_reads 355 = .ok (.ifCond .le 54, 3) := by decide +kernel
theorem dX8_reads_358 : decode cX8_reads 358 = .ok (.aload_n 0, 1) := by decide +kernel
theorem dX8_reads_359 : decode cX8_reads 359 = .ok (.getfield 31, 3) := by decide +kernel
theorem dX8_reads_362 : decode cX8_reads 362 = .ok (.aload_n 0, 1) := by decide +kernel
theorem dX8_reads_363 : decode cX8_reads 363 = .ok (.getfield 124, 3) := by decide +kernel
theorem dX8_reads_366 : decode cX8_reads 366 = .ok (.iconst 1, 1) := by decide +kernel
theorem dX8_reads_367 : decode cX8_reads 367 = .ok (.isub, 1) := by decide +kernel
theorem dX8_reads_368 : decode cX8_reads 368 = .ok (.iaload, 1) := by decide +kernel
theorem dX8_reads_369 : decode cX8_reads 369 = .ok (.sipush 1000, 3) := by decide +kernel
theorem dX8_reads_372 : decode cX8_reads 372 = .ok (.if_icmp .ge 37, 3) := by decide +kernel
theorem dX8_reads_375 : decode cX8_reads 375 = .ok (.aload_n 0, 1) := by decide +kernel
theorem dX8_reads_376 : decode cX8_reads 376 = .ok (.getfield 31, 3) := by decide +kernel
theorem dX8_reads_379 : decode cX8_reads 379 = .ok (.aload_n 0, 1) := by decide +kernel
theorem dX8_reads_380 : decode cX8_reads 380 = .ok (.getfield 124, 3) := by decide +kernel
theorem dX8_reads_383 : decode cX8_reads 383 = .ok (.iconst 1, 1) := by decide +kernel
theorem dX8_reads_384 : decode cX8_reads 384 = .ok (.isub, 1) := by decide +kernel
theorem dX8_reads_385 : decode cX8_reads 385 = .ok (.iaload, 1) := by decide +kernel
theorem dX8_reads_386 : decode cX8_reads 386 = .ok (.invokestatic 130, 3) := by decide +kernel
theorem dX8_reads_389 : decode cX8_reads 389 = .ok (.iconst 3, 1) := by decide +kernel
theorem dX8_reads_390 : decode cX8_reads 390 = .ok (.if_icmp .ne 19, 3) := by decide +kernel
theorem dX8_reads_393 : decode cX8_reads 393 = .ok (.aload_n 0, 1) := by decide +kernel
theorem dX8_reads_394 : decode cX8_reads 394 = .ok (.bipush 10, 2) := by decide +kernel
theorem dX8_reads_396 : decode cX8_reads 396 = .ok (.aload_n 0, 1) := by decide +kernel
theorem dX8_reads_397 : decode cX8_reads 397 = .ok (.getfield 114, 3) := by decide +kernel
theorem dX8_reads_400 : decode cX8_reads 400 = .ok (.imul, 1) := by decide +kernel
theorem dX8_reads_401 : decode cX8_reads 401 = .ok (.iconst 1, 1) := by decide +kernel
theorem dX8_reads_402 : decode cX8_reads 402 = .ok (.iadd, 1) := by decide +kernel
theorem dX8_reads_403 : decode cX8_reads 403 = .ok (.putfield 143, 3) := by decide +kernel
theorem dX8_reads_406 : decode cX8_reads 406 = .ok (.goto 72, 3) := by decide +kernel
theorem dX8_reads_409 : decode cX8_reads 409 = .ok (.aload_n 0, 1) := by decide +kernel
theorem dX8_reads_410 : decode cX8_reads 410 = .ok (.dup, 1) := by decide +kernel
theorem dX8_reads_411 : decode cX8_reads 411 = .ok (.getfield 114, 3) := by decide +kernel
theorem dX8_reads_414 : decode cX8_reads 414 = .ok (.iconst 1, 1) := by decide +kernel
theorem dX8_reads_415 : decode cX8_reads 415 = .ok (.iadd, 1) := by decide +kernel
theorem dX8_reads_416 : decode cX8_reads 416 = .ok (.putfield 114, 3) := by decide +kernel
theorem dX8_reads_419 : decode cX8_reads 419 = .ok (.aload_n 0, 1) := by decide +kernel
theorem dX8_reads_420 : decode cX8_reads 420 = .ok (.getfield 31, 3) := by decide +kernel
theorem dX8_reads_423 : decode cX8_reads 423 = .ok (.aload_n 0, 1) := by decide +kernel
theorem dX8_reads_424 : decode cX8_reads 424 = .ok (.getfield 124, 3) := by decide +kernel
theorem dX8_reads_427 : decode cX8_reads 427 = .ok (.iload 4, 2) := by decide +kernel
theorem dX8_reads_429 : decode cX8_reads 429 = .ok (.iastore, 1) := by decide +kernel
theorem dX8_reads_430 : decode cX8_reads 430 = .ok (.aload_n 0, 1) := by decide +kernel
theorem dX8_reads_431 : decode cX8_reads 431 = .ok (.dup, 1) := by decide +kernel
theorem dX8_reads_432 : decode cX8_reads 432 = .ok (.getfield 124, 3) := by decide +kernel
theorem dX8_reads_435 : decode cX8_reads 435 = .ok (.iconst 1, 1) := by decide +kernel
theorem dX8_reads_436 : decode cX8_reads 436 = .ok (.iadd, 1) := by decide +kernel
theorem dX8_reads_437 : decode cX8_reads 437 = .ok (.putfield 124, 3) := by decide +kernel
theorem dX8_reads_440 : decode cX8_reads 440 = .ok (.iconst 1, 1) := by decide +kernel
theorem dX8_reads_441 : decode cX8_reads 441 = .ok (.istore_n 2, 1) := by decide +kernel
theorem dX8_reads_442 : decode cX8_reads 442 = .ok (.goto 36, 3) := by decide +kernel
theorem dX8_reads_445 : decode cX8_reads 445 = .ok (.iload 4, 2) := by decide +kernel
theorem dX8_reads_447 : decode cX8_reads 447 = .ok (.iconst (-1), 1) := by decide +kernel
theorem dX8_reads_448 : decode cX8_reads 448 = .ok (.if_icmp .ne 17, 3) := by decide +kernel
theorem dX8_reads_451 : decode cX8_reads 451 = .ok (.iload_n 1, 1) := by decide +kernel
theorem dX8_reads_452 : decode cX8_reads 452 = .ok (.ifCond .ne 13, 3) := by decide +kernel
theorem dX8_reads_455 : decode cX8_reads 455 = .ok (.aload_n 0, 1) := by decide +kernel
theorem dX8_reads_456 : decode cX8_reads 456 = .ok (.iconst 1, 1) := by decide +kernel
theorem dX8_reads_457 : decode cX8_reads 457 = .ok (.invokevirtual 162, 3) := by decide +kernel
theorem dX8_reads_460 : decode cX8_reads 460 = .ok (.iconst 0, 1) := by decide +kernel
theorem dX8_reads_461 : decode cX8_reads 461 = .ok (.istore_n 3, 1) := by decide +kernel
theorem dX8_reads_462 : decode cX8_reads 462 = .ok (.goto 16, 3) := by decide +kernel
theorem dX8_reads_465 : decode cX8_reads 465 = .ok (.aload_n 0, 1) := by decide +kernel
theorem dX8_reads_466 : decode cX8_reads 466 = .ok (.bipush 10, 2) := by decide +kernel
theorem dX8_reads_468 : decode cX8_reads 468 = .ok (.aload_n 0, 1) := by decide +kernel
theorem dX8_reads_469 : decode cX8_reads 469 = .ok (.getfield 114, 3) := by decide +kernel
theorem dX8_reads_472 : decode cX8_reads 472 = .ok (.imul, 1) := by decide +kernel
theorem dX8_reads_473 : decode cX8_reads 473 = .ok (.iconst 1, 1) := by decide +kernel
theorem dX8_reads_474 : decode cX8_reads 474 = .ok (.iadd, 1) := by decide +kernel
theorem dX8_reads_475 : decode cX8_reads 475 = .ok (.putfield 143, 3) := by decide +kernel
theorem dX8_reads_478 : decode cX8_reads 478 = .ok (.goto (-452), 3) := by decide +kernel
theorem dX8_reads_481 : decode cX8_reads 481 = .ok (.aload_n 0, 1) := by decide +kernel
theorem dX8_reads_482 : decode cX8_reads 482 = .ok (.aload_n 0, 1) := by decide +kernel
theorem dX8_reads_483 : decode cX8_reads 483 = .ok (.getfield 143, 3) := by decide +kernel
theorem dX8_reads_486 : decode cX8_reads 486 = .ok (.iconst (-1), 1) := by decide +kernel
theorem dX8_reads_487 : decode cX8_reads 487 = .ok (.if_icmp .ne 12, 3) := by decide +kernel
theorem dX8_reads_490 : decode cX8_reads 490 = .ok (.aload_n 0, 1) := by decide +kernel
theorem dX8_reads_491 : decode cX8_reads 491 = .ok (.getfield 27, 3) := by decide +kernel
theorem dX8_reads_494 : decode cX8_reads 494 = .ok (.iconst 0, 1) := by decide +kernel
theorem dX8_reads_495 : decode cX8_reads 495 = .ok (.laload, 1) := by decide +kernel
theorem dX8_reads_496 : decode cX8_reads 496 = .ok (.goto 4, 3) := by decide +kernel
theorem dX8_reads_499 : decode cX8_reads 499 = .ok (.lconst 0, 1) := by decide +kernel
theorem dX8_reads_500 : decode cX8_reads 500 = .ok (.putfield 166, 3) := by decide +kernel
theorem dX8_reads_503 : decode cX8_reads 503 = .ok (.aload_n 0, 1) := by decide +kernel
theorem dX8_reads_504 : decode cX8_reads 504 = .ok (.getfield 143, 3) := by decide +kernel
theorem dX8_reads_507 : decode cX8_reads 507 = .ok (.iconst (-1), 1) := by decide +kernel
theorem dX8_reads_508 : decode cX8_reads 508 = .ok (.if_icmp .ne 7, 3) := by decide +kernel
theorem dX8_reads_511 : decode cX8_reads 511 = .ok (.iconst 1, 1) := by decide +kernel
theorem dX8_reads_512 : decode cX8_reads 512 = .ok (.goto 4, 3) := by decide +kernel
theorem dX8_reads_515 : decode cX8_reads 515 = .ok (.iconst 0, 1) := by decide +kernel
theorem dX8_reads_516 : decode cX8_reads 516 = .ok (.ireturn, 1) := by decide +kernel
theorem dX8_fault_0 : decode cX8_fault 0 = .ok (.aload_n 0, 1) := by decide +kernel
theorem dX8_fault_1 : decode cX8_fault 1 = .ok (.invokevirtual 169, 3) := by decide +kernel
theorem dX8_fault_4 : decode cX8_fault 4 = .ok (.istore_n 1, 1) := by decide +kernel
theorem dX8_fault_5 : decode cX8_fault 5 = .ok (.aload_n 0, 1) := by decide +kernel
theorem dX8_fault_6 : decode cX8_fault 6 = .ok (.getfield 143, 3) := by decide +kernel
theorem dX8_fault_9 : decode cX8_fault 9 = .ok (.ireturn, 1) := by decide +kernel
theorem dX8_isWell_0 : decode cX8_isWell 0 = .ok (.iload_n 1, 1) := by decide +kernel
theorem dX8_isWell_1 : decode cX8_isWell 1 = .ok (.ifCond .ne 9, 3) := by decide +kernel
theorem dX8_isWell_4 : decode cX8_isWell 4 = .ok (.iload_n 3, 1) := by decide +kernel
theorem dX8_isWell_5 : decode cX8_isWell 5 = .ok (.ifCond .ne 5, 3) := by decide +kernel
theorem dX8_isWell_8 : decode cX8_isWell 8 = .ok (.iconst 1, 1) := by decide +kernel
theorem dX8_isWell_9 : decode cX8_isWell 9 = .ok (.ireturn, 1) := by decide +kernel
theorem dX8_isWell_10 : decode cX8_isWell 10 = .ok (.iconst 0, 1) := by decide +kernel
theorem dX8_isWell_11 : decode cX8_isWell 11 = .ok (.istore 4, 2) := by decide +kernel
theorem dX8_isWell_13 : decode cX8_isWell 13 = .ok (.iload 4, 2) := by decide +kernel
theorem dX8_isWell_15 : decode cX8_isWell 15 = .ok (.iconst 4, 1) := by decide +kernel
theorem dX8_isWell_16 : decode cX8_isWell 16 = .ok (.if_icmp .gt 24, 3) := by decide +kernel
theorem dX8_isWell_19 : decode cX8_isWell 19 = .ok (.aload_n 0, 1) := by decide +kernel
theorem dX8_isWell_20 : decode cX8_isWell 20 = .ok (.getfield 34, 3) := by decide +kernel
theorem dX8_isWell_23 : decode cX8_isWell 23 = .ok (.iload 4, 2) := by decide +kernel
theorem dX8_isWell_25 : decode cX8_isWell 25 = .ok (.aload_n 0, 1) := by decide +kernel
theorem dX8_isWell_26 : decode cX8_isWell 26 = .ok (.iload_n 1, 1) := by decide +kernel
theorem dX8_isWell_27 : decode cX8_isWell 27 = .ok (.iload 4, 2) := by decide +kernel
theorem dX8_isWell_29 : decode cX8_isWell 29 = .ok (.invokevirtual 109, 3) := by decide +kernel
theorem dX8_isWell_32 : decode cX8_isWell 32 = .ok (.i2l, 1) := by decide +kernel
theorem dX8_isWell_33 : decode cX8_isWell 33 = .ok (.lastore, 1) := by decide +kernel
theorem dX8_isWell_34 : decode cX8_isWell 34 = .ok (.iinc 4 1, 3) := by decide +kernel
theorem dX8_isWell_37 : decode cX8_isWell 37 = .ok (.goto (-24), 3) := by decide +kernel
theorem dX8_isWell_40 : decode cX8_isWell 40 = .ok (.aload_n 0, 1) := by decide +kernel
theorem dX8_isWell_41 : decode cX8_isWell 41 = .ok (.getfield 34, 3) := by decide +kernel
theorem dX8_isWell_44 : decode cX8_isWell 44 = .ok (.iconst 0, 1) := by decide +kernel
theorem dX8_isWell_45 : decode cX8_isWell 45 = .ok (.dup2, 1) := by decide +kernel
theorem dX8_isWell_46 : decode cX8_isWell 46 = .ok (.laload, 1) := by decide +kernel
theorem dX8_isWell_47 : decode cX8_isWell 47 = .ok (.iload_n 3, 1) := by decide +kernel
theorem dX8_isWell_48 : decode cX8_isWell 48 = .ok (.i2l, 1) := by decide +kernel
theorem dX8_isWell_49 : decode cX8_isWell 49 = .ok (.ladd, 1) := by decide +kernel
theorem dX8_isWell_50 : decode cX8_isWell 50 = .ok (.lastore, 1) := by decide +kernel
theorem dX8_isWell_51 : decode cX8_isWell 51 = .ok (.aload_n 0, 1) := by decide +kernel
theorem dX8_isWell_52 : decode cX8_isWell 52 = .ok (.getfield 34, 3) := by decide +kernel
theorem dX8_isWell_55 : decode cX8_isWell 55 = .ok (.iconst 5, 1) := by decide +kernel
theorem dX8_isWell_56 : decode cX8_isWell 56 = .ok (.iload_n 2, 1) := by decide +kernel
theorem dX8_isWell_57 : decode cX8_isWell 57 = .ok (.i2l, 1) := by decide +kernel
theorem dX8_isWell_58 : decode cX8_isWell 58 = .ok (.lastore, 1) := by decide +kernel
theorem dX8_isWell_59 : decode cX8_isWell 59 = .ok (.aload_n 0, 1) := by decide +kernel
theorem dX8_isWell_60 : decode cX8_isWell 60 = .ok (.invokevirtual 169, 3) := by decide +kernel
theorem dX8_isWell_63 : decode cX8_isWell 63 = .ok (.ifCond .eq 10, 3) := by decide +kernel
theorem dX8_isWell_66 : decode cX8_isWell 66 = .ok (.aload_n 0, 1) := by decide +kernel
theorem dX8_isWell_67 : decode cX8_isWell 67 = .ok (.getfield 166, 3) := by decide +kernel
theorem dX8_isWell_70 : decode cX8_isWell 70 = .ok (.goto 9, 3) := by decide +kernel
theorem dX8_isWell_73 : decode cX8_isWell 73 = .ok (.aload_n 0, 1) := by decide +kernel
theorem dX8_isWell_74 : decode cX8_isWell 74 = .ok (.getfield 34, 3) := by decide +kernel
theorem dX8_isWell_77 : decode cX8_isWell 77 = .ok (.iconst 0, 1) := by decide +kernel
theorem dX8_isWell_78 : decode cX8_isWell 78 = .ok (.laload, 1) := by decide +kernel
theorem dX8_isWell_79 : decode cX8_isWell 79 = .ok (.lstore 4, 2) := by decide +kernel
theorem dX8_isWell_81 : decode cX8_isWell 81 = .ok (.lload 4, 2) := by decide +kernel
theorem dX8_isWell_83 : decode cX8_isWell 83 = .ok (.lconst 1, 1) := by decide +kernel
theorem dX8_isWell_84 : decode cX8_isWell 84 = .ok (.land, 1) := by decide +kernel
theorem dX8_isWell_85 : decode cX8_isWell 85 = .ok (.lconst 1, 1) := by decide +kernel
theorem dX8_isWell_86 : decode cX8_isWell 86 = .ok (.lcmp, 1) := by decide +kernel
theorem dX8_isWell_87 : decode cX8_isWell 87 = .ok (.ifCond .ne 7, 3) := by decide +kernel
theorem dX8_isWell_90 : decode cX8_isWell 90 = .ok (.iconst 1, 1) := by decide +kernel
theorem dX8_isWell_91 : decode cX8_isWell 91 = .ok (.goto 4, 3) := by decide +kernel
theorem dX8_isWell_94 : decode cX8_isWell 94 = .ok (.iconst 0, 1) := by decide +kernel
theorem dX8_isWell_95 : decode cX8_isWell 95 = .ok (.ireturn, 1) := by decide +kernel
theorem dX8_well_0 : decode cX8_well 0 = .ok (.aload_n 0, 1) := by decide +kernel
theorem dX8_well_1 : decode cX8_well 1 = .ok (.iload_n 1, 1) := by decide +kernel
theorem dX8_well_2 : decode cX8_well 2 = .ok (.invokevirtual 103, 3) := by decide +kernel
theorem dX8_well_5 : decode cX8_well 5 = .ok (.ifCond .eq 15, 3) := by decide +kernel
theorem dX8_well_8 : decode cX8_well 8 = .ok (.iload_n 2, 1) := by decide +kernel
theorem dX8_well_9 : decode cX8_well 9 = .ok (.i2l, 1) := by decide +kernel
theorem dX8_well_10 : decode cX8_well 10 = .ok (.lconst 0, 1) := by decide +kernel
theorem dX8_well_11 : decode cX8_well 11 = .ok (.ldc2_w 173, 3) := by decide +kernel
theorem dX8_well_14 : decode cX8_well 14 = .ok (.invokestatic 74, 3) := by decide +kernel
theorem dX8_well_17 : decode cX8_well 17 = .ok (.ifCond .ne 10, 3) := by decide +kernel
theorem dX8_well_20 : decode cX8_well 20 = .ok (.aload_n 0, 1) := by decide +kernel
theorem dX8_well_21 : decode cX8_well 21 = .ok (.bipush (-2), 2) := by decide +kernel
theorem dX8_well_23 : decode cX8_well 23 = .ok (.invokevirtual 87, 3) := by decide +kernel
theorem dX8_well_26 : decode cX8_well 26 = .ok (.ireturn, 1) := by decide +kernel
theorem dX8_well_27 : decode cX8_well 27 = .ok (.aload_n 0, 1) := by decide +kernel
theorem dX8_well_28 : decode cX8_well 28 = .ok (.iload_n 1, 1) := by decide +kernel
theorem dX8_well_29 : decode cX8_well 29 = .ok (.iload_n 2, 1) := by decide +kernel
theorem dX8_well_30 : decode cX8_well 30 = .ok (.iconst 0, 1) := by decide +kernel
theorem dX8_well_31 : decode cX8_well 31 = .ok (.invokevirtual 175, 3) := by decide +kernel
theorem dX8_well_34 : decode cX8_well 34 = .ok (.ifCond .eq 7, 3) := by decide +kernel
theorem dX8_well_37 : decode cX8_well 37 = .ok (.iconst 1, 1) := by decide +kernel
theorem dX8_well_38 : decode cX8_well 38 = .ok (.goto 4, 3) := by decide +kernel
theorem dX8_well_41 : decode cX8_well 41 = .ok (.iconst 0, 1) := by decide +kernel
theorem dX8_well_42 : decode cX8_well 42 = .ok (.ireturn, 1) := by decide +kernel
theorem dX8_manyIn_0 : decode cX8_manyIn 0 = .ok (.iconst 0, 1) := by decide +kernel
theorem dX8_manyIn_1 : decode cX8_manyIn 1 = .ok (.istore_n 1, 1) := by decide +kernel
theorem dX8_manyIn_2 : decode cX8_manyIn 2 = .ok (.iconst 0, 1) := by decide +kernel
theorem dX8_manyIn_3 : decode cX8_manyIn 3 = .ok (.istore_n 2, 1) := by decide +kernel
theorem dX8_manyIn_4 : decode cX8_manyIn 4 = .ok (.iload_n 2, 1) := by decide +kernel
theorem dX8_manyIn_5 : decode cX8_manyIn 5 = .ok (.bipush 8, 2) := by decide +kernel
theorem dX8_manyIn_7 : decode cX8_manyIn 7 = .ok (.if_icmp .ge 17, 3) := by decide +kernel
theorem dX8_manyIn_10 : decode cX8_manyIn 10 = .ok (.iload_n 1, 1) := by decide +kernel
theorem dX8_manyIn_11 : decode cX8_manyIn 11 = .ok (.iload_n 0, 1) := by decide +kernel
theorem dX8_manyIn_12 : decode cX8_manyIn 12 = .ok (.iload_n 2, 1) := by decide +kernel
theorem dX8_manyIn_13 : decode cX8_manyIn 13 = .ok (.ishr, 1) := by decide +kernel
theorem dX8_manyIn_14 : decode cX8_manyIn 14 = .ok (.iconst 1, 1) := by decide +kernel
theorem dX8_manyIn_15 : decode cX8_manyIn 15 = .ok (.iand, 1) := by decide +kernel
theorem dX8_manyIn_16 : decode cX8_manyIn 16 = .ok (.iadd, 1) := by decide +kernel
theorem dX8_manyIn_17 : decode cX8_manyIn 17 = .ok (.istore_n 1, 1) := by decide +kernel
theorem dX8_manyIn_18 : decode cX8_manyIn 18 = .ok (.iinc 2 1, 3) := by decide +kernel
theorem dX8_manyIn_21 : decode cX8_manyIn 21 = .ok (.goto (-17), 3) := by decide +kernel
theorem dX8_manyIn_24 : decode cX8_manyIn 24 = .ok (.iload_n 1, 1) := by decide +kernel
theorem dX8_manyIn_25 : decode cX8_manyIn 25 = .ok (.ireturn, 1) := by decide +kernel
theorem dX8_onNow_0 : decode cX8_onNow 0 = .ok (.iconst 0, 1) := by decide +kernel
theorem dX8_onNow_1 : decode cX8_onNow 1 = .ok (.istore_n 1, 1) := by decide +kernel
theorem dX8_onNow_2 : decode cX8_onNow 2 = .ok (.iconst 0, 1) := by decide +kernel
theorem dX8_onNow_3 : decode cX8_onNow 3 = .ok (.istore_n 2, 1) := by decide +kernel
theorem dX8_onNow_4 : decode cX8_onNow 4 = .ok (.iload_n 2, 1) := by decide +kernel
theorem dX8_onNow_5 : decode cX8_onNow 5 = .ok (.aload_n 0, 1) := by decide +kernel
theorem dX8_onNow_6 : decode cX8_onNow 6 = .ok (.invokevirtual 70, 3) := by decide +kernel
theorem dX8_onNow_9 : decode cX8_onNow 9 = .ok (.if_icmp .ge 39, 3) := by decide +kernel
theorem dX8_onNow_12 : decode cX8_onNow 12 = .ok (.iload_n 1, 1) := by decide +kernel
theorem dX8_onNow_13 : decode cX8_onNow 13 = .ok (.aload_n 0, 1) := by decide +kernel
theorem dX8_onNow_14 : decode cX8_onNow 14 = .ok (.getfield 37, 3) := by decide +kernel
theorem dX8_onNow_17 : decode cX8_onNow 17 = .ok (.iload_n 2, 1) := by decide +kernel
theorem dX8_onNow_18 : decode cX8_onNow 18 = .ok (.iaload, 1) := by decide +kernel
theorem dX8_onNow_19 : decode cX8_onNow 19 = .ok (.iconst (-1), 1) := by decide +kernel
theorem dX8_onNow_20 : decode cX8_onNow 20 = .ok (.if_icmp .eq 19, 3) := by decide +kernel
theorem dX8_onNow_23 : decode cX8_onNow 23 = .ok (.aload_n 0, 1) := by decide +kernel
theorem dX8_onNow_24 : decode cX8_onNow 24 = .ok (.getfield 40, 3) := by decide +kernel
theorem dX8_onNow_27 : decode cX8_onNow 27 = .ok (.iload_n 2, 1) := by decide +kernel
theorem dX8_onNow_28 : decode cX8_onNow 28 = .ok (.iaload, 1) := by decide +kernel
theorem dX8_onNow_29 : decode cX8_onNow 29 = .ok (.iconst (-1), 1) := by decide +kernel
theorem dX8_onNow_30 : decode cX8_onNow 30 = .ok (.if_icmp .ne 9, 3) := by decide +kernel
theorem dX8_onNow_33 : decode cX8_onNow 33 = .ok (.iconst 1, 1) := by decide +kernel
theorem dX8_onNow_34 : decode cX8_onNow 34 = .ok (.iload_n 2, 1) := by decide +kernel
theorem dX8_onNow_35 : decode cX8_onNow 35 = .ok (.ishl, 1) := by decide +kernel
theorem dX8_onNow_36 : decode cX8_onNow 36 = .ok (.goto 4, 3) := by decide +kernel
theorem dX8_onNow_39 : decode cX8_onNow 39 = .ok (.iconst 0, 1) := by decide +kernel
theorem dX8_onNow_40 : decode cX8_onNow 40 = .ok (.ior, 1) := by decide +kernel
theorem dX8_onNow_41 : decode cX8_onNow 41 = .ok (.istore_n 1, 1) := by decide +kernel
theorem dX8_onNow_42 : decode cX8_onNow 42 = .ok (.iinc 2 1, 3) := by decide +kernel
theorem dX8_onNow_45 : decode cX8_onNow 45 = .ok (.goto (-41), 3) := by decide +kernel
theorem dX8_onNow_48 : decode cX8_onNow 48 = .ok (.iload_n 1, 1) := by decide +kernel
theorem dX8_onNow_49 : decode cX8_onNow 49 = .ok (.ireturn, 1) := by decide +kernel
theorem dX8_mayStep_0 : decode cX8_mayStep 0 = .ok (.iconst 0, 1) := by decide +kernel
theorem dX8_mayStep_1 : decode cX8_mayStep 1 = .ok (.istore_n 2, 1) := by decide +kernel
theorem dX8_mayStep_2 : decode cX8_mayStep 2 = .ok (.iconst 0, 1) := by decide +kernel
theorem dX8_mayStep_3 : decode cX8_mayStep 3 = .ok (.istore_n 3, 1) := by decide +kernel
theorem dX8_mayStep_4 : decode cX8_mayStep 4 = .ok (.iload_n 3, 1) := by decide +kernel
theorem dX8_mayStep_5 : decode cX8_mayStep 5 = .ok (.aload_n 0, 1) := by decide +kernel
theorem dX8_mayStep_6 : decode cX8_mayStep 6 = .ok (.invokevirtual 70, 3) := by decide +kernel
theorem dX8_mayStep_9 : decode cX8_mayStep 9 = .ok (.if_icmp .ge 88, 3) := by decide +kernel
theorem dX8_mayStep_12 : decode cX8_mayStep 12 = .ok (.aload_n 0, 1) := by decide +kernel
theorem dX8_mayStep_13 : decode cX8_mayStep 13 = .ok (.getfield 37, 3) := by decide +kernel
theorem dX8_mayStep_16 : decode cX8_mayStep 16 = .ok (.iload_n 3, 1) := by decide +kernel
theorem dX8_mayStep_17 : decode cX8_mayStep 17 = .ok (.iaload, 1) := by decide +kernel
theorem dX8_mayStep_18 : decode cX8_mayStep 18 = .ok (.iconst (-1), 1) := by decide +kernel
theorem dX8_mayStep_19 : decode cX8_mayStep 19 = .ok (.if_icmp .eq 34, 3) := by decide +kernel
theorem dX8_mayStep_22 : decode cX8_mayStep 22 = .ok (.aload_n 0, 1) := by decide +kernel
theorem dX8_mayStep_23 : decode cX8_mayStep 23 = .ok (.getfield 40, 3) := by decide +kernel
theorem dX8_mayStep_26 : decode cX8_mayStep 26 = .ok (.iload_n 3, 1) := by decide +kernel
theorem dX8_mayStep_27 : decode cX8_mayStep 27 = .ok (.iaload, 1) := by decide +kernel
theorem dX8_mayStep_28 : decode cX8_mayStep 28 = .ok (.iconst (-1), 1) := by decide +kernel
theorem dX8_mayStep_29 : decode cX8_mayStep 29 = .ok (.if_icmp .ne 24, 3) := by decide +kernel
theorem dX8_mayStep_32 : decode cX8_mayStep 32 = .ok (.iload_n 1, 1) := by decide +kernel
theorem dX8_mayStep_33 : decode cX8_mayStep 33 = .ok (.aload_n 0, 1) := by decide +kernel
theorem dX8_mayStep_34 : decode cX8_mayStep 34 = .ok (.getfield 37, 3) := by decide +kernel
theorem dX8_mayStep_37 : decode cX8_mayStep 37 = .ok (.iload_n 3, 1) := by decide +kernel
theorem dX8_mayStep_38 : decode cX8_mayStep 38 = .ok (.iaload, 1) := by decide +kernel
theorem dX8_mayStep_39 : decode cX8_mayStep 39 = .ok (.isub, 1) := by decide +kernel
theorem dX8_mayStep_40 : decode cX8_mayStep 40 = .ok (.aload_n 0, 1) := by decide +kernel
theorem dX8_mayStep_41 : decode cX8_mayStep 41 = .ok (.iload_n 3, 1) := by decide +kernel
theorem dX8_mayStep_42 : decode cX8_mayStep 42 = .ok (.iconst 1, 1) := by decide +kernel
theorem dX8_mayStep_43 : decode cX8_mayStep 43 = .ok (.invokevirtual 96, 3) := by decide +kernel
theorem dX8_mayStep_46 : decode cX8_mayStep 46 = .ok (.if_icmp .lt 7, 3) := by decide +kernel
theorem dX8_mayStep_49 : decode cX8_mayStep 49 = .ok (.iconst 1, 1) := by decide +kernel
theorem dX8_mayStep_50 : decode cX8_mayStep 50 = .ok (.goto 4, 3) := by decide +kernel
theorem dX8_mayStep_53 : decode cX8_mayStep 53 = .ok (.iconst 0, 1) := by decide +kernel
theorem dX8_mayStep_54 : decode cX8_mayStep 54 = .ok (.istore 4, 2) := by decide +kernel
theorem dX8_mayStep_56 : decode cX8_mayStep 56 = .ok (.iload_n 2, 1) := by decide +kernel
theorem dX8_mayStep_57 : decode cX8_mayStep 57 = .ok (.iload 4, 2) := by decide +kernel
theorem dX8_mayStep_59 : decode cX8_mayStep 59 = .ok (.ifCond .ne 23, 3) := by decide +kernel
theorem dX8_mayStep_62 : decode cX8_mayStep 62 = .ok (.aload_n 0, 1) := by decide +kernel
theorem dX8_mayStep_63 : decode cX8_mayStep 63 = .ok (.getfield 37, 3) := by decide +kernel
theorem dX8_mayStep_66 : decode cX8_mayStep 66 = .ok (.iload_n 3, 1) := by decide +kernel
theorem dX8_mayStep_67 : decode cX8_mayStep 67 = .ok (.iaload, 1) := by decide +kernel
theorem dX8_mayStep_68 : decode cX8_mayStep 68 = .ok (.iconst (-1), 1) := by decide +kernel
theorem dX8_mayStep_69 : decode cX8_mayStep 69 = .ok (.if_icmp .ne 19, 3) := by decide +kernel
theorem dX8_mayStep_72 : decode cX8_mayStep 72 = .ok (.aload_n 0, 1) := by decide +kernel
theorem dX8_mayStep_73 : decode cX8_mayStep 73 = .ok (.iload_n 3, 1) := by decide +kernel
theorem dX8_mayStep_74 : decode cX8_mayStep 74 = .ok (.iconst 2, 1) := by decide +kernel
theorem dX8_mayStep_75 : decode cX8_mayStep 75 = .ok (.invokevirtual 96, 3) := by decide +kernel
theorem dX8_mayStep_78 : decode cX8_mayStep 78 = .ok (.iload_n 1, 1) := by decide +kernel
theorem dX8_mayStep_79 : decode cX8_mayStep 79 = .ok (.if_icmp .gt 9, 3) := by decide +kernel
theorem dX8_mayStep_82 : decode cX8_mayStep 82 = .ok (.iconst 1, 1) := by decide +kernel
theorem dX8_mayStep_83 : decode cX8_mayStep 83 = .ok (.iload_n 3, 1) := by decide +kernel
theorem dX8_mayStep_84 : decode cX8_mayStep 84 = .ok (.ishl, 1) := by decide +kernel
theorem dX8_mayStep_85 : decode cX8_mayStep 85 = .ok (.goto 4, 3) := by decide +kernel
theorem dX8_mayStep_88 : decode cX8_mayStep 88 = .ok (.iconst 0, 1) := by decide +kernel
theorem dX8_mayStep_89 : decode cX8_mayStep 89 = .ok (.ior, 1) := by decide +kernel
theorem dX8_mayStep_90 : decode cX8_mayStep 90 = .ok (.istore_n 2, 1) := by decide +kernel
theorem dX8_mayStep_91 : decode cX8_mayStep 91 = .ok (.iinc 3 1, 3) := by decide +kernel
theorem dX8_mayStep_94 : decode cX8_mayStep 94 = .ok (.goto (-90), 3) := by decide +kernel
theorem dX8_mayStep_97 : decode cX8_mayStep 97 = .ok (.iload_n 2, 1) := by decide +kernel
theorem dX8_mayStep_98 : decode cX8_mayStep 98 = .ok (.ireturn, 1) := by decide +kernel
theorem dX8_ahead__0 : decode cX8_ahead_ 0 = .ok (.iconst 0, 1) := by decide +kernel
theorem dX8_ahead__1 : decode cX8_ahead_ 1 = .ok (.istore_n 3, 1) := by decide +kernel
theorem dX8_ahead__2 : decode cX8_ahead_ 2 = .ok (.iconst 0, 1) := by decide +kernel
theorem dX8_ahead__3 : decode cX8_ahead_ 3 = .ok (.istore 4, 2) := by decide +kernel
theorem dX8_ahead__5 : decode cX8_ahead_ 5 = .ok (.iload 4, 2) := by decide +kernel
theorem dX8_ahead__7 : decode cX8_ahead_ 7 = .ok (.aload_n 0, 1) := by decide +kernel
theorem dX8_ahead__8 : decode cX8_ahead_ 8 = .ok (.invokevirtual 70, 3) := by decide +kernel
theorem dX8_ahead__11 : decode cX8_ahead_ 11 = .ok (.if_icmp .ge 72, 3) := by decide +kernel
theorem dX8_ahead__14 : decode cX8_ahead_ 14 = .ok (.iload_n 1, 1) := by decide +kernel
theorem dX8_ahead__15 : decode cX8_ahead_ 15 = .ok (.iload 4, 2) := by decide +kernel
theorem dX8_ahead__17 : decode cX8_ahead_ 17 = .ok (.ishr, 1) := by decide +kernel
theorem dX8_ahead__18 : decode cX8_ahead_ 18 = .ok (.iconst 1, 1) := by decide +kernel
theorem dX8_ahead__19 : decode cX8_ahead_ 19 = .ok (.iand, 1) := by decide +kernel
theorem dX8_ahead__20 : decode cX8_ahead_ 20 = .ok (.iconst 1, 1) := by decide +kernel
theorem dX8_ahead__21 : decode cX8_ahead_ 21 = .ok (.if_icmp .ne 37, 3) := by decide +kernel
theorem dX8_ahead__24 : decode cX8_ahead_ 24 = .ok (.aload_n 0, 1) := by decide +kernel
theorem dX8_ahead__25 : decode cX8_ahead_ 25 = .ok (.getfield 37, 3) := by decide +kernel
theorem dX8_ahead__28 : decode cX8_ahead_ 28 = .ok (.iload 4, 2) := by decide +kernel
theorem dX8_ahead__30 : decode cX8_ahead_ 30 = .ok (.iaload, 1) := by decide +kernel
theorem dX8_ahead__31 : decode cX8_ahead_ 31 = .ok (.iconst (-1), 1) := by decide +kernel
theorem dX8_ahead__32 : decode cX8_ahead_ 32 = .ok (.if_icmp .eq 22, 3) := by decide +kernel
theorem dX8_ahead__35 : decode cX8_ahead_ 35 = .ok (.iload_n 2, 1) := by decide +kernel
theorem dX8_ahead__36 : decode cX8_ahead_ 36 = .ok (.aload_n 0, 1) := by decide +kernel
theorem dX8_ahead__37 : decode cX8_ahead_ 37 = .ok (.getfield 37, 3) := by decide +kernel
theorem dX8_ahead__40 : decode cX8_ahead_ 40 = .ok (.iload 4, 2) := by decide +kernel
theorem dX8_ahead__42 : decode cX8_ahead_ 42 = .ok (.iaload, 1) := by decide +kernel
theorem dX8_ahead__43 : decode cX8_ahead_ 43 = .ok (.isub, 1) := by decide +kernel
theorem dX8_ahead__44 : decode cX8_ahead_ 44 = .ok (.aload_n 0, 1) := by decide +kernel
theorem dX8_ahead__45 : decode cX8_ahead_ 45 = .ok (.getfield 7, 3) := by decide +kernel
theorem dX8_ahead__48 : decode cX8_ahead_ 48 = .ok (.bipush 32, 2) := by decide +kernel
theorem dX8_ahead__50 : decode cX8_ahead_ 50 = .ok (.iaload, 1) := by decide +kernel
theorem dX8_ahead__51 : decode cX8_ahead_ 51 = .ok (.if_icmp .ge 7, 3) := by decide +kernel
theorem dX8_ahead__54 : decode cX8_ahead_ 54 = .ok (.iconst 1, 1) := by decide +kernel
theorem dX8_ahead__55 : decode cX8_ahead_ 55 = .ok (.goto 4, 3) := by decide +kernel
theorem dX8_ahead__58 : decode cX8_ahead_ 58 = .ok (.iconst 0, 1) := by decide +kernel
theorem dX8_ahead__59 : decode cX8_ahead_ 59 = .ok (.istore 5, 2) := by decide +kernel
theorem dX8_ahead__61 : decode cX8_ahead_ 61 = .ok (.iload_n 3, 1) := by decide +kernel
theorem dX8_ahead__62 : decode cX8_ahead_ 62 = .ok (.iload 5, 2) := by decide +kernel
theorem dX8_ahead__64 : decode cX8_ahead_ 64 = .ok (.ifCond .eq 10, 3) := by decide +kernel
theorem dX8_ahead__67 : decode cX8_ahead_ 67 = .ok (.iconst 1, 1) := by decide +kernel
theorem dX8_ahead__68 : decode cX8_ahead_ 68 = .ok (.iload 4, 2) := by decide +kernel
theorem dX8_ahead__70 : decode cX8_ahead_ 70 = .ok (.ishl, 1) := by decide +kernel
theorem dX8_ahead__71 : decode cX8_ahead_ 71 = .ok (.goto 4, 3) := by decide +kernel
theorem dX8_ahead__74 : decode cX8_ahead_ 74 = .ok (.iconst 0, 1) := by decide +kernel
theorem dX8_ahead__75 : decode cX8_ahead_ 75 = .ok (.ior, 1) := by decide +kernel
theorem dX8_ahead__76 : decode cX8_ahead_ 76 = .ok (.istore_n 3, 1) := by decide +kernel
theorem dX8_ahead__77 : decode cX8_ahead_ 77 = .ok (.iinc 4 1, 3) := by decide +kernel
theorem dX8_ahead__80 : decode cX8_ahead_ 80 = .ok (.goto (-75), 3) := by decide +kernel
theorem dX8_ahead__83 : decode cX8_ahead_ 83 = .ok (.iload_n 3, 1) := by decide +kernel
theorem dX8_ahead__84 : decode cX8_ahead_ 84 = .ok (.ireturn, 1) := by decide +kernel
theorem dX8_isWellOn_0 : decode cX8_isWellOn 0 = .ok (.aload_n 0, 1) := by decide +kernel
theorem dX8_isWellOn_1 : decode cX8_isWellOn 1 = .ok (.getfield 7, 3) := by decide +kernel
theorem dX8_isWellOn_4 : decode cX8_isWellOn 4 = .ok (.bipush 32, 2) := by decide +kernel
theorem dX8_isWellOn_6 : decode cX8_isWellOn 6 = .ok (.iaload, 1) := by decide +kernel
theorem dX8_isWellOn_7 : decode cX8_isWellOn 7 = .ok (.ifCond .ne 11, 3) := by decide +kernel
theorem dX8_isWellOn_10 : decode cX8_isWellOn 10 = .ok (.aload_n 0, 1) := by decide +kernel
theorem dX8_isWellOn_11 : decode cX8_isWellOn 11 = .ok (.iload_n 1, 1) := by decide +kernel
theorem dX8_isWellOn_12 : decode cX8_isWellOn 12 = .ok (.iload_n 2, 1) := by decide +kernel
theorem dX8_isWellOn_13 : decode cX8_isWellOn 13 = .ok (.iconst 0, 1) := by decide +kernel
theorem dX8_isWellOn_14 : decode cX8_isWellOn 14 = .ok (.invokevirtual 175, 3) := by decide +kernel
theorem dX8_isWellOn_17 : decode cX8_isWellOn 17 = .ok (.ireturn, 1) := by decide +kernel
theorem dX8_isWellOn_18 : decode cX8_isWellOn 18 = .ok (.aload_n 0, 1) := by decide +kernel
theorem dX8_isWellOn_19 : decode cX8_isWellOn 19 = .ok (.iload_n 1, 1) := by decide +kernel
theorem dX8_isWellOn_20 : decode cX8_isWellOn 20 = .ok (.iload_n 2, 1) := by decide +kernel
theorem dX8_isWellOn_21 : decode cX8_isWellOn 21 = .ok (.invokevirtual 179, 3) := by decide +kernel
theorem dX8_isWellOn_24 : decode cX8_isWellOn 24 = .ok (.istore_n 3, 1) := by decide +kernel
theorem dX8_isWellOn_25 : decode cX8_isWellOn 25 = .ok (.aload_n 0, 1) := by decide +kernel
theorem dX8_isWellOn_26 : decode cX8_isWellOn 26 = .ok (.iload_n 3, 1) := by decide +kernel
theorem dX8_isWellOn_27 : decode cX8_isWellOn 27 = .ok (.iload_n 2, 1) := by decide +kernel
theorem dX8_isWellOn_28 : decode cX8_isWellOn 28 = .ok (.iconst 0, 1) := by decide +kernel
theorem dX8_isWellOn_29 : decode cX8_isWellOn 29 = .ok (.invokevirtual 175, 3) := by decide +kernel
theorem dX8_isWellOn_32 : decode cX8_isWellOn 32 = .ok (.ifCond .eq 21, 3) := by decide +kernel
theorem dX8_isWellOn_35 : decode cX8_isWellOn 35 = .ok (.aload_n 0, 1) := by decide +kernel
theorem dX8_isWellOn_36 : decode cX8_isWellOn 36 = .ok (.iload_n 1, 1) := by decide +kernel
theorem dX8_isWellOn_37 : decode cX8_isWellOn 37 = .ok (.iload_n 3, 1) := by decide +kernel
theorem dX8_isWellOn_38 : decode cX8_isWellOn 38 = .ok (.iconst (-1), 1) := by decide +kernel
theorem dX8_isWellOn_39 : decode cX8_isWellOn 39 = .ok (.ixor, 1) := by decide +kernel
theorem dX8_isWellOn_40 : decode cX8_isWellOn 40 = .ok (.iand, 1) := by decide +kernel
theorem dX8_isWellOn_41 : decode cX8_isWellOn 41 = .ok (.iload_n 2, 1) := by decide +kernel
theorem dX8_isWellOn_42 : decode cX8_isWellOn 42 = .ok (.iconst 0, 1) := by decide +kernel
theorem dX8_isWellOn_43 : decode cX8_isWellOn 43 = .ok (.invokevirtual 175, 3) := by decide +kernel
theorem dX8_isWellOn_46 : decode cX8_isWellOn 46 = .ok (.ifCond .eq 7, 3) := by decide +kernel
theorem dX8_isWellOn_49 : decode cX8_isWellOn 49 = .ok (.iconst 1, 1) := by decide +kernel
theorem dX8_isWellOn_50 : decode cX8_isWellOn 50 = .ok (.goto 4, 3) := by decide +kernel
theorem dX8_isWellOn_53 : decode cX8_isWellOn 53 = .ok (.iconst 0, 1) := by decide +kernel
theorem dX8_isWellOn_54 : decode cX8_isWellOn 54 = .ok (.ireturn, 1) := by decide +kernel
theorem dX8_celebrate_0 : decode cX8_celebrate 0 = .ok (.iconst 0, 1) := by decide +kernel
theorem dX8_celebrate_1 : decode cX8_celebrate 1 = .ok (.istore_n 1, 1) := by decide +kernel
theorem dX8_celebrate_2 : decode cX8_celebrate 2 = .ok (.iload_n 1, 1) := by decide +kernel
theorem dX8_celebrate_3 : decode cX8_celebrate 3 = .ok (.bipush 8, 2) := by decide +kernel
theorem dX8_celebrate_5 : decode cX8_celebrate 5 = .ok (.if_icmp .ge 23, 3) := by decide +kernel
theorem dX8_celebrate_8 : decode cX8_celebrate 8 = .ok (.aload_n 0, 1) := by decide +kernel
theorem dX8_celebrate_9 : decode cX8_celebrate 9 = .ok (.getfield 37, 3) := by decide +kernel
theorem dX8_celebrate_12 : decode cX8_celebrate 12 = .ok (.iload_n 1, 1) := by decide +kernel
theorem dX8_celebrate_13 : decode cX8_celebrate 13 = .ok (.iconst (-1), 1) := by decide +kernel
theorem dX8_celebrate_14 : decode cX8_celebrate 14 = .ok (.iastore, 1) := by decide +kernel
theorem dX8_celebrate_15 : decode cX8_celebrate 15 = .ok (.aload_n 0, 1) := by decide +kernel
theorem dX8_celebrate_16 : decode cX8_celebrate 16 = .ok (.getfield 40, 3) := by decide +kernel
theorem dX8_celebrate_19 : decode cX8_celebrate 19 = .ok (.iload_n 1, 1) := by decide +kernel
theorem dX8_celebrate_20 : decode cX8_celebrate 20 = .ok (.iconst (-1), 1) := by decide +kernel
theorem dX8_celebrate_21 : decode cX8_celebrate 21 = .ok (.iastore, 1) := by decide +kernel
theorem dX8_celebrate_22 : decode cX8_celebrate 22 = .ok (.iinc 1 1, 3) := by decide +kernel
theorem dX8_celebrate_25 : decode cX8_celebrate 25 = .ok (.goto (-23), 3) := by decide +kernel
theorem dX8_celebrate_28 : decode cX8_celebrate 28 = .ok (.aload_n 0, 1) := by decide +kernel
theorem dX8_celebrate_29 : decode cX8_celebrate 29 = .ok (.iconst 0, 1) := by decide +kernel
theorem dX8_celebrate_30 : decode cX8_celebrate 30 = .ok (.putfield 181, 3) := by decide +kernel
theorem dX8_celebrate_33 : decode cX8_celebrate 33 = .ok (.aload_n 0, 1) := by decide +kernel
theorem dX8_celebrate_34 : decode cX8_celebrate 34 = .ok (.iconst (-1), 1) := by decide +kernel
theorem dX8_celebrate_35 : decode cX8_celebrate 35 = .ok (.putfield 184, 3) := by decide +kernel
theorem dX8_celebrate_38 : decode cX8_celebrate 38 = .ok (.iconst 0, 1) := by decide +kernel
theorem dX8_celebrate_39 : decode cX8_celebrate 39 = .ok (.istore_n 1, 1) := by decide +kernel
theorem dX8_celebrate_40 : decode cX8_celebrate 40 = .ok (.iload_n 1, 1) := by decide +kernel
theorem dX8_celebrate_41 : decode cX8_celebrate 41 = .ok (.sipush 200, 3) := by decide +kernel
theorem dX8_celebrate_44 : decode cX8_celebrate 44 = .ok (.if_icmp .ge 232, 3) := by decide +kernel
theorem dX8_celebrate_47 : decode cX8_celebrate 47 = .ok (.aload_n 0, 1) := by decide +kernel
theorem dX8_celebrate_48 : decode cX8_celebrate 48 = .ok (.invokevirtual 187, 3) := by decide +kernel
theorem dX8_celebrate_51 : decode cX8_celebrate 51 = .ok (.istore_n 2, 1) := by decide +kernel
theorem dX8_celebrate_52 : decode cX8_celebrate 52 = .ok (.aload_n 0, 1) := by decide +kernel
theorem dX8_celebrate_53 : decode cX8_celebrate 53 = .ok (.iload_n 1, 1) := by decide +kernel
theorem dX8_celebrate_54 : decode cX8_celebrate 54 = .ok (.invokevirtual 190, 3) := by decide +kernel
theorem dX8_celebrate_57 : decode cX8_celebrate 57 = .ok (.istore_n 3, 1) := by decide +kernel
theorem dX8_celebrate_58 : decode cX8_celebrate 58 = .ok (.iconst (-1), 1) := by decide +kernel
theorem dX8_celebrate_59 : decode cX8_celebrate 59 = .ok (.istore 4, 2) := by decide +kernel
theorem dX8_celebrate_61 : decode cX8_celebrate 61 = .ok (.iconst 0, 1) := by decide +kernel
theorem dX8_celebrate_62 : decode cX8_celebrate 62 = .ok (.istore 5, 2) := by decide +kernel
theorem dX8_celebrate_64 : decode cX8_celebrate 64 = .ok (.iload 5, 2) := by decide +kernel
theorem dX8_celebrate_66 : decode cX8_celebrate 66 = .ok (.iload_n 3, 1) := by decide +kernel
theorem dX8_celebrate_67 : decode cX8_celebrate 67 = .ok (.if_icmp .gt 70, 3) := by decide +kernel
theorem dX8_celebrate_70 : decode cX8_celebrate 70 = .ok (.iload 5, 2) := by decide +kernel
theorem dX8_celebrate_72 : decode cX8_celebrate 72 = .ok (.iload_n 3, 1) := by decide +kernel
theorem dX8_celebrate_73 : decode cX8_celebrate 73 = .ok (.iconst (-1), 1) := by decide +kernel
theorem dX8_celebrate_74 : decode cX8_celebrate 74 = .ok (.ixor, 1) := by decide +kernel
theorem dX8_celebrate_75 : decode cX8_celebrate 75 = .ok (.iand, 1) := by decide +kernel
theorem dX8_celebrate_76 : decode cX8_celebrate 76 = .ok (.ifCond .ne 26, 3) := by decide +kernel
theorem dX8_celebrate_79 : decode cX8_celebrate 79 = .ok (.iload 4, 2) := by decide +kernel
theorem dX8_celebrate_81 : decode cX8_celebrate 81 = .ok (.iconst (-1), 1) := by decide +kernel
theorem dX8_celebrate_82 : decode cX8_celebrate 82 = .ok (.if_icmp .eq 16, 3) := by decide +kernel
theorem dX8_celebrate_85 : decode cX8_celebrate 85 = .ok (.iload 5, 2) := by decide +kernel
theorem dX8_celebrate_87 : decode cX8_celebrate 87 = .ok (.invokestatic 193, 3) := by decide +kernel
theorem dX8_celebrate_90 : decode cX8_celebrate 90 = .ok (.iload 4, 2) := by decide +kernel
theorem dX8_celebrate_92 : decode cX8_celebrate 92 = .ok (.invokestatic 193, 3) := by decide +kernel
theorem dX8_celebrate_95 : decode cX8_celebrate 95 = .ok (.if_icmp .le 7, 3) := by decide +kernel
theorem dX8_celebrate_98 : decode cX8_celebrate 98 = .ok (.iconst 1, 1) := by decide +kernel
theorem dX8_celebrate_99 : decode cX8_celebrate 99 = .ok (.goto 4, 3) := by decide +kernel
theorem dX8_celebrate_102 : decode cX8_celebrate 102 = .ok (.iconst 0, 1) := by decide +kernel
theorem dX8_celebrate_103 : decode cX8_celebrate 103 = .ok (.istore 6, 2) := by decide +kernel
theorem dX8_celebrate_105 : decode cX8_celebrate 105 = .ok (.iload 6, 2) := by decide +kernel
theorem dX8_celebrate_107 : decode cX8_celebrate 107 = .ok (.ifCond .eq 20, 3) := by decide +kernel
theorem dX8_celebrate_110 : decode cX8_celebrate 110 = .ok (.aload_n 0, 1) := by decide +kernel
theorem dX8_celebrate_111 : decode cX8_celebrate 111 = .ok (.iload_n 2, 1) := by decide +kernel
theorem dX8_celebrate_112 : decode cX8_celebrate 112 = .ok (.iload 5, 2) := by decide +kernel
theorem dX8_celebrate_114 : decode cX8_celebrate 114 = .ok (.ixor, 1) := by decide +kernel
theorem dX8_celebrate_115 : decode cX8_celebrate 115 = .ok (.iload_n 1, 1) := by decide +kernel
theorem dX8_celebrate_116 : decode cX8_celebrate 116 = .ok (.invokevirtual 196, 3) := by decide +kernel
theorem dX8_celebrate_119 : decode cX8_celebrate 119 = .ok (.ifCond .eq 8, 3) := by decide +kernel
theorem dX8_celebrate_122 : decode cX8_celebrate 122 = .ok (.iload 5, 2) := by decide +kernel
theorem dX8_celebrate_124 : decode cX8_celebrate 124 = .ok (.goto 5, 3) := by decide +kernel
theorem dX8_celebrate_127 : decode cX8_celebrate 127 = .ok (.iload 4, 2) := by decide +kernel
theorem dX8_celebrate_129 : decode cX8_celebrate 129 = .ok (.istore 4, 2) := by decide +kernel
theorem dX8_celebrate_131 : decode cX8_celebrate 131 = .ok (.iinc 5 1, 3) := by decide +kernel
theorem dX8_celebrate_134 : decode cX8_celebrate 134 = .ok (.goto (-70), 3) := by decide +kernel
theorem dX8_celebrate_137 : decode cX8_celebrate 137 = .ok (.iload 4, 2) := by decide +kernel
theorem dX8_celebrate_139 : decode cX8_celebrate 139 = .ok (.iconst (-1), 1) := by decide +kernel
theorem dX8_celebrate_140 : decode cX8_celebrate 140 = .ok (.if_icmp .ne 35, 3) := by decide +kernel
theorem dX8_celebrate_143 : decode cX8_celebrate 143 = .ok (.aload_n 0, 1) := by decide +kernel
theorem dX8_celebrate_144 : decode cX8_celebrate 144 = .ok (.aload_n 0, 1) := by decide +kernel
theorem dX8_celebrate_145 : decode cX8_celebrate 145 = .ok (.getfield 181, 3) := by decide +kernel
theorem dX8_celebrate_148 : decode cX8_celebrate 148 = .ok (.ifCond .ne 7, 3) := by decide +kernel
theorem dX8_celebrate_151 : decode cX8_celebrate 151 = .ok (.iload_n 1, 1) := by decide +kernel
theorem dX8_celebrate_152 : decode cX8_celebrate 152 = .ok (.goto 7, 3) := by decide +kernel
theorem dX8_celebrate_155 : decode cX8_celebrate 155 = .ok (.aload_n 0, 1) := by decide +kernel
theorem dX8_celebrate_156 : decode cX8_celebrate 156 = .ok (.getfield 184, 3) := by decide +kernel
theorem dX8_celebrate_159 : decode cX8_celebrate 159 = .ok (.putfield 184, 3) := by decide +kernel
theorem dX8_celebrate_162 : decode cX8_celebrate 162 = .ok (.aload_n 0, 1) := by decide +kernel
theorem dX8_celebrate_163 : decode cX8_celebrate 163 = .ok (.dup, 1) := by decide +kernel
theorem dX8_celebrate_164 : decode cX8_celebrate 164 = .ok (.getfield 181, 3) := by decide +kernel
theorem dX8_celebrate_167 : decode cX8_celebrate 167 = .ok (.iconst 1, 1) := by decide +kernel
theorem dX8_celebrate_168 : decode cX8_celebrate 168 = .ok (.iadd, 1) := by decide +kernel
theorem dX8_celebrate_169 : decode cX8_celebrate 169 = .ok (.putfield 181, 3) := by decide +kernel
theorem dX8_celebrate_172 : decode cX8_celebrate 172 = .ok (.iconst 0, 1) := by decide +kernel
theorem dX8_celebrate_173 : decode cX8_celebrate 173 = .ok (.istore 4, 2) := by decide +kernel
theorem dX8_celebrate_175 : decode cX8_celebrate 175 = .ok (.iconst 0, 1) := by decide +kernel
theorem dX8_celebrate_176 : decode cX8_celebrate 176 = .ok (.istore 5, 2) := by decide +kernel
theorem dX8_celebrate_178 : decode cX8_celebrate 178 = .ok (.iload 5, 2) := by decide +kernel
theorem dX8_celebrate_180 : decode cX8_celebrate 180 = .ok (.aload_n 0, 1) := by decide +kernel
theorem dX8_celebrate_181 : decode cX8_celebrate 181 = .ok (.invokevirtual 70, 3) := by decide +kernel
theorem dX8_celebrate_184 : decode cX8_celebrate 184 = .ok (.if_icmp .ge 76, 3) := by decide +kernel
theorem dX8_celebrate_187 : decode cX8_celebrate 187 = .ok (.iload 4, 2) := by decide +kernel
theorem dX8_celebrate_189 : decode cX8_celebrate 189 = .ok (.iload 5, 2) := by decide +kernel
theorem dX8_celebrate_191 : decode cX8_celebrate 191 = .ok (.ishr, 1) := by decide +kernel
theorem dX8_celebrate_192 : decode cX8_celebrate 192 = .ok (.iconst 1, 1) := by decide +kernel
theorem dX8_celebrate_193 : decode cX8_celebrate 193 = .ok (.iand, 1) := by decide +kernel
theorem dX8_celebrate_194 : decode cX8_celebrate 194 = .ok (.iconst 1, 1) := by decide +kernel
theorem dX8_celebrate_195 : decode cX8_celebrate 195 = .ok (.if_icmp .ne 59, 3) := by decide +kernel
theorem dX8_celebrate_198 : decode cX8_celebrate 198 = .ok (.aload_n 0, 1) := by decide +kernel
theorem dX8_celebrate_199 : decode cX8_celebrate 199 = .ok (.getfield 40, 3) := by decide +kernel
theorem dX8_celebrate_202 : decode cX8_celebrate 202 = .ok (.iload 5, 2) := by decide +kernel
theorem dX8_celebrate_204 : decode cX8_celebrate 204 = .ok (.iload_n 2, 1) := by decide +kernel
theorem dX8_celebrate_205 : decode cX8_celebrate 205 = .ok (.iload 5, 2) := by decide +kernel
theorem dX8_celebrate_207 : decode cX8_celebrate 207 = .ok (.ishr, 1) := by decide +kernel
theorem dX8_celebrate_208 : decode cX8_celebrate 208 = .ok (.iconst 1, 1) := by decide +kernel
theorem dX8_celebrate_209 : decode cX8_celebrate 209 = .ok (.iand, 1) := by decide +kernel
theorem dX8_celebrate_210 : decode cX8_celebrate 210 = .ok (.iconst 1, 1) := by decide +kernel
theorem dX8_celebrate_211 : decode cX8_celebrate 211 = .ok (.if_icmp .ne 7, 3) := by decide +kernel
theorem dX8_celebrate_214 : decode cX8_celebrate 214 = .ok (.iload_n 1, 1) := by decide +kernel
theorem dX8_celebrate_215 : decode cX8_celebrate 215 = .ok (.goto 10, 3) := by decide +kernel
theorem dX8_celebrate_218 : decode cX8_celebrate 218 = .ok (.aload_n 0, 1) := by decide +kernel
theorem dX8_celebrate_219 : decode cX8_celebrate 219 = .ok (.getfield 40, 3) := by decide +kernel
theorem dX8_celebrate_222 : decode cX8_celebrate 222 = .ok (.iload 5, 2) := by decide +kernel
theorem dX8_celebrate_224 : decode cX8_celebrate 224 = .ok (.iaload, 1) := by decide +kernel
theorem dX8_celebrate_225 : decode cX8_celebrate 225 = .ok (.iastore, 1) := by decide +kernel
theorem dX8_celebrate_226 : decode cX8_celebrate 226 = .ok (.aload_n 0, 1) := by decide +kernel
theorem dX8_celebrate_227 : decode cX8_celebrate 227 = .ok (.getfield 37, 3) := by decide +kernel
theorem dX8_celebrate_230 : decode cX8_celebrate 230 = .ok (.iload 5, 2) := by decide +kernel
theorem dX8_celebrate_232 : decode cX8_celebrate 232 = .ok (.iload_n 2, 1) := by decide +kernel
theorem dX8_celebrate_233 : decode cX8_celebrate 233 = .ok (.iload 5, 2) := by decide +kernel
theorem dX8_celebrate_235 : decode cX8_celebrate 235 = .ok (.ishr, 1) := by decide +kernel
theorem dX8_celebrate_236 : decode cX8_celebrate 236 = .ok (.iconst 1, 1) := by decide +kernel
theorem dX8_celebrate_237 : decode cX8_celebrate 237 = .ok (.iand, 1) := by decide +kernel
theorem dX8_celebrate_238 : decode cX8_celebrate 238 = .ok (.iconst 1, 1) := by decide +kernel
theorem dX8_celebrate_239 : decode cX8_celebrate 239 = .ok (.if_icmp .ne 13, 3) := by decide +kernel
theorem dX8_celebrate_242 : decode cX8_celebrate 242 = .ok (.aload_n 0, 1) := by decide +kernel
theorem dX8_celebrate_243 : decode cX8_celebrate 243 = .ok (.getfield 37, 3) := by decide +kernel
theorem dX8_celebrate_246 : decode cX8_celebrate 246 = .ok (.iload 5, 2) := by decide +kernel
theorem dX8_celebrate_248 : decode cX8_celebrate 248 = .ok (.iaload, 1) := by decide +kernel
theorem dX8_celebrate_249 : decode cX8_celebrate 249 = .ok (.goto 4, 3) := by decide +kernel
theorem dX8_celebrate_252 : decode cX8_celebrate 252 = .ok (.iload_n 1, 1) := by decide +kernel
theorem dX8_celebrate_253 : decode cX8_celebrate 253 = .ok (.iastore, 1) := by decide +kernel
theorem dX8_celebrate_254 : decode cX8_celebrate 254 = .ok (.iinc 5 1, 3) := by decide +kernel
theorem dX8_celebrate_257 : decode cX8_celebrate 257 = .ok (.goto (-79), 3) := by decide +kernel
theorem dX8_celebrate_260 : decode cX8_celebrate 260 = .ok (.aload_n 0, 1) := by decide +kernel
theorem dX8_celebrate_261 : decode cX8_celebrate 261 = .ok (.getfield 43, 3) := by decide +kernel
theorem dX8_celebrate_264 : decode cX8_celebrate 264 = .ok (.iload_n 1, 1) := by decide +kernel
theorem dX8_celebrate_265 : decode cX8_celebrate 265 = .ok (.iload_n 2, 1) := by decide +kernel
theorem dX8_celebrate_266 : decode cX8_celebrate 266 = .ok (.iload 4, 2) := by decide +kernel
theorem dX8_celebrate_268 : decode cX8_celebrate 268 = .ok (.ixor, 1) := by decide +kernel
theorem dX8_celebrate_269 : decode cX8_celebrate 269 = .ok (.iastore, 1) := by decide +kernel
theorem dX8_celebrate_270 : decode cX8_celebrate 270 = .ok (.iinc 1 1, 3) := by decide +kernel
theorem dX8_celebrate_273 : decode cX8_celebrate 273 = .ok (.goto (-233), 3) := by decide +kernel
theorem dX8_celebrate_276 : decode cX8_celebrate 276 = .ok (.return_, 1) := by decide +kernel
theorem dX8_on_0 : decode cX8_on 0 = .ok (.iload_n 1, 1) := by decide +kernel
theorem dX8_on_1 : decode cX8_on 1 = .ok (.i2l, 1) := by decide +kernel
theorem dX8_on_2 : decode cX8_on 2 = .ok (.lconst 0, 1) := by decide +kernel
theorem dX8_on_3 : decode cX8_on 3 = .ok (.ldc2_w 173, 3) := by decide +kernel
theorem dX8_on_6 : decode cX8_on 6 = .ok (.invokestatic 74, 3) := by decide +kernel
theorem dX8_on_9 : decode cX8_on 9 = .ok (.ifCond .ne 10, 3) := by decide +kernel
theorem dX8_on_12 : decode cX8_on 12 = .ok (.aload_n 0, 1) := by decide +kernel
theorem dX8_on_13 : decode cX8_on 13 = .ok (.bipush (-2), 2) := by decide +kernel
theorem dX8_on_15 : decode cX8_on 15 = .ok (.invokevirtual 87, 3) := by decide +kernel
theorem dX8_on_18 : decode cX8_on 18 = .ok (.ireturn, 1) := by decide +kernel
theorem dX8_on_19 : decode cX8_on 19 = .ok (.aload_n 0, 1) := by decide +kernel
theorem dX8_on_20 : decode cX8_on 20 = .ok (.invokevirtual 200, 3) := by decide +kernel
theorem dX8_on_23 : decode cX8_on 23 = .ok (.aload_n 0, 1) := by decide +kernel
theorem dX8_on_24 : decode cX8_on 24 = .ok (.getfield 43, 3) := by decide +kernel
theorem dX8_on_27 : decode cX8_on 27 = .ok (.iload_n 1, 1) := by decide +kernel
theorem dX8_on_28 : decode cX8_on 28 = .ok (.iaload, 1) := by decide +kernel
theorem dX8_on_29 : decode cX8_on 29 = .ok (.ireturn, 1) := by decide +kernel
theorem dX8_stepped_0 : decode cX8_stepped 0 = .ok (.aload_n 0, 1) := by decide +kernel
theorem dX8_stepped_1 : decode cX8_stepped 1 = .ok (.iload_n 1, 1) := by decide +kernel
theorem dX8_stepped_2 : decode cX8_stepped 2 = .ok (.invokevirtual 203, 3) := by decide +kernel
theorem dX8_stepped_5 : decode cX8_stepped 5 = .ok (.ifCond .eq 13, 3) := by decide +kernel
theorem dX8_stepped_8 : decode cX8_stepped 8 = .ok (.iload_n 2, 1) := by decide +kernel
theorem dX8_stepped_9 : decode cX8_stepped 9 = .ok (.i2l, 1) := by decide +kernel
theorem dX8_stepped_10 : decode cX8_stepped 10 = .ok (.lconst 0, 1) := by decide +kernel
theorem dX8_stepped_11 : decode cX8_stepped 11 = .ok (.lconst 1, 1) := by decide +kernel
theorem dX8_stepped_12 : decode cX8_stepped 12 = .ok (.invokestatic 74, 3) := by decide +kernel
theorem dX8_stepped_15 : decode cX8_stepped 15 = .ok (.ifCond .ne 10, 3) := by decide +kernel
theorem dX8_stepped_18 : decode cX8_stepped 18 = .ok (.aload_n 0, 1) := by decide +kernel
theorem dX8_stepped_19 : decode cX8_stepped 19 = .ok (.bipush (-2), 2) := by decide +kernel
theorem dX8_stepped_21 : decode cX8_stepped 21 = .ok (.invokevirtual 87, 3) := by decide +kernel
theorem dX8_stepped_24 : decode cX8_stepped 24 = .ok (.ireturn, 1) := by decide +kernel
theorem dX8_stepped_25 : decode cX8_stepped 25 = .ok (.aload_n 0, 1) := by decide +kernel
theorem dX8_stepped_26 : decode cX8_stepped 26 = .ok (.invokevirtual 200, 3) := by decide +kernel
theorem dX8_stepped_29 : decode cX8_stepped 29 = .ok (.iload_n 2, 1) := by decide +kernel
theorem dX8_stepped_30 : decode cX8_stepped 30 = .ok (.ifCond .ne 12, 3) := by decide +kernel
theorem dX8_stepped_33 : decode cX8_stepped 33 = .ok (.aload_n 0, 1) := by decide +kernel
theorem dX8_stepped_34 : decode cX8_stepped 34 = .ok (.getfield 37, 3) := by decide +kernel
theorem dX8_stepped_37 : decode cX8_stepped 37 = .ok (.iload_n 1, 1) := by decide +kernel
theorem dX8_stepped_38 : decode cX8_stepped 38 = .ok (.iaload, 1) := by decide +kernel
theorem dX8_stepped_39 : decode cX8_stepped 39 = .ok (.goto 9, 3) := by decide +kernel
theorem dX8_stepped_42 : decode cX8_stepped 42 = .ok (.aload_n 0, 1) := by decide +kernel
theorem dX8_stepped_43 : decode cX8_stepped 43 = .ok (.getfield 40, 3) := by decide +kernel
theorem dX8_stepped_46 : decode cX8_stepped 46 = .ok (.iload_n 1, 1) := by decide +kernel
theorem dX8_stepped_47 : decode cX8_stepped 47 = .ok (.iaload, 1) := by decide +kernel
theorem dX8_stepped_48 : decode cX8_stepped 48 = .ok (.ireturn, 1) := by decide +kernel
theorem dX8_faulty_0 : decode cX8_faulty 0 = .ok (.iload_n 1, 1) := by decide +kernel
theorem dX8_faulty_1 : decode cX8_faulty 1 = .ok (.i2l, 1) := by decide +kernel
theorem dX8_faulty_2 : decode cX8_faulty 2 = .ok (.lconst 0, 1) := by decide +kernel
theorem dX8_faulty_3 : decode cX8_faulty 3 = .ok (.lconst 1, 1) := by decide +kernel
theorem dX8_faulty_4 : decode cX8_faulty 4 = .ok (.invokestatic 74, 3) := by decide +kernel
theorem dX8_faulty_7 : decode cX8_faulty 7 = .ok (.ifCond .ne 10, 3) := by decide +kernel
theorem dX8_faulty_10 : decode cX8_faulty 10 = .ok (.aload_n 0, 1) := by decide +kernel
theorem dX8_faulty_11 : decode cX8_faulty 11 = .ok (.bipush (-2), 2) := by decide +kernel
theorem dX8_faulty_13 : decode cX8_faulty 13 = .ok (.invokevirtual 87, 3) := by decide +kernel
theorem dX8_faulty_16 : decode cX8_faulty 16 = .ok (.ireturn, 1) := by decide +kernel
theorem dX8_faulty_17 : decode cX8_faulty 17 = .ok (.aload_n 0, 1) := by decide +kernel
theorem dX8_faulty_18 : decode cX8_faulty 18 = .ok (.invokevirtual 200, 3) := by decide +kernel
theorem dX8_faulty_21 : decode cX8_faulty 21 = .ok (.iload_n 1, 1) := by decide +kernel
theorem dX8_faulty_22 : decode cX8_faulty 22 = .ok (.ifCond .ne 10, 3) := by decide +kernel
theorem dX8_faulty_25 : decode cX8_faulty 25 = .ok (.aload_n 0, 1) := by decide +kernel
theorem dX8_faulty_26 : decode cX8_faulty 26 = .ok (.getfield 181, 3) := by decide +kernel
theorem dX8_faulty_29 : decode cX8_faulty 29 = .ok (.goto 7, 3) := by decide +kernel
theorem dX8_faulty_32 : decode cX8_faulty 32 = .ok (.aload_n 0, 1) := by decide +kernel
theorem dX8_faulty_33 : decode cX8_faulty 33 = .ok (.getfield 184, 3) := by decide +kernel
theorem dX8_faulty_36 : decode cX8_faulty 36 = .ok (.ireturn, 1) := by decide +kernel
theorem dX8_timeOf_0 : decode cX8_timeOf 0 = .ok (.iconst 0, 1) := by decide +kernel
theorem dX8_timeOf_1 : decode cX8_timeOf 1 = .ok (.istore_n 2, 1) := by decide +kernel
theorem dX8_timeOf_2 : decode cX8_timeOf 2 = .ok (.iconst 0, 1) := by decide +kernel
theorem dX8_timeOf_3 : decode cX8_timeOf 3 = .ok (.istore_n 3, 1) := by decide +kernel
theorem dX8_timeOf_4 : decode cX8_timeOf 4 = .ok (.iload_n 3, 1) := by decide +kernel
theorem dX8_timeOf_5 : decode cX8_timeOf 5 = .ok (.aload_n 0, 1) := by decide +kernel
theorem dX8_timeOf_6 : decode cX8_timeOf 6 = .ok (.invokevirtual 70, 3) := by decide +kernel
theorem dX8_timeOf_9 : decode cX8_timeOf 9 = .ok (.if_icmp .ge 39, 3) := by decide +kernel
theorem dX8_timeOf_12 : decode cX8_timeOf 12 = .ok (.iload_n 1, 1) := by decide +kernel
theorem dX8_timeOf_13 : decode cX8_timeOf 13 = .ok (.iload_n 3, 1) := by decide +kernel
theorem dX8_timeOf_14 : decode cX8_timeOf 14 = .ok (.ishr, 1) := by decide +kernel
theorem dX8_timeOf_15 : decode cX8_timeOf 15 = .ok (.iconst 1, 1) := by decide +kernel
theorem dX8_timeOf_16 : decode cX8_timeOf 16 = .ok (.iand, 1) := by decide +kernel
theorem dX8_timeOf_17 : decode cX8_timeOf 17 = .ok (.iconst 1, 1) := by decide +kernel
theorem dX8_timeOf_18 : decode cX8_timeOf 18 = .ok (.if_icmp .ne 22, 3) := by decide +kernel
theorem dX8_timeOf_21 : decode cX8_timeOf 21 = .ok (.aload_n 0, 1) := by decide +kernel
theorem dX8_timeOf_22 : decode cX8_timeOf 22 = .ok (.iload_n 3, 1) := by decide +kernel
theorem dX8_timeOf_23 : decode cX8_timeOf 23 = .ok (.iconst 1, 1) := by decide +kernel
theorem dX8_timeOf_24 : decode cX8_timeOf 24 = .ok (.invokevirtual 96, 3) := by decide +kernel
theorem dX8_timeOf_27 : decode cX8_timeOf 27 = .ok (.iload_n 2, 1) := by decide +kernel
theorem dX8_timeOf_28 : decode cX8_timeOf 28 = .ok (.if_icmp .le 12, 3) := by decide +kernel
theorem dX8_timeOf_31 : decode cX8_timeOf 31 = .ok (.aload_n 0, 1) := by decide +kernel
theorem dX8_timeOf_32 : decode cX8_timeOf 32 = .ok (.iload_n 3, 1) := by decide +kernel
theorem dX8_timeOf_33 : decode cX8_timeOf 33 = .ok (.iconst 1, 1) := by decide +kernel
theorem dX8_timeOf_34 : decode cX8_timeOf 34 = .ok (.invokevirtual 96, 3) := by decide +kernel
theorem dX8_timeOf_37 : decode cX8_timeOf 37 = .ok (.goto 4, 3) := by decide +kernel
theorem dX8_timeOf_40 : decode cX8_timeOf 40 = .ok (.iload_n 2, 1) := by decide +kernel
theorem dX8_timeOf_41 : decode cX8_timeOf 41 = .ok (.istore_n 2, 1) := by decide +kernel
theorem dX8_timeOf_42 : decode cX8_timeOf 42 = .ok (.iinc 3 1, 3) := by decide +kernel
theorem dX8_timeOf_45 : decode cX8_timeOf 45 = .ok (.goto (-41), 3) := by decide +kernel
theorem dX8_timeOf_48 : decode cX8_timeOf 48 = .ok (.iload_n 2, 1) := by decide +kernel
theorem dX8_timeOf_49 : decode cX8_timeOf 49 = .ok (.ireturn, 1) := by decide +kernel
theorem dX8_findPrices_0 : decode cX8_findPrices 0 = .ok (.iconst 1, 1) := by decide +kernel
theorem dX8_findPrices_1 : decode cX8_findPrices 1 = .ok (.istore_n 1, 1) := by decide +kernel
theorem dX8_findPrices_2 : decode cX8_findPrices 2 = .ok (.iload_n 1, 1) := by decide +kernel
theorem dX8_findPrices_3 : decode cX8_findPrices 3 = .ok (.aload_n 0, 1) := by decide +kernel
theorem dX8_findPrices_4 : decode cX8_findPrices 4 = .ok (.invokevirtual 78, 3) := by decide +kernel
theorem dX8_findPrices_7 : decode cX8_findPrices 7 = .ok (.if_icmp .gt 51, 3) := by decide +kernel
theorem dX8_findPrices_10 : decode cX8_findPrices 10 = .ok (.aload_n 0, 1) := by decide +kernel
theorem dX8_findPrices_11 : decode cX8_findPrices 11 = .ok (.getfield 55, 3) := by decide +kernel
theorem dX8_findPrices_14 : decode cX8_findPrices 14 = .ok (.iload_n 1, 1) := by decide +kernel
theorem dX8_findPrices_15 : decode cX8_findPrices 15 = .ok (.aload_n 0, 1) := by decide +kernel
theorem dX8_findPrices_16 : decode cX8_findPrices 16 = .ok (.iload_n 1, 1) := by decide +kernel
theorem dX8_findPrices_17 : decode cX8_findPrices 17 = .ok (.iconst 0, 1) := by decide +kernel
theorem dX8_findPrices_18 : decode cX8_findPrices 18 = .ok (.iconst 0, 1) := by decide +kernel
theorem dX8_findPrices_19 : decode cX8_findPrices 19 = .ok (.invokevirtual 175, 3) := by decide +kernel
theorem dX8_findPrices_22 : decode cX8_findPrices 22 = .ok (.ifCond .eq 7, 3) := by decide +kernel
theorem dX8_findPrices_25 : decode cX8_findPrices 25 = .ok (.iconst 0, 1) := by decide +kernel
theorem dX8_findPrices_26 : decode cX8_findPrices 26 = .ok (.goto 25, 3) := by decide +kernel
theorem dX8_findPrices_29 : decode cX8_findPrices 29 = .ok (.aload_n 0, 1) := by decide +kernel
theorem dX8_findPrices_30 : decode cX8_findPrices 30 = .ok (.iload_n 1, 1) := by decide +kernel
theorem dX8_findPrices_31 : decode cX8_findPrices 31 = .ok (.iconst 0, 1) := by decide +kernel
theorem dX8_findPrices_32 : decode cX8_findPrices 32 = .ok (.iconst 1, 1) := by decide +kernel
theorem dX8_findPrices_33 : decode cX8_findPrices 33 = .ok (.invokevirtual 175, 3) := by decide +kernel
theorem dX8_findPrices_36 : decode cX8_findPrices 36 = .ok (.ifCond .eq 13, 3) := by decide +kernel
theorem dX8_findPrices_39 : decode cX8_findPrices 39 = .ok (.aload_n 0, 1) := by decide +kernel
theorem dX8_findPrices_40 : decode cX8_findPrices 40 = .ok (.getfield 7, 3) := by decide +kernel
theorem dX8_findPrices_43 : decode cX8_findPrices 43 = .ok (.bipush 33, 2) := by decide +kernel
theorem dX8_findPrices_45 : decode cX8_findPrices 45 = .ok (.iaload, 1) := by decide +kernel
theorem dX8_findPrices_46 : decode cX8_findPrices 46 = .ok (.goto 5, 3) := by decide +kernel
theorem dX8_findPrices_49 : decode cX8_findPrices 49 = .ok (.ldc 206, 2) := by decide +kernel
theorem dX8_findPrices_51 : decode cX8_findPrices 51 = .ok (.iastore, 1) := by decide +kernel
theorem dX8_findPrices_52 : decode cX8_findPrices 52 = .ok (.iinc 1 1, 3) := by decide +kernel
theorem dX8_findPrices_55 : decode cX8_findPrices 55 = .ok (.goto (-53), 3) := by decide +kernel
theorem dX8_findPrices_58 : decode cX8_findPrices 58 = .ok (.return_, 1) := by decide +kernel
theorem dX8_mayGo_0 : decode cX8_mayGo 0 = .ok (.iload_n 1, 1) := by decide +kernel
theorem dX8_mayGo_1 : decode cX8_mayGo 1 = .ok (.iload_n 2, 1) := by decide +kernel
theorem dX8_mayGo_2 : decode cX8_mayGo 2 = .ok (.iconst (-1), 1) := by decide +kernel
theorem dX8_mayGo_3 : decode cX8_mayGo 3 = .ok (.ixor, 1) := by decide +kernel
theorem dX8_mayGo_4 : decode cX8_mayGo 4 = .ok (.iand, 1) := by decide +kernel
theorem dX8_mayGo_5 : decode cX8_mayGo 5 = .ok (.ifCond .ne 27, 3) := by decide +kernel
theorem dX8_mayGo_8 : decode cX8_mayGo 8 = .ok (.iload_n 1, 1) := by decide +kernel
theorem dX8_mayGo_9 : decode cX8_mayGo 9 = .ok (.iload_n 2, 1) := by decide +kernel
theorem dX8_mayGo_10 : decode cX8_mayGo 10 = .ok (.iand, 1) := by decide +kernel
theorem dX8_mayGo_11 : decode cX8_mayGo 11 = .ok (.iload_n 2, 1) := by decide +kernel
theorem dX8_mayGo_12 : decode cX8_mayGo 12 = .ok (.ineg, 1) := by decide +kernel
theorem dX8_mayGo_13 : decode cX8_mayGo 13 = .ok (.iand, 1) := by decide +kernel
theorem dX8_mayGo_14 : decode cX8_mayGo 14 = .ok (.ifCond .eq 18, 3) := by decide +kernel
theorem dX8_mayGo_17 : decode cX8_mayGo 17 = .ok (.aload_n 0, 1) := by decide +kernel
theorem dX8_mayGo_18 : decode cX8_mayGo 18 = .ok (.getfield 55, 3) := by decide +kernel
theorem dX8_mayGo_21 : decode cX8_mayGo 21 = .ok (.iload_n 1, 1) := by decide +kernel
theorem dX8_mayGo_22 : decode cX8_mayGo 22 = .ok (.iaload, 1) := by decide +kernel
theorem dX8_mayGo_23 : decode cX8_mayGo 23 = .ok (.ldc 206, 2) := by decide +kernel
theorem dX8_mayGo_25 : decode cX8_mayGo 25 = .ok (.if_icmp .ge 7, 3) := by decide +kernel
theorem dX8_mayGo_28 : decode cX8_mayGo 28 = .ok (.iconst 1, 1) := by decide +kernel
theorem dX8_mayGo_29 : decode cX8_mayGo 29 = .ok (.goto 4, 3) := by decide +kernel
theorem dX8_mayGo_32 : decode cX8_mayGo 32 = .ok (.iconst 0, 1) := by decide +kernel
theorem dX8_mayGo_33 : decode cX8_mayGo 33 = .ok (.ireturn, 1) := by decide +kernel
theorem dX8_findLeast_0 : decode cX8_findLeast 0 = .ok (.aload_n 0, 1) := by decide +kernel
theorem dX8_findLeast_1 : decode cX8_findLeast 1 = .ok (.invokevirtual 207, 3) := by decide +kernel
theorem dX8_findLeast_4 : decode cX8_findLeast 4 = .ok (.aload_n 0, 1) := by decide +kernel
theorem dX8_findLeast_5 : decode cX8_findLeast 5 = .ok (.getfield 46, 3) := by decide +kernel
theorem dX8_findLeast_8 : decode cX8_findLeast 8 = .ok (.iconst 0, 1) := by decide +kernel
theorem dX8_findLeast_9 : decode cX8_findLeast 9 = .ok (.iconst 0, 1) := by decide +kernel
theorem dX8_findLeast_10 : decode cX8_findLeast 10 = .ok (.iastore, 1) := by decide +kernel
theorem dX8_findLeast_11 : decode cX8_findLeast 11 = .ok (.aload_n 0, 1) := by decide +kernel
theorem dX8_findLeast_12 : decode cX8_findLeast 12 = .ok (.getfield 49, 3) := by decide +kernel
theorem dX8_findLeast_15 : decode cX8_findLeast 15 = .ok (.iconst 0, 1) := by decide +kernel
theorem dX8_findLeast_16 : decode cX8_findLeast 16 = .ok (.iconst 0, 1) := by decide +kernel
theorem dX8_findLeast_17 : decode cX8_findLeast 17 = .ok (.iastore, 1) := by decide +kernel
theorem dX8_findLeast_18 : decode cX8_findLeast 18 = .ok (.aload_n 0, 1) := by decide +kernel
theorem dX8_findLeast_19 : decode cX8_findLeast 19 = .ok (.getfield 52, 3) := by decide +kernel
theorem dX8_findLeast_22 : decode cX8_findLeast 22 = .ok (.iconst 0, 1) := by decide +kernel
theorem dX8_findLeast_23 : decode cX8_findLeast 23 = .ok (.iconst 0, 1) := by decide +kernel
theorem dX8_findLeast_24 : decode cX8_findLeast 24 = .ok (.iastore, 1) := by decide +kernel
theorem dX8_findLeast_25 : decode cX8_findLeast 25 = .ok (.iconst 1, 1) := by decide +kernel
theorem dX8_findLeast_26 : decode cX8_findLeast 26 = .ok (.istore_n 1, 1) := by decide +kernel
theorem dX8_findLeast_27 : decode cX8_findLeast 27 = .ok (.iload_n 1, 1) := by decide +kernel
theorem dX8_findLeast_28 : decode cX8_findLeast 28 = .ok (.aload_n 0, 1) := by decide +kernel
theorem dX8_findLeast_29 : decode cX8_findLeast 29 = .ok (.invokevirtual 78, 3) := by decide +kernel
theorem dX8_findLeast_32 : decode cX8_findLeast 32 = .ok (.if_icmp .gt 228, 3) := by decide +kernel
theorem dX8_findLeast_35 : decode cX8_findLeast 35 = .ok (.aload_n 0, 1) := by decide +kernel
theorem dX8_findLeast_36 : decode cX8_findLeast 36 = .ok (.getfield 46, 3) := by decide +kernel
theorem dX8_findLeast_39 : decode cX8_findLeast 39 = .ok (.iload_n 1, 1) := by decide +kernel
theorem dX8_findLeast_40 : decode cX8_findLeast 40 = .ok (.ldc 206, 2) := by decide +kernel
theorem dX8_findLeast_42 : decode cX8_findLeast 42 = .ok (.iastore, 1) := by decide +kernel
theorem dX8_findLeast_43 : decode cX8_findLeast 43 = .ok (.aload_n 0, 1) := by decide +kernel
theorem dX8_findLeast_44 : decode cX8_findLeast 44 = .ok (.getfield 49, 3) := by decide +kernel
theorem dX8_findLeast_47 : decode cX8_findLeast 47 = .ok (.iload_n 1, 1) := by decide +kernel
theorem dX8_findLeast_48 : decode cX8_findLeast 48 = .ok (.ldc 206, 2) := by decide +kernel
theorem dX8_findLeast_50 : decode cX8_findLeast 50 = .ok (.iastore, 1) := by decide +kernel
theorem dX8_findLeast_51 : decode cX8_findLeast 51 = .ok (.aload_n 0, 1) := by decide +kernel
theorem dX8_findLeast_52 : decode cX8_findLeast 52 = .ok (.getfield 52, 3) := by decide +kernel
theorem dX8_findLeast_55 : decode cX8_findLeast 55 = .ok (.iload_n 1, 1) := by decide +kernel
theorem dX8_findLeast_56 : decode cX8_findLeast 56 = .ok (.ldc 206, 2) := by decide +kernel
theorem dX8_findLeast_58 : decode cX8_findLeast 58 = .ok (.iastore, 1) := by decide +kernel
theorem dX8_findLeast_59 : decode cX8_findLeast 59 = .ok (.iconst 1, 1) := by decide +kernel
theorem dX8_findLeast_60 : decode cX8_findLeast 60 = .ok (.istore_n 2, 1) := by decide +kernel
theorem dX8_findLeast_61 : decode cX8_findLeast 61 = .ok (.iload_n 2, 1) := by decide +kernel
theorem dX8_findLeast_62 : decode cX8_findLeast 62 = .ok (.iload_n 1, 1) := by decide +kernel
theorem dX8_findLeast_63 : decode cX8_findLeast 63 = .ok (.if_icmp .gt 191, 3) := by decide +kernel
theorem dX8_findLeast_66 : decode cX8_findLeast 66 = .ok (.iload_n 1, 1) := by decide +kernel
theorem dX8_findLeast_67 : decode cX8_findLeast 67 = .ok (.iload_n 2, 1) := by decide +kernel
theorem dX8_findLeast_68 : decode cX8_findLeast 68 = .ok (.iconst (-1), 1) := by decide +kernel
theorem dX8_findLeast_69 : decode cX8_findLeast 69 = .ok (.ixor, 1) := by decide +kernel
theorem dX8_findLeast_70 : decode cX8_findLeast 70 = .ok (.iand, 1) := by decide +kernel
theorem dX8_findLeast_71 : decode cX8_findLeast 71 = .ok (.istore_n 3, 1) := by decide +kernel
theorem dX8_findLeast_72 : decode cX8_findLeast 72 = .ok (.aload_n 0, 1) := by decide +kernel
theorem dX8_findLeast_73 : decode cX8_findLeast 73 = .ok (.iload_n 2, 1) := by decide +kernel
theorem dX8_findLeast_74 : decode cX8_findLeast 74 = .ok (.iload_n 1, 1) := by decide +kernel
theorem dX8_findLeast_75 : decode cX8_findLeast 75 = .ok (.invokevirtual 210, 3) := by decide +kernel
theorem dX8_findLeast_78 : decode cX8_findLeast 78 = .ok (.ifCond .eq 170, 3) := by decide +kernel
theorem dX8_findLeast_81 : decode cX8_findLeast 81 = .ok (.aload_n 0, 1) := by decide +kernel
theorem dX8_findLeast_82 : decode cX8_findLeast 82 = .ok (.getfield 46, 3) := by decide +kernel
theorem dX8_findLeast_85 : decode cX8_findLeast 85 = .ok (.iload_n 3, 1) := by decide +kernel
theorem dX8_findLeast_86 : decode cX8_findLeast 86 = .ok (.iaload, 1) := by decide +kernel
theorem dX8_findLeast_87 : decode cX8_findLeast 87 = .ok (.ldc 206, 2) := by decide +kernel
theorem dX8_findLeast_89 : decode cX8_findLeast 89 = .ok (.if_icmp .ge 159, 3) := by decide +kernel
theorem dX8_findLeast_92 : decode cX8_findLeast 92 = .ok (.aload_n 0, 1) := by decide +kernel
theorem dX8_findLeast_93 : decode cX8_findLeast 93 = .ok (.iload_n 2, 1) := by decide +kernel
theorem dX8_findLeast_94 : decode cX8_findLeast 94 = .ok (.invokevirtual 213, 3) := by decide +kernel
theorem dX8_findLeast_97 : decode cX8_findLeast 97 = .ok (.aload_n 0, 1) := by decide +kernel
theorem dX8_findLeast_98 : decode cX8_findLeast 98 = .ok (.getfield 46, 3) := by decide +kernel
theorem dX8_findLeast_101 : decode cX8_findLeast 101 = .ok (.iload_n 3, 1) := by decide +kernel
theorem dX8_findLeast_102 : decode cX8_findLeast 102 = .ok (.iaload, 1) := by decide +kernel
theorem dX8_findLeast_103 : decode cX8_findLeast 103 = .ok (.iadd, 1) := by decide +kernel
theorem dX8_findLeast_104 : decode cX8_findLeast 104 = .ok (.istore 4, 2) := by decide +kernel
theorem dX8_findLeast_106 : decode cX8_findLeast 106 = .ok (.aload_n 0, 1) := by decide +kernel
theorem dX8_findLeast_107 : decode cX8_findLeast 107 = .ok (.getfield 55, 3) := by decide +kernel
theorem dX8_findLeast_110 : decode cX8_findLeast 110 = .ok (.iload_n 2, 1) := by decide +kernel
theorem dX8_findLeast_111 : decode cX8_findLeast 111 = .ok (.iaload, 1) := by decide +kernel
theorem dX8_findLeast_112 : decode cX8_findLeast 112 = .ok (.aload_n 0, 1) := by decide +kernel
theorem dX8_findLeast_113 : decode cX8_findLeast 113 = .ok (.getfield 49, 3) := by decide +kernel
theorem dX8_findLeast_116 : decode cX8_findLeast 116 = .ok (.iload_n 3, 1) := by decide +kernel
theorem dX8_findLeast_117 : decode cX8_findLeast 117 = .ok (.iaload, 1) := by decide +kernel
theorem dX8_findLeast_118 : decode cX8_findLeast 118 = .ok (.iadd, 1) := by decide +kernel
theorem dX8_findLeast_119 : decode cX8_findLeast 119 = .ok (.istore 5, 2) := by decide +kernel
theorem dX8_findLeast_121 : decode cX8_findLeast 121 = .ok (.iload 4, 2) := by decide +kernel
theorem dX8_findLeast_123 : decode cX8_findLeast 123 = .ok (.aload_n 0, 1) := by decide +kernel
theorem dX8_findLeast_124 : decode cX8_findLeast 124 = .ok (.getfield 46, 3) := by decide +kernel
theorem dX8_findLeast_127 : decode cX8_findLeast 127 = .ok (.iload_n 1, 1) := by decide +kernel
theorem dX8_findLeast_128 : decode cX8_findLeast 128 = .ok (.iaload, 1) := by decide +kernel
theorem dX8_findLeast_129 : decode cX8_findLeast 129 = .ok (.if_icmp .lt 25, 3) := by decide +kernel
theorem dX8_findLeast_132 : decode cX8_findLeast 132 = .ok (.iload 4, 2) := by decide +kernel
theorem dX8_findLeast_134 : decode cX8_findLeast 134 = .ok (.aload_n 0, 1) := by decide +kernel
theorem dX8_findLeast_135 : decode cX8_findLeast 135 = .ok (.getfield 46, 3) := by decide +kernel
theorem dX8_findLeast_138 : decode cX8_findLeast 138 = .ok (.iload_n 1, 1) := by decide +kernel
theorem dX8_findLeast_139 : decode cX8_findLeast 139 = .ok (.iaload, 1) := by decide +kernel
theorem dX8_findLeast_140 : decode cX8_findLeast 140 = .ok (.if_icmp .ne 18, 3) := by decide +kernel
theorem dX8_findLeast_143 : decode cX8_findLeast 143 = .ok (.iload 5, 2) := by decide +kernel
theorem dX8_findLeast_145 : decode cX8_findLeast 145 = .ok (.aload_n 0, 1) := by decide +kernel
theorem dX8_findLeast_146 : decode cX8_findLeast 146 = .ok (.getfield 49, 3) := by decide +kernel
theorem dX8_findLeast_149 : decode cX8_findLeast 149 = .ok (.iload_n 1, 1) := by decide +kernel
theorem dX8_findLeast_150 : decode cX8_findLeast 150 = .ok (.iaload, 1) := by decide +kernel
theorem dX8_findLeast_151 : decode cX8_findLeast 151 = .ok (.if_icmp .ge 7, 3) := by decide +kernel
theorem dX8_findLeast_154 : decode cX8_findLeast 154 = .ok (.iconst 1, 1) := by decide +kernel
theorem dX8_findLeast_155 : decode cX8_findLeast 155 = .ok (.goto 4, 3) := by decide +kernel
theorem dX8_findLeast_158 : decode cX8_findLeast 158 = .ok (.iconst 0, 1) := by decide +kernel
theorem dX8_findLeast_159 : decode cX8_findLeast 159 = .ok (.istore 6, 2) := by decide +kernel
theorem dX8_findLeast_161 : decode cX8_findLeast 161 = .ok (.aload_n 0, 1) := by decide +kernel
theorem dX8_findLeast_162 : decode cX8_findLeast 162 = .ok (.getfield 46, 3) := by decide +kernel
theorem dX8_findLeast_165 : decode cX8_findLeast 165 = .ok (.iload_n 1, 1) := by decide +kernel
theorem dX8_findLeast_166 : decode cX8_findLeast 166 = .ok (.iload 6, 2) := by decide +kernel
theorem dX8_findLeast_168 : decode cX8_findLeast 168 = .ok (.ifCond .eq 8, 3) := by decide +kernel
theorem dX8_findLeast_171 : decode cX8_findLeast 171 = .ok (.iload 4, 2) := by decide +kernel
theorem dX8_findLeast_173 : decode cX8_findLeast 173 = .ok (.goto 9, 3) := by decide +kernel
theorem dX8_findLeast_176 : decode cX8_findLeast 176 = .ok (.aload_n 0, 1) := by decide +kernel
theorem dX8_findLeast_177 : decode cX8_findLeast 177 = .ok (.getfield 46, 3) := by decide +kernel
theorem dX8_findLeast_180 : decode cX8_findLeast 180 = .ok (.iload_n 1, 1) := by decide +kernel
theorem dX8_findLeast_181 : decode cX8_findLeast 181 = .ok (.iaload, 1) := by decide +kernel
theorem dX8_findLeast_182 : decode cX8_findLeast 182 = .ok (.iastore, 1) := by decide +kernel
theorem dX8_findLeast_183 : decode cX8_findLeast 183 = .ok (.aload_n 0, 1) := by decide +kernel
theorem dX8_findLeast_184 : decode cX8_findLeast 184 = .ok (.getfield 49, 3) := by decide +kernel
theorem dX8_findLeast_187 : decode cX8_findLeast 187 = .ok (.iload_n 1, 1) := by decide +kernel
theorem dX8_findLeast_188 : decode cX8_findLeast 188 = .ok (.iload 6, 2) := by decide +kernel
theorem dX8_findLeast_190 : decode cX8_findLeast 190 = .ok (.ifCond .eq 8, 3) := by decide +kernel
theorem dX8_findLeast_193 : decode cX8_findLeast 193 = .ok (.iload 5, 2) := by decide +kernel
theorem dX8_findLeast_195 : decode cX8_findLeast 195 = .ok (.goto 9, 3) := by decide +kernel
theorem dX8_findLeast_198 : decode cX8_findLeast 198 = .ok (.aload_n 0, 1) := by decide +kernel
theorem dX8_findLeast_199 : decode cX8_findLeast 199 = .ok (.getfield 49, 3) := by decide +kernel
theorem dX8_findLeast_202 : decode cX8_findLeast 202 = .ok (.iload_n 1, 1) := by decide +kernel
theorem dX8_findLeast_203 : decode cX8_findLeast 203 = .ok (.iaload, 1) := by decide +kernel
theorem dX8_findLeast_204 : decode cX8_findLeast 204 = .ok (.iastore, 1) := by decide +kernel
theorem dX8_findLeast_205 : decode cX8_findLeast 205 = .ok (.aload_n 0, 1) := by decide +kernel
theorem dX8_findLeast_206 : decode cX8_findLeast 206 = .ok (.getfield 55, 3) := by decide +kernel
theorem dX8_findLeast_209 : decode cX8_findLeast 209 = .ok (.iload_n 2, 1) := by decide +kernel
theorem dX8_findLeast_210 : decode cX8_findLeast 210 = .ok (.iaload, 1) := by decide +kernel
theorem dX8_findLeast_211 : decode cX8_findLeast 211 = .ok (.aload_n 0, 1) := by decide +kernel
theorem dX8_findLeast_212 : decode cX8_findLeast 212 = .ok (.getfield 52, 3) := by decide +kernel
theorem dX8_findLeast_215 : decode cX8_findLeast 215 = .ok (.iload_n 3, 1) := by decide +kernel
theorem dX8_findLeast_216 : decode cX8_findLeast 216 = .ok (.iaload, 1) := by decide +kernel
theorem dX8_findLeast_217 : decode cX8_findLeast 217 = .ok (.iadd, 1) := by decide +kernel
theorem dX8_findLeast_218 : decode cX8_findLeast 218 = .ok (.istore 7, 2) := by decide +kernel
theorem dX8_findLeast_220 : decode cX8_findLeast 220 = .ok (.aload_n 0, 1) := by decide +kernel
theorem dX8_findLeast_221 : decode cX8_findLeast 221 = .ok (.getfield 52, 3) := by decide +kernel
theorem dX8_findLeast_224 : decode cX8_findLeast 224 = .ok (.iload_n 1, 1) := by decide +kernel
theorem dX8_findLeast_225 : decode cX8_findLeast 225 = .ok (.iload 7, 2) := by decide +kernel
theorem dX8_findLeast_227 : decode cX8_findLeast 227 = .ok (.aload_n 0, 1) := by decide +kernel
theorem dX8_findLeast_228 : decode cX8_findLeast 228 = .ok (.getfield 52, 3) := by decide +kernel
theorem dX8_findLeast_231 : decode cX8_findLeast 231 = .ok (.iload_n 1, 1) := by decide +kernel
theorem dX8_findLeast_232 : decode cX8_findLeast 232 = .ok (.iaload, 1) := by decide +kernel
theorem dX8_findLeast_233 : decode cX8_findLeast 233 = .ok (.if_icmp .ge 8, 3) := by decide +kernel
theorem dX8_findLeast_236 : decode cX8_findLeast 236 = .ok (.iload 7, 2) := by decide +kernel
theorem dX8_findLeast_238 : decode cX8_findLeast 238 = .ok (.goto 9, 3) := by decide +kernel
theorem dX8_findLeast_241 : decode cX8_findLeast 241 = .ok (.aload_n 0, 1) := by decide +kernel
theorem dX8_findLeast_242 : decode cX8_findLeast 242 = .ok (.getfield 52, 3) := by decide +kernel
theorem dX8_findLeast_245 : decode cX8_findLeast 245 = .ok (.iload_n 1, 1) := by decide +kernel
theorem dX8_findLeast_246 : decode cX8_findLeast 246 = .ok (.iaload, 1) := by decide +kernel
theorem dX8_findLeast_247 : decode cX8_findLeast 247 = .ok (.iastore, 1) := by decide +kernel
theorem dX8_findLeast_248 : decode cX8_findLeast 248 = .ok (.iinc 2 1, 3) := by decide +kernel
