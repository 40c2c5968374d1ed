theorem dyL_law_0 : decode cL_law 0 = .ok (.bipush 44, 2) := by decide +kernel
theorem dyL_law_2 : decode cL_law 2 = .ok (.newarray .int, 2) := by decide +kernel
theorem dyL_law_4 : decode cL_law 4 = .ok (.astore_n 1, 1) := by decide +kernel
theorem dyL_law_5 : decode cL_law 5 = .ok (.iconst 0, 1) := by decide +kernel
theorem dyL_law_6 : decode cL_law 6 = .ok (.istore_n 2, 1) := by decide +kernel
theorem dyL_law_7 : decode cL_law 7 = .ok (.iload_n 2, 1) := by decide +kernel
theorem dyL_law_8 : decode cL_law 8 = .ok (.bipush 44, 2) := by decide +kernel
theorem dyL_law_10 : decode cL_law 10 = .ok (.if_icmp .ge 21, 3) := by decide +kernel
theorem dyL_law_13 : decode cL_law 13 = .ok (.iload_n 2, 1) := by decide +kernel
theorem dyL_law_14 : decode cL_law 14 = .ok (.aload_n 0, 1) := by decide +kernel
theorem dyL_law_15 : decode cL_law 15 = .ok (.arraylength, 1) := by decide +kernel
theorem dyL_law_16 : decode cL_law 16 = .ok (.if_icmp .ge 15, 3) := by decide +kernel
theorem dyL_law_19 : decode cL_law 19 = .ok (.aload_n 1, 1) := by decide +kernel
theorem dyL_law_20 : decode cL_law 20 = .ok (.iload_n 2, 1) := by decide +kernel
theorem dyL_law_21 : decode cL_law 21 = .ok (.aload_n 0, 1) := by decide +kernel
theorem dyL_law_22 : decode cL_law 22 = .ok (.iload_n 2, 1) := by decide +kernel
theorem dyL_law_23 : decode cL_law 23 = .ok (.iaload, 1) := by decide +kernel
theorem dyL_law_24 : decode cL_law 24 = .ok (.iastore, 1) := by decide +kernel
theorem dyL_law_25 : decode cL_law 25 = .ok (.iinc 2 1, 3) := by decide +kernel
theorem dyL_law_28 : decode cL_law 28 = .ok (.goto (-21), 3) := by decide +kernel
theorem dyL_law_31 : decode cL_law 31 = .ok (.new 8, 3) := by decide +kernel
theorem dyL_law_34 : decode cL_law 34 = .ok (.dup, 1) := by decide +kernel
theorem dyL_law_35 : decode cL_law 35 = .ok (.invokespecial 81, 3) := by decide +kernel
theorem dyL_law_38 : decode cL_law 38 = .ok (.astore_n 2, 1) := by decide +kernel
theorem dyL_law_39 : decode cL_law 39 = .ok (.iconst 1, 1) := by decide +kernel
theorem dyL_law_40 : decode cL_law 40 = .ok (.istore_n 3, 1) := by decide +kernel
theorem dyL_law_41 : decode cL_law 41 = .ok (.iconst 0, 1) := by decide +kernel
theorem dyL_law_42 : decode cL_law 42 = .ok (.istore 4, 2) := by decide +kernel
theorem dyL_law_44 : decode cL_law 44 = .ok (.iload 4, 2) := by decide +kernel
theorem dyL_law_46 : decode cL_law 46 = .ok (.bipush 30, 2) := by decide +kernel
theorem dyL_law_48 : decode cL_law 48 = .ok (.if_icmp .ge 1567, 3) := by decide +kernel
theorem dyL_law_51 : decode cL_law 51 = .ok (.iload_n 3, 1) := by decide +kernel
theorem dyL_law_52 : decode cL_law 52 = .ok (.ifCond .eq 1563, 3) := by decide +kernel
theorem dyL_law_55 : decode cL_law 55 = .ok (.aload_n 2, 1) := by decide +kernel
theorem dyL_law_56 : decode cL_law 56 = .ok (.iconst 0, 1) := by decide +kernel
theorem dyL_law_57 : decode cL_law 57 = .ok (.invokevirtual 36, 3) := by decide +kernel
theorem dyL_law_60 : decode cL_law 60 = .ok (.istore 5, 2) := by decide +kernel
theorem dyL_law_62 : decode cL_law 62 = .ok (.aload_n 2, 1) := by decide +kernel
theorem dyL_law_63 : decode cL_law 63 = .ok (.bipush 6, 2) := by decide +kernel
theorem dyL_law_65 : decode cL_law 65 = .ok (.invokevirtual 36, 3) := by decide +kernel
theorem dyL_law_68 : decode cL_law 68 = .ok (.istore 6, 2) := by decide +kernel
theorem dyL_law_70 : decode cL_law 70 = .ok (.aload_n 2, 1) := by decide +kernel
theorem dyL_law_71 : decode cL_law 71 = .ok (.bipush 8, 2) := by decide +kernel
theorem dyL_law_73 : decode cL_law 73 = .ok (.invokevirtual 36, 3) := by decide +kernel
theorem dyL_law_76 : decode cL_law 76 = .ok (.istore 7, 2) := by decide +kernel
theorem dyL_law_78 : decode cL_law 78 = .ok (.aload_n 2, 1) := by decide +kernel
theorem dyL_law_79 : decode cL_law 79 = .ok (.bipush 9, 2) := by decide +kernel
theorem dyL_law_81 : decode cL_law 81 = .ok (.invokevirtual 36, 3) := by decide +kernel
theorem dyL_law_84 : decode cL_law 84 = .ok (.istore 8, 2) := by decide +kernel
theorem dyL_law_86 : decode cL_law 86 = .ok (.aload_n 2, 1) := by decide +kernel
theorem dyL_law_87 : decode cL_law 87 = .ok (.iconst 2, 1) := by decide +kernel
theorem dyL_law_88 : decode cL_law 88 = .ok (.invokevirtual 36, 3) := by decide +kernel
theorem dyL_law_91 : decode cL_law 91 = .ok (.iconst 1, 1) := by decide +kernel
theorem dyL_law_92 : decode cL_law 92 = .ok (.if_icmp .ne 7, 3) := by decide +kernel
theorem dyL_law_95 : decode cL_law 95 = .ok (.iconst 1, 1) := by decide +kernel
theorem dyL_law_96 : decode cL_law 96 = .ok (.goto 4, 3) := by decide +kernel
theorem dyL_law_99 : decode cL_law 99 = .ok (.iconst 0, 1) := by decide +kernel
theorem dyL_law_100 : decode cL_law 100 = .ok (.istore 9, 2) := by decide +kernel
theorem dyL_law_102 : decode cL_law 102 = .ok (.aload_n 2, 1) := by decide +kernel
theorem dyL_law_103 : decode cL_law 103 = .ok (.iconst 4, 1) := by decide +kernel
theorem dyL_law_104 : decode cL_law 104 = .ok (.invokevirtual 36, 3) := by decide +kernel
theorem dyL_law_107 : decode cL_law 107 = .ok (.istore 10, 2) := by decide +kernel
theorem dyL_law_109 : decode cL_law 109 = .ok (.aload_n 2, 1) := by decide +kernel
theorem dyL_law_110 : decode cL_law 110 = .ok (.iconst 5, 1) := by decide +kernel
theorem dyL_law_111 : decode cL_law 111 = .ok (.invokevirtual 36, 3) := by decide +kernel
theorem dyL_law_114 : decode cL_law 114 = .ok (.istore 11, 2) := by decide +kernel
theorem dyL_law_116 : decode cL_law 116 = .ok (.aload_n 2, 1) := by decide +kernel
theorem dyL_law_117 : decode cL_law 117 = .ok (.invokevirtual 82, 3) := by decide +kernel
theorem dyL_law_120 : decode cL_law 120 = .ok (.istore 12, 2) := by decide +kernel
theorem dyL_law_122 : decode cL_law 122 = .ok (.aload_n 1, 1) := by decide +kernel
theorem dyL_law_123 : decode cL_law 123 = .ok (.iload 4, 2) := by decide +kernel
theorem dyL_law_125 : decode cL_law 125 = .ok (.iaload, 1) := by decide +kernel
theorem dyL_law_126 : decode cL_law 126 = .ok (.bipush 9, 2) := by decide +kernel
theorem dyL_law_128 : decode cL_law 128 = .ok (.ishr, 1) := by decide +kernel
theorem dyL_law_129 : decode cL_law 129 = .ok (.sipush 255, 3) := by decide +kernel
theorem dyL_law_132 : decode cL_law 132 = .ok (.iand, 1) := by decide +kernel
theorem dyL_law_133 : decode cL_law 133 = .ok (.iload 12, 2) := by decide +kernel
theorem dyL_law_135 : decode cL_law 135 = .ok (.iconst 1, 1) := by decide +kernel
theorem dyL_law_136 : decode cL_law 136 = .ok (.iadd, 1) := by decide +kernel
theorem dyL_law_137 : decode cL_law 137 = .ok (.irem, 1) := by decide +kernel
theorem dyL_law_138 : decode cL_law 138 = .ok (.istore 13, 2) := by decide +kernel
theorem dyL_law_140 : decode cL_law 140 = .ok (.aload_n 2, 1) := by decide +kernel
theorem dyL_law_141 : decode cL_law 141 = .ok (.invokestatic 86, 3) := by decide +kernel
theorem dyL_law_144 : decode cL_law 144 = .ok (.astore 14, 2) := by decide +kernel
theorem dyL_law_146 : decode cL_law 146 = .ok (.bipush (-2), 2) := by decide +kernel
theorem dyL_law_148 : decode cL_law 148 = .ok (.istore 15, 2) := by decide +kernel
theorem dyL_law_150 : decode cL_law 150 = .ok (.aload_n 1, 1) := by decide +kernel
theorem dyL_law_151 : decode cL_law 151 = .ok (.iload 4, 2) := by decide +kernel
theorem dyL_law_153 : decode cL_law 153 = .ok (.iaload, 1) := by decide +kernel
theorem dyL_law_154 : decode cL_law 154 = .ok (.bipush 15, 2) := by decide +kernel
theorem dyL_law_156 : decode cL_law 156 = .ok (.iand, 1) := by decide +kernel
theorem dyL_law_157 : decode cL_law 157 = .ok (.tableswitch 933 0 5 #[39, 225, 277, 383, 509, 590], 39) := by decide +kernel
theorem dyL_law_196 : decode cL_law 196 = .ok (.aload_n 2, 1) := by decide +kernel
theorem dyL_law_197 : decode cL_law 197 = .ok (.invokevirtual 89, 3) := by decide +kernel
theorem dyL_law_200 : decode cL_law 200 = .ok (.istore 16, 2) := by decide +kernel
theorem dyL_law_202 : decode cL_law 202 = .ok (.iload 16, 2) := by decide +kernel
theorem dyL_law_204 : decode cL_law 204 = .ok (.iload 7, 2) := by decide +kernel
theorem dyL_law_206 : decode cL_law 206 = .ok (.ifCond .le 7, 3) := by decide +kernel
theorem dyL_law_209 : decode cL_law 209 = .ok (.iconst 1, 1) := by decide +kernel
theorem dyL_law_210 : decode cL_law 210 = .ok (.goto 4, 3) := by decide +kernel
theorem dyL_law_213 : decode cL_law 213 = .ok (.iconst 0, 1) := by decide +kernel
theorem dyL_law_214 : decode cL_law 214 = .ok (.if_icmp .ne 51, 3) := by decide +kernel
theorem dyL_law_217 : decode cL_law 217 = .ok (.aload_n 2, 1) := by decide +kernel
theorem dyL_law_218 : decode cL_law 218 = .ok (.bipush 8, 2) := by decide +kernel
theorem dyL_law_220 : decode cL_law 220 = .ok (.invokevirtual 36, 3) := by decide +kernel
theorem dyL_law_223 : decode cL_law 223 = .ok (.iload 7, 2) := by decide +kernel
theorem dyL_law_225 : decode cL_law 225 = .ok (.iload 16, 2) := by decide +kernel
theorem dyL_law_227 : decode cL_law 227 = .ok (.ifCond .eq 7, 3) := by decide +kernel
theorem dyL_law_230 : decode cL_law 230 = .ok (.iconst 1, 1) := by decide +kernel
theorem dyL_law_231 : decode cL_law 231 = .ok (.goto 4, 3) := by decide +kernel
theorem dyL_law_234 : decode cL_law 234 = .ok (.iconst 0, 1) := by decide +kernel
theorem dyL_law_235 : decode cL_law 235 = .ok (.isub, 1) := by decide +kernel
theorem dyL_law_236 : decode cL_law 236 = .ok (.if_icmp .ne 29, 3) := by decide +kernel
theorem dyL_law_239 : decode cL_law 239 = .ok (.aload_n 2, 1) := by decide +kernel
theorem dyL_law_240 : decode cL_law 240 = .ok (.bipush 9, 2) := by decide +kernel
theorem dyL_law_242 : decode cL_law 242 = .ok (.invokevirtual 36, 3) := by decide +kernel
theorem dyL_law_245 : decode cL_law 245 = .ok (.iload 8, 2) := by decide +kernel
theorem dyL_law_247 : decode cL_law 247 = .ok (.iload 16, 2) := by decide +kernel
theorem dyL_law_249 : decode cL_law 249 = .ok (.ifCond .eq 7, 3) := by decide +kernel
theorem dyL_law_252 : decode cL_law 252 = .ok (.iconst 1, 1) := by decide +kernel
theorem dyL_law_253 : decode cL_law 253 = .ok (.goto 4, 3) := by decide +kernel
theorem dyL_law_256 : decode cL_law 256 = .ok (.iconst 0, 1) := by decide +kernel
theorem dyL_law_257 : decode cL_law 257 = .ok (.iadd, 1) := by decide +kernel
theorem dyL_law_258 : decode cL_law 258 = .ok (.if_icmp .ne 7, 3) := by decide +kernel
theorem dyL_law_261 : decode cL_law 261 = .ok (.iconst 1, 1) := by decide +kernel
theorem dyL_law_262 : decode cL_law 262 = .ok (.goto 4, 3) := by decide +kernel
theorem dyL_law_265 : decode cL_law 265 = .ok (.iconst 0, 1) := by decide +kernel
theorem dyL_law_266 : decode cL_law 266 = .ok (.istore_n 3, 1) := by decide +kernel
theorem dyL_law_267 : decode cL_law 267 = .ok (.iload 16, 2) := by decide +kernel
theorem dyL_law_269 : decode cL_law 269 = .ok (.ifCond .eq 1153, 3) := by decide +kernel
theorem dyL_law_272 : decode cL_law 272 = .ok (.aload_n 1, 1) := by decide +kernel
theorem dyL_law_273 : decode cL_law 273 = .ok (.iload 4, 2) := by decide +kernel
theorem dyL_law_275 : decode cL_law 275 = .ok (.iaload, 1) := by decide +kernel
theorem dyL_law_276 : decode cL_law 276 = .ok (.iconst 4, 1) := by decide +kernel
theorem dyL_law_277 : decode cL_law 277 = .ok (.ishr, 1) := by decide +kernel
theorem dyL_law_278 : decode cL_law 278 = .ok (.iconst 1, 1) := by decide +kernel
theorem dyL_law_279 : decode cL_law 279 = .ok (.iand, 1) := by decide +kernel
theorem dyL_law_280 : decode cL_law 280 = .ok (.ifCond .ne 1142, 3) := by decide +kernel
theorem dyL_law_283 : decode cL_law 283 = .ok (.iload_n 3, 1) := by decide +kernel
theorem dyL_law_284 : decode cL_law 284 = .ok (.ifCond .eq 53, 3) := by decide +kernel
theorem dyL_law_287 : decode cL_law 287 = .ok (.aload_n 2, 1) := by decide +kernel
theorem dyL_law_288 : decode cL_law 288 = .ok (.invokevirtual 93, 3) := by decide +kernel
theorem dyL_law_291 : decode cL_law 291 = .ok (.ifCond .eq 46, 3) := by decide +kernel
theorem dyL_law_294 : decode cL_law 294 = .ok (.aload_n 2, 1) := by decide +kernel
theorem dyL_law_295 : decode cL_law 295 = .ok (.iconst 4, 1) := by decide +kernel
theorem dyL_law_296 : decode cL_law 296 = .ok (.invokevirtual 36, 3) := by decide +kernel
theorem dyL_law_299 : decode cL_law 299 = .ok (.iload 10, 2) := by decide +kernel
theorem dyL_law_301 : decode cL_law 301 = .ok (.if_icmp .ne 36, 3) := by decide +kernel
theorem dyL_law_304 : decode cL_law 304 = .ok (.aload_n 2, 1) := by decide +kernel
theorem dyL_law_305 : decode cL_law 305 = .ok (.iconst 0, 1) := by decide +kernel
theorem dyL_law_306 : decode cL_law 306 = .ok (.invokevirtual 36, 3) := by decide +kernel
theorem dyL_law_309 : decode cL_law 309 = .ok (.iload 5, 2) := by decide +kernel
theorem dyL_law_311 : decode cL_law 311 = .ok (.if_icmp .ne 26, 3) := by decide +kernel
theorem dyL_law_314 : decode cL_law 314 = .ok (.aload_n 2, 1) := by decide +kernel
theorem dyL_law_315 : decode cL_law 315 = .ok (.iconst 2, 1) := by decide +kernel
theorem dyL_law_316 : decode cL_law 316 = .ok (.invokevirtual 36, 3) := by decide +kernel
theorem dyL_law_319 : decode cL_law 319 = .ok (.iconst 1, 1) := by decide +kernel
theorem dyL_law_320 : decode cL_law 320 = .ok (.if_icmp .ne 7, 3) := by decide +kernel
theorem dyL_law_323 : decode cL_law 323 = .ok (.iconst 1, 1) := by decide +kernel
theorem dyL_law_324 : decode cL_law 324 = .ok (.goto 4, 3) := by decide +kernel
theorem dyL_law_327 : decode cL_law 327 = .ok (.iconst 0, 1) := by decide +kernel
theorem dyL_law_328 : decode cL_law 328 = .ok (.iload 9, 2) := by decide +kernel
theorem dyL_law_330 : decode cL_law 330 = .ok (.if_icmp .ne 7, 3) := by decide +kernel
theorem dyL_law_333 : decode cL_law 333 = .ok (.iconst 1, 1) := by decide +kernel
theorem dyL_law_334 : decode cL_law 334 = .ok (.goto 4, 3) := by decide +kernel
theorem dyL_law_337 : decode cL_law 337 = .ok (.iconst 0, 1) := by decide +kernel
theorem dyL_law_338 : decode cL_law 338 = .ok (.istore_n 3, 1) := by decide +kernel
theorem dyL_law_339 : decode cL_law 339 = .ok (.iconst 0, 1) := by decide +kernel
theorem dyL_law_340 : decode cL_law 340 = .ok (.istore 17, 2) := by decide +kernel
theorem dyL_law_342 : decode cL_law 342 = .ok (.iload 17, 2) := by decide +kernel
theorem dyL_law_344 : decode cL_law 344 = .ok (.iload 5, 2) := by decide +kernel
theorem dyL_law_346 : decode cL_law 346 = .ok (.if_icmp .ge 33, 3) := by decide +kernel
theorem dyL_law_349 : decode cL_law 349 = .ok (.iload_n 3, 1) := by decide +kernel
theorem dyL_law_350 : decode cL_law 350 = .ok (.ifCond .eq 21, 3) := by decide +kernel
theorem dyL_law_353 : decode cL_law 353 = .ok (.aload_n 2, 1) := by decide +kernel
theorem dyL_law_354 : decode cL_law 354 = .ok (.iload 17, 2) := by decide +kernel
theorem dyL_law_356 : decode cL_law 356 = .ok (.invokevirtual 62, 3) := by decide +kernel
theorem dyL_law_359 : decode cL_law 359 = .ok (.aload 14, 2) := by decide +kernel
theorem dyL_law_361 : decode cL_law 361 = .ok (.iload 17, 2) := by decide +kernel
theorem dyL_law_363 : decode cL_law 363 = .ok (.iaload, 1) := by decide +kernel
theorem dyL_law_364 : decode cL_law 364 = .ok (.if_icmp .ne 7, 3) := by decide +kernel
theorem dyL_law_367 : decode cL_law 367 = .ok (.iconst 1, 1) := by decide +kernel
theorem dyL_law_368 : decode cL_law 368 = .ok (.goto 4, 3) := by decide +kernel
theorem dyL_law_371 : decode cL_law 371 = .ok (.iconst 0, 1) := by decide +kernel
theorem dyL_law_372 : decode cL_law 372 = .ok (.istore_n 3, 1) := by decide +kernel
theorem dyL_law_373 : decode cL_law 373 = .ok (.iinc 17 1, 3) := by decide +kernel
theorem dyL_law_376 : decode cL_law 376 = .ok (.goto (-34), 3) := by decide +kernel
theorem dyL_law_379 : decode cL_law 379 = .ok (.goto 1043, 3) := by decide +kernel
theorem dyL_law_382 : decode cL_law 382 = .ok (.aload_n 2, 1) := by decide +kernel
theorem dyL_law_383 : decode cL_law 383 = .ok (.invokevirtual 93, 3) := by decide +kernel
theorem dyL_law_386 : decode cL_law 386 = .ok (.istore 16, 2) := by decide +kernel
theorem dyL_law_388 : decode cL_law 388 = .ok (.iload 16, 2) := by decide +kernel
theorem dyL_law_390 : decode cL_law 390 = .ok (.iload 8, 2) := by decide +kernel
theorem dyL_law_392 : decode cL_law 392 = .ok (.ifCond .le 7, 3) := by decide +kernel
theorem dyL_law_395 : decode cL_law 395 = .ok (.iconst 1, 1) := by decide +kernel
theorem dyL_law_396 : decode cL_law 396 = .ok (.goto 4, 3) := by decide +kernel
theorem dyL_law_399 : decode cL_law 399 = .ok (.iconst 0, 1) := by decide +kernel
theorem dyL_law_400 : decode cL_law 400 = .ok (.if_icmp .ne 29, 3) := by decide +kernel
theorem dyL_law_403 : decode cL_law 403 = .ok (.aload_n 2, 1) := by decide +kernel
theorem dyL_law_404 : decode cL_law 404 = .ok (.bipush 9, 2) := by decide +kernel
theorem dyL_law_406 : decode cL_law 406 = .ok (.invokevirtual 36, 3) := by decide +kernel
theorem dyL_law_409 : decode cL_law 409 = .ok (.iload 8, 2) := by decide +kernel
theorem dyL_law_411 : decode cL_law 411 = .ok (.iload 16, 2) := by decide +kernel
theorem dyL_law_413 : decode cL_law 413 = .ok (.ifCond .eq 7, 3) := by decide +kernel
theorem dyL_law_416 : decode cL_law 416 = .ok (.iconst 1, 1) := by decide +kernel
theorem dyL_law_417 : decode cL_law 417 = .ok (.goto 4, 3) := by decide +kernel
theorem dyL_law_420 : decode cL_law 420 = .ok (.iconst 0, 1) := by decide +kernel
theorem dyL_law_421 : decode cL_law 421 = .ok (.isub, 1) := by decide +kernel
theorem dyL_law_422 : decode cL_law 422 = .ok (.if_icmp .ne 7, 3) := by decide +kernel
theorem dyL_law_425 : decode cL_law 425 = .ok (.iconst 1, 1) := by decide +kernel
