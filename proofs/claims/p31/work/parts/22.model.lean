theorem dyX12_init_0 : decode cX12_init 0 = .ok (.aload_n 0, 1) := by decide +kernel
theorem dyX12_init_1 : decode cX12_init 1 = .ok (.invokespecial 1, 3) := by decide +kernel
theorem dyX12_init_4 : decode cX12_init 4 = .ok (.aload_n 0, 1) := by decide +kernel
theorem dyX12_init_5 : decode cX12_init 5 = .ok (.sipush 220, 3) := by decide +kernel
theorem dyX12_init_8 : decode cX12_init 8 = .ok (.newarray .int, 2) := by decide +kernel
theorem dyX12_init_10 : decode cX12_init 10 = .ok (.putfield 7, 3) := by decide +kernel
theorem dyX12_init_13 : decode cX12_init 13 = .ok (.aload_n 0, 1) := by decide +kernel
theorem dyX12_init_14 : decode cX12_init 14 = .ok (.sipush 700, 3) := by decide +kernel
theorem dyX12_init_17 : decode cX12_init 17 = .ok (.newarray .int, 2) := by decide +kernel
theorem dyX12_init_19 : decode cX12_init 19 = .ok (.putfield 13, 3) := by decide +kernel
theorem dyX12_init_22 : decode cX12_init 22 = .ok (.aload_n 0, 1) := by decide +kernel
theorem dyX12_init_23 : decode cX12_init 23 = .ok (.sipush 300, 3) := by decide +kernel
theorem dyX12_init_26 : decode cX12_init 26 = .ok (.newarray .int, 2) := by decide +kernel
theorem dyX12_init_28 : decode cX12_init 28 = .ok (.putfield 16, 3) := by decide +kernel
theorem dyX12_init_31 : decode cX12_init 31 = .ok (.aload_n 0, 1) := by decide +kernel
theorem dyX12_init_32 : decode cX12_init 32 = .ok (.sipush 300, 3) := by decide +kernel
theorem dyX12_init_35 : decode cX12_init 35 = .ok (.newarray .int, 2) := by decide +kernel
theorem dyX12_init_37 : decode cX12_init 37 = .ok (.putfield 19, 3) := by decide +kernel
theorem dyX12_init_40 : decode cX12_init 40 = .ok (.aload_n 0, 1) := by decide +kernel
theorem dyX12_init_41 : decode cX12_init 41 = .ok (.sipush 710, 3) := by decide +kernel
theorem dyX12_init_44 : decode cX12_init 44 = .ok (.newarray .int, 2) := by decide +kernel
theorem dyX12_init_46 : decode cX12_init 46 = .ok (.putfield 22, 3) := by decide +kernel
theorem dyX12_init_49 : decode cX12_init 49 = .ok (.aload_n 0, 1) := by decide +kernel
theorem dyX12_init_50 : decode cX12_init 50 = .ok (.sipush 710, 3) := by decide +kernel
theorem dyX12_init_53 : decode cX12_init 53 = .ok (.newarray .int, 2) := by decide +kernel
theorem dyX12_init_55 : decode cX12_init 55 = .ok (.putfield 25, 3) := by decide +kernel
theorem dyX12_init_58 : decode cX12_init 58 = .ok (.aload_n 0, 1) := by decide +kernel
theorem dyX12_init_59 : decode cX12_init 59 = .ok (.sipush 710, 3) := by decide +kernel
theorem dyX12_init_62 : decode cX12_init 62 = .ok (.newarray .int, 2) := by decide +kernel
theorem dyX12_init_64 : decode cX12_init 64 = .ok (.putfield 28, 3) := by decide +kernel
theorem dyX12_init_67 : decode cX12_init 67 = .ok (.aload_n 0, 1) := by decide +kernel
theorem dyX12_init_68 : decode cX12_init 68 = .ok (.sipush 710, 3) := by decide +kernel
theorem dyX12_init_71 : decode cX12_init 71 = .ok (.newarray .long, 2) := by decide +kernel
theorem dyX12_init_73 : decode cX12_init 73 = .ok (.putfield 31, 3) := by decide +kernel
theorem dyX12_init_76 : decode cX12_init 76 = .ok (.aload_n 0, 1) := by decide +kernel
theorem dyX12_init_77 : decode cX12_init 77 = .ok (.bipush 110, 2) := by decide +kernel
theorem dyX12_init_79 : decode cX12_init 79 = .ok (.newarray .int, 2) := by decide +kernel
theorem dyX12_init_81 : decode cX12_init 81 = .ok (.putfield 35, 3) := by decide +kernel
theorem dyX12_init_84 : decode cX12_init 84 = .ok (.aload_n 0, 1) := by decide +kernel
theorem dyX12_init_85 : decode cX12_init 85 = .ok (.bipush 110, 2) := by decide +kernel
theorem dyX12_init_87 : decode cX12_init 87 = .ok (.newarray .int, 2) := by decide +kernel
theorem dyX12_init_89 : decode cX12_init 89 = .ok (.putfield 38, 3) := by decide +kernel
theorem dyX12_init_92 : decode cX12_init 92 = .ok (.aload_n 0, 1) := by decide +kernel
theorem dyX12_init_93 : decode cX12_init 93 = .ok (.bipush 110, 2) := by decide +kernel
theorem dyX12_init_95 : decode cX12_init 95 = .ok (.newarray .int, 2) := by decide +kernel
theorem dyX12_init_97 : decode cX12_init 97 = .ok (.putfield 41, 3) := by decide +kernel
theorem dyX12_init_100 : decode cX12_init 100 = .ok (.aload_n 0, 1) := by decide +kernel
theorem dyX12_init_101 : decode cX12_init 101 = .ok (.bipush 110, 2) := by decide +kernel
theorem dyX12_init_103 : decode cX12_init 103 = .ok (.newarray .int, 2) := by decide +kernel
theorem dyX12_init_105 : decode cX12_init 105 = .ok (.putfield 44, 3) := by decide +kernel
theorem dyX12_init_108 : decode cX12_init 108 = .ok (.aload_n 0, 1) := by decide +kernel
theorem dyX12_init_109 : decode cX12_init 109 = .ok (.bipush 110, 2) := by decide +kernel
theorem dyX12_init_111 : decode cX12_init 111 = .ok (.newarray .int, 2) := by decide +kernel
theorem dyX12_init_113 : decode cX12_init 113 = .ok (.putfield 47, 3) := by decide +kernel
theorem dyX12_init_116 : decode cX12_init 116 = .ok (.aload_n 0, 1) := by decide +kernel
theorem dyX12_init_117 : decode cX12_init 117 = .ok (.bipush 110, 2) := by decide +kernel
theorem dyX12_init_119 : decode cX12_init 119 = .ok (.newarray .int, 2) := by decide +kernel
theorem dyX12_init_121 : decode cX12_init 121 = .ok (.putfield 50, 3) := by decide +kernel
theorem dyX12_init_124 : decode cX12_init 124 = .ok (.aload_n 0, 1) := by decide +kernel
theorem dyX12_init_125 : decode cX12_init 125 = .ok (.bipush 110, 2) := by decide +kernel
theorem dyX12_init_127 : decode cX12_init 127 = .ok (.newarray .int, 2) := by decide +kernel
theorem dyX12_init_129 : decode cX12_init 129 = .ok (.putfield 53, 3) := by decide +kernel
theorem dyX12_init_132 : decode cX12_init 132 = .ok (.aload_n 0, 1) := by decide +kernel
theorem dyX12_init_133 : decode cX12_init 133 = .ok (.bipush 110, 2) := by decide +kernel
theorem dyX12_init_135 : decode cX12_init 135 = .ok (.newarray .long, 2) := by decide +kernel
theorem dyX12_init_137 : decode cX12_init 137 = .ok (.putfield 56, 3) := by decide +kernel
theorem dyX12_init_140 : decode cX12_init 140 = .ok (.aload_n 0, 1) := by decide +kernel
theorem dyX12_init_141 : decode cX12_init 141 = .ok (.bipush 110, 2) := by decide +kernel
theorem dyX12_init_143 : decode cX12_init 143 = .ok (.newarray .int, 2) := by decide +kernel
theorem dyX12_init_145 : decode cX12_init 145 = .ok (.putfield 59, 3) := by decide +kernel
theorem dyX12_init_148 : decode cX12_init 148 = .ok (.aload_n 0, 1) := by decide +kernel
theorem dyX12_init_149 : decode cX12_init 149 = .ok (.sipush 3700, 3) := by decide +kernel
theorem dyX12_init_152 : decode cX12_init 152 = .ok (.newarray .int, 2) := by decide +kernel
theorem dyX12_init_154 : decode cX12_init 154 = .ok (.putfield 62, 3) := by decide +kernel
theorem dyX12_init_157 : decode cX12_init 157 = .ok (.aload_n 0, 1) := by decide +kernel
theorem dyX12_init_158 : decode cX12_init 158 = .ok (.sipush 3700, 3) := by decide +kernel
theorem dyX12_init_161 : decode cX12_init 161 = .ok (.newarray .int, 2) := by decide +kernel
theorem dyX12_init_163 : decode cX12_init 163 = .ok (.putfield 65, 3) := by decide +kernel
theorem dyX12_init_166 : decode cX12_init 166 = .ok (.aload_n 0, 1) := by decide +kernel
theorem dyX12_init_167 : decode cX12_init 167 = .ok (.sipush 3700, 3) := by decide +kernel
theorem dyX12_init_170 : decode cX12_init 170 = .ok (.newarray .long, 2) := by decide +kernel
theorem dyX12_init_172 : decode cX12_init 172 = .ok (.putfield 68, 3) := by decide +kernel
theorem dyX12_init_175 : decode cX12_init 175 = .ok (.aload_n 0, 1) := by decide +kernel
theorem dyX12_init_176 : decode cX12_init 176 = .ok (.sipush 3700, 3) := by decide +kernel
theorem dyX12_init_179 : decode cX12_init 179 = .ok (.newarray .int, 2) := by decide +kernel
theorem dyX12_init_181 : decode cX12_init 181 = .ok (.putfield 71, 3) := by decide +kernel
theorem dyX12_init_184 : decode cX12_init 184 = .ok (.aload_n 0, 1) := by decide +kernel
theorem dyX12_init_185 : decode cX12_init 185 = .ok (.sipush 14800, 3) := by decide +kernel
theorem dyX12_init_188 : decode cX12_init 188 = .ok (.newarray .int, 2) := by decide +kernel
theorem dyX12_init_190 : decode cX12_init 190 = .ok (.putfield 74, 3) := by decide +kernel
theorem dyX12_init_193 : decode cX12_init 193 = .ok (.aload_n 0, 1) := by decide +kernel
theorem dyX12_init_194 : decode cX12_init 194 = .ok (.sipush 3700, 3) := by decide +kernel
theorem dyX12_init_197 : decode cX12_init 197 = .ok (.newarray .int, 2) := by decide +kernel
theorem dyX12_init_199 : decode cX12_init 199 = .ok (.putfield 77, 3) := by decide +kernel
theorem dyX12_init_202 : decode cX12_init 202 = .ok (.aload_n 0, 1) := by decide +kernel
theorem dyX12_init_203 : decode cX12_init 203 = .ok (.sipush 3700, 3) := by decide +kernel
theorem dyX12_init_206 : decode cX12_init 206 = .ok (.newarray .int, 2) := by decide +kernel
theorem dyX12_init_208 : decode cX12_init 208 = .ok (.putfield 80, 3) := by decide +kernel
theorem dyX12_init_211 : decode cX12_init 211 = .ok (.aload_n 0, 1) := by decide +kernel
theorem dyX12_init_212 : decode cX12_init 212 = .ok (.sipush 3700, 3) := by decide +kernel
theorem dyX12_init_215 : decode cX12_init 215 = .ok (.newarray .int, 2) := by decide +kernel
theorem dyX12_init_217 : decode cX12_init 217 = .ok (.putfield 83, 3) := by decide +kernel
theorem dyX12_init_220 : decode cX12_init 220 = .ok (.aload_n 0, 1) := by decide +kernel
theorem dyX12_init_221 : decode cX12_init 221 = .ok (.sipush 3700, 3) := by decide +kernel
theorem dyX12_init_224 : decode cX12_init 224 = .ok (.newarray .int, 2) := by decide +kernel
theorem dyX12_init_226 : decode cX12_init 226 = .ok (.putfield 86, 3) := by decide +kernel
theorem dyX12_init_229 : decode cX12_init 229 = .ok (.aload_n 0, 1) := by decide +kernel
theorem dyX12_init_230 : decode cX12_init 230 = .ok (.ldc 89, 2) := by decide +kernel
theorem dyX12_init_232 : decode cX12_init 232 = .ok (.newarray .int, 2) := by decide +kernel
theorem dyX12_init_234 : decode cX12_init 234 = .ok (.putfield 90, 3) := by decide +kernel
theorem dyX12_init_237 : decode cX12_init 237 = .ok (.aload_n 0, 1) := by decide +kernel
theorem dyX12_init_238 : decode cX12_init 238 = .ok (.sipush 400, 3) := by decide +kernel
theorem dyX12_init_241 : decode cX12_init 241 = .ok (.newarray .int, 2) := by decide +kernel
theorem dyX12_init_243 : decode cX12_init 243 = .ok (.putfield 93, 3) := by decide +kernel
theorem dyX12_init_246 : decode cX12_init 246 = .ok (.aload_n 0, 1) := by decide +kernel
theorem dyX12_init_247 : decode cX12_init 247 = .ok (.bipush 120, 2) := by decide +kernel
theorem dyX12_init_249 : decode cX12_init 249 = .ok (.newarray .int, 2) := by decide +kernel
theorem dyX12_init_251 : decode cX12_init 251 = .ok (.putfield 96, 3) := by decide +kernel
theorem dyX12_init_254 : decode cX12_init 254 = .ok (.aload_n 0, 1) := by decide +kernel
theorem dyX12_init_255 : decode cX12_init 255 = .ok (.sipush 700, 3) := by decide +kernel
theorem dyX12_init_258 : decode cX12_init 258 = .ok (.newarray .int, 2) := by decide +kernel
theorem dyX12_init_260 : decode cX12_init 260 = .ok (.putfield 99, 3) := by decide +kernel
theorem dyX12_init_263 : decode cX12_init 263 = .ok (.aload_n 0, 1) := by decide +kernel
theorem dyX12_init_264 : decode cX12_init 264 = .ok (.sipush 700, 3) := by decide +kernel
theorem dyX12_init_267 : decode cX12_init 267 = .ok (.newarray .int, 2) := by decide +kernel
theorem dyX12_init_269 : decode cX12_init 269 = .ok (.putfield 102, 3) := by decide +kernel
theorem dyX12_init_272 : decode cX12_init 272 = .ok (.aload_n 0, 1) := by decide +kernel
theorem dyX12_init_273 : decode cX12_init 273 = .ok (.sipush 3700, 3) := by decide +kernel
theorem dyX12_init_276 : decode cX12_init 276 = .ok (.newarray .int, 2) := by decide +kernel
theorem dyX12_init_278 : decode cX12_init 278 = .ok (.putfield 105, 3) := by decide +kernel
theorem dyX12_init_281 : decode cX12_init 281 = .ok (.aload_n 0, 1) := by decide +kernel
theorem dyX12_init_282 : decode cX12_init 282 = .ok (.sipush 3700, 3) := by decide +kernel
theorem dyX12_init_285 : decode cX12_init 285 = .ok (.newarray .int, 2) := by decide +kernel
theorem dyX12_init_287 : decode cX12_init 287 = .ok (.putfield 108, 3) := by decide +kernel
theorem dyX12_init_290 : decode cX12_init 290 = .ok (.aload_n 0, 1) := by decide +kernel
theorem dyX12_init_291 : decode cX12_init 291 = .ok (.sipush 3700, 3) := by decide +kernel
theorem dyX12_init_294 : decode cX12_init 294 = .ok (.newarray .int, 2) := by decide +kernel
theorem dyX12_init_296 : decode cX12_init 296 = .ok (.putfield 111, 3) := by decide +kernel
theorem dyX12_init_299 : decode cX12_init 299 = .ok (.aload_n 0, 1) := by decide +kernel
theorem dyX12_init_300 : decode cX12_init 300 = .ok (.sipush 3700, 3) := by decide +kernel
theorem dyX12_init_303 : decode cX12_init 303 = .ok (.newarray .int, 2) := by decide +kernel
theorem dyX12_init_305 : decode cX12_init 305 = .ok (.putfield 114, 3) := by decide +kernel
theorem dyX12_init_308 : decode cX12_init 308 = .ok (.aload_n 0, 1) := by decide +kernel
theorem dyX12_init_309 : decode cX12_init 309 = .ok (.sipush 700, 3) := by decide +kernel
theorem dyX12_init_312 : decode cX12_init 312 = .ok (.newarray .int, 2) := by decide +kernel
theorem dyX12_init_314 : decode cX12_init 314 = .ok (.putfield 117, 3) := by decide +kernel
theorem dyX12_init_317 : decode cX12_init 317 = .ok (.aload_n 0, 1) := by decide +kernel
theorem dyX12_init_318 : decode cX12_init 318 = .ok (.bipush 110, 2) := by decide +kernel
theorem dyX12_init_320 : decode cX12_init 320 = .ok (.newarray .int, 2) := by decide +kernel
theorem dyX12_init_322 : decode cX12_init 322 = .ok (.putfield 120, 3) := by decide +kernel
theorem dyX12_init_325 : decode cX12_init 325 = .ok (.aload_n 0, 1) := by decide +kernel
theorem dyX12_init_326 : decode cX12_init 326 = .ok (.bipush 110, 2) := by decide +kernel
theorem dyX12_init_328 : decode cX12_init 328 = .ok (.newarray .int, 2) := by decide +kernel
theorem dyX12_init_330 : decode cX12_init 330 = .ok (.putfield 123, 3) := by decide +kernel
theorem dyX12_init_333 : decode cX12_init 333 = .ok (.aload_n 0, 1) := by decide +kernel
theorem dyX12_init_334 : decode cX12_init 334 = .ok (.bipush 60, 2) := by decide +kernel
theorem dyX12_init_336 : decode cX12_init 336 = .ok (.newarray .long, 2) := by decide +kernel
theorem dyX12_init_338 : decode cX12_init 338 = .ok (.putfield 126, 3) := by decide +kernel
theorem dyX12_init_341 : decode cX12_init 341 = .ok (.aload_n 0, 1) := by decide +kernel
theorem dyX12_init_342 : decode cX12_init 342 = .ok (.bipush 60, 2) := by decide +kernel
theorem dyX12_init_344 : decode cX12_init 344 = .ok (.newarray .int, 2) := by decide +kernel
theorem dyX12_init_346 : decode cX12_init 346 = .ok (.putfield 129, 3) := by decide +kernel
theorem dyX12_init_349 : decode cX12_init 349 = .ok (.aload_n 0, 1) := by decide +kernel
theorem dyX12_init_350 : decode cX12_init 350 = .ok (.sipush 3700, 3) := by decide +kernel
theorem dyX12_init_353 : decode cX12_init 353 = .ok (.newarray .int, 2) := by decide +kernel
theorem dyX12_init_355 : decode cX12_init 355 = .ok (.putfield 132, 3) := by decide +kernel
theorem dyX12_init_358 : decode cX12_init 358 = .ok (.aload_n 0, 1) := by decide +kernel
theorem dyX12_init_359 : decode cX12_init 359 = .ok (.sipush 4100, 3) := by decide +kernel
theorem dyX12_init_362 : decode cX12_init 362 = .ok (.newarray .int, 2) := by decide +kernel
theorem dyX12_init_364 : decode cX12_init 364 = .ok (.putfield 135, 3) := by decide +kernel
theorem dyX12_init_367 : decode cX12_init 367 = .ok (.aload_n 0, 1) := by decide +kernel
theorem dyX12_init_368 : decode cX12_init 368 = .ok (.sipush 4100, 3) := by decide +kernel
theorem dyX12_init_371 : decode cX12_init 371 = .ok (.newarray .int, 2) := by decide +kernel
theorem dyX12_init_373 : decode cX12_init 373 = .ok (.putfield 138, 3) := by decide +kernel
theorem dyX12_init_376 : decode cX12_init 376 = .ok (.aload_n 0, 1) := by decide +kernel
theorem dyX12_init_377 : decode cX12_init 377 = .ok (.bipush 20, 2) := by decide +kernel
theorem dyX12_init_379 : decode cX12_init 379 = .ok (.newarray .int, 2) := by decide +kernel
theorem dyX12_init_381 : decode cX12_init 381 = .ok (.putfield 141, 3) := by decide +kernel
theorem dyX12_init_384 : decode cX12_init 384 = .ok (.aload_n 0, 1) := by decide +kernel
theorem dyX12_init_385 : decode cX12_init 385 = .ok (.bipush 20, 2) := by decide +kernel
theorem dyX12_init_387 : decode cX12_init 387 = .ok (.newarray .int, 2) := by decide +kernel
theorem dyX12_init_389 : decode cX12_init 389 = .ok (.putfield 144, 3) := by decide +kernel
theorem dyX12_init_392 : decode cX12_init 392 = .ok (.aload_n 0, 1) := by decide +kernel
theorem dyX12_init_393 : decode cX12_init 393 = .ok (.bipush 20, 2) := by decide +kernel
theorem dyX12_init_395 : decode cX12_init 395 = .ok (.newarray .int, 2) := by decide +kernel
theorem dyX12_init_397 : decode cX12_init 397 = .ok (.putfield 147, 3) := by decide +kernel
theorem dyX12_init_400 : decode cX12_init 400 = .ok (.aload_n 0, 1) := by decide +kernel
theorem dyX12_init_401 : decode cX12_init 401 = .ok (.bipush 10, 2) := by decide +kernel
theorem dyX12_init_403 : decode cX12_init 403 = .ok (.newarray .int, 2) := by decide +kernel
theorem dyX12_init_405 : decode cX12_init 405 = .ok (.putfield 150, 3) := by decide +kernel
theorem dyX12_init_408 : decode cX12_init 408 = .ok (.aload_n 0, 1) := by decide +kernel
theorem dyX12_init_409 : decode cX12_init 409 = .ok (.sipush 400, 3) := by decide +kernel
theorem dyX12_init_412 : decode cX12_init 412 = .ok (.newarray .int, 2) := by decide +kernel
theorem dyX12_init_414 : decode cX12_init 414 = .ok (.putfield 153, 3) := by decide +kernel
theorem dyX12_init_417 : decode cX12_init 417 = .ok (.aload_n 0, 1) := by decide +kernel
theorem dyX12_init_418 : decode cX12_init 418 = .ok (.sipush 400, 3) := by decide +kernel
theorem dyX12_init_421 : decode cX12_init 421 = .ok (.newarray .int, 2) := by decide +kernel
theorem dyX12_init_423 : decode cX12_init 423 = .ok (.putfield 156, 3) := by decide +kernel
theorem dyX12_init_426 : decode cX12_init 426 = .ok (.aload_n 0, 1) := by decide +kernel
theorem dyX12_init_427 : decode cX12_init 427 = .ok (.sipush 700, 3) := by decide +kernel
theorem dyX12_init_430 : decode cX12_init 430 = .ok (.newarray .int, 2) := by decide +kernel
theorem dyX12_init_432 : decode cX12_init 432 = .ok (.putfield 159, 3) := by decide +kernel
theorem dyX12_init_435 : decode cX12_init 435 = .ok (.aload_n 0, 1) := by decide +kernel
theorem dyX12_init_436 : decode cX12_init 436 = .ok (.sipush 15120, 3) := by decide +kernel
theorem dyX12_init_439 : decode cX12_init 439 = .ok (.newarray .int, 2) := by decide +kernel
theorem dyX12_init_441 : decode cX12_init 441 = .ok (.putfield 162, 3) := by decide +kernel
theorem dyX12_init_444 : decode cX12_init 444 = .ok (.aload_n 0, 1) := by decide +kernel
theorem dyX12_init_445 : decode cX12_init 445 = .ok (.sipush 700, 3) := by decide +kernel
theorem dyX12_init_448 : decode cX12_init 448 = .ok (.newarray .int, 2) := by decide +kernel
theorem dyX12_init_450 : decode cX12_init 450 = .ok (.putfield 165, 3) := by decide +kernel
theorem dyX12_init_453 : decode cX12_init 453 = .ok (.aload_n 0, 1) := by decide +kernel
theorem dyX12_init_454 : decode cX12_init 454 = .ok (.sipush 1000, 3) := by decide +kernel
theorem dyX12_init_457 : decode cX12_init 457 = .ok (.newarray .int, 2) := by decide +kernel
theorem dyX12_init_459 : decode cX12_init 459 = .ok (.putfield 168, 3) := by decide +kernel
theorem dyX12_init_462 : decode cX12_init 462 = .ok (.aload_n 0, 1) := by decide +kernel
theorem dyX12_init_463 : decode cX12_init 463 = .ok (.sipush 1000, 3) := by decide +kernel
theorem dyX12_init_466 : decode cX12_init 466 = .ok (.newarray .int, 2) := by decide +kernel
theorem dyX12_init_468 : decode cX12_init 468 = .ok (.putfield 171, 3) := by decide +kernel
theorem dyX12_init_471 : decode cX12_init 471 = .ok (.aload_n 0, 1) := by decide +kernel
theorem dyX12_init_472 : decode cX12_init 472 = .ok (.getfield 59, 3) := by decide +kernel
theorem dyX12_init_475 : decode cX12_init 475 = .ok (.iconst 0, 1) := by decide +kernel
theorem dyX12_init_476 : decode cX12_init 476 = .ok (.aload_n 0, 1) := by decide +kernel
theorem dyX12_init_477 : decode cX12_init 477 = .ok (.bipush (-2), 2) := by decide +kernel
theorem dyX12_init_479 : decode cX12_init 479 = .ok (.iconst 0, 1) := by decide +kernel
theorem dyX12_init_480 : decode cX12_init 480 = .ok (.invokevirtual 174, 3) := by decide +kernel
theorem dyX12_init_483 : decode cX12_init 483 = .ok (.iastore, 1) := by decide +kernel
theorem dyX12_init_484 : decode cX12_init 484 = .ok (.aload_n 0, 1) := by decide +kernel
theorem dyX12_init_485 : decode cX12_init 485 = .ok (.getfield 65, 3) := by decide +kernel
theorem dyX12_init_488 : decode cX12_init 488 = .ok (.iconst 0, 1) := by decide +kernel
theorem dyX12_init_489 : decode cX12_init 489 = .ok (.bipush 10, 2) := by decide +kernel
theorem dyX12_init_491 : decode cX12_init 491 = .ok (.iastore, 1) := by decide +kernel
theorem dyX12_init_492 : decode cX12_init 492 = .ok (.aload_n 0, 1) := by decide +kernel
theorem dyX12_init_493 : decode cX12_init 493 = .ok (.getfield 80, 3) := by decide +kernel
theorem dyX12_init_496 : decode cX12_init 496 = .ok (.iconst 0, 1) := by decide +kernel
theorem dyX12_init_497 : decode cX12_init 497 = .ok (.iconst 1, 1) := by decide +kernel
theorem dyX12_init_498 : decode cX12_init 498 = .ok (.iastore, 1) := by decide +kernel
theorem dyX12_init_499 : decode cX12_init 499 = .ok (.aload_n 0, 1) := by decide +kernel
theorem dyX12_init_500 : decode cX12_init 500 = .ok (.aload_n 0, 1) := by decide +kernel
theorem dyX12_init_501 : decode cX12_init 501 = .ok (.iconst 0, 1) := by decide +kernel
theorem dyX12_init_502 : decode cX12_init 502 = .ok (.iconst 0, 1) := by decide +kernel
theorem dyX12_init_503 : decode cX12_init 503 = .ok (.invokevirtual 174, 3) := by decide +kernel
theorem dyX12_init_506 : decode cX12_init 506 = .ok (.putfield 178, 3) := by decide +kernel
theorem dyX12_init_509 : decode cX12_init 509 = .ok (.aload_n 0, 1) := by decide +kernel
theorem dyX12_init_510 : decode cX12_init 510 = .ok (.getfield 77, 3) := by decide +kernel
theorem dyX12_init_513 : decode cX12_init 513 = .ok (.iconst 1, 1) := by decide +kernel
theorem dyX12_init_514 : decode cX12_init 514 = .ok (.iconst 0, 1) := by decide +kernel
theorem dyX12_init_515 : decode cX12_init 515 = .ok (.iastore, 1) := by decide +kernel
theorem dyX12_init_516 : decode cX12_init 516 = .ok (.aload_n 0, 1) := by decide +kernel
theorem dyX12_init_517 : decode cX12_init 517 = .ok (.iconst 1, 1) := by decide +kernel
theorem dyX12_init_518 : decode cX12_init 518 = .ok (.putfield 182, 3) := by decide +kernel
theorem dyX12_init_521 : decode cX12_init 521 = .ok (.aload_n 0, 1) := by decide +kernel
theorem dyX12_init_522 : decode cX12_init 522 = .ok (.iconst 0, 1) := by decide +kernel
theorem dyX12_init_523 : decode cX12_init 523 = .ok (.invokevirtual 186, 3) := by decide +kernel
theorem dyX12_init_526 : decode cX12_init 526 = .ok (.aload_n 0, 1) := by decide +kernel
theorem dyX12_init_527 : decode cX12_init 527 = .ok (.invokevirtual 190, 3) := by decide +kernel
theorem dyX12_init_530 : decode cX12_init 530 = .ok (.aload_n 0, 1) := by decide +kernel
theorem dyX12_init_531 : decode cX12_init 531 = .ok (.invokevirtual 193, 3) := by decide +kernel
theorem dyX12_init_534 : decode cX12_init 534 = .ok (.aload_n 0, 1) := by decide +kernel
theorem dyX12_init_535 : decode cX12_init 535 = .ok (.getfield 150, 3) := by decide +kernel
theorem dyX12_init_538 : decode cX12_init 538 = .ok (.bipush 6, 2) := by decide +kernel
theorem dyX12_init_540 : decode cX12_init 540 = .ok (.bipush (-2), 2) := by decide +kernel
theorem dyX12_init_542 : decode cX12_init 542 = .ok (.iastore, 1) := by decide +kernel
theorem dyX12_init_543 : decode cX12_init 543 = .ok (.aload_n 0, 1) := by decide +kernel
theorem dyX12_init_544 : decode cX12_init 544 = .ok (.iconst 0, 1) := by decide +kernel
theorem dyX12_init_545 : decode cX12_init 545 = .ok (.invokevirtual 196, 3) := by decide +kernel
theorem dyX12_init_548 : decode cX12_init 548 = .ok (.return_, 1) := by decide +kernel
theorem zsg_yX12_init : yX12_init.cls ≠ "java/lang/invoke/MethodHandle" ∧ yX12_init.cls ≠ "java/lang/invoke/VarHandle" ∧ (parseMethodDescriptor yX12_init.desc).map (fun d => d.parameters.length) = some 0 := by decide +kernel
def zrmM : Room := { frames := 60, cells := 54, slots := 283800, locals := 4000 }
def zmPos : Nat → Nat := fun j => [1, 2, 4, 6, 10, 11, 12, 13, 14, 16, 17, 18, 20, 21, 22, 23, 24, 26, 27, 28, 29, 30, 31, 32, 33, 34, 35, 38, 40, 44, 45, 46, 47, 48, 49, 50, 52, 54, 56, 57, 58, 60, 61, 62, 63, 64, 68, 69, 70, 74, 77, 78, 79, 81].getD j 0
def zmO : Nat → List (Option (Option Nat))
  | 0 => [none, some none, some none, none, some none, none, some none, none, none, none, some none, some none, some none, some none, some none, none, some none, some none, some none, none, some none, some none, some none, some none, some none, none, some none, some none, some none, some none, some none, some none, some none, some none, some none, some none, none, none, some none, none, some none, none, none, none, some none, some none, some none, some none, some none, some none, some none, none, some none, none, some none, none, some none, some none, some none, none, some none, some none, some none, some none, some none, none, none, none, some none, some none, some none, none, none, none, some none, none, none, some none, some none, some none, none, some none]
  | j + 1 => (zmO j).set (zmPos j) (some (some (492 + j)))
def zmArr : List zC := [.inr (.inl (0, 220)), .inr (.inl (0, 700)), .inr (.inl (0, 300)), .inr (.inl (0, 300)), .inr (.inl (0, 710)), .inr (.inl (0, 710)), .inr (.inl (0, 710)), .inr (.inl (1, 710)), .inr (.inl (0, 110)), .inr (.inl (0, 110)), .inr (.inl (0, 110)), .inr (.inl (0, 110)), .inr (.inl (0, 110)), .inr (.inl (0, 110)), .inr (.inl (0, 110)), .inr (.inl (1, 110)), .inr (.inl (0, 110)), .inr (.inl (0, 3700)), .inr (.inl (0, 3700)), .inr (.inl (1, 3700)), .inr (.inl (0, 3700)), .inr (.inl (0, 14800)), .inr (.inl (0, 3700)), .inr (.inl (0, 3700)), .inr (.inl (0, 3700)), .inr (.inl (0, 3700)), .inr (.inl (0, 185000)), .inr (.inl (0, 400)), .inr (.inl (0, 120)), .inr (.inl (0, 700)), .inr (.inl (0, 700)), .inr (.inl (0, 3700)), .inr (.inl (0, 3700)), .inr (.inl (0, 3700)), .inr (.inl (0, 3700)), .inr (.inl (0, 700)), .inr (.inl (0, 110)), .inr (.inl (0, 110)), .inr (.inl (1, 60)), .inr (.inl (0, 60)), .inr (.inl (0, 3700)), .inr (.inl (0, 4100)), .inr (.inl (0, 4100)), .inr (.inl (0, 20)), .inr (.inl (0, 20)), .inr (.inl (0, 20)), .inr (.inl (0, 10)), .inr (.inl (0, 400)), .inr (.inl (0, 400)), .inr (.inl (0, 700)), .inr (.inl (0, 15120)), .inr (.inl (0, 700)), .inr (.inl (0, 1000)), .inr (.inl (0, 1000))]
def zmS (j : Nat) : List zC := zSx ++ (.inl (12, zmO j) :: zmArr.take j)
theorem zmS_len (j : Nat) (h : j ≤ 54) : (zmS j).length = 492 + j := by
  have h1 : zmArr.length = 54 := rfl
  simp only [zmS, List.length_append, List.length_cons, List.length_take, zSx_len]
  omega
theorem zmS_step (j : Nat) (a : zC) (ha : zmArr[j]? = some a) : (zmS j ++ [a]).set 491 (.inl (12, (zmO j).set (zmPos j) (some (some (492 + j))))) = zmS (j + 1) := by
  have e : zSx.length = 491 := zSx_len
  unfold zmS
  rw [← e, zl_set, List.take_add_one, ha]
  rfl
theorem zmS_get (j : Nat) (X : List zC) : (zmS j ++ X)[491]? = some (.inl (12, zmO j)) := by
  have e : zSx.length = 491 := zSx_len
  unfold zmS
  rw [← e]
  exact zl_get
set_option maxRecDepth 100000 in
theorem zmS_end : zmS 54 = zS0 := congrArg (fun x => zSx ++ x) (show (.inl (12, zmO 54) :: zmArr.take 54 : List zC) = zSm from rfl)
theorem zg_12_59t {p : Program} {l : Launch} {e : Env} {R : Room} {s : State} {m : MethodId} {args : Array Value} {below : List Frame} {meth : Method} {c : Code} {Q : State → Prop} {D : va_G} {B : Nat} {cA : Nat → ClassId} {ad : Nat → Nat} {cc : ByteArray} {nL : Nat} {ret : Option FieldType} {S : List zC} {I : zI} {lv : List (Nat × Value)} {st : List Value} {pc cells slots : Nat} (C : zCx p s m args meth c cc nL RX12 ret D B cA ad) (hS : zOkM S) (hd : decode cc pc = .ok (.getfield 59, 3)) (kk : zX p l e R s m args below meth c Q D B cA nL cells slots S I lv (.ref (B + 508) :: st) (pc + 3)) : zX p l e R s m args below meth c Q D B cA nL cells slots S I lv (.ref (B + 491) :: st) pc :=
  zr_getr C (ci := 12) (Cn := RX12) (T := TX12) (N := 82) (k := 491) (j := 24) (fs := [none, some (some 492), some (some 493), none, some (some 494), none, some (some 495), none, none, none, some (some 496), some (some 497), some (some 498), some (some 499), some (some 500), none, some (some 501), some (some 502), some (some 503), none, some (some 504), some (some 505), some (some 506), some (some 507), some (some 508), none, some (some 509), some (some 510), some (some 511), some (some 512), some (some 513), some (some 514), some (some 515), some (some 516), some (some 517), some (some 518), none, none, some (some 519), none, some (some 520), none, none, none, some (some 521), some (some 522), some (some 523), some (some 524), some (some 525), some (some 526), some (some 527), none, some (some 528), none, some (some 529), none, some (some 530), some (some 531), some (some 532), none, some (some 533), some (some 534), some (some 535), some (some 536), some (some 537), none, none, none, some (some 538), some (some 539), some (some 540), none, none, none, some (some 541), none, none, some (some 542), some (some 543), some (some 544), none, some (some 545)]) rfl zin_12 (Nat.le_of_ble_eq_true rfl) rfl (hS _ _ zs_491) rfl zk_fl_12_59 hd kk
theorem zv_12_174t {p : Program} {l : Launch} {e : Env} {R : Room} {s : State} {m : MethodId} {args : Array Value} {below : List Frame} {meth : Method} {c : Code} {Q : State → Prop} {D : va_G} {B : Nat} {cA : Nat → ClassId} {ad : Nat → Nat} {cc : ByteArray} {nL : Nat} {ret : Option FieldType} {S : List zC} {I : zI} {lv : List (Nat × Value)} {st : List Value} {pc cells slots : Nat} (C : zCx p s m args meth c cc nL RX12 ret D B cA ad) {K : Int32 → zI → Prop} {xa1 : Int32} {xa2 : Int32} (hS : zOkM S)  (h : w_M_newNode xa1 xa2 I K) (hR : 0 + 1 ≤ R.frames ∧ 8 + (4 + 11) + (0) ≤ R.locals) (hw : (st.map fun v => v.category).sum ≤ 8) (hd : decode cc pc = .ok (.invokevirtual 174, 3)) (hf : cells ≤ R.cells ∧ slots ≤ R.slots) (kk : ∀ v I2, K v I2 → zX p l e R s m args below meth c Q D B cA nL cells slots S I2 lv (.int v :: st) (pc + 3)) : zX p l e R s m args below meth c Q D B cA nL cells slots S I lv (.int xa2 :: .int xa1 :: .ref (B + 491) :: st) pc :=
  zc_VqI C (ci := 12) (q := (RX12, TX12, 82)) (k := 491) (fs := [none, some (some 492), some (some 493), none, some (some 494), none, some (some 495), none, none, none, some (some 496), some (some 497), some (some 498), some (some 499), some (some 500), none, some (some 501), some (some 502), some (some 503), none, some (some 504), some (some 505), some (some 506), some (some 507), some (some 508), none, some (some 509), some (some 510), some (some 511), some (some 512), some (some 513), some (some 514), some (some 515), some (some 516), some (some 517), some (some 518), none, none, some (some 519), none, some (some 520), none, none, none, some (some 521), some (some 522), some (some 523), some (some 524), some (some 525), some (some 526), some (some 527), none, some (some 528), none, some (some 529), none, some (some 530), some (some 531), some (some 532), none, some (some 533), some (some 534), some (some 535), some (some 536), some (some 537), none, none, none, some (some 538), some (some 539), some (some 540), none, none, none, some (some 541), none, none, some (some 542), some (some 543), some (some 544), none, some (some 545)]) (As := [.int xa1, .int xa2]) (st := st) rfl (hS _ _ zs_491) (c_M_newNode hS h) (zgV zk_ml_12_174 zk_im_yX12_newNode zk_se_yX12_newNode zk_in_12 zk_cd_yX12_newNode) zsg_yX12_newNode hR rfl rfl hw hd hf kk
theorem zg_12_65t {p : Program} {l : Launch} {e : Env} {R : Room} {s : State} {m : MethodId} {args : Array Value} {below : List Frame} {meth : Method} {c : Code} {Q : State → Prop} {D : va_G} {B : Nat} {cA : Nat → ClassId} {ad : Nat → Nat} {cc : ByteArray} {nL : Nat} {ret : Option FieldType} {S : List zC} {I : zI} {lv : List (Nat × Value)} {st : List Value} {pc cells slots : Nat} (C : zCx p s m args meth c cc nL RX12 ret D B cA ad) (hS : zOkM S) (hd : decode cc pc = .ok (.getfield 65, 3)) (kk : zX p l e R s m args below meth c Q D B cA nL cells slots S I lv (.ref (B + 510) :: st) (pc + 3)) : zX p l e R s m args below meth c Q D B cA nL cells slots S I lv (.ref (B + 491) :: st) pc :=
  zr_getr C (ci := 12) (Cn := RX12) (T := TX12) (N := 82) (k := 491) (j := 27) (fs := [none, some (some 492), some (some 493), none, some (some 494), none, some (some 495), none, none, none, some (some 496), some (some 497), some (some 498), some (some 499), some (some 500), none, some (some 501), some (some 502), some (some 503), none, some (some 504), some (some 505), some (some 506), some (some 507), some (some 508), none, some (some 509), some (some 510), some (some 511), some (some 512), some (some 513), some (some 514), some (some 515), some (some 516), some (some 517), some (some 518), none, none, some (some 519), none, some (some 520), none, none, none, some (some 521), some (some 522), some (some 523), some (some 524), some (some 525), some (some 526), some (some 527), none, some (some 528), none, some (some 529), none, some (some 530), some (some 531), some (some 532), none, some (some 533), some (some 534), some (some 535), some (some 536), some (some 537), none, none, none, some (some 538), some (some 539), some (some 540), none, none, none, some (some 541), none, none, some (some 542), some (some 543), some (some 544), none, some (some 545)]) rfl zin_12 (Nat.le_of_ble_eq_true rfl) rfl (hS _ _ zs_491) rfl zk_fl_12_65 hd kk
theorem zg_12_80t {p : Program} {l : Launch} {e : Env} {R : Room} {s : State} {m : MethodId} {args : Array Value} {below : List Frame} {meth : Method} {c : Code} {Q : State → Prop} {D : va_G} {B : Nat} {cA : Nat → ClassId} {ad : Nat → Nat} {cc : ByteArray} {nL : Nat} {ret : Option FieldType} {S : List zC} {I : zI} {lv : List (Nat × Value)} {st : List Value} {pc cells slots : Nat} (C : zCx p s m args meth c cc nL RX12 ret D B cA ad) (hS : zOkM S) (hd : decode cc pc = .ok (.getfield 80, 3)) (kk : zX p l e R s m args below meth c Q D B cA nL cells slots S I lv (.ref (B + 515) :: st) (pc + 3)) : zX p l e R s m args below meth c Q D B cA nL cells slots S I lv (.ref (B + 491) :: st) pc :=
  zr_getr C (ci := 12) (Cn := RX12) (T := TX12) (N := 82) (k := 491) (j := 32) (fs := [none, some (some 492), some (some 493), none, some (some 494), none, some (some 495), none, none, none, some (some 496), some (some 497), some (some 498), some (some 499), some (some 500), none, some (some 501), some (some 502), some (some 503), none, some (some 504), some (some 505), some (some 506), some (some 507), some (some 508), none, some (some 509), some (some 510), some (some 511), some (some 512), some (some 513), some (some 514), some (some 515), some (some 516), some (some 517), some (some 518), none, none, some (some 519), none, some (some 520), none, none, none, some (some 521), some (some 522), some (some 523), some (some 524), some (some 525), some (some 526), some (some 527), none, some (some 528), none, some (some 529), none, some (some 530), some (some 531), some (some 532), none, some (some 533), some (some 534), some (some 535), some (some 536), some (some 537), none, none, none, some (some 538), some (some 539), some (some 540), none, none, none, some (some 541), none, none, some (some 542), some (some 543), some (some 544), none, some (some 545)]) rfl zin_12 (Nat.le_of_ble_eq_true rfl) rfl (hS _ _ zs_491) rfl zk_fl_12_80 hd kk
theorem zp_12_178t {p : Program} {l : Launch} {e : Env} {R : Room} {s : State} {m : MethodId} {args : Array Value} {below : List Frame} {meth : Method} {c : Code} {Q : State → Prop} {D : va_G} {B : Nat} {cA : Nat → ClassId} {ad : Nat → Nat} {cc : ByteArray} {nL : Nat} {ret : Option FieldType} {S : List zC} {I : zI} {lv : List (Nat × Value)} {st : List Value} {pc cells slots : Nat} (C : zCx p s m args meth c cc nL RX12 ret D B cA ad) (hS : zOkM S) {v : Int32} (hd : decode cc pc = .ok (.putfield 178, 3)) (kk : zX p l e R s m args below meth c Q D B cA nL cells slots S (zu I 491 37 v) lv st (pc + 3)) : zX p l e R s m args below meth c Q D B cA nL cells slots S I lv (.int v :: .ref (B + 491) :: st) pc :=
  zr_puti C (ci := 12) (Cn := RX12) (T := TX12) (N := 82) (k := 491) (j := 37) (fs := [none, some (some 492), some (some 493), none, some (some 494), none, some (some 495), none, none, none, some (some 496), some (some 497), some (some 498), some (some 499), some (some 500), none, some (some 501), some (some 502), some (some 503), none, some (some 504), some (some 505), some (some 506), some (some 507), some (some 508), none, some (some 509), some (some 510), some (some 511), some (some 512), some (some 513), some (some 514), some (some 515), some (some 516), some (some 517), some (some 518), none, none, some (some 519), none, some (some 520), none, none, none, some (some 521), some (some 522), some (some 523), some (some 524), some (some 525), some (some 526), some (some 527), none, some (some 528), none, some (some 529), none, some (some 530), some (some 531), some (some 532), none, some (some 533), some (some 534), some (some 535), some (some 536), some (some 537), none, none, none, some (some 538), some (some 539), some (some 540), none, none, none, some (some 541), none, none, some (some 542), some (some 543), some (some 544), none, some (some 545)]) rfl zin_12 (Nat.le_of_ble_eq_true rfl) rfl (hS _ _ zs_491) rfl tyX12 tyX12_ok nmX12 (ty := .int) zpd_I rfl rfl rfl zk_fl_12_178 hd kk
theorem zg_12_77t {p : Program} {l : Launch} {e : Env} {R : Room} {s : State} {m : MethodId} {args : Array Value} {below : List Frame} {meth : Method} {c : Code} {Q : State → Prop} {D : va_G} {B : Nat} {cA : Nat → ClassId} {ad : Nat → Nat} {cc : ByteArray} {nL : Nat} {ret : Option FieldType} {S : List zC} {I : zI} {lv : List (Nat × Value)} {st : List Value} {pc cells slots : Nat} (C : zCx p s m args meth c cc nL RX12 ret D B cA ad) (hS : zOkM S) (hd : decode cc pc = .ok (.getfield 77, 3)) (kk : zX p l e R s m args below meth c Q D B cA nL cells slots S I lv (.ref (B + 514) :: st) (pc + 3)) : zX p l e R s m args below meth c Q D B cA nL cells slots S I lv (.ref (B + 491) :: st) pc :=
  zr_getr C (ci := 12) (Cn := RX12) (T := TX12) (N := 82) (k := 491) (j := 31) (fs := [none, some (some 492), some (some 493), none, some (some 494), none, some (some 495), none, none, none, some (some 496), some (some 497), some (some 498), some (some 499), some (some 500), none, some (some 501), some (some 502), some (some 503), none, some (some 504), some (some 505), some (some 506), some (some 507), some (some 508), none, some (some 509), some (some 510), some (some 511), some (some 512), some (some 513), some (some 514), some (some 515), some (some 516), some (some 517), some (some 518), none, none, some (some 519), none, some (some 520), none, none, none, some (some 521), some (some 522), some (some 523), some (some 524), some (some 525), some (some 526), some (some 527), none, some (some 528), none, some (some 529), none, some (some 530), some (some 531), some (some 532), none, some (some 533), some (some 534), some (some 535), some (some 536), some (some 537), none, none, none, some (some 538), some (some 539), some (some 540), none, none, none, some (some 541), none, none, some (some 542), some (some 543), some (some 544), none, some (some 545)]) rfl zin_12 (Nat.le_of_ble_eq_true rfl) rfl (hS _ _ zs_491) rfl zk_fl_12_77 hd kk
theorem zp_12_182t {p : Program} {l : Launch} {e : Env} {R : Room} {s : State} {m : MethodId} {args : Array Value} {below : List Frame} {meth : Method} {c : Code} {Q : State → Prop} {D : va_G} {B : Nat} {cA : Nat → ClassId} {ad : Nat → Nat} {cc : ByteArray} {nL : Nat} {ret : Option FieldType} {S : List zC} {I : zI} {lv : List (Nat × Value)} {st : List Value} {pc cells slots : Nat} (C : zCx p s m args meth c cc nL RX12 ret D B cA ad) (hS : zOkM S) {v : Int32} (hz : zb v) (hd : decode cc pc = .ok (.putfield 182, 3)) (kk : zX p l e R s m args below meth c Q D B cA nL cells slots S (zu I 491 8 v) lv st (pc + 3)) : zX p l e R s m args below meth c Q D B cA nL cells slots S I lv (.int v :: .ref (B + 491) :: st) pc :=
  zr_puti C (ci := 12) (Cn := RX12) (T := TX12) (N := 82) (k := 491) (j := 8) (fs := [none, some (some 492), some (some 493), none, some (some 494), none, some (some 495), none, none, none, some (some 496), some (some 497), some (some 498), some (some 499), some (some 500), none, some (some 501), some (some 502), some (some 503), none, some (some 504), some (some 505), some (some 506), some (some 507), some (some 508), none, some (some 509), some (some 510), some (some 511), some (some 512), some (some 513), some (some 514), some (some 515), some (some 516), some (some 517), some (some 518), none, none, some (some 519), none, some (some 520), none, none, none, some (some 521), some (some 522), some (some 523), some (some 524), some (some 525), some (some 526), some (some 527), none, some (some 528), none, some (some 529), none, some (some 530), some (some 531), some (some 532), none, some (some 533), some (some 534), some (some 535), some (some 536), some (some 537), none, none, none, some (some 538), some (some 539), some (some 540), none, none, none, some (some 541), none, none, some (some 542), some (some 543), some (some 544), none, some (some 545)]) rfl zin_12 (Nat.le_of_ble_eq_true rfl) rfl (hS _ _ zs_491) rfl tyX12 tyX12_ok nmX12 (ty := .boolean) zpd_Z (zb.nar hz) (zb.fit hz) rfl zk_fl_12_182 hd kk
theorem zv_12_186t {p : Program} {l : Launch} {e : Env} {R : Room} {s : State} {m : MethodId} {args : Array Value} {below : List Frame} {meth : Method} {c : Code} {Q : State → Prop} {D : va_G} {B : Nat} {cA : Nat → ClassId} {ad : Nat → Nat} {cc : ByteArray} {nL : Nat} {ret : Option FieldType} {S : List zC} {I : zI} {lv : List (Nat × Value)} {st : List Value} {pc cells slots : Nat} (C : zCx p s m args meth c cc nL RX12 ret D B cA ad) {K : zI → Prop} {xa1 : Int32} (hS : zOkM S)  (h : w_M_cutsUp xa1 I K) (hR : 2 + 1 ≤ R.frames ∧ 8 + (4 + 11) + (48) ≤ R.locals) (hw : (st.map fun v => v.category).sum ≤ 8) (hd : decode cc pc = .ok (.invokevirtual 186, 3)) (hf : cells ≤ R.cells ∧ slots ≤ R.slots) (kk : ∀ I2, K I2 → zX p l e R s m args below meth c Q D B cA nL cells slots S I2 lv st (pc + 3)) : zX p l e R s m args below meth c Q D B cA nL cells slots S I lv (.int xa1 :: .ref (B + 491) :: st) pc :=
  zc_VqV C (ci := 12) (q := (RX12, TX12, 82)) (k := 491) (fs := [none, some (some 492), some (some 493), none, some (some 494), none, some (some 495), none, none, none, some (some 496), some (some 497), some (some 498), some (some 499), some (some 500), none, some (some 501), some (some 502), some (some 503), none, some (some 504), some (some 505), some (some 506), some (some 507), some (some 508), none, some (some 509), some (some 510), some (some 511), some (some 512), some (some 513), some (some 514), some (some 515), some (some 516), some (some 517), some (some 518), none, none, some (some 519), none, some (some 520), none, none, none, some (some 521), some (some 522), some (some 523), some (some 524), some (some 525), some (some 526), some (some 527), none, some (some 528), none, some (some 529), none, some (some 530), some (some 531), some (some 532), none, some (some 533), some (some 534), some (some 535), some (some 536), some (some 537), none, none, none, some (some 538), some (some 539), some (some 540), none, none, none, some (some 541), none, none, some (some 542), some (some 543), some (some 544), none, some (some 545)]) (As := [.int xa1]) (st := st) rfl (hS _ _ zs_491) (c_M_cutsUp hS h) (zgV zk_ml_12_186 zk_im_yX12_cutsUp zk_se_yX12_cutsUp zk_in_12 zk_cd_yX12_cutsUp) zsg_yX12_cutsUp hR rfl rfl hw hd hf kk
theorem zv_12_190t {p : Program} {l : Launch} {e : Env} {R : Room} {s : State} {m : MethodId} {args : Array Value} {below : List Frame} {meth : Method} {c : Code} {Q : State → Prop} {D : va_G} {B : Nat} {cA : Nat → ClassId} {ad : Nat → Nat} {cc : ByteArray} {nL : Nat} {ret : Option FieldType} {S : List zC} {I : zI} {lv : List (Nat × Value)} {st : List Value} {pc cells slots : Nat} (C : zCx p s m args meth c cc nL RX12 ret D B cA ad) {K : zI → Prop}  (hS : zOkM S)  (h : w_M_keepsTokens I K) (hR : 1 + 1 ≤ R.frames ∧ 8 + (2 + 11) + (21) ≤ R.locals) (hw : (st.map fun v => v.category).sum ≤ 8) (hd : decode cc pc = .ok (.invokevirtual 190, 3)) (hf : cells ≤ R.cells ∧ slots ≤ R.slots) (kk : ∀ I2, K I2 → zX p l e R s m args below meth c Q D B cA nL cells slots S I2 lv st (pc + 3)) : zX p l e R s m args below meth c Q D B cA nL cells slots S I lv (.ref (B + 491) :: st) pc :=
  zc_VqV C (ci := 12) (q := (RX12, TX12, 82)) (k := 491) (fs := [none, some (some 492), some (some 493), none, some (some 494), none, some (some 495), none, none, none, some (some 496), some (some 497), some (some 498), some (some 499), some (some 500), none, some (some 501), some (some 502), some (some 503), none, some (some 504), some (some 505), some (some 506), some (some 507), some (some 508), none, some (some 509), some (some 510), some (some 511), some (some 512), some (some 513), some (some 514), some (some 515), some (some 516), some (some 517), some (some 518), none, none, some (some 519), none, some (some 520), none, none, none, some (some 521), some (some 522), some (some 523), some (some 524), some (some 525), some (some 526), some (some 527), none, some (some 528), none, some (some 529), none, some (some 530), some (some 531), some (some 532), none, some (some 533), some (some 534), some (some 535), some (some 536), some (some 537), none, none, none, some (some 538), some (some 539), some (some 540), none, none, none, some (some 541), none, none, some (some 542), some (some 543), some (some 544), none, some (some 545)]) (As := []) (st := st) rfl (hS _ _ zs_491) (c_M_keepsTokens hS h) (zgV zk_ml_12_190 zk_im_yX12_keepsTokens zk_se_yX12_keepsTokens zk_in_12 zk_cd_yX12_keepsTokens) zsg_yX12_keepsTokens hR rfl rfl hw hd hf kk
theorem zv_12_193t {p : Program} {l : Launch} {e : Env} {R : Room} {s : State} {m : MethodId} {args : Array Value} {below : List Frame} {meth : Method} {c : Code} {Q : State → Prop} {D : va_G} {B : Nat} {cA : Nat → ClassId} {ad : Nat → Nat} {cc : ByteArray} {nL : Nat} {ret : Option FieldType} {S : List zC} {I : zI} {lv : List (Nat × Value)} {st : List Value} {pc cells slots : Nat} (C : zCx p s m args meth c cc nL RX12 ret D B cA ad) {K : zI → Prop}  (hS : zOkM S)  (h : w_M_fillsTree I K) (hR : 1 + 1 ≤ R.frames ∧ 8 + (6 + 11) + (23) ≤ R.locals) (hw : (st.map fun v => v.category).sum ≤ 8) (hd : decode cc pc = .ok (.invokevirtual 193, 3)) (hf : cells ≤ R.cells ∧ slots ≤ R.slots) (kk : ∀ I2, K I2 → zX p l e R s m args below meth c Q D B cA nL cells slots S I2 lv st (pc + 3)) : zX p l e R s m args below meth c Q D B cA nL cells slots S I lv (.ref (B + 491) :: st) pc :=
  zc_VqV C (ci := 12) (q := (RX12, TX12, 82)) (k := 491) (fs := [none, some (some 492), some (some 493), none, some (some 494), none, some (some 495), none, none, none, some (some 496), some (some 497), some (some 498), some (some 499), some (some 500), none, some (some 501), some (some 502), some (some 503), none, some (some 504), some (some 505), some (some 506), some (some 507), some (some 508), none, some (some 509), some (some 510), some (some 511), some (some 512), some (some 513), some (some 514), some (some 515), some (some 516), some (some 517), some (some 518), none, none, some (some 519), none, some (some 520), none, none, none, some (some 521), some (some 522), some (some 523), some (some 524), some (some 525), some (some 526), some (some 527), none, some (some 528), none, some (some 529), none, some (some 530), some (some 531), some (some 532), none, some (some 533), some (some 534), some (some 535), some (some 536), some (some 537), none, none, none, some (some 538), some (some 539), some (some 540), none, none, none, some (some 541), none, none, some (some 542), some (some 543), some (some 544), none, some (some 545)]) (As := []) (st := st) rfl (hS _ _ zs_491) (c_M_fillsTree hS h) (zgV zk_ml_12_193 zk_im_yX12_fillsTree zk_se_yX12_fillsTree zk_in_12 zk_cd_yX12_fillsTree) zsg_yX12_fillsTree hR rfl rfl hw hd hf kk
theorem zg_12_150t {p : Program} {l : Launch} {e : Env} {R : Room} {s : State} {m : MethodId} {args : Array Value} {below : List Frame} {meth : Method} {c : Code} {Q : State → Prop} {D : va_G} {B : Nat} {cA : Nat → ClassId} {ad : Nat → Nat} {cc : ByteArray} {nL : Nat} {ret : Option FieldType} {S : List zC} {I : zI} {lv : List (Nat × Value)} {st : List Value} {pc cells slots : Nat} (C : zCx p s m args meth c cc nL RX12 ret D B cA ad) (hS : zOkM S) (hd : decode cc pc = .ok (.getfield 150, 3)) (kk : zX p l e R s m args below meth c Q D B cA nL cells slots S I lv (.ref (B + 538) :: st) (pc + 3)) : zX p l e R s m args below meth c Q D B cA nL cells slots S I lv (.ref (B + 491) :: st) pc :=
  zr_getr C (ci := 12) (Cn := RX12) (T := TX12) (N := 82) (k := 491) (j := 68) (fs := [none, some (some 492), some (some 493), none, some (some 494), none, some (some 495), none, none, none, some (some 496), some (some 497), some (some 498), some (some 499), some (some 500), none, some (some 501), some (some 502), some (some 503), none, some (some 504), some (some 505), some (some 506), some (some 507), some (some 508), none, some (some 509), some (some 510), some (some 511), some (some 512), some (some 513), some (some 514), some (some 515), some (some 516), some (some 517), some (some 518), none, none, some (some 519), none, some (some 520), none, none, none, some (some 521), some (some 522), some (some 523), some (some 524), some (some 525), some (some 526), some (some 527), none, some (some 528), none, some (some 529), none, some (some 530), some (some 531), some (some 532), none, some (some 533), some (some 534), some (some 535), some (some 536), some (some 537), none, none, none, some (some 538), some (some 539), some (some 540), none, none, none, some (some 541), none, none, some (some 542), some (some 543), some (some 544), none, some (some 545)]) rfl zin_12 (Nat.le_of_ble_eq_true rfl) rfl (hS _ _ zs_491) rfl zk_fl_12_150 hd kk
theorem zv_12_196t {p : Program} {l : Launch} {e : Env} {R : Room} {s : State} {m : MethodId} {args : Array Value} {below : List Frame} {meth : Method} {c : Code} {Q : State → Prop} {D : va_G} {B : Nat} {cA : Nat → ClassId} {ad : Nat → Nat} {cc : ByteArray} {nL : Nat} {ret : Option FieldType} {S : List zC} {I : zI} {lv : List (Nat × Value)} {st : List Value} {pc cells slots : Nat} (C : zCx p s m args meth c cc nL RX12 ret D B cA ad) {K : zI → Prop} {xa1 : Int32} (hS : zOkM S)  (h : w_M_keeps xa1 I K) (hR : 0 + 1 ≤ R.frames ∧ 8 + (4 + 11) + (0) ≤ R.locals) (hw : (st.map fun v => v.category).sum ≤ 8) (hd : decode cc pc = .ok (.invokevirtual 196, 3)) (hf : cells ≤ R.cells ∧ slots ≤ R.slots) (kk : ∀ I2, K I2 → zX p l e R s m args below meth c Q D B cA nL cells slots S I2 lv st (pc + 3)) : zX p l e R s m args below meth c Q D B cA nL cells slots S I lv (.int xa1 :: .ref (B + 491) :: st) pc :=
  zc_VqV C (ci := 12) (q := (RX12, TX12, 82)) (k := 491) (fs := [none, some (some 492), some (some 493), none, some (some 494), none, some (some 495), none, none, none, some (some 496), some (some 497), some (some 498), some (some 499), some (some 500), none, some (some 501), some (some 502), some (some 503), none, some (some 504), some (some 505), some (some 506), some (some 507), some (some 508), none, some (some 509), some (some 510), some (some 511), some (some 512), some (some 513), some (some 514), some (some 515), some (some 516), some (some 517), some (some 518), none, none, some (some 519), none, some (some 520), none, none, none, some (some 521), some (some 522), some (some 523), some (some 524), some (some 525), some (some 526), some (some 527), none, some (some 528), none, some (some 529), none, some (some 530), some (some 531), some (some 532), none, some (some 533), some (some 534), some (some 535), some (some 536), some (some 537), none, none, none, some (some 538), some (some 539), some (some 540), none, none, none, some (some 541), none, none, some (some 542), some (some 543), some (some 544), none, some (some 545)]) (As := [.int xa1]) (st := st) rfl (hS _ _ zs_491) (c_M_keeps hS h) (zgV zk_ml_12_196 zk_im_yX12_keeps zk_se_yX12_keeps zk_in_12 zk_cd_yX12_keeps) zsg_yX12_keeps hR rfl rfl hw hd hf kk
def w_M_init (I : zI) (K : zI → Prop) : Prop :=
  w_M_newNode (-2) 0 I (fun r_1 I_2 => vp_in 0 110 ∧ (∀ I_3, I_3 = (zu I_2 508 0 r_1) → vp_in 0 3700 ∧ (∀ I_4, I_4 = (zu I_3 510 0 10) → vp_in 0 3700 ∧ (∀ I_5, I_5 = (zu I_4 515 0 1) → w_M_newNode 0 0 I_5 (fun r_6 I_7 => ∀ I_8, I_8 = (zu I_7 491 37 r_6) → vp_in 1 3700 ∧ (∀ I_9, I_9 = (zu I_8 514 1 0) → ∀ I_10, I_10 = (zu I_9 491 8 1) → w_M_cutsUp 0 I_10 (fun I_11 => w_M_keepsTokens I_11 (fun I_12 => w_M_fillsTree I_12 (fun I_13 => vp_in 6 10 ∧ (∀ I_14, I_14 = (zu I_13 538 6 (-2)) → w_M_keeps 0 I_14 (fun I_15 => K I_15)))))))))))
set_option maxRecDepth 20000 in
theorem zm_tail {p : Program} {l : Launch} {e : Env} {s : State} {m : MethodId} {args : Array Value} {below : List Frame} {meth : Method} {c : Code} {D : va_G} {B : Nat} {cA : Nat → ClassId} {ad : Nat → Nat} {S : List zC} (C : zCx p s m args meth c cX12_init 1 RX12 none D B cA ad) (hS : zOkM S) {I : zI} {K : zI → Prop} (h : w_M_init I K) : zX p l e zrmM s m args below meth c (MQ below (zQc D B cA (zqV S K)) args s 54 283800 (fun q => B ≤ q)) D B cA 1 54 283800 S I [(0, .ref (B + 491))] [] 471 := by
  unfold w_M_init at h
  refine zr_aload_n C dyX12_init_471 rfl 0 rfl ?_
  refine zg_12_59t C hS dyX12_init_472 ?_
  refine zr_iconst C dyX12_init_475 zc_i_0 ?_
  refine zr_aload_n C dyX12_init_476 rfl 0 rfl ?_
  refine zr_bipush C dyX12_init_477 zc_b_m2 ?_
  refine zr_iconst C dyX12_init_479 zc_i_0 ?_
  refine zv_12_174t C hS (st := [.int 0, .ref (B + 508)]) h ⟨Nat.le_of_ble_eq_true rfl, Nat.le_of_ble_eq_true rfl⟩ (Nat.le_of_ble_eq_true rfl) dyX12_init_480 ⟨Nat.le_of_ble_eq_true rfl, Nat.le_of_ble_eq_true rfl⟩ (fun r_1 I_2 h => ?_)
  refine zr_iast C (hS _ _ zs_508) h.1 dyX12_init_483 ?_
  replace h := h.2
  refine zn_mem C (fun I_3 eI_3 => ?_)
  replace h := h I_3 eI_3
  refine zr_aload_n C dyX12_init_484 rfl 0 rfl ?_
  refine zg_12_65t C hS dyX12_init_485 ?_
  refine zr_iconst C dyX12_init_488 zc_i_0 ?_
  refine zr_bipush C dyX12_init_489 zc_b_10 ?_
  refine zr_iast C (hS _ _ zs_510) h.1 dyX12_init_491 ?_
  replace h := h.2
  refine zn_mem C (fun I_4 eI_4 => ?_)
  replace h := h I_4 eI_4
  refine zr_aload_n C dyX12_init_492 rfl 0 rfl ?_
  refine zg_12_80t C hS dyX12_init_493 ?_
  refine zr_iconst C dyX12_init_496 zc_i_0 ?_
  refine zr_iconst C dyX12_init_497 zc_i_1 ?_
  refine zr_iast C (hS _ _ zs_515) h.1 dyX12_init_498 ?_
  replace h := h.2
  refine zn_mem C (fun I_5 eI_5 => ?_)
  replace h := h I_5 eI_5
  refine zr_aload_n C dyX12_init_499 rfl 0 rfl ?_
  refine zr_aload_n C dyX12_init_500 rfl 0 rfl ?_
  refine zr_iconst C dyX12_init_501 zc_i_0 ?_
  refine zr_iconst C dyX12_init_502 zc_i_0 ?_
  refine zv_12_174t C hS (st := [.ref (B + 491)]) h ⟨Nat.le_of_ble_eq_true rfl, Nat.le_of_ble_eq_true rfl⟩ (Nat.le_of_ble_eq_true rfl) dyX12_init_503 ⟨Nat.le_of_ble_eq_true rfl, Nat.le_of_ble_eq_true rfl⟩ (fun r_6 I_7 h => ?_)
  refine zp_12_178t C hS dyX12_init_506 ?_
  refine zn_mem C (fun I_8 eI_8 => ?_)
  replace h := h I_8 eI_8
  refine zr_aload_n C dyX12_init_509 rfl 0 rfl ?_
  refine zg_12_77t C hS dyX12_init_510 ?_
  refine zr_iconst C dyX12_init_513 zc_i_1 ?_
  refine zr_iconst C dyX12_init_514 zc_i_0 ?_
  refine zr_iast C (hS _ _ zs_514) h.1 dyX12_init_515 ?_
  replace h := h.2
  refine zn_mem C (fun I_9 eI_9 => ?_)
  replace h := h I_9 eI_9
  refine zr_aload_n C dyX12_init_516 rfl 0 rfl ?_
  refine zr_iconst C dyX12_init_517 zc_i_1 ?_
  refine zp_12_182t C hS zb_1 dyX12_init_518 ?_
  refine zn_mem C (fun I_10 eI_10 => ?_)
  replace h := h I_10 eI_10
  refine zr_aload_n C dyX12_init_521 rfl 0 rfl ?_
  refine zr_iconst C dyX12_init_522 zc_i_0 ?_
  refine zv_12_186t C hS (st := []) h ⟨Nat.le_of_ble_eq_true rfl, Nat.le_of_ble_eq_true rfl⟩ (Nat.le_of_ble_eq_true rfl) dyX12_init_523 ⟨Nat.le_of_ble_eq_true rfl, Nat.le_of_ble_eq_true rfl⟩ (fun I_11 h => ?_)
  refine zr_aload_n C dyX12_init_526 rfl 0 rfl ?_
  refine zv_12_190t C hS (st := []) h ⟨Nat.le_of_ble_eq_true rfl, Nat.le_of_ble_eq_true rfl⟩ (Nat.le_of_ble_eq_true rfl) dyX12_init_527 ⟨Nat.le_of_ble_eq_true rfl, Nat.le_of_ble_eq_true rfl⟩ (fun I_12 h => ?_)
  refine zr_aload_n C dyX12_init_530 rfl 0 rfl ?_
  refine zv_12_193t C hS (st := []) h ⟨Nat.le_of_ble_eq_true rfl, Nat.le_of_ble_eq_true rfl⟩ (Nat.le_of_ble_eq_true rfl) dyX12_init_531 ⟨Nat.le_of_ble_eq_true rfl, Nat.le_of_ble_eq_true rfl⟩ (fun I_13 h => ?_)
  refine zr_aload_n C dyX12_init_534 rfl 0 rfl ?_
  refine zg_12_150t C hS dyX12_init_535 ?_
  refine zr_bipush C dyX12_init_538 zc_b_6 ?_
  refine zr_bipush C dyX12_init_540 zc_b_m2 ?_
  refine zr_iast C (hS _ _ zs_538) h.1 dyX12_init_542 ?_
  replace h := h.2
  refine zn_mem C (fun I_14 eI_14 => ?_)
  replace h := h I_14 eI_14
  refine zr_aload_n C dyX12_init_543 rfl 0 rfl ?_
  refine zr_iconst C dyX12_init_544 zc_i_0 ?_
  refine zv_12_196t C hS (st := []) h ⟨Nat.le_of_ble_eq_true rfl, Nat.le_of_ble_eq_true rfl⟩ (Nat.le_of_ble_eq_true rfl) dyX12_init_545 ⟨Nat.le_of_ble_eq_true rfl, Nat.le_of_ble_eq_true rfl⟩ (fun I_15 h => ?_)
  exact zr_vret C rfl dyX12_init_548 ⟨rfl, rfl, h⟩
set_option maxHeartbeats 8000000 in
set_option maxRecDepth 20000 in
theorem ci_M {l : Launch} {D : va_G} {B : Nat} {cA : Nat → ClassId} {ad : Nat → Nat} {I : zI} {K : zI → Prop} (hz : zZ I 491) (h : w_M_init I K) : Met l yX12_init (zws yX12_init cX12_init 1 none) zrmM (zPc D B cA ad [.ref (B + 491)] (zmS 0) I) (zQc D B cA (zqV zS0 K)) 54 283800 (fun q => B ≤ q) := by
  refine zm_of (cc := cX12_init) (maxL := 1) (ret := none) (by decide +kernel) rfl (Nat.le_of_ble_eq_true rfl) trivial ?_
  intro p e s m args below meth c C hN0
  show zX p l e zrmM s m args below meth c (MQ below (zQc D B cA (zqV zS0 K)) args s 54 283800 (fun q => B ≤ q)) D B cA 1 0 0 (zmS 0) I [(0, .ref (B + 491))] [] 0
  refine zr_aload_n C dyX12_init_0 rfl 0 rfl ?_
  refine za_obj C zk_ml_12_1 ⟨Nat.le_of_ble_eq_true rfl, Nat.le_of_ble_eq_true rfl⟩ dyX12_init_1 ?_
  refine zr_aload_n C dyX12_init_4 rfl 0 rfl ?_
  refine zr_sipush C dyX12_init_5 (by decide : (Int16.ofInt 220).toInt32 = (220 : Int32)) ?_
  refine za_newa C (N := 220) zk_ac_int (by decide) (by decide) (Nat.le_of_ble_eq_true rfl) (hz.up (by rw [zmS_len 0 (by decide)]; decide)) (Nat.le_of_ble_eq_true rfl) (Nat.le_of_ble_eq_true rfl) dyX12_init_8 ?_
  rw [zmS_len 0 (by decide)]
  refine zr_putrF C (ci := 12) (Cn := RX12) (T := TX12) (N := 82) (k := 491) (j := 1) (fs := zmO 0) (r0 := none) (r := some (492 + 0)) rfl zin_12 (Nat.le_of_ble_eq_true rfl) rfl (zmS_get 0 _) rfl tyX12 tyX12_ok nmX12 (tyX12_ok 1 (Nat.le_of_ble_eq_true rfl)) rfl rfl rfl hN0 rfl zk_fl_12_7 dyX12_init_10 ?_
  refine zr_S (S2 := zmS 1) (zmS_step 0 _ rfl) ?_
  refine zr_widen (k := 1) (n := 220) (Nat.le_of_ble_eq_true rfl) (Nat.le_of_ble_eq_true rfl) ?_
  refine zr_aload_n C dyX12_init_13 rfl 0 rfl ?_
  refine zr_sipush C dyX12_init_14 (by decide : (Int16.ofInt 700).toInt32 = (700 : Int32)) ?_
  refine za_newa C (N := 700) zk_ac_int (by decide) (by decide) (Nat.le_of_ble_eq_true rfl) (hz.up (by rw [zmS_len 1 (by decide)]; decide)) (Nat.le_of_ble_eq_true rfl) (Nat.le_of_ble_eq_true rfl) dyX12_init_17 ?_
  rw [zmS_len 1 (by decide)]
  refine zr_putrF C (ci := 12) (Cn := RX12) (T := TX12) (N := 82) (k := 491) (j := 2) (fs := zmO 1) (r0 := none) (r := some (492 + 1)) rfl zin_12 (Nat.le_of_ble_eq_true rfl) rfl (zmS_get 1 _) rfl tyX12 tyX12_ok nmX12 (tyX12_ok 2 (Nat.le_of_ble_eq_true rfl)) rfl rfl rfl hN0 rfl zk_fl_12_13 dyX12_init_19 ?_
  refine zr_S (S2 := zmS 2) (zmS_step 1 _ rfl) ?_
  refine zr_widen (k := 2) (n := 920) (Nat.le_of_ble_eq_true rfl) (Nat.le_of_ble_eq_true rfl) ?_
  refine zr_aload_n C dyX12_init_22 rfl 0 rfl ?_
  refine zr_sipush C dyX12_init_23 (by decide : (Int16.ofInt 300).toInt32 = (300 : Int32)) ?_
  refine za_newa C (N := 300) zk_ac_int (by decide) (by decide) (Nat.le_of_ble_eq_true rfl) (hz.up (by rw [zmS_len 2 (by decide)]; decide)) (Nat.le_of_ble_eq_true rfl) (Nat.le_of_ble_eq_true rfl) dyX12_init_26 ?_
  rw [zmS_len 2 (by decide)]
  refine zr_putrF C (ci := 12) (Cn := RX12) (T := TX12) (N := 82) (k := 491) (j := 4) (fs := zmO 2) (r0 := none) (r := some (492 + 2)) rfl zin_12 (Nat.le_of_ble_eq_true rfl) rfl (zmS_get 2 _) rfl tyX12 tyX12_ok nmX12 (tyX12_ok 4 (Nat.le_of_ble_eq_true rfl)) rfl rfl rfl hN0 rfl zk_fl_12_16 dyX12_init_28 ?_
  refine zr_S (S2 := zmS 3) (zmS_step 2 _ rfl) ?_
  refine zr_widen (k := 3) (n := 1220) (Nat.le_of_ble_eq_true rfl) (Nat.le_of_ble_eq_true rfl) ?_
  refine zr_aload_n C dyX12_init_31 rfl 0 rfl ?_
  refine zr_sipush C dyX12_init_32 (by decide : (Int16.ofInt 300).toInt32 = (300 : Int32)) ?_
  refine za_newa C (N := 300) zk_ac_int (by decide) (by decide) (Nat.le_of_ble_eq_true rfl) (hz.up (by rw [zmS_len 3 (by decide)]; decide)) (Nat.le_of_ble_eq_true rfl) (Nat.le_of_ble_eq_true rfl) dyX12_init_35 ?_
  rw [zmS_len 3 (by decide)]
  refine zr_putrF C (ci := 12) (Cn := RX12) (T := TX12) (N := 82) (k := 491) (j := 6) (fs := zmO 3) (r0 := none) (r := some (492 + 3)) rfl zin_12 (Nat.le_of_ble_eq_true rfl) rfl (zmS_get 3 _) rfl tyX12 tyX12_ok nmX12 (tyX12_ok 6 (Nat.le_of_ble_eq_true rfl)) rfl rfl rfl hN0 rfl zk_fl_12_19 dyX12_init_37 ?_
  refine zr_S (S2 := zmS 4) (zmS_step 3 _ rfl) ?_
  refine zr_widen (k := 4) (n := 1520) (Nat.le_of_ble_eq_true rfl) (Nat.le_of_ble_eq_true rfl) ?_
  refine zr_aload_n C dyX12_init_40 rfl 0 rfl ?_
  refine zr_sipush C dyX12_init_41 (by decide : (Int16.ofInt 710).toInt32 = (710 : Int32)) ?_
  refine za_newa C (N := 710) zk_ac_int (by decide) (by decide) (Nat.le_of_ble_eq_true rfl) (hz.up (by rw [zmS_len 4 (by decide)]; decide)) (Nat.le_of_ble_eq_true rfl) (Nat.le_of_ble_eq_true rfl) dyX12_init_44 ?_
  rw [zmS_len 4 (by decide)]
  refine zr_putrF C (ci := 12) (Cn := RX12) (T := TX12) (N := 82) (k := 491) (j := 10) (fs := zmO 4) (r0 := none) (r := some (492 + 4)) rfl zin_12 (Nat.le_of_ble_eq_true rfl) rfl (zmS_get 4 _) rfl tyX12 tyX12_ok nmX12 (tyX12_ok 10 (Nat.le_of_ble_eq_true rfl)) rfl rfl rfl hN0 rfl zk_fl_12_22 dyX12_init_46 ?_
  refine zr_S (S2 := zmS 5) (zmS_step 4 _ rfl) ?_
  refine zr_widen (k := 5) (n := 2230) (Nat.le_of_ble_eq_true rfl) (Nat.le_of_ble_eq_true rfl) ?_
  refine zr_aload_n C dyX12_init_49 rfl 0 rfl ?_
  refine zr_sipush C dyX12_init_50 (by decide : (Int16.ofInt 710).toInt32 = (710 : Int32)) ?_
  refine za_newa C (N := 710) zk_ac_int (by decide) (by decide) (Nat.le_of_ble_eq_true rfl) (hz.up (by rw [zmS_len 5 (by decide)]; decide)) (Nat.le_of_ble_eq_true rfl) (Nat.le_of_ble_eq_true rfl) dyX12_init_53 ?_
  rw [zmS_len 5 (by decide)]
  refine zr_putrF C (ci := 12) (Cn := RX12) (T := TX12) (N := 82) (k := 491) (j := 11) (fs := zmO 5) (r0 := none) (r := some (492 + 5)) rfl zin_12 (Nat.le_of_ble_eq_true rfl) rfl (zmS_get 5 _) rfl tyX12 tyX12_ok nmX12 (tyX12_ok 11 (Nat.le_of_ble_eq_true rfl)) rfl rfl rfl hN0 rfl zk_fl_12_25 dyX12_init_55 ?_
  refine zr_S (S2 := zmS 6) (zmS_step 5 _ rfl) ?_
  refine zr_widen (k := 6) (n := 2940) (Nat.le_of_ble_eq_true rfl) (Nat.le_of_ble_eq_true rfl) ?_
  refine zr_aload_n C dyX12_init_58 rfl 0 rfl ?_
  refine zr_sipush C dyX12_init_59 (by decide : (Int16.ofInt 710).toInt32 = (710 : Int32)) ?_
  refine za_newa C (N := 710) zk_ac_int (by decide) (by decide) (Nat.le_of_ble_eq_true rfl) (hz.up (by rw [zmS_len 6 (by decide)]; decide)) (Nat.le_of_ble_eq_true rfl) (Nat.le_of_ble_eq_true rfl) dyX12_init_62 ?_
  rw [zmS_len 6 (by decide)]
  refine zr_putrF C (ci := 12) (Cn := RX12) (T := TX12) (N := 82) (k := 491) (j := 12) (fs := zmO 6) (r0 := none) (r := some (492 + 6)) rfl zin_12 (Nat.le_of_ble_eq_true rfl) rfl (zmS_get 6 _) rfl tyX12 tyX12_ok nmX12 (tyX12_ok 12 (Nat.le_of_ble_eq_true rfl)) rfl rfl rfl hN0 rfl zk_fl_12_28 dyX12_init_64 ?_
  refine zr_S (S2 := zmS 7) (zmS_step 6 _ rfl) ?_
  refine zr_widen (k := 7) (n := 3650) (Nat.le_of_ble_eq_true rfl) (Nat.le_of_ble_eq_true rfl) ?_
  refine zr_aload_n C dyX12_init_67 rfl 0 rfl ?_
  refine zr_sipush C dyX12_init_68 (by decide : (Int16.ofInt 710).toInt32 = (710 : Int32)) ?_
  refine za_newl C (N := 710) zk_ac_long (by decide) (by decide) (Nat.le_of_ble_eq_true rfl) (hz.up (by rw [zmS_len 7 (by decide)]; decide)) (Nat.le_of_ble_eq_true rfl) (Nat.le_of_ble_eq_true rfl) dyX12_init_71 ?_
  rw [zmS_len 7 (by decide)]
  refine zr_putrF C (ci := 12) (Cn := RX12) (T := TX12) (N := 82) (k := 491) (j := 13) (fs := zmO 7) (r0 := none) (r := some (492 + 7)) rfl zin_12 (Nat.le_of_ble_eq_true rfl) rfl (zmS_get 7 _) rfl tyX12 tyX12_ok nmX12 (tyX12_ok 13 (Nat.le_of_ble_eq_true rfl)) rfl rfl rfl hN0 rfl zk_fl_12_31 dyX12_init_73 ?_
  refine zr_S (S2 := zmS 8) (zmS_step 7 _ rfl) ?_
  refine zr_widen (k := 8) (n := 4360) (Nat.le_of_ble_eq_true rfl) (Nat.le_of_ble_eq_true rfl) ?_
  refine zr_aload_n C dyX12_init_76 rfl 0 rfl ?_
  refine zr_bipush C dyX12_init_77 (by decide : (Int8.ofInt 110).toInt32 = (110 : Int32)) ?_
  refine za_newa C (N := 110) zk_ac_int (by decide) (by decide) (Nat.le_of_ble_eq_true rfl) (hz.up (by rw [zmS_len 8 (by decide)]; decide)) (Nat.le_of_ble_eq_true rfl) (Nat.le_of_ble_eq_true rfl) dyX12_init_79 ?_
  rw [zmS_len 8 (by decide)]
  refine zr_putrF C (ci := 12) (Cn := RX12) (T := TX12) (N := 82) (k := 491) (j := 14) (fs := zmO 8) (r0 := none) (r := some (492 + 8)) rfl zin_12 (Nat.le_of_ble_eq_true rfl) rfl (zmS_get 8 _) rfl tyX12 tyX12_ok nmX12 (tyX12_ok 14 (Nat.le_of_ble_eq_true rfl)) rfl rfl rfl hN0 rfl zk_fl_12_35 dyX12_init_81 ?_
  refine zr_S (S2 := zmS 9) (zmS_step 8 _ rfl) ?_
  refine zr_widen (k := 9) (n := 4470) (Nat.le_of_ble_eq_true rfl) (Nat.le_of_ble_eq_true rfl) ?_
  refine zr_aload_n C dyX12_init_84 rfl 0 rfl ?_
  refine zr_bipush C dyX12_init_85 (by decide : (Int8.ofInt 110).toInt32 = (110 : Int32)) ?_
  refine za_newa C (N := 110) zk_ac_int (by decide) (by decide) (Nat.le_of_ble_eq_true rfl) (hz.up (by rw [zmS_len 9 (by decide)]; decide)) (Nat.le_of_ble_eq_true rfl) (Nat.le_of_ble_eq_true rfl) dyX12_init_87 ?_
  rw [zmS_len 9 (by decide)]
  refine zr_putrF C (ci := 12) (Cn := RX12) (T := TX12) (N := 82) (k := 491) (j := 16) (fs := zmO 9) (r0 := none) (r := some (492 + 9)) rfl zin_12 (Nat.le_of_ble_eq_true rfl) rfl (zmS_get 9 _) rfl tyX12 tyX12_ok nmX12 (tyX12_ok 16 (Nat.le_of_ble_eq_true rfl)) rfl rfl rfl hN0 rfl zk_fl_12_38 dyX12_init_89 ?_
  refine zr_S (S2 := zmS 10) (zmS_step 9 _ rfl) ?_
  refine zr_widen (k := 10) (n := 4580) (Nat.le_of_ble_eq_true rfl) (Nat.le_of_ble_eq_true rfl) ?_
  refine zr_aload_n C dyX12_init_92 rfl 0 rfl ?_
  refine zr_bipush C dyX12_init_93 (by decide : (Int8.ofInt 110).toInt32 = (110 : Int32)) ?_
  refine za_newa C (N := 110) zk_ac_int (by decide) (by decide) (Nat.le_of_ble_eq_true rfl) (hz.up (by rw [zmS_len 10 (by decide)]; decide)) (Nat.le_of_ble_eq_true rfl) (Nat.le_of_ble_eq_true rfl) dyX12_init_95 ?_
  rw [zmS_len 10 (by decide)]
  refine zr_putrF C (ci := 12) (Cn := RX12) (T := TX12) (N := 82) (k := 491) (j := 17) (fs := zmO 10) (r0 := none) (r := some (492 + 10)) rfl zin_12 (Nat.le_of_ble_eq_true rfl) rfl (zmS_get 10 _) rfl tyX12 tyX12_ok nmX12 (tyX12_ok 17 (Nat.le_of_ble_eq_true rfl)) rfl rfl rfl hN0 rfl zk_fl_12_41 dyX12_init_97 ?_
  refine zr_S (S2 := zmS 11) (zmS_step 10 _ rfl) ?_
  refine zr_widen (k := 11) (n := 4690) (Nat.le_of_ble_eq_true rfl) (Nat.le_of_ble_eq_true rfl) ?_
  refine zr_aload_n C dyX12_init_100 rfl 0 rfl ?_
  refine zr_bipush C dyX12_init_101 (by decide : (Int8.ofInt 110).toInt32 = (110 : Int32)) ?_
  refine za_newa C (N := 110) zk_ac_int (by decide) (by decide) (Nat.le_of_ble_eq_true rfl) (hz.up (by rw [zmS_len 11 (by decide)]; decide)) (Nat.le_of_ble_eq_true rfl) (Nat.le_of_ble_eq_true rfl) dyX12_init_103 ?_
  rw [zmS_len 11 (by decide)]
  refine zr_putrF C (ci := 12) (Cn := RX12) (T := TX12) (N := 82) (k := 491) (j := 18) (fs := zmO 11) (r0 := none) (r := some (492 + 11)) rfl zin_12 (Nat.le_of_ble_eq_true rfl) rfl (zmS_get 11 _) rfl tyX12 tyX12_ok nmX12 (tyX12_ok 18 (Nat.le_of_ble_eq_true rfl)) rfl rfl rfl hN0 rfl zk_fl_12_44 dyX12_init_105 ?_
  refine zr_S (S2 := zmS 12) (zmS_step 11 _ rfl) ?_
  refine zr_widen (k := 12) (n := 4800) (Nat.le_of_ble_eq_true rfl) (Nat.le_of_ble_eq_true rfl) ?_
  refine zr_aload_n C dyX12_init_108 rfl 0 rfl ?_
  refine zr_bipush C dyX12_init_109 (by decide : (Int8.ofInt 110).toInt32 = (110 : Int32)) ?_
  refine za_newa C (N := 110) zk_ac_int (by decide) (by decide) (Nat.le_of_ble_eq_true rfl) (hz.up (by rw [zmS_len 12 (by decide)]; decide)) (Nat.le_of_ble_eq_true rfl) (Nat.le_of_ble_eq_true rfl) dyX12_init_111 ?_
  rw [zmS_len 12 (by decide)]
  refine zr_putrF C (ci := 12) (Cn := RX12) (T := TX12) (N := 82) (k := 491) (j := 20) (fs := zmO 12) (r0 := none) (r := some (492 + 12)) rfl zin_12 (Nat.le_of_ble_eq_true rfl) rfl (zmS_get 12 _) rfl tyX12 tyX12_ok nmX12 (tyX12_ok 20 (Nat.le_of_ble_eq_true rfl)) rfl rfl rfl hN0 rfl zk_fl_12_47 dyX12_init_113 ?_
  refine zr_S (S2 := zmS 13) (zmS_step 12 _ rfl) ?_
  refine zr_widen (k := 13) (n := 4910) (Nat.le_of_ble_eq_true rfl) (Nat.le_of_ble_eq_true rfl) ?_
  refine zr_aload_n C dyX12_init_116 rfl 0 rfl ?_
  refine zr_bipush C dyX12_init_117 (by decide : (Int8.ofInt 110).toInt32 = (110 : Int32)) ?_
  refine za_newa C (N := 110) zk_ac_int (by decide) (by decide) (Nat.le_of_ble_eq_true rfl) (hz.up (by rw [zmS_len 13 (by decide)]; decide)) (Nat.le_of_ble_eq_true rfl) (Nat.le_of_ble_eq_true rfl) dyX12_init_119 ?_
  rw [zmS_len 13 (by decide)]
  refine zr_putrF C (ci := 12) (Cn := RX12) (T := TX12) (N := 82) (k := 491) (j := 21) (fs := zmO 13) (r0 := none) (r := some (492 + 13)) rfl zin_12 (Nat.le_of_ble_eq_true rfl) rfl (zmS_get 13 _) rfl tyX12 tyX12_ok nmX12 (tyX12_ok 21 (Nat.le_of_ble_eq_true rfl)) rfl rfl rfl hN0 rfl zk_fl_12_50 dyX12_init_121 ?_
  refine zr_S (S2 := zmS 14) (zmS_step 13 _ rfl) ?_
  refine zr_widen (k := 14) (n := 5020) (Nat.le_of_ble_eq_true rfl) (Nat.le_of_ble_eq_true rfl) ?_
  refine zr_aload_n C dyX12_init_124 rfl 0 rfl ?_
  refine zr_bipush C dyX12_init_125 (by decide : (Int8.ofInt 110).toInt32 = (110 : Int32)) ?_
  refine za_newa C (N := 110) zk_ac_int (by decide) (by decide) (Nat.le_of_ble_eq_true rfl) (hz.up (by rw [zmS_len 14 (by decide)]; decide)) (Nat.le_of_ble_eq_true rfl) (Nat.le_of_ble_eq_true rfl) dyX12_init_127 ?_
  rw [zmS_len 14 (by decide)]
  refine zr_putrF C (ci := 12) (Cn := RX12) (T := TX12) (N := 82) (k := 491) (j := 22) (fs := zmO 14) (r0 := none) (r := some (492 + 14)) rfl zin_12 (Nat.le_of_ble_eq_true rfl) rfl (zmS_get 14 _) rfl tyX12 tyX12_ok nmX12 (tyX12_ok 22 (Nat.le_of_ble_eq_true rfl)) rfl rfl rfl hN0 rfl zk_fl_12_53 dyX12_init_129 ?_
  refine zr_S (S2 := zmS 15) (zmS_step 14 _ rfl) ?_
  refine zr_widen (k := 15) (n := 5130) (Nat.le_of_ble_eq_true rfl) (Nat.le_of_ble_eq_true rfl) ?_
  refine zr_aload_n C dyX12_init_132 rfl 0 rfl ?_
  refine zr_bipush C dyX12_init_133 (by decide : (Int8.ofInt 110).toInt32 = (110 : Int32)) ?_
  refine za_newl C (N := 110) zk_ac_long (by decide) (by decide) (Nat.le_of_ble_eq_true rfl) (hz.up (by rw [zmS_len 15 (by decide)]; decide)) (Nat.le_of_ble_eq_true rfl) (Nat.le_of_ble_eq_true rfl) dyX12_init_135 ?_
  rw [zmS_len 15 (by decide)]
  refine zr_putrF C (ci := 12) (Cn := RX12) (T := TX12) (N := 82) (k := 491) (j := 23) (fs := zmO 15) (r0 := none) (r := some (492 + 15)) rfl zin_12 (Nat.le_of_ble_eq_true rfl) rfl (zmS_get 15 _) rfl tyX12 tyX12_ok nmX12 (tyX12_ok 23 (Nat.le_of_ble_eq_true rfl)) rfl rfl rfl hN0 rfl zk_fl_12_56 dyX12_init_137 ?_
  refine zr_S (S2 := zmS 16) (zmS_step 15 _ rfl) ?_
  refine zr_widen (k := 16) (n := 5240) (Nat.le_of_ble_eq_true rfl) (Nat.le_of_ble_eq_true rfl) ?_
  refine zr_aload_n C dyX12_init_140 rfl 0 rfl ?_
  refine zr_bipush C dyX12_init_141 (by decide : (Int8.ofInt 110).toInt32 = (110 : Int32)) ?_
  refine za_newa C (N := 110) zk_ac_int (by decide) (by decide) (Nat.le_of_ble_eq_true rfl) (hz.up (by rw [zmS_len 16 (by decide)]; decide)) (Nat.le_of_ble_eq_true rfl) (Nat.le_of_ble_eq_true rfl) dyX12_init_143 ?_
  rw [zmS_len 16 (by decide)]
  refine zr_putrF C (ci := 12) (Cn := RX12) (T := TX12) (N := 82) (k := 491) (j := 24) (fs := zmO 16) (r0 := none) (r := some (492 + 16)) rfl zin_12 (Nat.le_of_ble_eq_true rfl) rfl (zmS_get 16 _) rfl tyX12 tyX12_ok nmX12 (tyX12_ok 24 (Nat.le_of_ble_eq_true rfl)) rfl rfl rfl hN0 rfl zk_fl_12_59 dyX12_init_145 ?_
  refine zr_S (S2 := zmS 17) (zmS_step 16 _ rfl) ?_
  refine zr_widen (k := 17) (n := 5350) (Nat.le_of_ble_eq_true rfl) (Nat.le_of_ble_eq_true rfl) ?_
  refine zr_aload_n C dyX12_init_148 rfl 0 rfl ?_
  refine zr_sipush C dyX12_init_149 (by decide : (Int16.ofInt 3700).toInt32 = (3700 : Int32)) ?_
  refine za_newa C (N := 3700) zk_ac_int (by decide) (by decide) (Nat.le_of_ble_eq_true rfl) (hz.up (by rw [zmS_len 17 (by decide)]; decide)) (Nat.le_of_ble_eq_true rfl) (Nat.le_of_ble_eq_true rfl) dyX12_init_152 ?_
  rw [zmS_len 17 (by decide)]
  refine zr_putrF C (ci := 12) (Cn := RX12) (T := TX12) (N := 82) (k := 491) (j := 26) (fs := zmO 17) (r0 := none) (r := some (492 + 17)) rfl zin_12 (Nat.le_of_ble_eq_true rfl) rfl (zmS_get 17 _) rfl tyX12 tyX12_ok nmX12 (tyX12_ok 26 (Nat.le_of_ble_eq_true rfl)) rfl rfl rfl hN0 rfl zk_fl_12_62 dyX12_init_154 ?_
  refine zr_S (S2 := zmS 18) (zmS_step 17 _ rfl) ?_
  refine zr_widen (k := 18) (n := 9050) (Nat.le_of_ble_eq_true rfl) (Nat.le_of_ble_eq_true rfl) ?_
  refine zr_aload_n C dyX12_init_157 rfl 0 rfl ?_
  refine zr_sipush C dyX12_init_158 (by decide : (Int16.ofInt 3700).toInt32 = (3700 : Int32)) ?_
  refine za_newa C (N := 3700) zk_ac_int (by decide) (by decide) (Nat.le_of_ble_eq_true rfl) (hz.up (by rw [zmS_len 18 (by decide)]; decide)) (Nat.le_of_ble_eq_true rfl) (Nat.le_of_ble_eq_true rfl) dyX12_init_161 ?_
  rw [zmS_len 18 (by decide)]
  refine zr_putrF C (ci := 12) (Cn := RX12) (T := TX12) (N := 82) (k := 491) (j := 27) (fs := zmO 18) (r0 := none) (r := some (492 + 18)) rfl zin_12 (Nat.le_of_ble_eq_true rfl) rfl (zmS_get 18 _) rfl tyX12 tyX12_ok nmX12 (tyX12_ok 27 (Nat.le_of_ble_eq_true rfl)) rfl rfl rfl hN0 rfl zk_fl_12_65 dyX12_init_163 ?_
  refine zr_S (S2 := zmS 19) (zmS_step 18 _ rfl) ?_
  refine zr_widen (k := 19) (n := 12750) (Nat.le_of_ble_eq_true rfl) (Nat.le_of_ble_eq_true rfl) ?_
  refine zr_aload_n C dyX12_init_166 rfl 0 rfl ?_
  refine zr_sipush C dyX12_init_167 (by decide : (Int16.ofInt 3700).toInt32 = (3700 : Int32)) ?_
  refine za_newl C (N := 3700) zk_ac_long (by decide) (by decide) (Nat.le_of_ble_eq_true rfl) (hz.up (by rw [zmS_len 19 (by decide)]; decide)) (Nat.le_of_ble_eq_true rfl) (Nat.le_of_ble_eq_true rfl) dyX12_init_170 ?_
  rw [zmS_len 19 (by decide)]
  refine zr_putrF C (ci := 12) (Cn := RX12) (T := TX12) (N := 82) (k := 491) (j := 28) (fs := zmO 19) (r0 := none) (r := some (492 + 19)) rfl zin_12 (Nat.le_of_ble_eq_true rfl) rfl (zmS_get 19 _) rfl tyX12 tyX12_ok nmX12 (tyX12_ok 28 (Nat.le_of_ble_eq_true rfl)) rfl rfl rfl hN0 rfl zk_fl_12_68 dyX12_init_172 ?_
  refine zr_S (S2 := zmS 20) (zmS_step 19 _ rfl) ?_
  refine zr_widen (k := 20) (n := 16450) (Nat.le_of_ble_eq_true rfl) (Nat.le_of_ble_eq_true rfl) ?_
  refine zr_aload_n C dyX12_init_175 rfl 0 rfl ?_
  refine zr_sipush C dyX12_init_176 (by decide : (Int16.ofInt 3700).toInt32 = (3700 : Int32)) ?_
  refine za_newa C (N := 3700) zk_ac_int (by decide) (by decide) (Nat.le_of_ble_eq_true rfl) (hz.up (by rw [zmS_len 20 (by decide)]; decide)) (Nat.le_of_ble_eq_true rfl) (Nat.le_of_ble_eq_true rfl) dyX12_init_179 ?_
  rw [zmS_len 20 (by decide)]
  refine zr_putrF C (ci := 12) (Cn := RX12) (T := TX12) (N := 82) (k := 491) (j := 29) (fs := zmO 20) (r0 := none) (r := some (492 + 20)) rfl zin_12 (Nat.le_of_ble_eq_true rfl) rfl (zmS_get 20 _) rfl tyX12 tyX12_ok nmX12 (tyX12_ok 29 (Nat.le_of_ble_eq_true rfl)) rfl rfl rfl hN0 rfl zk_fl_12_71 dyX12_init_181 ?_
  refine zr_S (S2 := zmS 21) (zmS_step 20 _ rfl) ?_
  refine zr_widen (k := 21) (n := 20150) (Nat.le_of_ble_eq_true rfl) (Nat.le_of_ble_eq_true rfl) ?_
  refine zr_aload_n C dyX12_init_184 rfl 0 rfl ?_
  refine zr_sipush C dyX12_init_185 (by decide : (Int16.ofInt 14800).toInt32 = (14800 : Int32)) ?_
  refine za_newa C (N := 14800) zk_ac_int (by decide) (by decide) (Nat.le_of_ble_eq_true rfl) (hz.up (by rw [zmS_len 21 (by decide)]; decide)) (Nat.le_of_ble_eq_true rfl) (Nat.le_of_ble_eq_true rfl) dyX12_init_188 ?_
  rw [zmS_len 21 (by decide)]
  refine zr_putrF C (ci := 12) (Cn := RX12) (T := TX12) (N := 82) (k := 491) (j := 30) (fs := zmO 21) (r0 := none) (r := some (492 + 21)) rfl zin_12 (Nat.le_of_ble_eq_true rfl) rfl (zmS_get 21 _) rfl tyX12 tyX12_ok nmX12 (tyX12_ok 30 (Nat.le_of_ble_eq_true rfl)) rfl rfl rfl hN0 rfl zk_fl_12_74 dyX12_init_190 ?_
  refine zr_S (S2 := zmS 22) (zmS_step 21 _ rfl) ?_
  refine zr_widen (k := 22) (n := 34950) (Nat.le_of_ble_eq_true rfl) (Nat.le_of_ble_eq_true rfl) ?_
  refine zr_aload_n C dyX12_init_193 rfl 0 rfl ?_
  refine zr_sipush C dyX12_init_194 (by decide : (Int16.ofInt 3700).toInt32 = (3700 : Int32)) ?_
  refine za_newa C (N := 3700) zk_ac_int (by decide) (by decide) (Nat.le_of_ble_eq_true rfl) (hz.up (by rw [zmS_len 22 (by decide)]; decide)) (Nat.le_of_ble_eq_true rfl) (Nat.le_of_ble_eq_true rfl) dyX12_init_197 ?_
  rw [zmS_len 22 (by decide)]
  refine zr_putrF C (ci := 12) (Cn := RX12) (T := TX12) (N := 82) (k := 491) (j := 31) (fs := zmO 22) (r0 := none) (r := some (492 + 22)) rfl zin_12 (Nat.le_of_ble_eq_true rfl) rfl (zmS_get 22 _) rfl tyX12 tyX12_ok nmX12 (tyX12_ok 31 (Nat.le_of_ble_eq_true rfl)) rfl rfl rfl hN0 rfl zk_fl_12_77 dyX12_init_199 ?_
  refine zr_S (S2 := zmS 23) (zmS_step 22 _ rfl) ?_
  refine zr_widen (k := 23) (n := 38650) (Nat.le_of_ble_eq_true rfl) (Nat.le_of_ble_eq_true rfl) ?_
  refine zr_aload_n C dyX12_init_202 rfl 0 rfl ?_
  refine zr_sipush C dyX12_init_203 (by decide : (Int16.ofInt 3700).toInt32 = (3700 : Int32)) ?_
  refine za_newa C (N := 3700) zk_ac_int (by decide) (by decide) (Nat.le_of_ble_eq_true rfl) (hz.up (by rw [zmS_len 23 (by decide)]; decide)) (Nat.le_of_ble_eq_true rfl) (Nat.le_of_ble_eq_true rfl) dyX12_init_206 ?_
  rw [zmS_len 23 (by decide)]
  refine zr_putrF C (ci := 12) (Cn := RX12) (T := TX12) (N := 82) (k := 491) (j := 32) (fs := zmO 23) (r0 := none) (r := some (492 + 23)) rfl zin_12 (Nat.le_of_ble_eq_true rfl) rfl (zmS_get 23 _) rfl tyX12 tyX12_ok nmX12 (tyX12_ok 32 (Nat.le_of_ble_eq_true rfl)) rfl rfl rfl hN0 rfl zk_fl_12_80 dyX12_init_208 ?_
  refine zr_S (S2 := zmS 24) (zmS_step 23 _ rfl) ?_
  refine zr_widen (k := 24) (n := 42350) (Nat.le_of_ble_eq_true rfl) (Nat.le_of_ble_eq_true rfl) ?_
  refine zr_aload_n C dyX12_init_211 rfl 0 rfl ?_
  refine zr_sipush C dyX12_init_212 (by decide : (Int16.ofInt 3700).toInt32 = (3700 : Int32)) ?_
  refine za_newa C (N := 3700) zk_ac_int (by decide) (by decide) (Nat.le_of_ble_eq_true rfl) (hz.up (by rw [zmS_len 24 (by decide)]; decide)) (Nat.le_of_ble_eq_true rfl) (Nat.le_of_ble_eq_true rfl) dyX12_init_215 ?_
  rw [zmS_len 24 (by decide)]
  refine zr_putrF C (ci := 12) (Cn := RX12) (T := TX12) (N := 82) (k := 491) (j := 33) (fs := zmO 24) (r0 := none) (r := some (492 + 24)) rfl zin_12 (Nat.le_of_ble_eq_true rfl) rfl (zmS_get 24 _) rfl tyX12 tyX12_ok nmX12 (tyX12_ok 33 (Nat.le_of_ble_eq_true rfl)) rfl rfl rfl hN0 rfl zk_fl_12_83 dyX12_init_217 ?_
  refine zr_S (S2 := zmS 25) (zmS_step 24 _ rfl) ?_
  refine zr_widen (k := 25) (n := 46050) (Nat.le_of_ble_eq_true rfl) (Nat.le_of_ble_eq_true rfl) ?_
  refine zr_aload_n C dyX12_init_220 rfl 0 rfl ?_
  refine zr_sipush C dyX12_init_221 (by decide : (Int16.ofInt 3700).toInt32 = (3700 : Int32)) ?_
  refine za_newa C (N := 3700) zk_ac_int (by decide) (by decide) (Nat.le_of_ble_eq_true rfl) (hz.up (by rw [zmS_len 25 (by decide)]; decide)) (Nat.le_of_ble_eq_true rfl) (Nat.le_of_ble_eq_true rfl) dyX12_init_224 ?_
  rw [zmS_len 25 (by decide)]
  refine zr_putrF C (ci := 12) (Cn := RX12) (T := TX12) (N := 82) (k := 491) (j := 34) (fs := zmO 25) (r0 := none) (r := some (492 + 25)) rfl zin_12 (Nat.le_of_ble_eq_true rfl) rfl (zmS_get 25 _) rfl tyX12 tyX12_ok nmX12 (tyX12_ok 34 (Nat.le_of_ble_eq_true rfl)) rfl rfl rfl hN0 rfl zk_fl_12_86 dyX12_init_226 ?_
  refine zr_S (S2 := zmS 26) (zmS_step 25 _ rfl) ?_
  refine zr_widen (k := 26) (n := 49750) (Nat.le_of_ble_eq_true rfl) (Nat.le_of_ble_eq_true rfl) ?_
  refine zr_aload_n C dyX12_init_229 rfl 0 rfl ?_
  refine zr_ldc C zk_co_12_89 dyX12_init_230 ?_
  refine za_newa C (N := 185000) zk_ac_int (by decide) (by decide) (Nat.le_of_ble_eq_true rfl) (hz.up (by rw [zmS_len 26 (by decide)]; decide)) (Nat.le_of_ble_eq_true rfl) (Nat.le_of_ble_eq_true rfl) dyX12_init_232 ?_
  rw [zmS_len 26 (by decide)]
  refine zr_putrF C (ci := 12) (Cn := RX12) (T := TX12) (N := 82) (k := 491) (j := 35) (fs := zmO 26) (r0 := none) (r := some (492 + 26)) rfl zin_12 (Nat.le_of_ble_eq_true rfl) rfl (zmS_get 26 _) rfl tyX12 tyX12_ok nmX12 (tyX12_ok 35 (Nat.le_of_ble_eq_true rfl)) rfl rfl rfl hN0 rfl zk_fl_12_90 dyX12_init_234 ?_
  refine zr_S (S2 := zmS 27) (zmS_step 26 _ rfl) ?_
  refine zr_widen (k := 27) (n := 234750) (Nat.le_of_ble_eq_true rfl) (Nat.le_of_ble_eq_true rfl) ?_
  refine zr_aload_n C dyX12_init_237 rfl 0 rfl ?_
  refine zr_sipush C dyX12_init_238 (by decide : (Int16.ofInt 400).toInt32 = (400 : Int32)) ?_
  refine za_newa C (N := 400) zk_ac_int (by decide) (by decide) (Nat.le_of_ble_eq_true rfl) (hz.up (by rw [zmS_len 27 (by decide)]; decide)) (Nat.le_of_ble_eq_true rfl) (Nat.le_of_ble_eq_true rfl) dyX12_init_241 ?_
  rw [zmS_len 27 (by decide)]
  refine zr_putrF C (ci := 12) (Cn := RX12) (T := TX12) (N := 82) (k := 491) (j := 38) (fs := zmO 27) (r0 := none) (r := some (492 + 27)) rfl zin_12 (Nat.le_of_ble_eq_true rfl) rfl (zmS_get 27 _) rfl tyX12 tyX12_ok nmX12 (tyX12_ok 38 (Nat.le_of_ble_eq_true rfl)) rfl rfl rfl hN0 rfl zk_fl_12_93 dyX12_init_243 ?_
  refine zr_S (S2 := zmS 28) (zmS_step 27 _ rfl) ?_
  refine zr_widen (k := 28) (n := 235150) (Nat.le_of_ble_eq_true rfl) (Nat.le_of_ble_eq_true rfl) ?_
  refine zr_aload_n C dyX12_init_246 rfl 0 rfl ?_
  refine zr_bipush C dyX12_init_247 (by decide : (Int8.ofInt 120).toInt32 = (120 : Int32)) ?_
  refine za_newa C (N := 120) zk_ac_int (by decide) (by decide) (Nat.le_of_ble_eq_true rfl) (hz.up (by rw [zmS_len 28 (by decide)]; decide)) (Nat.le_of_ble_eq_true rfl) (Nat.le_of_ble_eq_true rfl) dyX12_init_249 ?_
  rw [zmS_len 28 (by decide)]
  refine zr_putrF C (ci := 12) (Cn := RX12) (T := TX12) (N := 82) (k := 491) (j := 40) (fs := zmO 28) (r0 := none) (r := some (492 + 28)) rfl zin_12 (Nat.le_of_ble_eq_true rfl) rfl (zmS_get 28 _) rfl tyX12 tyX12_ok nmX12 (tyX12_ok 40 (Nat.le_of_ble_eq_true rfl)) rfl rfl rfl hN0 rfl zk_fl_12_96 dyX12_init_251 ?_
  refine zr_S (S2 := zmS 29) (zmS_step 28 _ rfl) ?_
  refine zr_widen (k := 29) (n := 235270) (Nat.le_of_ble_eq_true rfl) (Nat.le_of_ble_eq_true rfl) ?_
  refine zr_aload_n C dyX12_init_254 rfl 0 rfl ?_
  refine zr_sipush C dyX12_init_255 (by decide : (Int16.ofInt 700).toInt32 = (700 : Int32)) ?_
  refine za_newa C (N := 700) zk_ac_int (by decide) (by decide) (Nat.le_of_ble_eq_true rfl) (hz.up (by rw [zmS_len 29 (by decide)]; decide)) (Nat.le_of_ble_eq_true rfl) (Nat.le_of_ble_eq_true rfl) dyX12_init_258 ?_
  rw [zmS_len 29 (by decide)]
  refine zr_putrF C (ci := 12) (Cn := RX12) (T := TX12) (N := 82) (k := 491) (j := 44) (fs := zmO 29) (r0 := none) (r := some (492 + 29)) rfl zin_12 (Nat.le_of_ble_eq_true rfl) rfl (zmS_get 29 _) rfl tyX12 tyX12_ok nmX12 (tyX12_ok 44 (Nat.le_of_ble_eq_true rfl)) rfl rfl rfl hN0 rfl zk_fl_12_99 dyX12_init_260 ?_
  refine zr_S (S2 := zmS 30) (zmS_step 29 _ rfl) ?_
  refine zr_widen (k := 30) (n := 235970) (Nat.le_of_ble_eq_true rfl) (Nat.le_of_ble_eq_true rfl) ?_
  refine zr_aload_n C dyX12_init_263 rfl 0 rfl ?_
  refine zr_sipush C dyX12_init_264 (by decide : (Int16.ofInt 700).toInt32 = (700 : Int32)) ?_
  refine za_newa C (N := 700) zk_ac_int (by decide) (by decide) (Nat.le_of_ble_eq_true rfl) (hz.up (by rw [zmS_len 30 (by decide)]; decide)) (Nat.le_of_ble_eq_true rfl) (Nat.le_of_ble_eq_true rfl) dyX12_init_267 ?_
  rw [zmS_len 30 (by decide)]
  refine zr_putrF C (ci := 12) (Cn := RX12) (T := TX12) (N := 82) (k := 491) (j := 45) (fs := zmO 30) (r0 := none) (r := some (492 + 30)) rfl zin_12 (Nat.le_of_ble_eq_true rfl) rfl (zmS_get 30 _) rfl tyX12 tyX12_ok nmX12 (tyX12_ok 45 (Nat.le_of_ble_eq_true rfl)) rfl rfl rfl hN0 rfl zk_fl_12_102 dyX12_init_269 ?_
  refine zr_S (S2 := zmS 31) (zmS_step 30 _ rfl) ?_
  refine zr_widen (k := 31) (n := 236670) (Nat.le_of_ble_eq_true rfl) (Nat.le_of_ble_eq_true rfl) ?_
  refine zr_aload_n C dyX12_init_272 rfl 0 rfl ?_
  refine zr_sipush C dyX12_init_273 (by decide : (Int16.ofInt 3700).toInt32 = (3700 : Int32)) ?_
  refine za_newa C (N := 3700) zk_ac_int (by decide) (by decide) (Nat.le_of_ble_eq_true rfl) (hz.up (by rw [zmS_len 31 (by decide)]; decide)) (Nat.le_of_ble_eq_true rfl) (Nat.le_of_ble_eq_true rfl) dyX12_init_276 ?_
  rw [zmS_len 31 (by decide)]
  refine zr_putrF C (ci := 12) (Cn := RX12) (T := TX12) (N := 82) (k := 491) (j := 46) (fs := zmO 31) (r0 := none) (r := some (492 + 31)) rfl zin_12 (Nat.le_of_ble_eq_true rfl) rfl (zmS_get 31 _) rfl tyX12 tyX12_ok nmX12 (tyX12_ok 46 (Nat.le_of_ble_eq_true rfl)) rfl rfl rfl hN0 rfl zk_fl_12_105 dyX12_init_278 ?_
  refine zr_S (S2 := zmS 32) (zmS_step 31 _ rfl) ?_
  refine zr_widen (k := 32) (n := 240370) (Nat.le_of_ble_eq_true rfl) (Nat.le_of_ble_eq_true rfl) ?_
  refine zr_aload_n C dyX12_init_281 rfl 0 rfl ?_
  refine zr_sipush C dyX12_init_282 (by decide : (Int16.ofInt 3700).toInt32 = (3700 : Int32)) ?_
  refine za_newa C (N := 3700) zk_ac_int (by decide) (by decide) (Nat.le_of_ble_eq_true rfl) (hz.up (by rw [zmS_len 32 (by decide)]; decide)) (Nat.le_of_ble_eq_true rfl) (Nat.le_of_ble_eq_true rfl) dyX12_init_285 ?_
  rw [zmS_len 32 (by decide)]
  refine zr_putrF C (ci := 12) (Cn := RX12) (T := TX12) (N := 82) (k := 491) (j := 47) (fs := zmO 32) (r0 := none) (r := some (492 + 32)) rfl zin_12 (Nat.le_of_ble_eq_true rfl) rfl (zmS_get 32 _) rfl tyX12 tyX12_ok nmX12 (tyX12_ok 47 (Nat.le_of_ble_eq_true rfl)) rfl rfl rfl hN0 rfl zk_fl_12_108 dyX12_init_287 ?_
  refine zr_S (S2 := zmS 33) (zmS_step 32 _ rfl) ?_
  refine zr_widen (k := 33) (n := 244070) (Nat.le_of_ble_eq_true rfl) (Nat.le_of_ble_eq_true rfl) ?_
  refine zr_aload_n C dyX12_init_290 rfl 0 rfl ?_
  refine zr_sipush C dyX12_init_291 (by decide : (Int16.ofInt 3700).toInt32 = (3700 : Int32)) ?_
  refine za_newa C (N := 3700) zk_ac_int (by decide) (by decide) (Nat.le_of_ble_eq_true rfl) (hz.up (by rw [zmS_len 33 (by decide)]; decide)) (Nat.le_of_ble_eq_true rfl) (Nat.le_of_ble_eq_true rfl) dyX12_init_294 ?_
  rw [zmS_len 33 (by decide)]
  refine zr_putrF C (ci := 12) (Cn := RX12) (T := TX12) (N := 82) (k := 491) (j := 48) (fs := zmO 33) (r0 := none) (r := some (492 + 33)) rfl zin_12 (Nat.le_of_ble_eq_true rfl) rfl (zmS_get 33 _) rfl tyX12 tyX12_ok nmX12 (tyX12_ok 48 (Nat.le_of_ble_eq_true rfl)) rfl rfl rfl hN0 rfl zk_fl_12_111 dyX12_init_296 ?_
  refine zr_S (S2 := zmS 34) (zmS_step 33 _ rfl) ?_
  refine zr_widen (k := 34) (n := 247770) (Nat.le_of_ble_eq_true rfl) (Nat.le_of_ble_eq_true rfl) ?_
  refine zr_aload_n C dyX12_init_299 rfl 0 rfl ?_
  refine zr_sipush C dyX12_init_300 (by decide : (Int16.ofInt 3700).toInt32 = (3700 : Int32)) ?_
  refine za_newa C (N := 3700) zk_ac_int (by decide) (by decide) (Nat.le_of_ble_eq_true rfl) (hz.up (by rw [zmS_len 34 (by decide)]; decide)) (Nat.le_of_ble_eq_true rfl) (Nat.le_of_ble_eq_true rfl) dyX12_init_303 ?_
  rw [zmS_len 34 (by decide)]
  refine zr_putrF C (ci := 12) (Cn := RX12) (T := TX12) (N := 82) (k := 491) (j := 49) (fs := zmO 34) (r0 := none) (r := some (492 + 34)) rfl zin_12 (Nat.le_of_ble_eq_true rfl) rfl (zmS_get 34 _) rfl tyX12 tyX12_ok nmX12 (tyX12_ok 49 (Nat.le_of_ble_eq_true rfl)) rfl rfl rfl hN0 rfl zk_fl_12_114 dyX12_init_305 ?_
  refine zr_S (S2 := zmS 35) (zmS_step 34 _ rfl) ?_
  refine zr_widen (k := 35) (n := 251470) (Nat.le_of_ble_eq_true rfl) (Nat.le_of_ble_eq_true rfl) ?_
  refine zr_aload_n C dyX12_init_308 rfl 0 rfl ?_
  refine zr_sipush C dyX12_init_309 (by decide : (Int16.ofInt 700).toInt32 = (700 : Int32)) ?_
  refine za_newa C (N := 700) zk_ac_int (by decide) (by decide) (Nat.le_of_ble_eq_true rfl) (hz.up (by rw [zmS_len 35 (by decide)]; decide)) (Nat.le_of_ble_eq_true rfl) (Nat.le_of_ble_eq_true rfl) dyX12_init_312 ?_
  rw [zmS_len 35 (by decide)]
  refine zr_putrF C (ci := 12) (Cn := RX12) (T := TX12) (N := 82) (k := 491) (j := 50) (fs := zmO 35) (r0 := none) (r := some (492 + 35)) rfl zin_12 (Nat.le_of_ble_eq_true rfl) rfl (zmS_get 35 _) rfl tyX12 tyX12_ok nmX12 (tyX12_ok 50 (Nat.le_of_ble_eq_true rfl)) rfl rfl rfl hN0 rfl zk_fl_12_117 dyX12_init_314 ?_
  refine zr_S (S2 := zmS 36) (zmS_step 35 _ rfl) ?_
  refine zr_widen (k := 36) (n := 252170) (Nat.le_of_ble_eq_true rfl) (Nat.le_of_ble_eq_true rfl) ?_
  refine zr_aload_n C dyX12_init_317 rfl 0 rfl ?_
  refine zr_bipush C dyX12_init_318 (by decide : (Int8.ofInt 110).toInt32 = (110 : Int32)) ?_
  refine za_newa C (N := 110) zk_ac_int (by decide) (by decide) (Nat.le_of_ble_eq_true rfl) (hz.up (by rw [zmS_len 36 (by decide)]; decide)) (Nat.le_of_ble_eq_true rfl) (Nat.le_of_ble_eq_true rfl) dyX12_init_320 ?_
  rw [zmS_len 36 (by decide)]
  refine zr_putrF C (ci := 12) (Cn := RX12) (T := TX12) (N := 82) (k := 491) (j := 52) (fs := zmO 36) (r0 := none) (r := some (492 + 36)) rfl zin_12 (Nat.le_of_ble_eq_true rfl) rfl (zmS_get 36 _) rfl tyX12 tyX12_ok nmX12 (tyX12_ok 52 (Nat.le_of_ble_eq_true rfl)) rfl rfl rfl hN0 rfl zk_fl_12_120 dyX12_init_322 ?_
  refine zr_S (S2 := zmS 37) (zmS_step 36 _ rfl) ?_
  refine zr_widen (k := 37) (n := 252280) (Nat.le_of_ble_eq_true rfl) (Nat.le_of_ble_eq_true rfl) ?_
  refine zr_aload_n C dyX12_init_325 rfl 0 rfl ?_
  refine zr_bipush C dyX12_init_326 (by decide : (Int8.ofInt 110).toInt32 = (110 : Int32)) ?_
  refine za_newa C (N := 110) zk_ac_int (by decide) (by decide) (Nat.le_of_ble_eq_true rfl) (hz.up (by rw [zmS_len 37 (by decide)]; decide)) (Nat.le_of_ble_eq_true rfl) (Nat.le_of_ble_eq_true rfl) dyX12_init_328 ?_
  rw [zmS_len 37 (by decide)]
  refine zr_putrF C (ci := 12) (Cn := RX12) (T := TX12) (N := 82) (k := 491) (j := 54) (fs := zmO 37) (r0 := none) (r := some (492 + 37)) rfl zin_12 (Nat.le_of_ble_eq_true rfl) rfl (zmS_get 37 _) rfl tyX12 tyX12_ok nmX12 (tyX12_ok 54 (Nat.le_of_ble_eq_true rfl)) rfl rfl rfl hN0 rfl zk_fl_12_123 dyX12_init_330 ?_
  refine zr_S (S2 := zmS 38) (zmS_step 37 _ rfl) ?_
  refine zr_widen (k := 38) (n := 252390) (Nat.le_of_ble_eq_true rfl) (Nat.le_of_ble_eq_true rfl) ?_
  refine zr_aload_n C dyX12_init_333 rfl 0 rfl ?_
  refine zr_bipush C dyX12_init_334 (by decide : (Int8.ofInt 60).toInt32 = (60 : Int32)) ?_
  refine za_newl C (N := 60) zk_ac_long (by decide) (by decide) (Nat.le_of_ble_eq_true rfl) (hz.up (by rw [zmS_len 38 (by decide)]; decide)) (Nat.le_of_ble_eq_true rfl) (Nat.le_of_ble_eq_true rfl) dyX12_init_336 ?_
  rw [zmS_len 38 (by decide)]
  refine zr_putrF C (ci := 12) (Cn := RX12) (T := TX12) (N := 82) (k := 491) (j := 56) (fs := zmO 38) (r0 := none) (r := some (492 + 38)) rfl zin_12 (Nat.le_of_ble_eq_true rfl) rfl (zmS_get 38 _) rfl tyX12 tyX12_ok nmX12 (tyX12_ok 56 (Nat.le_of_ble_eq_true rfl)) rfl rfl rfl hN0 rfl zk_fl_12_126 dyX12_init_338 ?_
  refine zr_S (S2 := zmS 39) (zmS_step 38 _ rfl) ?_
  refine zr_widen (k := 39) (n := 252450) (Nat.le_of_ble_eq_true rfl) (Nat.le_of_ble_eq_true rfl) ?_
  refine zr_aload_n C dyX12_init_341 rfl 0 rfl ?_
  refine zr_bipush C dyX12_init_342 (by decide : (Int8.ofInt 60).toInt32 = (60 : Int32)) ?_
  refine za_newa C (N := 60) zk_ac_int (by decide) (by decide) (Nat.le_of_ble_eq_true rfl) (hz.up (by rw [zmS_len 39 (by decide)]; decide)) (Nat.le_of_ble_eq_true rfl) (Nat.le_of_ble_eq_true rfl) dyX12_init_344 ?_
  rw [zmS_len 39 (by decide)]
  refine zr_putrF C (ci := 12) (Cn := RX12) (T := TX12) (N := 82) (k := 491) (j := 57) (fs := zmO 39) (r0 := none) (r := some (492 + 39)) rfl zin_12 (Nat.le_of_ble_eq_true rfl) rfl (zmS_get 39 _) rfl tyX12 tyX12_ok nmX12 (tyX12_ok 57 (Nat.le_of_ble_eq_true rfl)) rfl rfl rfl hN0 rfl zk_fl_12_129 dyX12_init_346 ?_
  refine zr_S (S2 := zmS 40) (zmS_step 39 _ rfl) ?_
  refine zr_widen (k := 40) (n := 252510) (Nat.le_of_ble_eq_true rfl) (Nat.le_of_ble_eq_true rfl) ?_
  refine zr_aload_n C dyX12_init_349 rfl 0 rfl ?_
  refine zr_sipush C dyX12_init_350 (by decide : (Int16.ofInt 3700).toInt32 = (3700 : Int32)) ?_
  refine za_newa C (N := 3700) zk_ac_int (by decide) (by decide) (Nat.le_of_ble_eq_true rfl) (hz.up (by rw [zmS_len 40 (by decide)]; decide)) (Nat.le_of_ble_eq_true rfl) (Nat.le_of_ble_eq_true rfl) dyX12_init_353 ?_
  rw [zmS_len 40 (by decide)]
  refine zr_putrF C (ci := 12) (Cn := RX12) (T := TX12) (N := 82) (k := 491) (j := 58) (fs := zmO 40) (r0 := none) (r := some (492 + 40)) rfl zin_12 (Nat.le_of_ble_eq_true rfl) rfl (zmS_get 40 _) rfl tyX12 tyX12_ok nmX12 (tyX12_ok 58 (Nat.le_of_ble_eq_true rfl)) rfl rfl rfl hN0 rfl zk_fl_12_132 dyX12_init_355 ?_
  refine zr_S (S2 := zmS 41) (zmS_step 40 _ rfl) ?_
  refine zr_widen (k := 41) (n := 256210) (Nat.le_of_ble_eq_true rfl) (Nat.le_of_ble_eq_true rfl) ?_
  refine zr_aload_n C dyX12_init_358 rfl 0 rfl ?_
  refine zr_sipush C dyX12_init_359 (by decide : (Int16.ofInt 4100).toInt32 = (4100 : Int32)) ?_
  refine za_newa C (N := 4100) zk_ac_int (by decide) (by decide) (Nat.le_of_ble_eq_true rfl) (hz.up (by rw [zmS_len 41 (by decide)]; decide)) (Nat.le_of_ble_eq_true rfl) (Nat.le_of_ble_eq_true rfl) dyX12_init_362 ?_
  rw [zmS_len 41 (by decide)]
  refine zr_putrF C (ci := 12) (Cn := RX12) (T := TX12) (N := 82) (k := 491) (j := 60) (fs := zmO 41) (r0 := none) (r := some (492 + 41)) rfl zin_12 (Nat.le_of_ble_eq_true rfl) rfl (zmS_get 41 _) rfl tyX12 tyX12_ok nmX12 (tyX12_ok 60 (Nat.le_of_ble_eq_true rfl)) rfl rfl rfl hN0 rfl zk_fl_12_135 dyX12_init_364 ?_
  refine zr_S (S2 := zmS 42) (zmS_step 41 _ rfl) ?_
  refine zr_widen (k := 42) (n := 260310) (Nat.le_of_ble_eq_true rfl) (Nat.le_of_ble_eq_true rfl) ?_
  refine zr_aload_n C dyX12_init_367 rfl 0 rfl ?_
  refine zr_sipush C dyX12_init_368 (by decide : (Int16.ofInt 4100).toInt32 = (4100 : Int32)) ?_
  refine za_newa C (N := 4100) zk_ac_int (by decide) (by decide) (Nat.le_of_ble_eq_true rfl) (hz.up (by rw [zmS_len 42 (by decide)]; decide)) (Nat.le_of_ble_eq_true rfl) (Nat.le_of_ble_eq_true rfl) dyX12_init_371 ?_
  rw [zmS_len 42 (by decide)]
  refine zr_putrF C (ci := 12) (Cn := RX12) (T := TX12) (N := 82) (k := 491) (j := 61) (fs := zmO 42) (r0 := none) (r := some (492 + 42)) rfl zin_12 (Nat.le_of_ble_eq_true rfl) rfl (zmS_get 42 _) rfl tyX12 tyX12_ok nmX12 (tyX12_ok 61 (Nat.le_of_ble_eq_true rfl)) rfl rfl rfl hN0 rfl zk_fl_12_138 dyX12_init_373 ?_
  refine zr_S (S2 := zmS 43) (zmS_step 42 _ rfl) ?_
  refine zr_widen (k := 43) (n := 264410) (Nat.le_of_ble_eq_true rfl) (Nat.le_of_ble_eq_true rfl) ?_
  refine zr_aload_n C dyX12_init_376 rfl 0 rfl ?_
  refine zr_bipush C dyX12_init_377 (by decide : (Int8.ofInt 20).toInt32 = (20 : Int32)) ?_
  refine za_newa C (N := 20) zk_ac_int (by decide) (by decide) (Nat.le_of_ble_eq_true rfl) (hz.up (by rw [zmS_len 43 (by decide)]; decide)) (Nat.le_of_ble_eq_true rfl) (Nat.le_of_ble_eq_true rfl) dyX12_init_379 ?_
  rw [zmS_len 43 (by decide)]
  refine zr_putrF C (ci := 12) (Cn := RX12) (T := TX12) (N := 82) (k := 491) (j := 62) (fs := zmO 43) (r0 := none) (r := some (492 + 43)) rfl zin_12 (Nat.le_of_ble_eq_true rfl) rfl (zmS_get 43 _) rfl tyX12 tyX12_ok nmX12 (tyX12_ok 62 (Nat.le_of_ble_eq_true rfl)) rfl rfl rfl hN0 rfl zk_fl_12_141 dyX12_init_381 ?_
  refine zr_S (S2 := zmS 44) (zmS_step 43 _ rfl) ?_
  refine zr_widen (k := 44) (n := 264430) (Nat.le_of_ble_eq_true rfl) (Nat.le_of_ble_eq_true rfl) ?_
  refine zr_aload_n C dyX12_init_384 rfl 0 rfl ?_
  refine zr_bipush C dyX12_init_385 (by decide : (Int8.ofInt 20).toInt32 = (20 : Int32)) ?_
  refine za_newa C (N := 20) zk_ac_int (by decide) (by decide) (Nat.le_of_ble_eq_true rfl) (hz.up (by rw [zmS_len 44 (by decide)]; decide)) (Nat.le_of_ble_eq_true rfl) (Nat.le_of_ble_eq_true rfl) dyX12_init_387 ?_
  rw [zmS_len 44 (by decide)]
  refine zr_putrF C (ci := 12) (Cn := RX12) (T := TX12) (N := 82) (k := 491) (j := 63) (fs := zmO 44) (r0 := none) (r := some (492 + 44)) rfl zin_12 (Nat.le_of_ble_eq_true rfl) rfl (zmS_get 44 _) rfl tyX12 tyX12_ok nmX12 (tyX12_ok 63 (Nat.le_of_ble_eq_true rfl)) rfl rfl rfl hN0 rfl zk_fl_12_144 dyX12_init_389 ?_
  refine zr_S (S2 := zmS 45) (zmS_step 44 _ rfl) ?_
  refine zr_widen (k := 45) (n := 264450) (Nat.le_of_ble_eq_true rfl) (Nat.le_of_ble_eq_true rfl) ?_
  refine zr_aload_n C dyX12_init_392 rfl 0 rfl ?_
  refine zr_bipush C dyX12_init_393 (by decide : (Int8.ofInt 20).toInt32 = (20 : Int32)) ?_
  refine za_newa C (N := 20) zk_ac_int (by decide) (by decide) (Nat.le_of_ble_eq_true rfl) (hz.up (by rw [zmS_len 45 (by decide)]; decide)) (Nat.le_of_ble_eq_true rfl) (Nat.le_of_ble_eq_true rfl) dyX12_init_395 ?_
  rw [zmS_len 45 (by decide)]
  refine zr_putrF C (ci := 12) (Cn := RX12) (T := TX12) (N := 82) (k := 491) (j := 64) (fs := zmO 45) (r0 := none) (r := some (492 + 45)) rfl zin_12 (Nat.le_of_ble_eq_true rfl) rfl (zmS_get 45 _) rfl tyX12 tyX12_ok nmX12 (tyX12_ok 64 (Nat.le_of_ble_eq_true rfl)) rfl rfl rfl hN0 rfl zk_fl_12_147 dyX12_init_397 ?_
  refine zr_S (S2 := zmS 46) (zmS_step 45 _ rfl) ?_
  refine zr_widen (k := 46) (n := 264470) (Nat.le_of_ble_eq_true rfl) (Nat.le_of_ble_eq_true rfl) ?_
  refine zr_aload_n C dyX12_init_400 rfl 0 rfl ?_
  refine zr_bipush C dyX12_init_401 (by decide : (Int8.ofInt 10).toInt32 = (10 : Int32)) ?_
  refine za_newa C (N := 10) zk_ac_int (by decide) (by decide) (Nat.le_of_ble_eq_true rfl) (hz.up (by rw [zmS_len 46 (by decide)]; decide)) (Nat.le_of_ble_eq_true rfl) (Nat.le_of_ble_eq_true rfl) dyX12_init_403 ?_
  rw [zmS_len 46 (by decide)]
  refine zr_putrF C (ci := 12) (Cn := RX12) (T := TX12) (N := 82) (k := 491) (j := 68) (fs := zmO 46) (r0 := none) (r := some (492 + 46)) rfl zin_12 (Nat.le_of_ble_eq_true rfl) rfl (zmS_get 46 _) rfl tyX12 tyX12_ok nmX12 (tyX12_ok 68 (Nat.le_of_ble_eq_true rfl)) rfl rfl rfl hN0 rfl zk_fl_12_150 dyX12_init_405 ?_
  refine zr_S (S2 := zmS 47) (zmS_step 46 _ rfl) ?_
  refine zr_widen (k := 47) (n := 264480) (Nat.le_of_ble_eq_true rfl) (Nat.le_of_ble_eq_true rfl) ?_
  refine zr_aload_n C dyX12_init_408 rfl 0 rfl ?_
  refine zr_sipush C dyX12_init_409 (by decide : (Int16.ofInt 400).toInt32 = (400 : Int32)) ?_
  refine za_newa C (N := 400) zk_ac_int (by decide) (by decide) (Nat.le_of_ble_eq_true rfl) (hz.up (by rw [zmS_len 47 (by decide)]; decide)) (Nat.le_of_ble_eq_true rfl) (Nat.le_of_ble_eq_true rfl) dyX12_init_412 ?_
  rw [zmS_len 47 (by decide)]
  refine zr_putrF C (ci := 12) (Cn := RX12) (T := TX12) (N := 82) (k := 491) (j := 69) (fs := zmO 47) (r0 := none) (r := some (492 + 47)) rfl zin_12 (Nat.le_of_ble_eq_true rfl) rfl (zmS_get 47 _) rfl tyX12 tyX12_ok nmX12 (tyX12_ok 69 (Nat.le_of_ble_eq_true rfl)) rfl rfl rfl hN0 rfl zk_fl_12_153 dyX12_init_414 ?_
  refine zr_S (S2 := zmS 48) (zmS_step 47 _ rfl) ?_
  refine zr_widen (k := 48) (n := 264880) (Nat.le_of_ble_eq_true rfl) (Nat.le_of_ble_eq_true rfl) ?_
  refine zr_aload_n C dyX12_init_417 rfl 0 rfl ?_
  refine zr_sipush C dyX12_init_418 (by decide : (Int16.ofInt 400).toInt32 = (400 : Int32)) ?_
  refine za_newa C (N := 400) zk_ac_int (by decide) (by decide) (Nat.le_of_ble_eq_true rfl) (hz.up (by rw [zmS_len 48 (by decide)]; decide)) (Nat.le_of_ble_eq_true rfl) (Nat.le_of_ble_eq_true rfl) dyX12_init_421 ?_
  rw [zmS_len 48 (by decide)]
  refine zr_putrF C (ci := 12) (Cn := RX12) (T := TX12) (N := 82) (k := 491) (j := 70) (fs := zmO 48) (r0 := none) (r := some (492 + 48)) rfl zin_12 (Nat.le_of_ble_eq_true rfl) rfl (zmS_get 48 _) rfl tyX12 tyX12_ok nmX12 (tyX12_ok 70 (Nat.le_of_ble_eq_true rfl)) rfl rfl rfl hN0 rfl zk_fl_12_156 dyX12_init_423 ?_
  refine zr_S (S2 := zmS 49) (zmS_step 48 _ rfl) ?_
  refine zr_widen (k := 49) (n := 265280) (Nat.le_of_ble_eq_true rfl) (Nat.le_of_ble_eq_true rfl) ?_
  refine zr_aload_n C dyX12_init_426 rfl 0 rfl ?_
  refine zr_sipush C dyX12_init_427 (by decide : (Int16.ofInt 700).toInt32 = (700 : Int32)) ?_
  refine za_newa C (N := 700) zk_ac_int (by decide) (by decide) (Nat.le_of_ble_eq_true rfl) (hz.up (by rw [zmS_len 49 (by decide)]; decide)) (Nat.le_of_ble_eq_true rfl) (Nat.le_of_ble_eq_true rfl) dyX12_init_430 ?_
  rw [zmS_len 49 (by decide)]
  refine zr_putrF C (ci := 12) (Cn := RX12) (T := TX12) (N := 82) (k := 491) (j := 74) (fs := zmO 49) (r0 := none) (r := some (492 + 49)) rfl zin_12 (Nat.le_of_ble_eq_true rfl) rfl (zmS_get 49 _) rfl tyX12 tyX12_ok nmX12 (tyX12_ok 74 (Nat.le_of_ble_eq_true rfl)) rfl rfl rfl hN0 rfl zk_fl_12_159 dyX12_init_432 ?_
  refine zr_S (S2 := zmS 50) (zmS_step 49 _ rfl) ?_
  refine zr_widen (k := 50) (n := 265980) (Nat.le_of_ble_eq_true rfl) (Nat.le_of_ble_eq_true rfl) ?_
  refine zr_aload_n C dyX12_init_435 rfl 0 rfl ?_
  refine zr_sipush C dyX12_init_436 (by decide : (Int16.ofInt 15120).toInt32 = (15120 : Int32)) ?_
  refine za_newa C (N := 15120) zk_ac_int (by decide) (by decide) (Nat.le_of_ble_eq_true rfl) (hz.up (by rw [zmS_len 50 (by decide)]; decide)) (Nat.le_of_ble_eq_true rfl) (Nat.le_of_ble_eq_true rfl) dyX12_init_439 ?_
  rw [zmS_len 50 (by decide)]
  refine zr_putrF C (ci := 12) (Cn := RX12) (T := TX12) (N := 82) (k := 491) (j := 77) (fs := zmO 50) (r0 := none) (r := some (492 + 50)) rfl zin_12 (Nat.le_of_ble_eq_true rfl) rfl (zmS_get 50 _) rfl tyX12 tyX12_ok nmX12 (tyX12_ok 77 (Nat.le_of_ble_eq_true rfl)) rfl rfl rfl hN0 rfl zk_fl_12_162 dyX12_init_441 ?_
  refine zr_S (S2 := zmS 51) (zmS_step 50 _ rfl) ?_
  refine zr_widen (k := 51) (n := 281100) (Nat.le_of_ble_eq_true rfl) (Nat.le_of_ble_eq_true rfl) ?_
  refine zr_aload_n C dyX12_init_444 rfl 0 rfl ?_
  refine zr_sipush C dyX12_init_445 (by decide : (Int16.ofInt 700).toInt32 = (700 : Int32)) ?_
  refine za_newa C (N := 700) zk_ac_int (by decide) (by decide) (Nat.le_of_ble_eq_true rfl) (hz.up (by rw [zmS_len 51 (by decide)]; decide)) (Nat.le_of_ble_eq_true rfl) (Nat.le_of_ble_eq_true rfl) dyX12_init_448 ?_
  rw [zmS_len 51 (by decide)]
  refine zr_putrF C (ci := 12) (Cn := RX12) (T := TX12) (N := 82) (k := 491) (j := 78) (fs := zmO 51) (r0 := none) (r := some (492 + 51)) rfl zin_12 (Nat.le_of_ble_eq_true rfl) rfl (zmS_get 51 _) rfl tyX12 tyX12_ok nmX12 (tyX12_ok 78 (Nat.le_of_ble_eq_true rfl)) rfl rfl rfl hN0 rfl zk_fl_12_165 dyX12_init_450 ?_
  refine zr_S (S2 := zmS 52) (zmS_step 51 _ rfl) ?_
  refine zr_widen (k := 52) (n := 281800) (Nat.le_of_ble_eq_true rfl) (Nat.le_of_ble_eq_true rfl) ?_
  refine zr_aload_n C dyX12_init_453 rfl 0 rfl ?_
  refine zr_sipush C dyX12_init_454 (by decide : (Int16.ofInt 1000).toInt32 = (1000 : Int32)) ?_
  refine za_newa C (N := 1000) zk_ac_int (by decide) (by decide) (Nat.le_of_ble_eq_true rfl) (hz.up (by rw [zmS_len 52 (by decide)]; decide)) (Nat.le_of_ble_eq_true rfl) (Nat.le_of_ble_eq_true rfl) dyX12_init_457 ?_
  rw [zmS_len 52 (by decide)]
  refine zr_putrF C (ci := 12) (Cn := RX12) (T := TX12) (N := 82) (k := 491) (j := 79) (fs := zmO 52) (r0 := none) (r := some (492 + 52)) rfl zin_12 (Nat.le_of_ble_eq_true rfl) rfl (zmS_get 52 _) rfl tyX12 tyX12_ok nmX12 (tyX12_ok 79 (Nat.le_of_ble_eq_true rfl)) rfl rfl rfl hN0 rfl zk_fl_12_168 dyX12_init_459 ?_
  refine zr_S (S2 := zmS 53) (zmS_step 52 _ rfl) ?_
  refine zr_widen (k := 53) (n := 282800) (Nat.le_of_ble_eq_true rfl) (Nat.le_of_ble_eq_true rfl) ?_
  refine zr_aload_n C dyX12_init_462 rfl 0 rfl ?_
  refine zr_sipush C dyX12_init_463 (by decide : (Int16.ofInt 1000).toInt32 = (1000 : Int32)) ?_
  refine za_newa C (N := 1000) zk_ac_int (by decide) (by decide) (Nat.le_of_ble_eq_true rfl) (hz.up (by rw [zmS_len 53 (by decide)]; decide)) (Nat.le_of_ble_eq_true rfl) (Nat.le_of_ble_eq_true rfl) dyX12_init_466 ?_
  rw [zmS_len 53 (by decide)]
  refine zr_putrF C (ci := 12) (Cn := RX12) (T := TX12) (N := 82) (k := 491) (j := 81) (fs := zmO 53) (r0 := none) (r := some (492 + 53)) rfl zin_12 (Nat.le_of_ble_eq_true rfl) rfl (zmS_get 53 _) rfl tyX12 tyX12_ok nmX12 (tyX12_ok 81 (Nat.le_of_ble_eq_true rfl)) rfl rfl rfl hN0 rfl zk_fl_12_171 dyX12_init_468 ?_
  refine zr_S (S2 := zmS 54) (zmS_step 53 _ rfl) ?_
  refine zr_widen (k := 54) (n := 283800) (Nat.le_of_ble_eq_true rfl) (Nat.le_of_ble_eq_true rfl) ?_
  rw [zmS_end]
  exact zm_tail C zOkM_self h
