theorem dyL_law_0 : decode cL_law 0 = .ok (.new 7, 3) := by decide +kernel
theorem dyL_law_3 : decode cL_law 3 = .ok (.dup, 1) := by decide +kernel
theorem dyL_law_4 : decode cL_law 4 = .ok (.invokespecial 9, 3) := by decide +kernel
theorem dyL_law_7 : decode cL_law 7 = .ok (.astore_n 1, 1) := by decide +kernel
theorem dyL_law_8 : decode cL_law 8 = .ok (.new 10, 3) := by decide +kernel
theorem dyL_law_11 : decode cL_law 11 = .ok (.dup, 1) := by decide +kernel
theorem dyL_law_12 : decode cL_law 12 = .ok (.invokespecial 12, 3) := by decide +kernel
theorem dyL_law_15 : decode cL_law 15 = .ok (.astore_n 2, 1) := by decide +kernel
theorem dyL_law_16 : decode cL_law 16 = .ok (.iconst 0, 1) := by decide +kernel
theorem dyL_law_17 : decode cL_law 17 = .ok (.istore_n 3, 1) := by decide +kernel
theorem dyL_law_18 : decode cL_law 18 = .ok (.iload_n 3, 1) := by decide +kernel
theorem dyL_law_19 : decode cL_law 19 = .ok (.aload_n 0, 1) := by decide +kernel
theorem dyL_law_20 : decode cL_law 20 = .ok (.arraylength, 1) := by decide +kernel
theorem dyL_law_21 : decode cL_law 21 = .ok (.bipush 6, 2) := by decide +kernel
theorem dyL_law_23 : decode cL_law 23 = .ok (.isub, 1) := by decide +kernel
theorem dyL_law_24 : decode cL_law 24 = .ok (.if_icmp .gt 1227, 3) := by decide +kernel
theorem dyL_law_27 : decode cL_law 27 = .ok (.aload_n 0, 1) := by decide +kernel
theorem dyL_law_28 : decode cL_law 28 = .ok (.iload_n 3, 1) := by decide +kernel
theorem dyL_law_29 : decode cL_law 29 = .ok (.iaload, 1) := by decide +kernel
theorem dyL_law_30 : decode cL_law 30 = .ok (.bipush 63, 2) := by decide +kernel
theorem dyL_law_32 : decode cL_law 32 = .ok (.iand, 1) := by decide +kernel
theorem dyL_law_33 : decode cL_law 33 = .ok (.tableswitch 1212 0 40 #[179, 242, 265, 298, 321, 344, 367, 390, 403, 416, 439, 472, 495, 528, 561, 584, 597, 620, 633, 656, 679, 702, 725, 758, 781, 804, 837, 860, 883, 896, 919, 942, 965, 998, 1031, 1054, 1077, 1100, 1133, 1166, 1189], 179) := by decide +kernel
theorem dyL_law_212 : decode cL_law 212 = .ok (.aload_n 1, 1) := by decide +kernel
theorem dyL_law_213 : decode cL_law 213 = .ok (.aload_n 0, 1) := by decide +kernel
theorem dyL_law_214 : decode cL_law 214 = .ok (.iload_n 3, 1) := by decide +kernel
theorem dyL_law_215 : decode cL_law 215 = .ok (.iconst 1, 1) := by decide +kernel
theorem dyL_law_216 : decode cL_law 216 = .ok (.iadd, 1) := by decide +kernel
theorem dyL_law_217 : decode cL_law 217 = .ok (.iaload, 1) := by decide +kernel
theorem dyL_law_218 : decode cL_law 218 = .ok (.aload_n 0, 1) := by decide +kernel
theorem dyL_law_219 : decode cL_law 219 = .ok (.iload_n 3, 1) := by decide +kernel
theorem dyL_law_220 : decode cL_law 220 = .ok (.iconst 2, 1) := by decide +kernel
theorem dyL_law_221 : decode cL_law 221 = .ok (.iadd, 1) := by decide +kernel
theorem dyL_law_222 : decode cL_law 222 = .ok (.iaload, 1) := by decide +kernel
theorem dyL_law_223 : decode cL_law 223 = .ok (.aload_n 0, 1) := by decide +kernel
theorem dyL_law_224 : decode cL_law 224 = .ok (.iload_n 3, 1) := by decide +kernel
theorem dyL_law_225 : decode cL_law 225 = .ok (.iconst 3, 1) := by decide +kernel
theorem dyL_law_226 : decode cL_law 226 = .ok (.iadd, 1) := by decide +kernel
theorem dyL_law_227 : decode cL_law 227 = .ok (.iaload, 1) := by decide +kernel
theorem dyL_law_228 : decode cL_law 228 = .ok (.aload_n 0, 1) := by decide +kernel
theorem dyL_law_229 : decode cL_law 229 = .ok (.iload_n 3, 1) := by decide +kernel
theorem dyL_law_230 : decode cL_law 230 = .ok (.iconst 4, 1) := by decide +kernel
theorem dyL_law_231 : decode cL_law 231 = .ok (.iadd, 1) := by decide +kernel
theorem dyL_law_232 : decode cL_law 232 = .ok (.iaload, 1) := by decide +kernel
theorem dyL_law_233 : decode cL_law 233 = .ok (.aload_n 0, 1) := by decide +kernel
theorem dyL_law_234 : decode cL_law 234 = .ok (.iload_n 3, 1) := by decide +kernel
theorem dyL_law_235 : decode cL_law 235 = .ok (.iconst 5, 1) := by decide +kernel
theorem dyL_law_236 : decode cL_law 236 = .ok (.iadd, 1) := by decide +kernel
theorem dyL_law_237 : decode cL_law 237 = .ok (.iaload, 1) := by decide +kernel
theorem dyL_law_238 : decode cL_law 238 = .ok (.invokevirtual 13, 3) := by decide +kernel
theorem dyL_law_241 : decode cL_law 241 = .ok (.pop, 1) := by decide +kernel
theorem dyL_law_242 : decode cL_law 242 = .ok (.aload_n 2, 1) := by decide +kernel
theorem dyL_law_243 : decode cL_law 243 = .ok (.aload_n 0, 1) := by decide +kernel
theorem dyL_law_244 : decode cL_law 244 = .ok (.iload_n 3, 1) := by decide +kernel
theorem dyL_law_245 : decode cL_law 245 = .ok (.iconst 1, 1) := by decide +kernel
theorem dyL_law_246 : decode cL_law 246 = .ok (.iadd, 1) := by decide +kernel
theorem dyL_law_247 : decode cL_law 247 = .ok (.iaload, 1) := by decide +kernel
theorem dyL_law_248 : decode cL_law 248 = .ok (.aload_n 0, 1) := by decide +kernel
theorem dyL_law_249 : decode cL_law 249 = .ok (.iload_n 3, 1) := by decide +kernel
theorem dyL_law_250 : decode cL_law 250 = .ok (.iconst 2, 1) := by decide +kernel
theorem dyL_law_251 : decode cL_law 251 = .ok (.iadd, 1) := by decide +kernel
theorem dyL_law_252 : decode cL_law 252 = .ok (.iaload, 1) := by decide +kernel
theorem dyL_law_253 : decode cL_law 253 = .ok (.aload_n 0, 1) := by decide +kernel
theorem dyL_law_254 : decode cL_law 254 = .ok (.iload_n 3, 1) := by decide +kernel
theorem dyL_law_255 : decode cL_law 255 = .ok (.iconst 3, 1) := by decide +kernel
theorem dyL_law_256 : decode cL_law 256 = .ok (.iadd, 1) := by decide +kernel
theorem dyL_law_257 : decode cL_law 257 = .ok (.iaload, 1) := by decide +kernel
theorem dyL_law_258 : decode cL_law 258 = .ok (.aload_n 0, 1) := by decide +kernel
theorem dyL_law_259 : decode cL_law 259 = .ok (.iload_n 3, 1) := by decide +kernel
theorem dyL_law_260 : decode cL_law 260 = .ok (.iconst 4, 1) := by decide +kernel
theorem dyL_law_261 : decode cL_law 261 = .ok (.iadd, 1) := by decide +kernel
theorem dyL_law_262 : decode cL_law 262 = .ok (.iaload, 1) := by decide +kernel
theorem dyL_law_263 : decode cL_law 263 = .ok (.aload_n 0, 1) := by decide +kernel
theorem dyL_law_264 : decode cL_law 264 = .ok (.iload_n 3, 1) := by decide +kernel
theorem dyL_law_265 : decode cL_law 265 = .ok (.iconst 5, 1) := by decide +kernel
theorem dyL_law_266 : decode cL_law 266 = .ok (.iadd, 1) := by decide +kernel
theorem dyL_law_267 : decode cL_law 267 = .ok (.iaload, 1) := by decide +kernel
theorem dyL_law_268 : decode cL_law 268 = .ok (.invokevirtual 17, 3) := by decide +kernel
theorem dyL_law_271 : decode cL_law 271 = .ok (.pop, 1) := by decide +kernel
theorem dyL_law_272 : decode cL_law 272 = .ok (.goto 973, 3) := by decide +kernel
theorem dyL_law_275 : decode cL_law 275 = .ok (.aload_n 1, 1) := by decide +kernel
theorem dyL_law_276 : decode cL_law 276 = .ok (.aload_n 0, 1) := by decide +kernel
theorem dyL_law_277 : decode cL_law 277 = .ok (.iload_n 3, 1) := by decide +kernel
theorem dyL_law_278 : decode cL_law 278 = .ok (.iconst 1, 1) := by decide +kernel
theorem dyL_law_279 : decode cL_law 279 = .ok (.iadd, 1) := by decide +kernel
theorem dyL_law_280 : decode cL_law 280 = .ok (.iaload, 1) := by decide +kernel
theorem dyL_law_281 : decode cL_law 281 = .ok (.invokevirtual 18, 3) := by decide +kernel
theorem dyL_law_284 : decode cL_law 284 = .ok (.pop, 1) := by decide +kernel
theorem dyL_law_285 : decode cL_law 285 = .ok (.aload_n 2, 1) := by decide +kernel
theorem dyL_law_286 : decode cL_law 286 = .ok (.aload_n 0, 1) := by decide +kernel
theorem dyL_law_287 : decode cL_law 287 = .ok (.iload_n 3, 1) := by decide +kernel
theorem dyL_law_288 : decode cL_law 288 = .ok (.iconst 1, 1) := by decide +kernel
theorem dyL_law_289 : decode cL_law 289 = .ok (.iadd, 1) := by decide +kernel
theorem dyL_law_290 : decode cL_law 290 = .ok (.iaload, 1) := by decide +kernel
theorem dyL_law_291 : decode cL_law 291 = .ok (.invokevirtual 22, 3) := by decide +kernel
theorem dyL_law_294 : decode cL_law 294 = .ok (.pop, 1) := by decide +kernel
theorem dyL_law_295 : decode cL_law 295 = .ok (.goto 950, 3) := by decide +kernel
theorem dyL_law_298 : decode cL_law 298 = .ok (.aload_n 1, 1) := by decide +kernel
theorem dyL_law_299 : decode cL_law 299 = .ok (.aload_n 0, 1) := by decide +kernel
theorem dyL_law_300 : decode cL_law 300 = .ok (.iload_n 3, 1) := by decide +kernel
theorem dyL_law_301 : decode cL_law 301 = .ok (.iconst 1, 1) := by decide +kernel
theorem dyL_law_302 : decode cL_law 302 = .ok (.iadd, 1) := by decide +kernel
theorem dyL_law_303 : decode cL_law 303 = .ok (.iaload, 1) := by decide +kernel
theorem dyL_law_304 : decode cL_law 304 = .ok (.aload_n 0, 1) := by decide +kernel
theorem dyL_law_305 : decode cL_law 305 = .ok (.iload_n 3, 1) := by decide +kernel
theorem dyL_law_306 : decode cL_law 306 = .ok (.iconst 2, 1) := by decide +kernel
theorem dyL_law_307 : decode cL_law 307 = .ok (.iadd, 1) := by decide +kernel
theorem dyL_law_308 : decode cL_law 308 = .ok (.iaload, 1) := by decide +kernel
theorem dyL_law_309 : decode cL_law 309 = .ok (.invokevirtual 23, 3) := by decide +kernel
theorem dyL_law_312 : decode cL_law 312 = .ok (.pop, 1) := by decide +kernel
theorem dyL_law_313 : decode cL_law 313 = .ok (.aload_n 2, 1) := by decide +kernel
theorem dyL_law_314 : decode cL_law 314 = .ok (.aload_n 0, 1) := by decide +kernel
theorem dyL_law_315 : decode cL_law 315 = .ok (.iload_n 3, 1) := by decide +kernel
theorem dyL_law_316 : decode cL_law 316 = .ok (.iconst 1, 1) := by decide +kernel
theorem dyL_law_317 : decode cL_law 317 = .ok (.iadd, 1) := by decide +kernel
theorem dyL_law_318 : decode cL_law 318 = .ok (.iaload, 1) := by decide +kernel
theorem dyL_law_319 : decode cL_law 319 = .ok (.aload_n 0, 1) := by decide +kernel
theorem dyL_law_320 : decode cL_law 320 = .ok (.iload_n 3, 1) := by decide +kernel
theorem dyL_law_321 : decode cL_law 321 = .ok (.iconst 2, 1) := by decide +kernel
theorem dyL_law_322 : decode cL_law 322 = .ok (.iadd, 1) := by decide +kernel
theorem dyL_law_323 : decode cL_law 323 = .ok (.iaload, 1) := by decide +kernel
theorem dyL_law_324 : decode cL_law 324 = .ok (.invokevirtual 27, 3) := by decide +kernel
theorem dyL_law_327 : decode cL_law 327 = .ok (.pop, 1) := by decide +kernel
theorem dyL_law_328 : decode cL_law 328 = .ok (.goto 917, 3) := by decide +kernel
theorem dyL_law_331 : decode cL_law 331 = .ok (.aload_n 1, 1) := by decide +kernel
theorem dyL_law_332 : decode cL_law 332 = .ok (.aload_n 0, 1) := by decide +kernel
theorem dyL_law_333 : decode cL_law 333 = .ok (.iload_n 3, 1) := by decide +kernel
theorem dyL_law_334 : decode cL_law 334 = .ok (.iconst 1, 1) := by decide +kernel
theorem dyL_law_335 : decode cL_law 335 = .ok (.iadd, 1) := by decide +kernel
theorem dyL_law_336 : decode cL_law 336 = .ok (.iaload, 1) := by decide +kernel
theorem dyL_law_337 : decode cL_law 337 = .ok (.invokevirtual 28, 3) := by decide +kernel
theorem dyL_law_340 : decode cL_law 340 = .ok (.pop, 1) := by decide +kernel
theorem dyL_law_341 : decode cL_law 341 = .ok (.aload_n 2, 1) := by decide +kernel
theorem dyL_law_342 : decode cL_law 342 = .ok (.aload_n 0, 1) := by decide +kernel
theorem dyL_law_343 : decode cL_law 343 = .ok (.iload_n 3, 1) := by decide +kernel
theorem dyL_law_344 : decode cL_law 344 = .ok (.iconst 1, 1) := by decide +kernel
theorem dyL_law_345 : decode cL_law 345 = .ok (.iadd, 1) := by decide +kernel
theorem dyL_law_346 : decode cL_law 346 = .ok (.iaload, 1) := by decide +kernel
theorem dyL_law_347 : decode cL_law 347 = .ok (.invokevirtual 31, 3) := by decide +kernel
theorem dyL_law_350 : decode cL_law 350 = .ok (.pop, 1) := by decide +kernel
theorem dyL_law_351 : decode cL_law 351 = .ok (.goto 894, 3) := by decide +kernel
theorem dyL_law_354 : decode cL_law 354 = .ok (.aload_n 1, 1) := by decide +kernel
theorem dyL_law_355 : decode cL_law 355 = .ok (.aload_n 0, 1) := by decide +kernel
theorem dyL_law_356 : decode cL_law 356 = .ok (.iload_n 3, 1) := by decide +kernel
theorem dyL_law_357 : decode cL_law 357 = .ok (.iconst 1, 1) := by decide +kernel
theorem dyL_law_358 : decode cL_law 358 = .ok (.iadd, 1) := by decide +kernel
theorem dyL_law_359 : decode cL_law 359 = .ok (.iaload, 1) := by decide +kernel
theorem dyL_law_360 : decode cL_law 360 = .ok (.invokevirtual 32, 3) := by decide +kernel
theorem dyL_law_363 : decode cL_law 363 = .ok (.pop, 1) := by decide +kernel
theorem dyL_law_364 : decode cL_law 364 = .ok (.aload_n 2, 1) := by decide +kernel
theorem dyL_law_365 : decode cL_law 365 = .ok (.aload_n 0, 1) := by decide +kernel
theorem dyL_law_366 : decode cL_law 366 = .ok (.iload_n 3, 1) := by decide +kernel
theorem dyL_law_367 : decode cL_law 367 = .ok (.iconst 1, 1) := by decide +kernel
theorem dyL_law_368 : decode cL_law 368 = .ok (.iadd, 1) := by decide +kernel
theorem dyL_law_369 : decode cL_law 369 = .ok (.iaload, 1) := by decide +kernel
theorem dyL_law_370 : decode cL_law 370 = .ok (.invokevirtual 35, 3) := by decide +kernel
theorem dyL_law_373 : decode cL_law 373 = .ok (.pop, 1) := by decide +kernel
theorem dyL_law_374 : decode cL_law 374 = .ok (.goto 871, 3) := by decide +kernel
theorem dyL_law_377 : decode cL_law 377 = .ok (.aload_n 1, 1) := by decide +kernel
theorem dyL_law_378 : decode cL_law 378 = .ok (.aload_n 0, 1) := by decide +kernel
theorem dyL_law_379 : decode cL_law 379 = .ok (.iload_n 3, 1) := by decide +kernel
theorem dyL_law_380 : decode cL_law 380 = .ok (.iconst 1, 1) := by decide +kernel
theorem dyL_law_381 : decode cL_law 381 = .ok (.iadd, 1) := by decide +kernel
theorem dyL_law_382 : decode cL_law 382 = .ok (.iaload, 1) := by decide +kernel
theorem dyL_law_383 : decode cL_law 383 = .ok (.invokevirtual 36, 3) := by decide +kernel
theorem dyL_law_386 : decode cL_law 386 = .ok (.pop, 1) := by decide +kernel
theorem dyL_law_387 : decode cL_law 387 = .ok (.aload_n 2, 1) := by decide +kernel
theorem dyL_law_388 : decode cL_law 388 = .ok (.aload_n 0, 1) := by decide +kernel
theorem dyL_law_389 : decode cL_law 389 = .ok (.iload_n 3, 1) := by decide +kernel
theorem dyL_law_390 : decode cL_law 390 = .ok (.iconst 1, 1) := by decide +kernel
theorem dyL_law_391 : decode cL_law 391 = .ok (.iadd, 1) := by decide +kernel
theorem dyL_law_392 : decode cL_law 392 = .ok (.iaload, 1) := by decide +kernel
theorem dyL_law_393 : decode cL_law 393 = .ok (.invokevirtual 39, 3) := by decide +kernel
theorem dyL_law_396 : decode cL_law 396 = .ok (.pop, 1) := by decide +kernel
theorem dyL_law_397 : decode cL_law 397 = .ok (.goto 848, 3) := by decide +kernel
theorem dyL_law_400 : decode cL_law 400 = .ok (.aload_n 1, 1) := by decide +kernel
theorem dyL_law_401 : decode cL_law 401 = .ok (.aload_n 0, 1) := by decide +kernel
theorem dyL_law_402 : decode cL_law 402 = .ok (.iload_n 3, 1) := by decide +kernel
theorem dyL_law_403 : decode cL_law 403 = .ok (.iconst 1, 1) := by decide +kernel
theorem dyL_law_404 : decode cL_law 404 = .ok (.iadd, 1) := by decide +kernel
theorem dyL_law_405 : decode cL_law 405 = .ok (.iaload, 1) := by decide +kernel
theorem dyL_law_406 : decode cL_law 406 = .ok (.invokevirtual 40, 3) := by decide +kernel
theorem dyL_law_409 : decode cL_law 409 = .ok (.pop, 1) := by decide +kernel
theorem dyL_law_410 : decode cL_law 410 = .ok (.aload_n 2, 1) := by decide +kernel
theorem dyL_law_411 : decode cL_law 411 = .ok (.aload_n 0, 1) := by decide +kernel
theorem dyL_law_412 : decode cL_law 412 = .ok (.iload_n 3, 1) := by decide +kernel
theorem dyL_law_413 : decode cL_law 413 = .ok (.iconst 1, 1) := by decide +kernel
theorem dyL_law_414 : decode cL_law 414 = .ok (.iadd, 1) := by decide +kernel
theorem dyL_law_415 : decode cL_law 415 = .ok (.iaload, 1) := by decide +kernel
theorem dyL_law_416 : decode cL_law 416 = .ok (.invokevirtual 43, 3) := by decide +kernel
theorem dyL_law_419 : decode cL_law 419 = .ok (.pop, 1) := by decide +kernel
theorem dyL_law_420 : decode cL_law 420 = .ok (.goto 825, 3) := by decide +kernel
theorem dyL_law_423 : decode cL_law 423 = .ok (.aload_n 1, 1) := by decide +kernel
theorem dyL_law_424 : decode cL_law 424 = .ok (.invokevirtual 44, 3) := by decide +kernel
theorem dyL_law_427 : decode cL_law 427 = .ok (.pop, 1) := by decide +kernel
theorem dyL_law_428 : decode cL_law 428 = .ok (.aload_n 2, 1) := by decide +kernel
theorem dyL_law_429 : decode cL_law 429 = .ok (.invokevirtual 48, 3) := by decide +kernel
theorem dyL_law_432 : decode cL_law 432 = .ok (.pop, 1) := by decide +kernel
theorem dyL_law_433 : decode cL_law 433 = .ok (.goto 812, 3) := by decide +kernel
theorem dyL_law_436 : decode cL_law 436 = .ok (.aload_n 1, 1) := by decide +kernel
theorem dyL_law_437 : decode cL_law 437 = .ok (.invokevirtual 49, 3) := by decide +kernel
theorem dyL_law_440 : decode cL_law 440 = .ok (.pop, 1) := by decide +kernel
theorem dyL_law_441 : decode cL_law 441 = .ok (.aload_n 2, 1) := by decide +kernel
theorem dyL_law_442 : decode cL_law 442 = .ok (.invokevirtual 52, 3) := by decide +kernel
theorem dyL_law_445 : decode cL_law 445 = .ok (.pop, 1) := by decide +kernel
theorem dyL_law_446 : decode cL_law 446 = .ok (.goto 799, 3) := by decide +kernel
theorem dyL_law_449 : decode cL_law 449 = .ok (.aload_n 1, 1) := by decide +kernel
theorem dyL_law_450 : decode cL_law 450 = .ok (.aload_n 0, 1) := by decide +kernel
theorem dyL_law_451 : decode cL_law 451 = .ok (.iload_n 3, 1) := by decide +kernel
theorem dyL_law_452 : decode cL_law 452 = .ok (.iconst 1, 1) := by decide +kernel
theorem dyL_law_453 : decode cL_law 453 = .ok (.iadd, 1) := by decide +kernel
