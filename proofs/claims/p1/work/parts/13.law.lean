theorem dL_law_0 : decode cL_law 0 = .ok (.new 8, 3) := by decide +kernel
theorem dL_law_3 : decode cL_law 3 = .ok (.dup, 1) := by decide +kernel
theorem dL_law_4 : decode cL_law 4 = .ok (.invokespecial 15, 3) := by decide +kernel
theorem dL_law_7 : decode cL_law 7 = .ok (.astore_n 1, 1) := by decide +kernel
theorem dL_law_8 : decode cL_law 8 = .ok (.new 16, 3) := by decide +kernel
theorem dL_law_11 : decode cL_law 11 = .ok (.dup, 1) := by decide +kernel
theorem dL_law_12 : decode cL_law 12 = .ok (.invokespecial 18, 3) := by decide +kernel
theorem dL_law_15 : decode cL_law 15 = .ok (.astore_n 2, 1) := by decide +kernel
theorem dL_law_16 : decode cL_law 16 = .ok (.iconst 1, 1) := by decide +kernel
theorem dL_law_17 : decode cL_law 17 = .ok (.newarray .long, 2) := by decide +kernel
theorem dL_law_19 : decode cL_law 19 = .ok (.astore_n 3, 1) := by decide +kernel
theorem dL_law_20 : decode cL_law 20 = .ok (.iconst 0, 1) := by decide +kernel
theorem dL_law_21 : decode cL_law 21 = .ok (.istore 4, 2) := by decide +kernel
theorem dL_law_23 : decode cL_law 23 = .ok (.iload 4, 2) := by decide +kernel
theorem dL_law_25 : decode cL_law 25 = .ok (.aload_n 0, 1) := by decide +kernel
theorem dL_law_26 : decode cL_law 26 = .ok (.arraylength, 1) := by decide +kernel
theorem dL_law_27 : decode cL_law 27 = .ok (.bipush 6, 2) := by decide +kernel
theorem dL_law_29 : decode cL_law 29 = .ok (.isub, 1) := by decide +kernel
theorem dL_law_30 : decode cL_law 30 = .ok (.if_icmp .gt 1610, 3) := by decide +kernel
theorem dL_law_33 : decode cL_law 33 = .ok (.aload_n 0, 1) := by decide +kernel
theorem dL_law_34 : decode cL_law 34 = .ok (.iload 4, 2) := by decide +kernel
theorem dL_law_36 : decode cL_law 36 = .ok (.iaload, 1) := by decide +kernel
theorem dL_law_37 : decode cL_law 37 = .ok (.bipush 63, 2) := by decide +kernel
theorem dL_law_39 : decode cL_law 39 = .ok (.iand, 1) := by decide +kernel
theorem dL_law_40 : decode cL_law 40 = .ok (.tableswitch 1594 0 40 #[180, 253, 278, 303, 328, 353, 421, 470, 483, 520, 533, 558, 583, 596, 621, 646, 671, 708, 745, 782, 843, 904, 930, 967, 993, 1018, 1079, 1140, 1165, 1190, 1259, 1284, 1297, 1334, 1407, 1456, 1493, 1518, 1543, 1556, 1569], 180) := by decide +kernel
theorem dL_law_220 : decode cL_law 220 = .ok (.aload_n 1, 1) := by decide +kernel
theorem dL_law_221 : decode cL_law 221 = .ok (.aload_n 0, 1) := by decide +kernel
theorem dL_law_222 : decode cL_law 222 = .ok (.iload 4, 2) := by decide +kernel
theorem dL_law_224 : decode cL_law 224 = .ok (.iconst 1, 1) := by decide +kernel
theorem dL_law_225 : decode cL_law 225 = .ok (.iadd, 1) := by decide +kernel
theorem dL_law_226 : decode cL_law 226 = .ok (.iaload, 1) := by decide +kernel
theorem dL_law_227 : decode cL_law 227 = .ok (.aload_n 0, 1) := by decide +kernel
theorem dL_law_228 : decode cL_law 228 = .ok (.iload 4, 2) := by decide +kernel
theorem dL_law_230 : decode cL_law 230 = .ok (.iconst 2, 1) := by decide +kernel
theorem dL_law_231 : decode cL_law 231 = .ok (.iadd, 1) := by decide +kernel
theorem dL_law_232 : decode cL_law 232 = .ok (.iaload, 1) := by decide +kernel
theorem dL_law_233 : decode cL_law 233 = .ok (.aload_n 0, 1) := by decide +kernel
theorem dL_law_234 : decode cL_law 234 = .ok (.iload 4, 2) := by decide +kernel
theorem dL_law_236 : decode cL_law 236 = .ok (.iconst 3, 1) := by decide +kernel
theorem dL_law_237 : decode cL_law 237 = .ok (.iadd, 1) := by decide +kernel
theorem dL_law_238 : decode cL_law 238 = .ok (.iaload, 1) := by decide +kernel
theorem dL_law_239 : decode cL_law 239 = .ok (.aload_n 0, 1) := by decide +kernel
theorem dL_law_240 : decode cL_law 240 = .ok (.iload 4, 2) := by decide +kernel
theorem dL_law_242 : decode cL_law 242 = .ok (.iconst 4, 1) := by decide +kernel
theorem dL_law_243 : decode cL_law 243 = .ok (.iadd, 1) := by decide +kernel
theorem dL_law_244 : decode cL_law 244 = .ok (.iaload, 1) := by decide +kernel
theorem dL_law_245 : decode cL_law 245 = .ok (.aload_n 0, 1) := by decide +kernel
theorem dL_law_246 : decode cL_law 246 = .ok (.iload 4, 2) := by decide +kernel
theorem dL_law_248 : decode cL_law 248 = .ok (.iconst 5, 1) := by decide +kernel
theorem dL_law_249 : decode cL_law 249 = .ok (.iadd, 1) := by decide +kernel
theorem dL_law_250 : decode cL_law 250 = .ok (.iaload, 1) := by decide +kernel
theorem dL_law_251 : decode cL_law 251 = .ok (.invokevirtual 19, 3) := by decide +kernel
theorem dL_law_254 : decode cL_law 254 = .ok (.aload_n 2, 1) := by decide +kernel
theorem dL_law_255 : decode cL_law 255 = .ok (.aload_n 0, 1) := by decide +kernel
theorem dL_law_256 : decode cL_law 256 = .ok (.iload 4, 2) := by decide +kernel
theorem dL_law_258 : decode cL_law 258 = .ok (.iconst 1, 1) := by decide +kernel
theorem dL_law_259 : decode cL_law 259 = .ok (.iadd, 1) := by decide +kernel
theorem dL_law_260 : decode cL_law 260 = .ok (.iaload, 1) := by decide +kernel
theorem dL_law_261 : decode cL_law 261 = .ok (.aload_n 0, 1) := by decide +kernel
theorem dL_law_262 : decode cL_law 262 = .ok (.iload 4, 2) := by decide +kernel
theorem dL_law_264 : decode cL_law 264 = .ok (.iconst 2, 1) := by decide +kernel
theorem dL_law_265 : decode cL_law 265 = .ok (.iadd, 1) := by decide +kernel
theorem dL_law_266 : decode cL_law 266 = .ok (.iaload, 1) := by decide +kernel
theorem dL_law_267 : decode cL_law 267 = .ok (.aload_n 0, 1) := by decide +kernel
theorem dL_law_268 : decode cL_law 268 = .ok (.iload 4, 2) := by decide +kernel
theorem dL_law_270 : decode cL_law 270 = .ok (.iconst 3, 1) := by decide +kernel
theorem dL_law_271 : decode cL_law 271 = .ok (.iadd, 1) := by decide +kernel
theorem dL_law_272 : decode cL_law 272 = .ok (.iaload, 1) := by decide +kernel
theorem dL_law_273 : decode cL_law 273 = .ok (.aload_n 0, 1) := by decide +kernel
theorem dL_law_274 : decode cL_law 274 = .ok (.iload 4, 2) := by decide +kernel
theorem dL_law_276 : decode cL_law 276 = .ok (.iconst 4, 1) := by decide +kernel
theorem dL_law_277 : decode cL_law 277 = .ok (.iadd, 1) := by decide +kernel
theorem dL_law_278 : decode cL_law 278 = .ok (.iaload, 1) := by decide +kernel
theorem dL_law_279 : decode cL_law 279 = .ok (.aload_n 0, 1) := by decide +kernel
theorem dL_law_280 : decode cL_law 280 = .ok (.iload 4, 2) := by decide +kernel
theorem dL_law_282 : decode cL_law 282 = .ok (.iconst 5, 1) := by decide +kernel
theorem dL_law_283 : decode cL_law 283 = .ok (.iadd, 1) := by decide +kernel
theorem dL_law_284 : decode cL_law 284 = .ok (.iaload, 1) := by decide +kernel
theorem dL_law_285 : decode cL_law 285 = .ok (.invokevirtual 23, 3) := by decide +kernel
theorem dL_law_288 : decode cL_law 288 = .ok (.if_icmp .eq 1346, 3) := by decide +kernel
theorem dL_law_291 : decode cL_law 291 = .ok (.iconst 0, 1) := by decide +kernel
theorem dL_law_292 : decode cL_law 292 = .ok (.ireturn, 1) := by decide +kernel
theorem dL_law_293 : decode cL_law 293 = .ok (.aload_n 1, 1) := by decide +kernel
theorem dL_law_294 : decode cL_law 294 = .ok (.aload_n 0, 1) := by decide +kernel
theorem dL_law_295 : decode cL_law 295 = .ok (.iload 4, 2) := by decide +kernel
theorem dL_law_297 : decode cL_law 297 = .ok (.iconst 1, 1) := by decide +kernel
theorem dL_law_298 : decode cL_law 298 = .ok (.iadd, 1) := by decide +kernel
theorem dL_law_299 : decode cL_law 299 = .ok (.iaload, 1) := by decide +kernel
theorem dL_law_300 : decode cL_law 300 = .ok (.invokevirtual 24, 3) := by decide +kernel
theorem dL_law_303 : decode cL_law 303 = .ok (.aload_n 2, 1) := by decide +kernel
theorem dL_law_304 : decode cL_law 304 = .ok (.aload_n 0, 1) := by decide +kernel
theorem dL_law_305 : decode cL_law 305 = .ok (.iload 4, 2) := by decide +kernel
theorem dL_law_307 : decode cL_law 307 = .ok (.iconst 1, 1) := by decide +kernel
theorem dL_law_308 : decode cL_law 308 = .ok (.iadd, 1) := by decide +kernel
theorem dL_law_309 : decode cL_law 309 = .ok (.iaload, 1) := by decide +kernel
theorem dL_law_310 : decode cL_law 310 = .ok (.invokevirtual 28, 3) := by decide +kernel
theorem dL_law_313 : decode cL_law 313 = .ok (.if_icmp .eq 1321, 3) := by decide +kernel
theorem dL_law_316 : decode cL_law 316 = .ok (.iconst 0, 1) := by decide +kernel
theorem dL_law_317 : decode cL_law 317 = .ok (.ireturn, 1) := by decide +kernel
theorem dL_law_318 : decode cL_law 318 = .ok (.aload_n 1, 1) := by decide +kernel
theorem dL_law_319 : decode cL_law 319 = .ok (.aload_n 0, 1) := by decide +kernel
theorem dL_law_320 : decode cL_law 320 = .ok (.iload 4, 2) := by decide +kernel
theorem dL_law_322 : decode cL_law 322 = .ok (.iconst 1, 1) := by decide +kernel
theorem dL_law_323 : decode cL_law 323 = .ok (.iadd, 1) := by decide +kernel
theorem dL_law_324 : decode cL_law 324 = .ok (.iaload, 1) := by decide +kernel
theorem dL_law_325 : decode cL_law 325 = .ok (.invokevirtual 29, 3) := by decide +kernel
theorem dL_law_328 : decode cL_law 328 = .ok (.aload_n 2, 1) := by decide +kernel
theorem dL_law_329 : decode cL_law 329 = .ok (.aload_n 0, 1) := by decide +kernel
theorem dL_law_330 : decode cL_law 330 = .ok (.iload 4, 2) := by decide +kernel
theorem dL_law_332 : decode cL_law 332 = .ok (.iconst 1, 1) := by decide +kernel
theorem dL_law_333 : decode cL_law 333 = .ok (.iadd, 1) := by decide +kernel
theorem dL_law_334 : decode cL_law 334 = .ok (.iaload, 1) := by decide +kernel
theorem dL_law_335 : decode cL_law 335 = .ok (.invokevirtual 33, 3) := by decide +kernel
theorem dL_law_338 : decode cL_law 338 = .ok (.if_icmp .eq 1296, 3) := by decide +kernel
theorem dL_law_341 : decode cL_law 341 = .ok (.iconst 0, 1) := by decide +kernel
theorem dL_law_342 : decode cL_law 342 = .ok (.ireturn, 1) := by decide +kernel
theorem dL_law_343 : decode cL_law 343 = .ok (.aload_n 1, 1) := by decide +kernel
theorem dL_law_344 : decode cL_law 344 = .ok (.aload_n 0, 1) := by decide +kernel
theorem dL_law_345 : decode cL_law 345 = .ok (.iload 4, 2) := by decide +kernel
theorem dL_law_347 : decode cL_law 347 = .ok (.iconst 1, 1) := by decide +kernel
theorem dL_law_348 : decode cL_law 348 = .ok (.iadd, 1) := by decide +kernel
theorem dL_law_349 : decode cL_law 349 = .ok (.iaload, 1) := by decide +kernel
theorem dL_law_350 : decode cL_law 350 = .ok (.invokevirtual 34, 3) := by decide +kernel
theorem dL_law_353 : decode cL_law 353 = .ok (.aload_n 2, 1) := by decide +kernel
theorem dL_law_354 : decode cL_law 354 = .ok (.aload_n 0, 1) := by decide +kernel
theorem dL_law_355 : decode cL_law 355 = .ok (.iload 4, 2) := by decide +kernel
theorem dL_law_357 : decode cL_law 357 = .ok (.iconst 1, 1) := by decide +kernel
theorem dL_law_358 : decode cL_law 358 = .ok (.iadd, 1) := by decide +kernel
theorem dL_law_359 : decode cL_law 359 = .ok (.iaload, 1) := by decide +kernel
theorem dL_law_360 : decode cL_law 360 = .ok (.invokevirtual 37, 3) := by decide +kernel
theorem dL_law_363 : decode cL_law 363 = .ok (.if_icmp .eq 1271, 3) := by decide +kernel
theorem dL_law_366 : decode cL_law 366 = .ok (.iconst 0, 1) := by decide +kernel
theorem dL_law_367 : decode cL_law 367 = .ok (.ireturn, 1) := by decide +kernel
theorem dL_law_368 : decode cL_law 368 = .ok (.aload_n 1, 1) := by decide +kernel
theorem dL_law_369 : decode cL_law 369 = .ok (.aload_n 0, 1) := by decide +kernel
theorem dL_law_370 : decode cL_law 370 = .ok (.iload 4, 2) := by decide +kernel
theorem dL_law_372 : decode cL_law 372 = .ok (.iconst 1, 1) := by decide +kernel
theorem dL_law_373 : decode cL_law 373 = .ok (.iadd, 1) := by decide +kernel
theorem dL_law_374 : decode cL_law 374 = .ok (.iaload, 1) := by decide +kernel
theorem dL_law_375 : decode cL_law 375 = .ok (.invokevirtual 38, 3) := by decide +kernel
theorem dL_law_378 : decode cL_law 378 = .ok (.aload_n 2, 1) := by decide +kernel
theorem dL_law_379 : decode cL_law 379 = .ok (.aload_n 0, 1) := by decide +kernel
theorem dL_law_380 : decode cL_law 380 = .ok (.iload 4, 2) := by decide +kernel
theorem dL_law_382 : decode cL_law 382 = .ok (.iconst 1, 1) := by decide +kernel
theorem dL_law_383 : decode cL_law 383 = .ok (.iadd, 1) := by decide +kernel
theorem dL_law_384 : decode cL_law 384 = .ok (.iaload, 1) := by decide +kernel
theorem dL_law_385 : decode cL_law 385 = .ok (.invokevirtual 41, 3) := by decide +kernel
theorem dL_law_388 : decode cL_law 388 = .ok (.if_icmp .eq 1246, 3) := by decide +kernel
theorem dL_law_391 : decode cL_law 391 = .ok (.iconst 0, 1) := by decide +kernel
theorem dL_law_392 : decode cL_law 392 = .ok (.ireturn, 1) := by decide +kernel
theorem dL_law_393 : decode cL_law 393 = .ok (.aload_n 1, 1) := by decide +kernel
theorem dL_law_394 : decode cL_law 394 = .ok (.aload_n 0, 1) := by decide +kernel
theorem dL_law_395 : decode cL_law 395 = .ok (.iload 4, 2) := by decide +kernel
theorem dL_law_397 : decode cL_law 397 = .ok (.iconst 1, 1) := by decide +kernel
theorem dL_law_398 : decode cL_law 398 = .ok (.iadd, 1) := by decide +kernel
theorem dL_law_399 : decode cL_law 399 = .ok (.iaload, 1) := by decide +kernel
theorem dL_law_400 : decode cL_law 400 = .ok (.aload_n 0, 1) := by decide +kernel
theorem dL_law_401 : decode cL_law 401 = .ok (.iload 4, 2) := by decide +kernel
theorem dL_law_403 : decode cL_law 403 = .ok (.iconst 2, 1) := by decide +kernel
theorem dL_law_404 : decode cL_law 404 = .ok (.iadd, 1) := by decide +kernel
theorem dL_law_405 : decode cL_law 405 = .ok (.iaload, 1) := by decide +kernel
theorem dL_law_406 : decode cL_law 406 = .ok (.aload_n 3, 1) := by decide +kernel
theorem dL_law_407 : decode cL_law 407 = .ok (.invokestatic 42, 3) := by decide +kernel
theorem dL_law_410 : decode cL_law 410 = .ok (.istore 5, 2) := by decide +kernel
theorem dL_law_412 : decode cL_law 412 = .ok (.aload_n 2, 1) := by decide +kernel
theorem dL_law_413 : decode cL_law 413 = .ok (.aload_n 0, 1) := by decide +kernel
theorem dL_law_414 : decode cL_law 414 = .ok (.iload 4, 2) := by decide +kernel
theorem dL_law_416 : decode cL_law 416 = .ok (.iconst 1, 1) := by decide +kernel
theorem dL_law_417 : decode cL_law 417 = .ok (.iadd, 1) := by decide +kernel
theorem dL_law_418 : decode cL_law 418 = .ok (.iaload, 1) := by decide +kernel
theorem dL_law_419 : decode cL_law 419 = .ok (.aload_n 0, 1) := by decide +kernel
theorem dL_law_420 : decode cL_law 420 = .ok (.iload 4, 2) := by decide +kernel
theorem dL_law_422 : decode cL_law 422 = .ok (.iconst 2, 1) := by decide +kernel
theorem dL_law_423 : decode cL_law 423 = .ok (.iadd, 1) := by decide +kernel
theorem dL_law_424 : decode cL_law 424 = .ok (.iaload, 1) := by decide +kernel
theorem dL_law_425 : decode cL_law 425 = .ok (.invokevirtual 47, 3) := by decide +kernel
theorem dL_law_428 : decode cL_law 428 = .ok (.istore 6, 2) := by decide +kernel
theorem dL_law_430 : decode cL_law 430 = .ok (.aload_n 2, 1) := by decide +kernel
theorem dL_law_431 : decode cL_law 431 = .ok (.invokevirtual 48, 3) := by decide +kernel
theorem dL_law_434 : decode cL_law 434 = .ok (.iload 5, 2) := by decide +kernel
theorem dL_law_436 : decode cL_law 436 = .ok (.if_icmp .eq 5, 3) := by decide +kernel
theorem dL_law_439 : decode cL_law 439 = .ok (.iconst 0, 1) := by decide +kernel
theorem dL_law_440 : decode cL_law 440 = .ok (.ireturn, 1) := by decide +kernel
theorem dL_law_441 : decode cL_law 441 = .ok (.iload 5, 2) := by decide +kernel
theorem dL_law_443 : decode cL_law 443 = .ok (.ifCond .ne 15, 3) := by decide +kernel
theorem dL_law_446 : decode cL_law 446 = .ok (.aload_n 3, 1) := by decide +kernel
theorem dL_law_447 : decode cL_law 447 = .ok (.iconst 0, 1) := by decide +kernel
theorem dL_law_448 : decode cL_law 448 = .ok (.laload, 1) := by decide +kernel
theorem dL_law_449 : decode cL_law 449 = .ok (.iload 6, 2) := by decide +kernel
theorem dL_law_451 : decode cL_law 451 = .ok (.i2l, 1) := by decide +kernel
theorem dL_law_452 : decode cL_law 452 = .ok (.lcmp, 1) := by decide +kernel
theorem dL_law_453 : decode cL_law 453 = .ok (.ifCond .eq 5, 3) := by decide +kernel
theorem dL_law_456 : decode cL_law 456 = .ok (.iconst 0, 1) := by decide +kernel
theorem dL_law_457 : decode cL_law 457 = .ok (.ireturn, 1) := by decide +kernel
theorem dL_law_458 : decode cL_law 458 = .ok (.goto 1176, 3) := by decide +kernel
theorem dL_law_461 : decode cL_law 461 = .ok (.aload_n 1, 1) := by decide +kernel
theorem dL_law_462 : decode cL_law 462 = .ok (.aload_n 0, 1) := by decide +kernel
theorem dL_law_463 : decode cL_law 463 = .ok (.iload 4, 2) := by decide +kernel
theorem dL_law_465 : decode cL_law 465 = .ok (.iconst 1, 1) := by decide +kernel
theorem dL_law_466 : decode cL_law 466 = .ok (.iadd, 1) := by decide +kernel
theorem dL_law_467 : decode cL_law 467 = .ok (.iaload, 1) := by decide +kernel
theorem dL_law_468 : decode cL_law 468 = .ok (.aload_n 0, 1) := by decide +kernel
theorem dL_law_469 : decode cL_law 469 = .ok (.iload 4, 2) := by decide +kernel
theorem dL_law_471 : decode cL_law 471 = .ok (.iconst 2, 1) := by decide +kernel
theorem dL_law_472 : decode cL_law 472 = .ok (.iadd, 1) := by decide +kernel
theorem dL_law_473 : decode cL_law 473 = .ok (.iaload, 1) := by decide +kernel
theorem dL_law_474 : decode cL_law 474 = .ok (.aload_n 0, 1) := by decide +kernel
theorem dL_law_475 : decode cL_law 475 = .ok (.iload 4, 2) := by decide +kernel
theorem dL_law_477 : decode cL_law 477 = .ok (.iconst 3, 1) := by decide +kernel
theorem dL_law_478 : decode cL_law 478 = .ok (.iadd, 1) := by decide +kernel
theorem dL_law_479 : decode cL_law 479 = .ok (.iaload, 1) := by decide +kernel
theorem dL_law_480 : decode cL_law 480 = .ok (.invokevirtual 52, 3) := by decide +kernel
theorem dL_law_483 : decode cL_law 483 = .ok (.aload_n 2, 1) := by decide +kernel
theorem dL_law_484 : decode cL_law 484 = .ok (.aload_n 0, 1) := by decide +kernel
theorem dL_law_485 : decode cL_law 485 = .ok (.iload 4, 2) := by decide +kernel
theorem dL_law_487 : decode cL_law 487 = .ok (.iconst 1, 1) := by decide +kernel
theorem dL_law_488 : decode cL_law 488 = .ok (.iadd, 1) := by decide +kernel
theorem dL_law_489 : decode cL_law 489 = .ok (.iaload, 1) := by decide +kernel
theorem dL_law_490 : decode cL_law 490 = .ok (.aload_n 0, 1) := by decide +kernel
theorem dL_law_491 : decode cL_law 491 = .ok (.iload 4, 2) := by decide +kernel
theorem dL_law_493 : decode cL_law 493 = .ok (.iconst 2, 1) := by decide +kernel
theorem dL_law_494 : decode cL_law 494 = .ok (.iadd, 1) := by decide +kernel
theorem dL_law_495 : decode cL_law 495 = .ok (.iaload, 1) := by decide +kernel
theorem dL_law_496 : decode cL_law 496 = .ok (.aload_n 0, 1) := by decide +kernel
theorem dL_law_497 : decode cL_law 497 = .ok (.iload 4, 2) := by decide +kernel
theorem dL_law_499 : decode cL_law 499 = .ok (.iconst 3, 1) := by decide +kernel
theorem dL_law_500 : decode cL_law 500 = .ok (.iadd, 1) := by decide +kernel
theorem dL_law_501 : decode cL_law 501 = .ok (.iaload, 1) := by decide +kernel
theorem dL_law_502 : decode cL_law 502 = .ok (.invokevirtual 56, 3) := by decide +kernel
theorem dL_law_505 : decode cL_law 505 = .ok (.if_icmp .eq 1129, 3) := by decide +kernel
theorem dL_law_508 : decode cL_law 508 = .ok (.iconst 0, 1) := by decide +kernel
theorem dL_law_509 : decode cL_law 509 = .ok (.ireturn, 1) := by decide +kernel
theorem dL_law_510 : decode cL_law 510 = .ok (.aload_n 1, 1) := by decide +kernel
theorem dL_law_511 : decode cL_law 511 = .ok (.invokevirtual 57, 3) := by decide +kernel
theorem dL_law_514 : decode cL_law 514 = .ok (.aload_n 2, 1) := by decide +kernel
theorem dL_law_515 : decode cL_law 515 = .ok (.invokevirtual 60, 3) := by decide +kernel
theorem dL_law_518 : decode cL_law 518 = .ok (.if_icmp .eq 1116, 3) := by decide +kernel
theorem dL_law_521 : decode cL_law 521 = .ok (.iconst 0, 1) := by decide +kernel
theorem dL_law_522 : decode cL_law 522 = .ok (.ireturn, 1) := by decide +kernel
theorem dL_law_523 : decode cL_law 523 = .ok (.aload_n 1, 1) := by decide +kernel
theorem dL_law_524 : decode cL_law 524 = .ok (.aload_n 0, 1) := by decide +kernel
theorem dL_law_525 : decode cL_law 525 = .ok (.iload 4, 2) := by decide +kernel
theorem dL_law_527 : decode cL_law 527 = .ok (.iconst 1, 1) := by decide +kernel
theorem dL_law_528 : decode cL_law 528 = .ok (.iadd, 1) := by decide +kernel
theorem dL_law_529 : decode cL_law 529 = .ok (.iaload, 1) := by decide +kernel
theorem dL_law_530 : decode cL_law 530 = .ok (.aload_n 0, 1) := by decide +kernel
theorem dL_law_531 : decode cL_law 531 = .ok (.iload 4, 2) := by decide +kernel
theorem dL_law_533 : decode cL_law 533 = .ok (.iconst 2, 1) := by decide +kernel
theorem dL_law_534 : decode cL_law 534 = .ok (.iadd, 1) := by decide +kernel
theorem dL_law_535 : decode cL_law 535 = .ok (.iaload, 1) := by decide +kernel
theorem dL_law_536 : decode cL_law 536 = .ok (.invokevirtual 61, 3) := by decide +kernel
theorem dL_law_539 : decode cL_law 539 = .ok (.aload_n 2, 1) := by decide +kernel
theorem dL_law_540 : decode cL_law 540 = .ok (.aload_n 0, 1) := by decide +kernel
theorem dL_law_541 : decode cL_law 541 = .ok (.iload 4, 2) := by decide +kernel
theorem dL_law_543 : decode cL_law 543 = .ok (.iconst 1, 1) := by decide +kernel
theorem dL_law_544 : decode cL_law 544 = .ok (.iadd, 1) := by decide +kernel
theorem dL_law_545 : decode cL_law 545 = .ok (.iaload, 1) := by decide +kernel
theorem dL_law_546 : decode cL_law 546 = .ok (.aload_n 0, 1) := by decide +kernel
theorem dL_law_547 : decode cL_law 547 = .ok (.iload 4, 2) := by decide +kernel
theorem dL_law_549 : decode cL_law 549 = .ok (.iconst 2, 1) := by decide +kernel
theorem dL_law_550 : decode cL_law 550 = .ok (.iadd, 1) := by decide +kernel
theorem dL_law_551 : decode cL_law 551 = .ok (.iaload, 1) := by decide +kernel
theorem dL_law_552 : decode cL_law 552 = .ok (.invokevirtual 64, 3) := by decide +kernel
theorem dL_law_555 : decode cL_law 555 = .ok (.if_icmp .eq 1079, 3) := by decide +kernel
theorem dL_law_558 : decode cL_law 558 = .ok (.iconst 0, 1) := by decide +kernel
theorem dL_law_559 : decode cL_law 559 = .ok (.ireturn, 1) := by decide +kernel
theorem dL_law_560 : decode cL_law 560 = .ok (.aload_n 1, 1) := by decide +kernel
theorem dL_law_561 : decode cL_law 561 = .ok (.invokevirtual 65, 3) := by decide +kernel
theorem dL_law_564 : decode cL_law 564 = .ok (.aload_n 2, 1) := by decide +kernel
theorem dL_law_565 : decode cL_law 565 = .ok (.invokevirtual 68, 3) := by decide +kernel
theorem dL_law_568 : decode cL_law 568 = .ok (.if_icmp .eq 1066, 3) := by decide +kernel
theorem dL_law_571 : decode cL_law 571 = .ok (.iconst 0, 1) := by decide +kernel
theorem dL_law_572 : decode cL_law 572 = .ok (.ireturn, 1) := by decide +kernel
theorem dL_law_573 : decode cL_law 573 = .ok (.aload_n 1, 1) := by decide +kernel
theorem dL_law_574 : decode cL_law 574 = .ok (.aload_n 0, 1) := by decide +kernel
theorem dL_law_575 : decode cL_law 575 = .ok (.iload 4, 2) := by decide +kernel
theorem dL_law_577 : decode cL_law 577 = .ok (.iconst 1, 1) := by decide +kernel
theorem dL_law_578 : decode cL_law 578 = .ok (.iadd, 1) := by decide +kernel
theorem dL_law_579 : decode cL_law 579 = .ok (.iaload, 1) := by decide +kernel
theorem dL_law_580 : decode cL_law 580 = .ok (.invokevirtual 69, 3) := by decide +kernel
theorem dL_law_583 : decode cL_law 583 = .ok (.aload_n 2, 1) := by decide +kernel
theorem dL_law_584 : decode cL_law 584 = .ok (.aload_n 0, 1) := by decide +kernel
theorem dL_law_585 : decode cL_law 585 = .ok (.iload 4, 2) := by decide +kernel
theorem dL_law_587 : decode cL_law 587 = .ok (.iconst 1, 1) := by decide +kernel
theorem dL_law_588 : decode cL_law 588 = .ok (.iadd, 1) := by decide +kernel
theorem dL_law_589 : decode cL_law 589 = .ok (.iaload, 1) := by decide +kernel
theorem dL_law_590 : decode cL_law 590 = .ok (.invokevirtual 72, 3) := by decide +kernel
theorem dL_law_593 : decode cL_law 593 = .ok (.if_icmp .eq 1041, 3) := by decide +kernel
theorem dL_law_596 : decode cL_law 596 = .ok (.iconst 0, 1) := by decide +kernel
theorem dL_law_597 : decode cL_law 597 = .ok (.ireturn, 1) := by decide +kernel
theorem dL_law_598 : decode cL_law 598 = .ok (.aload_n 1, 1) := by decide +kernel
theorem dL_law_599 : decode cL_law 599 = .ok (.aload_n 0, 1) := by decide +kernel
theorem dL_law_600 : decode cL_law 600 = .ok (.iload 4, 2) := by decide +kernel
theorem dL_law_602 : decode cL_law 602 = .ok (.iconst 1, 1) := by decide +kernel
theorem dL_law_603 : decode cL_law 603 = .ok (.iadd, 1) := by decide +kernel
theorem dL_law_604 : decode cL_law 604 = .ok (.iaload, 1) := by decide +kernel
theorem dL_law_605 : decode cL_law 605 = .ok (.invokevirtual 73, 3) := by decide +kernel
theorem dL_law_608 : decode cL_law 608 = .ok (.aload_n 2, 1) := by decide +kernel
theorem dL_law_609 : decode cL_law 609 = .ok (.aload_n 0, 1) := by decide +kernel
theorem dL_law_610 : decode cL_law 610 = .ok (.iload 4, 2) := by decide +kernel
theorem dL_law_612 : decode cL_law 612 = .ok (.iconst 1, 1) := by decide +kernel
theorem dL_law_613 : decode cL_law 613 = .ok (.iadd, 1) := by decide +kernel
theorem dL_law_614 : decode cL_law 614 = .ok (.iaload, 1) := by decide +kernel
theorem dL_law_615 : decode cL_law 615 = .ok (.invokevirtual 76, 3) := by decide +kernel
theorem dL_law_618 : decode cL_law 618 = .ok (.if_icmp .eq 1016, 3) := by decide +kernel
theorem dL_law_621 : decode cL_law 621 = .ok (.iconst 0, 1) := by decide +kernel
theorem dL_law_622 : decode cL_law 622 = .ok (.ireturn, 1) := by decide +kernel
theorem dL_law_623 : decode cL_law 623 = .ok (.aload_n 1, 1) := by decide +kernel
theorem dL_law_624 : decode cL_law 624 = .ok (.invokevirtual 77, 3) := by decide +kernel
theorem dL_law_627 : decode cL_law 627 = .ok (.aload_n 2, 1) := by decide +kernel
theorem dL_law_628 : decode cL_law 628 = .ok (.invokevirtual 80, 3) := by decide +kernel
theorem dL_law_631 : decode cL_law 631 = .ok (.if_icmp .eq 1003, 3) := by decide +kernel
theorem dL_law_634 : decode cL_law 634 = .ok (.iconst 0, 1) := by decide +kernel
theorem dL_law_635 : decode cL_law 635 = .ok (.ireturn, 1) := by decide +kernel
theorem dL_law_636 : decode cL_law 636 = .ok (.aload_n 1, 1) := by decide +kernel
theorem dL_law_637 : decode cL_law 637 = .ok (.aload_n 0, 1) := by decide +kernel
theorem dL_law_638 : decode cL_law 638 = .ok (.iload 4, 2) := by decide +kernel
theorem dL_law_640 : decode cL_law 640 = .ok (.iconst 1, 1) := by decide +kernel
theorem dL_law_641 : decode cL_law 641 = .ok (.iadd, 1) := by decide +kernel
theorem dL_law_642 : decode cL_law 642 = .ok (.iaload, 1) := by decide +kernel
theorem dL_law_643 : decode cL_law 643 = .ok (.invokevirtual 81, 3) := by decide +kernel
theorem dL_law_646 : decode cL_law 646 = .ok (.aload_n 2, 1) := by decide +kernel
theorem dL_law_647 : decode cL_law 647 = .ok (.aload_n 0, 1) := by decide +kernel
theorem dL_law_648 : decode cL_law 648 = .ok (.iload 4, 2) := by decide +kernel
theorem dL_law_650 : decode cL_law 650 = .ok (.iconst 1, 1) := by decide +kernel
theorem dL_law_651 : decode cL_law 651 = .ok (.iadd, 1) := by decide +kernel
theorem dL_law_652 : decode cL_law 652 = .ok (.iaload, 1) := by decide +kernel
theorem dL_law_653 : decode cL_law 653 = .ok (.invokevirtual 84, 3) := by decide +kernel
theorem dL_law_656 : decode cL_law 656 = .ok (.if_icmp .eq 978, 3) := by decide +kernel
theorem dL_law_659 : decode cL_law 659 = .ok (.iconst 0, 1) := by decide +kernel
theorem dL_law_660 : decode cL_law 660 = .ok (.ireturn, 1) := by decide +kernel
theorem dL_law_661 : decode cL_law 661 = .ok (.aload_n 1, 1) := by decide +kernel
theorem dL_law_662 : decode cL_law 662 = .ok (.aload_n 0, 1) := by decide +kernel
theorem dL_law_663 : decode cL_law 663 = .ok (.iload 4, 2) := by decide +kernel
theorem dL_law_665 : decode cL_law 665 = .ok (.iconst 1, 1) := by decide +kernel
theorem dL_law_666 : decode cL_law 666 = .ok (.iadd, 1) := by decide +kernel
theorem dL_law_667 : decode cL_law 667 = .ok (.iaload, 1) := by decide +kernel
theorem dL_law_668 : decode cL_law 668 = .ok (.invokevirtual 85, 3) := by decide +kernel
theorem dL_law_671 : decode cL_law 671 = .ok (.aload_n 2, 1) := by decide +kernel
theorem dL_law_672 : decode cL_law 672 = .ok (.aload_n 0, 1) := by decide +kernel
theorem dL_law_673 : decode cL_law 673 = .ok (.iload 4, 2) := by decide +kernel
theorem dL_law_675 : decode cL_law 675 = .ok (.iconst 1, 1) := by decide +kernel
theorem dL_law_676 : decode cL_law 676 = .ok (.iadd, 1) := by decide +kernel
theorem dL_law_677 : decode cL_law 677 = .ok (.iaload, 1) := by decide +kernel
theorem dL_law_678 : decode cL_law 678 = .ok (.invokevirtual 88, 3) := by decide +kernel
theorem dL_law_681 : decode cL_law 681 = .ok (.if_icmp .eq 953, 3) := by decide +kernel
theorem dL_law_684 : decode cL_law 684 = .ok (.iconst 0, 1) := by decide +kernel
theorem dL_law_685 : decode cL_law 685 = .ok (.ireturn, 1) := by decide +kernel
theorem dL_law_686 : decode cL_law 686 = .ok (.aload_n 1, 1) := by decide +kernel
theorem dL_law_687 : decode cL_law 687 = .ok (.aload_n 0, 1) := by decide +kernel
theorem dL_law_688 : decode cL_law 688 = .ok (.iload 4, 2) := by decide +kernel
theorem dL_law_690 : decode cL_law 690 = .ok (.iconst 1, 1) := by decide +kernel
theorem dL_law_691 : decode cL_law 691 = .ok (.iadd, 1) := by decide +kernel
theorem dL_law_692 : decode cL_law 692 = .ok (.iaload, 1) := by decide +kernel
theorem dL_law_693 : decode cL_law 693 = .ok (.invokevirtual 89, 3) := by decide +kernel
theorem dL_law_696 : decode cL_law 696 = .ok (.aload_n 2, 1) := by decide +kernel
theorem dL_law_697 : decode cL_law 697 = .ok (.aload_n 0, 1) := by decide +kernel
theorem dL_law_698 : decode cL_law 698 = .ok (.iload 4, 2) := by decide +kernel
theorem dL_law_700 : decode cL_law 700 = .ok (.iconst 1, 1) := by decide +kernel
theorem dL_law_701 : decode cL_law 701 = .ok (.iadd, 1) := by decide +kernel
theorem dL_law_702 : decode cL_law 702 = .ok (.iaload, 1) := by decide +kernel
theorem dL_law_703 : decode cL_law 703 = .ok (.invokevirtual 92, 3) := by decide +kernel
theorem dL_law_706 : decode cL_law 706 = .ok (.if_icmp .eq 928, 3) := by decide +kernel
theorem dL_law_709 : decode cL_law 709 = .ok (.iconst 0, 1) := by decide +kernel
theorem dL_law_710 : decode cL_law 710 = .ok (.ireturn, 1) := by decide +kernel
theorem dL_law_711 : decode cL_law 711 = .ok (.aload_n 1, 1) := by decide +kernel
theorem dL_law_712 : decode cL_law 712 = .ok (.aload_n 0, 1) := by decide +kernel
theorem dL_law_713 : decode cL_law 713 = .ok (.iload 4, 2) := by decide +kernel
theorem dL_law_715 : decode cL_law 715 = .ok (.iconst 1, 1) := by decide +kernel
theorem dL_law_716 : decode cL_law 716 = .ok (.iadd, 1) := by decide +kernel
theorem dL_law_717 : decode cL_law 717 = .ok (.iaload, 1) := by decide +kernel
theorem dL_law_718 : decode cL_law 718 = .ok (.aload_n 0, 1) := by decide +kernel
theorem dL_law_719 : decode cL_law 719 = .ok (.iload 4, 2) := by decide +kernel
theorem dL_law_721 : decode cL_law 721 = .ok (.iconst 2, 1) := by decide +kernel
theorem dL_law_722 : decode cL_law 722 = .ok (.iadd, 1) := by decide +kernel
theorem dL_law_723 : decode cL_law 723 = .ok (.iaload, 1) := by decide +kernel
theorem dL_law_724 : decode cL_law 724 = .ok (.invokevirtual 93, 3) := by decide +kernel
theorem dL_law_727 : decode cL_law 727 = .ok (.aload_n 2, 1) := by decide +kernel
theorem dL_law_728 : decode cL_law 728 = .ok (.aload_n 0, 1) := by decide +kernel
theorem dL_law_729 : decode cL_law 729 = .ok (.iload 4, 2) := by decide +kernel
theorem dL_law_731 : decode cL_law 731 = .ok (.iconst 1, 1) := by decide +kernel
theorem dL_law_732 : decode cL_law 732 = .ok (.iadd, 1) := by decide +kernel
theorem dL_law_733 : decode cL_law 733 = .ok (.iaload, 1) := by decide +kernel
theorem dL_law_734 : decode cL_law 734 = .ok (.aload_n 0, 1) := by decide +kernel
theorem dL_law_735 : decode cL_law 735 = .ok (.iload 4, 2) := by decide +kernel
theorem dL_law_737 : decode cL_law 737 = .ok (.iconst 2, 1) := by decide +kernel
theorem dL_law_738 : decode cL_law 738 = .ok (.iadd, 1) := by decide +kernel
theorem dL_law_739 : decode cL_law 739 = .ok (.iaload, 1) := by decide +kernel
theorem dL_law_740 : decode cL_law 740 = .ok (.invokevirtual 96, 3) := by decide +kernel
theorem dL_law_743 : decode cL_law 743 = .ok (.if_icmp .eq 891, 3) := by decide +kernel
theorem dL_law_746 : decode cL_law 746 = .ok (.iconst 0, 1) := by decide +kernel
theorem dL_law_747 : decode cL_law 747 = .ok (.ireturn, 1) := by decide +kernel
theorem dL_law_748 : decode cL_law 748 = .ok (.aload_n 1, 1) := by decide +kernel
theorem dL_law_749 : decode cL_law 749 = .ok (.aload_n 0, 1) := by decide +kernel
theorem dL_law_750 : decode cL_law 750 = .ok (.iload 4, 2) := by decide +kernel
theorem dL_law_752 : decode cL_law 752 = .ok (.iconst 1, 1) := by decide +kernel
theorem dL_law_753 : decode cL_law 753 = .ok (.iadd, 1) := by decide +kernel
theorem dL_law_754 : decode cL_law 754 = .ok (.iaload, 1) := by decide +kernel
theorem dL_law_755 : decode cL_law 755 = .ok (.aload_n 0, 1) := by decide +kernel
theorem dL_law_756 : decode cL_law 756 = .ok (.iload 4, 2) := by decide +kernel
theorem dL_law_758 : decode cL_law 758 = .ok (.iconst 2, 1) := by decide +kernel
theorem dL_law_759 : decode cL_law 759 = .ok (.iadd, 1) := by decide +kernel
theorem dL_law_760 : decode cL_law 760 = .ok (.iaload, 1) := by decide +kernel
theorem dL_law_761 : decode cL_law 761 = .ok (.invokevirtual 97, 3) := by decide +kernel
theorem dL_law_764 : decode cL_law 764 = .ok (.aload_n 2, 1) := by decide +kernel
theorem dL_law_765 : decode cL_law 765 = .ok (.aload_n 0, 1) := by decide +kernel
theorem dL_law_766 : decode cL_law 766 = .ok (.iload 4, 2) := by decide +kernel
theorem dL_law_768 : decode cL_law 768 = .ok (.iconst 1, 1) := by decide +kernel
theorem dL_law_769 : decode cL_law 769 = .ok (.iadd, 1) := by decide +kernel
theorem dL_law_770 : decode cL_law 770 = .ok (.iaload, 1) := by decide +kernel
theorem dL_law_771 : decode cL_law 771 = .ok (.aload_n 0, 1) := by decide +kernel
theorem dL_law_772 : decode cL_law 772 = .ok (.iload 4, 2) := by decide +kernel
theorem dL_law_774 : decode cL_law 774 = .ok (.iconst 2, 1) := by decide +kernel
theorem dL_law_775 : decode cL_law 775 = .ok (.iadd, 1) := by decide +kernel
theorem dL_law_776 : decode cL_law 776 = .ok (.iaload, 1) := by decide +kernel
theorem dL_law_777 : decode cL_law 777 = .ok (.invokevirtual 100, 3) := by decide +kernel
theorem dL_law_780 : decode cL_law 780 = .ok (.if_icmp .eq 854, 3) := by decide +kernel
theorem dL_law_783 : decode cL_law 783 = .ok (.iconst 0, 1) := by decide +kernel
theorem dL_law_784 : decode cL_law 784 = .ok (.ireturn, 1) := by decide +kernel
theorem dL_law_785 : decode cL_law 785 = .ok (.aload_n 1, 1) := by decide +kernel
theorem dL_law_786 : decode cL_law 786 = .ok (.aload_n 0, 1) := by decide +kernel
theorem dL_law_787 : decode cL_law 787 = .ok (.iload 4, 2) := by decide +kernel
theorem dL_law_789 : decode cL_law 789 = .ok (.iconst 1, 1) := by decide +kernel
theorem dL_law_790 : decode cL_law 790 = .ok (.iadd, 1) := by decide +kernel
theorem dL_law_791 : decode cL_law 791 = .ok (.iaload, 1) := by decide +kernel
theorem dL_law_792 : decode cL_law 792 = .ok (.aload_n 0, 1) := by decide +kernel
theorem dL_law_793 : decode cL_law 793 = .ok (.iload 4, 2) := by decide +kernel
theorem dL_law_795 : decode cL_law 795 = .ok (.iconst 2, 1) := by decide +kernel
theorem dL_law_796 : decode cL_law 796 = .ok (.iadd, 1) := by decide +kernel
theorem dL_law_797 : decode cL_law 797 = .ok (.iaload, 1) := by decide +kernel
theorem dL_law_798 : decode cL_law 798 = .ok (.invokevirtual 101, 3) := by decide +kernel
theorem dL_law_801 : decode cL_law 801 = .ok (.aload_n 2, 1) := by decide +kernel
theorem dL_law_802 : decode cL_law 802 = .ok (.aload_n 0, 1) := by decide +kernel
theorem dL_law_803 : decode cL_law 803 = .ok (.iload 4, 2) := by decide +kernel
theorem dL_law_805 : decode cL_law 805 = .ok (.iconst 1, 1) := by decide +kernel
theorem dL_law_806 : decode cL_law 806 = .ok (.iadd, 1) := by decide +kernel
theorem dL_law_807 : decode cL_law 807 = .ok (.iaload, 1) := by decide +kernel
theorem dL_law_808 : decode cL_law 808 = .ok (.aload_n 0, 1) := by decide +kernel
theorem dL_law_809 : decode cL_law 809 = .ok (.iload 4, 2) := by decide +kernel
theorem dL_law_811 : decode cL_law 811 = .ok (.iconst 2, 1) := by decide +kernel
theorem dL_law_812 : decode cL_law 812 = .ok (.iadd, 1) := by decide +kernel
theorem dL_law_813 : decode cL_law 813 = .ok (.iaload, 1) := by decide +kernel
theorem dL_law_814 : decode cL_law 814 = .ok (.invokevirtual 105, 3) := by decide +kernel
theorem dL_law_817 : decode cL_law 817 = .ok (.if_icmp .eq 817, 3) := by decide +kernel
theorem dL_law_820 : decode cL_law 820 = .ok (.iconst 0, 1) := by decide +kernel
theorem dL_law_821 : decode cL_law 821 = .ok (.ireturn, 1) := by decide +kernel
theorem dL_law_822 : decode cL_law 822 = .ok (.aload_n 1, 1) := by decide +kernel
theorem dL_law_823 : decode cL_law 823 = .ok (.aload_n 0, 1) := by decide +kernel
theorem dL_law_824 : decode cL_law 824 = .ok (.iload 4, 2) := by decide +kernel
theorem dL_law_826 : decode cL_law 826 = .ok (.iconst 1, 1) := by decide +kernel
theorem dL_law_827 : decode cL_law 827 = .ok (.iadd, 1) := by decide +kernel
theorem dL_law_828 : decode cL_law 828 = .ok (.iaload, 1) := by decide +kernel
theorem dL_law_829 : decode cL_law 829 = .ok (.aload_n 0, 1) := by decide +kernel
theorem dL_law_830 : decode cL_law 830 = .ok (.iload 4, 2) := by decide +kernel
theorem dL_law_832 : decode cL_law 832 = .ok (.iconst 2, 1) := by decide +kernel
theorem dL_law_833 : decode cL_law 833 = .ok (.iadd, 1) := by decide +kernel
theorem dL_law_834 : decode cL_law 834 = .ok (.iaload, 1) := by decide +kernel
theorem dL_law_835 : decode cL_law 835 = .ok (.aload_n 0, 1) := by decide +kernel
theorem dL_law_836 : decode cL_law 836 = .ok (.iload 4, 2) := by decide +kernel
theorem dL_law_838 : decode cL_law 838 = .ok (.iconst 3, 1) := by decide +kernel
theorem dL_law_839 : decode cL_law 839 = .ok (.iadd, 1) := by decide +kernel
theorem dL_law_840 : decode cL_law 840 = .ok (.iaload, 1) := by decide +kernel
theorem dL_law_841 : decode cL_law 841 = .ok (.aload_n 0, 1) := by decide +kernel
theorem dL_law_842 : decode cL_law 842 = .ok (.iload 4, 2) := by decide +kernel
theorem dL_law_844 : decode cL_law 844 = .ok (.iconst 4, 1) := by decide +kernel
theorem dL_law_845 : decode cL_law 845 = .ok (.iadd, 1) := by decide +kernel
theorem dL_law_846 : decode cL_law 846 = .ok (.iaload, 1) := by decide +kernel
theorem dL_law_847 : decode cL_law 847 = .ok (.invokevirtual 106, 3) := by decide +kernel
theorem dL_law_850 : decode cL_law 850 = .ok (.aload_n 2, 1) := by decide +kernel
theorem dL_law_851 : decode cL_law 851 = .ok (.aload_n 0, 1) := by decide +kernel
theorem dL_law_852 : decode cL_law 852 = .ok (.iload 4, 2) := by decide +kernel
theorem dL_law_854 : decode cL_law 854 = .ok (.iconst 1, 1) := by decide +kernel
theorem dL_law_855 : decode cL_law 855 = .ok (.iadd, 1) := by decide +kernel
theorem dL_law_856 : decode cL_law 856 = .ok (.iaload, 1) := by decide +kernel
theorem dL_law_857 : decode cL_law 857 = .ok (.aload_n 0, 1) := by decide +kernel
theorem dL_law_858 : decode cL_law 858 = .ok (.iload 4, 2) := by decide +kernel
theorem dL_law_860 : decode cL_law 860 = .ok (.iconst 2, 1) := by decide +kernel
theorem dL_law_861 : decode cL_law 861 = .ok (.iadd, 1) := by decide +kernel
theorem dL_law_862 : decode cL_law 862 = .ok (.iaload, 1) := by decide +kernel
theorem dL_law_863 : decode cL_law 863 = .ok (.aload_n 0, 1) := by decide +kernel
theorem dL_law_864 : decode cL_law 864 = .ok (.iload 4, 2) := by decide +kernel
theorem dL_law_866 : decode cL_law 866 = .ok (.iconst 3, 1) := by decide +kernel
theorem dL_law_867 : decode cL_law 867 = .ok (.iadd, 1) := by decide +kernel
theorem dL_law_868 : decode cL_law 868 = .ok (.iaload, 1) := by decide +kernel
theorem dL_law_869 : decode cL_law 869 = .ok (.aload_n 0, 1) := by decide +kernel
theorem dL_law_870 : decode cL_law 870 = .ok (.iload 4, 2) := by decide +kernel
theorem dL_law_872 : decode cL_law 872 = .ok (.iconst 4, 1) := by decide +kernel
theorem dL_law_873 : decode cL_law 873 = .ok (.iadd, 1) := by decide +kernel
theorem dL_law_874 : decode cL_law 874 = .ok (.iaload, 1) := by decide +kernel
theorem dL_law_875 : decode cL_law 875 = .ok (.invokevirtual 110, 3) := by decide +kernel
theorem dL_law_878 : decode cL_law 878 = .ok (.if_icmp .eq 756, 3) := by decide +kernel
theorem dL_law_881 : decode cL_law 881 = .ok (.iconst 0, 1) := by decide +kernel
theorem dL_law_882 : decode cL_law 882 = .ok (.ireturn, 1) := by decide +kernel
theorem dL_law_883 : decode cL_law 883 = .ok (.aload_n 1, 1) := by decide +kernel
theorem dL_law_884 : decode cL_law 884 = .ok (.aload_n 0, 1) := by decide +kernel
theorem dL_law_885 : decode cL_law 885 = .ok (.iload 4, 2) := by decide +kernel
theorem dL_law_887 : decode cL_law 887 = .ok (.iconst 1, 1) := by decide +kernel
theorem dL_law_888 : decode cL_law 888 = .ok (.iadd, 1) := by decide +kernel
theorem dL_law_889 : decode cL_law 889 = .ok (.iaload, 1) := by decide +kernel
theorem dL_law_890 : decode cL_law 890 = .ok (.aload_n 0, 1) := by decide +kernel
theorem dL_law_891 : decode cL_law 891 = .ok (.iload 4, 2) := by decide +kernel
theorem dL_law_893 : decode cL_law 893 = .ok (.iconst 2, 1) := by decide +kernel
theorem dL_law_894 : decode cL_law 894 = .ok (.iadd, 1) := by decide +kernel
theorem dL_law_895 : decode cL_law 895 = .ok (.iaload, 1) := by decide +kernel
theorem dL_law_896 : decode cL_law 896 = .ok (.aload_n 0, 1) := by decide +kernel
theorem dL_law_897 : decode cL_law 897 = .ok (.iload 4, 2) := by decide +kernel
theorem dL_law_899 : decode cL_law 899 = .ok (.iconst 3, 1) := by decide +kernel
theorem dL_law_900 : decode cL_law 900 = .ok (.iadd, 1) := by decide +kernel
theorem dL_law_901 : decode cL_law 901 = .ok (.iaload, 1) := by decide +kernel
theorem dL_law_902 : decode cL_law 902 = .ok (.aload_n 0, 1) := by decide +kernel
theorem dL_law_903 : decode cL_law 903 = .ok (.iload 4, 2) := by decide +kernel
theorem dL_law_905 : decode cL_law 905 = .ok (.iconst 4, 1) := by decide +kernel
theorem dL_law_906 : decode cL_law 906 = .ok (.iadd, 1) := by decide +kernel
theorem dL_law_907 : decode cL_law 907 = .ok (.iaload, 1) := by decide +kernel
theorem dL_law_908 : decode cL_law 908 = .ok (.invokevirtual 111, 3) := by decide +kernel
theorem dL_law_911 : decode cL_law 911 = .ok (.aload_n 2, 1) := by decide +kernel
theorem dL_law_912 : decode cL_law 912 = .ok (.aload_n 0, 1) := by decide +kernel
theorem dL_law_913 : decode cL_law 913 = .ok (.iload 4, 2) := by decide +kernel
theorem dL_law_915 : decode cL_law 915 = .ok (.iconst 1, 1) := by decide +kernel
theorem dL_law_916 : decode cL_law 916 = .ok (.iadd, 1) := by decide +kernel
theorem dL_law_917 : decode cL_law 917 = .ok (.iaload, 1) := by decide +kernel
theorem dL_law_918 : decode cL_law 918 = .ok (.aload_n 0, 1) := by decide +kernel
theorem dL_law_919 : decode cL_law 919 = .ok (.iload 4, 2) := by decide +kernel
theorem dL_law_921 : decode cL_law 921 = .ok (.iconst 2, 1) := by decide +kernel
theorem dL_law_922 : decode cL_law 922 = .ok (.iadd, 1) := by decide +kernel
theorem dL_law_923 : decode cL_law 923 = .ok (.iaload, 1) := by decide +kernel
theorem dL_law_924 : decode cL_law 924 = .ok (.aload_n 0, 1) := by decide +kernel
theorem dL_law_925 : decode cL_law 925 = .ok (.iload 4, 2) := by decide +kernel
theorem dL_law_927 : decode cL_law 927 = .ok (.iconst 3, 1) := by decide +kernel
theorem dL_law_928 : decode cL_law 928 = .ok (.iadd, 1) := by decide +kernel
theorem dL_law_929 : decode cL_law 929 = .ok (.iaload, 1) := by decide +kernel
theorem dL_law_930 : decode cL_law 930 = .ok (.aload_n 0, 1) := by decide +kernel
theorem dL_law_931 : decode cL_law 931 = .ok (.iload 4, 2) := by decide +kernel
theorem dL_law_933 : decode cL_law 933 = .ok (.iconst 4, 1) := by decide +kernel
theorem dL_law_934 : decode cL_law 934 = .ok (.iadd, 1) := by decide +kernel
theorem dL_law_935 : decode cL_law 935 = .ok (.iaload, 1) := by decide +kernel
theorem dL_law_936 : decode cL_law 936 = .ok (.invokevirtual 115, 3) := by decide +kernel
theorem dL_law_939 : decode cL_law 939 = .ok (.if_icmp .eq 695, 3) := by decide +kernel
theorem dL_law_942 : decode cL_law 942 = .ok (.iconst 0, 1) := by decide +kernel
theorem dL_law_943 : decode cL_law 943 = .ok (.ireturn, 1) := by decide +kernel
theorem dL_law_944 : decode cL_law 944 = .ok (.aload_n 1, 1) := by decide +kernel
theorem dL_law_945 : decode cL_law 945 = .ok (.aload_n 0, 1) := by decide +kernel
theorem dL_law_946 : decode cL_law 946 = .ok (.iload 4, 2) := by decide +kernel
theorem dL_law_948 : decode cL_law 948 = .ok (.iconst 1, 1) := by decide +kernel
theorem dL_law_949 : decode cL_law 949 = .ok (.iadd, 1) := by decide +kernel
theorem dL_law_950 : decode cL_law 950 = .ok (.iaload, 1) := by decide +kernel
theorem dL_law_951 : decode cL_law 951 = .ok (.invokevirtual 116, 3) := by decide +kernel
theorem dL_law_954 : decode cL_law 954 = .ok (.aload_n 2, 1) := by decide +kernel
theorem dL_law_955 : decode cL_law 955 = .ok (.aload_n 0, 1) := by decide +kernel
theorem dL_law_956 : decode cL_law 956 = .ok (.iload 4, 2) := by decide +kernel
theorem dL_law_958 : decode cL_law 958 = .ok (.iconst 1, 1) := by decide +kernel
theorem dL_law_959 : decode cL_law 959 = .ok (.iadd, 1) := by decide +kernel
theorem dL_law_960 : decode cL_law 960 = .ok (.iaload, 1) := by decide +kernel
theorem dL_law_961 : decode cL_law 961 = .ok (.invokevirtual 120, 3) := by decide +kernel
theorem dL_law_964 : decode cL_law 964 = .ok (.lcmp, 1) := by decide +kernel
theorem dL_law_965 : decode cL_law 965 = .ok (.ifCond .eq 669, 3) := by decide +kernel
theorem dL_law_968 : decode cL_law 968 = .ok (.iconst 0, 1) := by decide +kernel
theorem dL_law_969 : decode cL_law 969 = .ok (.ireturn, 1) := by decide +kernel
theorem dL_law_970 : decode cL_law 970 = .ok (.aload_n 1, 1) := by decide +kernel
theorem dL_law_971 : decode cL_law 971 = .ok (.aload_n 0, 1) := by decide +kernel
theorem dL_law_972 : decode cL_law 972 = .ok (.iload 4, 2) := by decide +kernel
theorem dL_law_974 : decode cL_law 974 = .ok (.iconst 1, 1) := by decide +kernel
theorem dL_law_975 : decode cL_law 975 = .ok (.iadd, 1) := by decide +kernel
theorem dL_law_976 : decode cL_law 976 = .ok (.iaload, 1) := by decide +kernel
theorem dL_law_977 : decode cL_law 977 = .ok (.aload_n 0, 1) := by decide +kernel
theorem dL_law_978 : decode cL_law 978 = .ok (.iload 4, 2) := by decide +kernel
theorem dL_law_980 : decode cL_law 980 = .ok (.iconst 2, 1) := by decide +kernel
theorem dL_law_981 : decode cL_law 981 = .ok (.iadd, 1) := by decide +kernel
theorem dL_law_982 : decode cL_law 982 = .ok (.iaload, 1) := by decide +kernel
theorem dL_law_983 : decode cL_law 983 = .ok (.invokevirtual 121, 3) := by decide +kernel
theorem dL_law_986 : decode cL_law 986 = .ok (.aload_n 2, 1) := by decide +kernel
theorem dL_law_987 : decode cL_law 987 = .ok (.aload_n 0, 1) := by decide +kernel
theorem dL_law_988 : decode cL_law 988 = .ok (.iload 4, 2) := by decide +kernel
theorem dL_law_990 : decode cL_law 990 = .ok (.iconst 1, 1) := by decide +kernel
theorem dL_law_991 : decode cL_law 991 = .ok (.iadd, 1) := by decide +kernel
theorem dL_law_992 : decode cL_law 992 = .ok (.iaload, 1) := by decide +kernel
theorem dL_law_993 : decode cL_law 993 = .ok (.aload_n 0, 1) := by decide +kernel
theorem dL_law_994 : decode cL_law 994 = .ok (.iload 4, 2) := by decide +kernel
theorem dL_law_996 : decode cL_law 996 = .ok (.iconst 2, 1) := by decide +kernel
theorem dL_law_997 : decode cL_law 997 = .ok (.iadd, 1) := by decide +kernel
theorem dL_law_998 : decode cL_law 998 = .ok (.iaload, 1) := by decide +kernel
theorem dL_law_999 : decode cL_law 999 = .ok (.invokevirtual 124, 3) := by decide +kernel
theorem dL_law_1002 : decode cL_law 1002 = .ok (.if_icmp .eq 632, 3) := by decide +kernel
theorem dL_law_1005 : decode cL_law 1005 = .ok (.iconst 0, 1) := by decide +kernel
theorem dL_law_1006 : decode cL_law 1006 = .ok (.ireturn, 1) := by decide +kernel
theorem dL_law_1007 : decode cL_law 1007 = .ok (.aload_n 1, 1) := by decide +kernel
theorem dL_law_1008 : decode cL_law 1008 = .ok (.aload_n 0, 1) := by decide +kernel
theorem dL_law_1009 : decode cL_law 1009 = .ok (.iload 4, 2) := by decide +kernel
theorem dL_law_1011 : decode cL_law 1011 = .ok (.iconst 1, 1) := by decide +kernel
theorem dL_law_1012 : decode cL_law 1012 = .ok (.iadd, 1) := by decide +kernel
theorem dL_law_1013 : decode cL_law 1013 = .ok (.iaload, 1) := by decide +kernel
theorem dL_law_1014 : decode cL_law 1014 = .ok (.invokevirtual 125, 3) := by decide +kernel
theorem dL_law_1017 : decode cL_law 1017 = .ok (.aload_n 2, 1) := by decide +kernel
theorem dL_law_1018 : decode cL_law 1018 = .ok (.aload_n 0, 1) := by decide +kernel
theorem dL_law_1019 : decode cL_law 1019 = .ok (.iload 4, 2) := by decide +kernel
theorem dL_law_1021 : decode cL_law 1021 = .ok (.iconst 1, 1) := by decide +kernel
theorem dL_law_1022 : decode cL_law 1022 = .ok (.iadd, 1) := by decide +kernel
theorem dL_law_1023 : decode cL_law 1023 = .ok (.iaload, 1) := by decide +kernel
theorem dL_law_1024 : decode cL_law 1024 = .ok (.invokevirtual 128, 3) := by decide +kernel
theorem dL_law_1027 : decode cL_law 1027 = .ok (.lcmp, 1) := by decide +kernel
theorem dL_law_1028 : decode cL_law 1028 = .ok (.ifCond .eq 606, 3) := by decide +kernel
theorem dL_law_1031 : decode cL_law 1031 = .ok (.iconst 0, 1) := by decide +kernel
theorem dL_law_1032 : decode cL_law 1032 = .ok (.ireturn, 1) := by decide +kernel
theorem dL_law_1033 : decode cL_law 1033 = .ok (.aload_n 1, 1) := by decide +kernel
theorem dL_law_1034 : decode cL_law 1034 = .ok (.aload_n 0, 1) := by decide +kernel
theorem dL_law_1035 : decode cL_law 1035 = .ok (.iload 4, 2) := by decide +kernel
theorem dL_law_1037 : decode cL_law 1037 = .ok (.iconst 1, 1) := by decide +kernel
theorem dL_law_1038 : decode cL_law 1038 = .ok (.iadd, 1) := by decide +kernel
theorem dL_law_1039 : decode cL_law 1039 = .ok (.iaload, 1) := by decide +kernel
theorem dL_law_1040 : decode cL_law 1040 = .ok (.invokevirtual 129, 3) := by decide +kernel
theorem dL_law_1043 : decode cL_law 1043 = .ok (.aload_n 2, 1) := by decide +kernel
theorem dL_law_1044 : decode cL_law 1044 = .ok (.aload_n 0, 1) := by decide +kernel
theorem dL_law_1045 : decode cL_law 1045 = .ok (.iload 4, 2) := by decide +kernel
theorem dL_law_1047 : decode cL_law 1047 = .ok (.iconst 1, 1) := by decide +kernel
theorem dL_law_1048 : decode cL_law 1048 = .ok (.iadd, 1) := by decide +kernel
theorem dL_law_1049 : decode cL_law 1049 = .ok (.iaload, 1) := by decide +kernel
theorem dL_law_1050 : decode cL_law 1050 = .ok (.invokevirtual 132, 3) := by decide +kernel
theorem dL_law_1053 : decode cL_law 1053 = .ok (.if_icmp .eq 581, 3) := by decide +kernel
theorem dL_law_1056 : decode cL_law 1056 = .ok (.iconst 0, 1) := by decide +kernel
theorem dL_law_1057 : decode cL_law 1057 = .ok (.ireturn, 1) := by decide +kernel
theorem dL_law_1058 : decode cL_law 1058 = .ok (.aload_n 1, 1) := by decide +kernel
theorem dL_law_1059 : decode cL_law 1059 = .ok (.aload_n 0, 1) := by decide +kernel
theorem dL_law_1060 : decode cL_law 1060 = .ok (.iload 4, 2) := by decide +kernel
theorem dL_law_1062 : decode cL_law 1062 = .ok (.iconst 1, 1) := by decide +kernel
theorem dL_law_1063 : decode cL_law 1063 = .ok (.iadd, 1) := by decide +kernel
theorem dL_law_1064 : decode cL_law 1064 = .ok (.iaload, 1) := by decide +kernel
theorem dL_law_1065 : decode cL_law 1065 = .ok (.aload_n 0, 1) := by decide +kernel
theorem dL_law_1066 : decode cL_law 1066 = .ok (.iload 4, 2) := by decide +kernel
theorem dL_law_1068 : decode cL_law 1068 = .ok (.iconst 2, 1) := by decide +kernel
theorem dL_law_1069 : decode cL_law 1069 = .ok (.iadd, 1) := by decide +kernel
theorem dL_law_1070 : decode cL_law 1070 = .ok (.iaload, 1) := by decide +kernel
theorem dL_law_1071 : decode cL_law 1071 = .ok (.aload_n 0, 1) := by decide +kernel
theorem dL_law_1072 : decode cL_law 1072 = .ok (.iload 4, 2) := by decide +kernel
theorem dL_law_1074 : decode cL_law 1074 = .ok (.iconst 3, 1) := by decide +kernel
theorem dL_law_1075 : decode cL_law 1075 = .ok (.iadd, 1) := by decide +kernel
theorem dL_law_1076 : decode cL_law 1076 = .ok (.iaload, 1) := by decide +kernel
theorem dL_law_1077 : decode cL_law 1077 = .ok (.aload_n 0, 1) := by decide +kernel
theorem dL_law_1078 : decode cL_law 1078 = .ok (.iload 4, 2) := by decide +kernel
theorem dL_law_1080 : decode cL_law 1080 = .ok (.iconst 4, 1) := by decide +kernel
theorem dL_law_1081 : decode cL_law 1081 = .ok (.iadd, 1) := by decide +kernel
theorem dL_law_1082 : decode cL_law 1082 = .ok (.iaload, 1) := by decide +kernel
theorem dL_law_1083 : decode cL_law 1083 = .ok (.invokevirtual 133, 3) := by decide +kernel
theorem dL_law_1086 : decode cL_law 1086 = .ok (.aload_n 2, 1) := by decide +kernel
theorem dL_law_1087 : decode cL_law 1087 = .ok (.aload_n 0, 1) := by decide +kernel
theorem dL_law_1088 : decode cL_law 1088 = .ok (.iload 4, 2) := by decide +kernel
theorem dL_law_1090 : decode cL_law 1090 = .ok (.iconst 1, 1) := by decide +kernel
theorem dL_law_1091 : decode cL_law 1091 = .ok (.iadd, 1) := by decide +kernel
theorem dL_law_1092 : decode cL_law 1092 = .ok (.iaload, 1) := by decide +kernel
theorem dL_law_1093 : decode cL_law 1093 = .ok (.aload_n 0, 1) := by decide +kernel
theorem dL_law_1094 : decode cL_law 1094 = .ok (.iload 4, 2) := by decide +kernel
theorem dL_law_1096 : decode cL_law 1096 = .ok (.iconst 2, 1) := by decide +kernel
theorem dL_law_1097 : decode cL_law 1097 = .ok (.iadd, 1) := by decide +kernel
theorem dL_law_1098 : decode cL_law 1098 = .ok (.iaload, 1) := by decide +kernel
theorem dL_law_1099 : decode cL_law 1099 = .ok (.aload_n 0, 1) := by decide +kernel
theorem dL_law_1100 : decode cL_law 1100 = .ok (.iload 4, 2) := by decide +kernel
theorem dL_law_1102 : decode cL_law 1102 = .ok (.iconst 3, 1) := by decide +kernel
theorem dL_law_1103 : decode cL_law 1103 = .ok (.iadd, 1) := by decide +kernel
theorem dL_law_1104 : decode cL_law 1104 = .ok (.iaload, 1) := by decide +kernel
theorem dL_law_1105 : decode cL_law 1105 = .ok (.aload_n 0, 1) := by decide +kernel
theorem dL_law_1106 : decode cL_law 1106 = .ok (.iload 4, 2) := by decide +kernel
theorem dL_law_1108 : decode cL_law 1108 = .ok (.iconst 4, 1) := by decide +kernel
theorem dL_law_1109 : decode cL_law 1109 = .ok (.iadd, 1) := by decide +kernel
theorem dL_law_1110 : decode cL_law 1110 = .ok (.iaload, 1) := by decide +kernel
theorem dL_law_1111 : decode cL_law 1111 = .ok (.invokevirtual 136, 3) := by decide +kernel
theorem dL_law_1114 : decode cL_law 1114 = .ok (.if_icmp .eq 520, 3) := by decide +kernel
theorem dL_law_1117 : decode cL_law 1117 = .ok (.iconst 0, 1) := by decide +kernel
theorem dL_law_1118 : decode cL_law 1118 = .ok (.ireturn, 1) := by decide +kernel
theorem dL_law_1119 : decode cL_law 1119 = .ok (.aload_n 1, 1) := by decide +kernel
theorem dL_law_1120 : decode cL_law 1120 = .ok (.aload_n 0, 1) := by decide +kernel
theorem dL_law_1121 : decode cL_law 1121 = .ok (.iload 4, 2) := by decide +kernel
theorem dL_law_1123 : decode cL_law 1123 = .ok (.iconst 1, 1) := by decide +kernel
theorem dL_law_1124 : decode cL_law 1124 = .ok (.iadd, 1) := by decide +kernel
theorem dL_law_1125 : decode cL_law 1125 = .ok (.iaload, 1) := by decide +kernel
theorem dL_law_1126 : decode cL_law 1126 = .ok (.aload_n 0, 1) := by decide +kernel
theorem dL_law_1127 : decode cL_law 1127 = .ok (.iload 4, 2) := by decide +kernel
theorem dL_law_1129 : decode cL_law 1129 = .ok (.iconst 2, 1) := by decide +kernel
theorem dL_law_1130 : decode cL_law 1130 = .ok (.iadd, 1) := by decide +kernel
theorem dL_law_1131 : decode cL_law 1131 = .ok (.iaload, 1) := by decide +kernel
theorem dL_law_1132 : decode cL_law 1132 = .ok (.aload_n 0, 1) := by decide +kernel
theorem dL_law_1133 : decode cL_law 1133 = .ok (.iload 4, 2) := by decide +kernel
theorem dL_law_1135 : decode cL_law 1135 = .ok (.iconst 3, 1) := by decide +kernel
theorem dL_law_1136 : decode cL_law 1136 = .ok (.iadd, 1) := by decide +kernel
theorem dL_law_1137 : decode cL_law 1137 = .ok (.iaload, 1) := by decide +kernel
theorem dL_law_1138 : decode cL_law 1138 = .ok (.aload_n 0, 1) := by decide +kernel
theorem dL_law_1139 : decode cL_law 1139 = .ok (.iload 4, 2) := by decide +kernel
theorem dL_law_1141 : decode cL_law 1141 = .ok (.iconst 4, 1) := by decide +kernel
theorem dL_law_1142 : decode cL_law 1142 = .ok (.iadd, 1) := by decide +kernel
theorem dL_law_1143 : decode cL_law 1143 = .ok (.iaload, 1) := by decide +kernel
theorem dL_law_1144 : decode cL_law 1144 = .ok (.invokevirtual 137, 3) := by decide +kernel
theorem dL_law_1147 : decode cL_law 1147 = .ok (.aload_n 2, 1) := by decide +kernel
theorem dL_law_1148 : decode cL_law 1148 = .ok (.aload_n 0, 1) := by decide +kernel
theorem dL_law_1149 : decode cL_law 1149 = .ok (.iload 4, 2) := by decide +kernel
theorem dL_law_1151 : decode cL_law 1151 = .ok (.iconst 1, 1) := by decide +kernel
theorem dL_law_1152 : decode cL_law 1152 = .ok (.iadd, 1) := by decide +kernel
theorem dL_law_1153 : decode cL_law 1153 = .ok (.iaload, 1) := by decide +kernel
theorem dL_law_1154 : decode cL_law 1154 = .ok (.aload_n 0, 1) := by decide +kernel
theorem dL_law_1155 : decode cL_law 1155 = .ok (.iload 4, 2) := by decide +kernel
theorem dL_law_1157 : decode cL_law 1157 = .ok (.iconst 2, 1) := by decide +kernel
theorem dL_law_1158 : decode cL_law 1158 = .ok (.iadd, 1) := by decide +kernel
theorem dL_law_1159 : decode cL_law 1159 = .ok (.iaload, 1) := by decide +kernel
theorem dL_law_1160 : decode cL_law 1160 = .ok (.aload_n 0, 1) := by decide +kernel
theorem dL_law_1161 : decode cL_law 1161 = .ok (.iload 4, 2) := by decide +kernel
theorem dL_law_1163 : decode cL_law 1163 = .ok (.iconst 3, 1) := by decide +kernel
theorem dL_law_1164 : decode cL_law 1164 = .ok (.iadd, 1) := by decide +kernel
theorem dL_law_1165 : decode cL_law 1165 = .ok (.iaload, 1) := by decide +kernel
theorem dL_law_1166 : decode cL_law 1166 = .ok (.aload_n 0, 1) := by decide +kernel
theorem dL_law_1167 : decode cL_law 1167 = .ok (.iload 4, 2) := by decide +kernel
theorem dL_law_1169 : decode cL_law 1169 = .ok (.iconst 4, 1) := by decide +kernel
theorem dL_law_1170 : decode cL_law 1170 = .ok (.iadd, 1) := by decide +kernel
theorem dL_law_1171 : decode cL_law 1171 = .ok (.iaload, 1) := by decide +kernel
theorem dL_law_1172 : decode cL_law 1172 = .ok (.invokevirtual 140, 3) := by decide +kernel
theorem dL_law_1175 : decode cL_law 1175 = .ok (.if_icmp .eq 459, 3) := by decide +kernel
theorem dL_law_1178 : decode cL_law 1178 = .ok (.iconst 0, 1) := by decide +kernel
theorem dL_law_1179 : decode cL_law 1179 = .ok (.ireturn, 1) := by decide +kernel
theorem dL_law_1180 : decode cL_law 1180 = .ok (.aload_n 1, 1) := by decide +kernel
theorem dL_law_1181 : decode cL_law 1181 = .ok (.aload_n 0, 1) := by decide +kernel
theorem dL_law_1182 : decode cL_law 1182 = .ok (.iload 4, 2) := by decide +kernel
theorem dL_law_1184 : decode cL_law 1184 = .ok (.iconst 1, 1) := by decide +kernel
theorem dL_law_1185 : decode cL_law 1185 = .ok (.iadd, 1) := by decide +kernel
theorem dL_law_1186 : decode cL_law 1186 = .ok (.iaload, 1) := by decide +kernel
theorem dL_law_1187 : decode cL_law 1187 = .ok (.invokevirtual 141, 3) := by decide +kernel
theorem dL_law_1190 : decode cL_law 1190 = .ok (.aload_n 2, 1) := by decide +kernel
theorem dL_law_1191 : decode cL_law 1191 = .ok (.aload_n 0, 1) := by decide +kernel
theorem dL_law_1192 : decode cL_law 1192 = .ok (.iload 4, 2) := by decide +kernel
theorem dL_law_1194 : decode cL_law 1194 = .ok (.iconst 1, 1) := by decide +kernel
theorem dL_law_1195 : decode cL_law 1195 = .ok (.iadd, 1) := by decide +kernel
theorem dL_law_1196 : decode cL_law 1196 = .ok (.iaload, 1) := by decide +kernel
theorem dL_law_1197 : decode cL_law 1197 = .ok (.invokevirtual 144, 3) := by decide +kernel
theorem dL_law_1200 : decode cL_law 1200 = .ok (.if_icmp .eq 434, 3) := by decide +kernel
theorem dL_law_1203 : decode cL_law 1203 = .ok (.iconst 0, 1) := by decide +kernel
theorem dL_law_1204 : decode cL_law 1204 = .ok (.ireturn, 1) := by decide +kernel
theorem dL_law_1205 : decode cL_law 1205 = .ok (.aload_n 1, 1) := by decide +kernel
theorem dL_law_1206 : decode cL_law 1206 = .ok (.aload_n 0, 1) := by decide +kernel
theorem dL_law_1207 : decode cL_law 1207 = .ok (.iload 4, 2) := by decide +kernel
theorem dL_law_1209 : decode cL_law 1209 = .ok (.iconst 1, 1) := by decide +kernel
theorem dL_law_1210 : decode cL_law 1210 = .ok (.iadd, 1) := by decide +kernel
theorem dL_law_1211 : decode cL_law 1211 = .ok (.iaload, 1) := by decide +kernel
theorem dL_law_1212 : decode cL_law 1212 = .ok (.invokevirtual 145, 3) := by decide +kernel
theorem dL_law_1215 : decode cL_law 1215 = .ok (.aload_n 2, 1) := by decide +kernel
theorem dL_law_1216 : decode cL_law 1216 = .ok (.aload_n 0, 1) := by decide +kernel
theorem dL_law_1217 : decode cL_law 1217 = .ok (.iload 4, 2) := by decide +kernel
theorem dL_law_1219 : decode cL_law 1219 = .ok (.iconst 1, 1) := by decide +kernel
theorem dL_law_1220 : decode cL_law 1220 = .ok (.iadd, 1) := by decide +kernel
theorem dL_law_1221 : decode cL_law 1221 = .ok (.iaload, 1) := by decide +kernel
theorem dL_law_1222 : decode cL_law 1222 = .ok (.invokevirtual 148, 3) := by decide +kernel
theorem dL_law_1225 : decode cL_law 1225 = .ok (.if_icmp .eq 409, 3) := by decide +kernel
theorem dL_law_1228 : decode cL_law 1228 = .ok (.iconst 0, 1) := by decide +kernel
theorem dL_law_1229 : decode cL_law 1229 = .ok (.ireturn, 1) := by decide +kernel
theorem dL_law_1230 : decode cL_law 1230 = .ok (.aload_n 1, 1) := by decide +kernel
theorem dL_law_1231 : decode cL_law 1231 = .ok (.aload_n 0, 1) := by decide +kernel
theorem dL_law_1232 : decode cL_law 1232 = .ok (.iload 4, 2) := by decide +kernel
theorem dL_law_1234 : decode cL_law 1234 = .ok (.iconst 1, 1) := by decide +kernel
theorem dL_law_1235 : decode cL_law 1235 = .ok (.iadd, 1) := by decide +kernel
theorem dL_law_1236 : decode cL_law 1236 = .ok (.iaload, 1) := by decide +kernel
theorem dL_law_1237 : decode cL_law 1237 = .ok (.aload_n 0, 1) := by decide +kernel
theorem dL_law_1238 : decode cL_law 1238 = .ok (.iload 4, 2) := by decide +kernel
theorem dL_law_1240 : decode cL_law 1240 = .ok (.iconst 2, 1) := by decide +kernel
theorem dL_law_1241 : decode cL_law 1241 = .ok (.iadd, 1) := by decide +kernel
theorem dL_law_1242 : decode cL_law 1242 = .ok (.iaload, 1) := by decide +kernel
theorem dL_law_1243 : decode cL_law 1243 = .ok (.i2l, 1) := by decide +kernel
theorem dL_law_1244 : decode cL_law 1244 = .ok (.bipush 32, 2) := by decide +kernel
theorem dL_law_1246 : decode cL_law 1246 = .ok (.lshl, 1) := by decide +kernel
theorem dL_law_1247 : decode cL_law 1247 = .ok (.aload_n 0, 1) := by decide +kernel
theorem dL_law_1248 : decode cL_law 1248 = .ok (.iload 4, 2) := by decide +kernel
theorem dL_law_1250 : decode cL_law 1250 = .ok (.iconst 3, 1) := by decide +kernel
theorem dL_law_1251 : decode cL_law 1251 = .ok (.iadd, 1) := by decide +kernel
theorem dL_law_1252 : decode cL_law 1252 = .ok (.iaload, 1) := by decide +kernel
theorem dL_law_1253 : decode cL_law 1253 = .ok (.i2l, 1) := by decide +kernel
theorem dL_law_1254 : decode cL_law 1254 = .ok (.ldc2_w 149, 3) := by decide +kernel
theorem dL_law_1257 : decode cL_law 1257 = .ok (.land, 1) := by decide +kernel
theorem dL_law_1258 : decode cL_law 1258 = .ok (.lor, 1) := by decide +kernel
theorem dL_law_1259 : decode cL_law 1259 = .ok (.invokevirtual 151, 3) := by decide +kernel
theorem dL_law_1262 : decode cL_law 1262 = .ok (.aload_n 2, 1) := by decide +kernel
theorem dL_law_1263 : decode cL_law 1263 = .ok (.aload_n 0, 1) := by decide +kernel
theorem dL_law_1264 : decode cL_law 1264 = .ok (.iload 4, 2) := by decide +kernel
theorem dL_law_1266 : decode cL_law 1266 = .ok (.iconst 1, 1) := by decide +kernel
theorem dL_law_1267 : decode cL_law 1267 = .ok (.iadd, 1) := by decide +kernel
theorem dL_law_1268 : decode cL_law 1268 = .ok (.iaload, 1) := by decide +kernel
theorem dL_law_1269 : decode cL_law 1269 = .ok (.aload_n 0, 1) := by decide +kernel
theorem dL_law_1270 : decode cL_law 1270 = .ok (.iload 4, 2) := by decide +kernel
theorem dL_law_1272 : decode cL_law 1272 = .ok (.iconst 2, 1) := by decide +kernel
theorem dL_law_1273 : decode cL_law 1273 = .ok (.iadd, 1) := by decide +kernel
theorem dL_law_1274 : decode cL_law 1274 = .ok (.iaload, 1) := by decide +kernel
theorem dL_law_1275 : decode cL_law 1275 = .ok (.i2l, 1) := by decide +kernel
theorem dL_law_1276 : decode cL_law 1276 = .ok (.bipush 32, 2) := by decide +kernel
theorem dL_law_1278 : decode cL_law 1278 = .ok (.lshl, 1) := by decide +kernel
theorem dL_law_1279 : decode cL_law 1279 = .ok (.aload_n 0, 1) := by decide +kernel
theorem dL_law_1280 : decode cL_law 1280 = .ok (.iload 4, 2) := by decide +kernel
theorem dL_law_1282 : decode cL_law 1282 = .ok (.iconst 3, 1) := by decide +kernel
theorem dL_law_1283 : decode cL_law 1283 = .ok (.iadd, 1) := by decide +kernel
theorem dL_law_1284 : decode cL_law 1284 = .ok (.iaload, 1) := by decide +kernel
theorem dL_law_1285 : decode cL_law 1285 = .ok (.i2l, 1) := by decide +kernel
theorem dL_law_1286 : decode cL_law 1286 = .ok (.ldc2_w 149, 3) := by decide +kernel
theorem dL_law_1289 : decode cL_law 1289 = .ok (.land, 1) := by decide +kernel
theorem dL_law_1290 : decode cL_law 1290 = .ok (.lor, 1) := by decide +kernel
theorem dL_law_1291 : decode cL_law 1291 = .ok (.invokevirtual 155, 3) := by decide +kernel
theorem dL_law_1294 : decode cL_law 1294 = .ok (.if_icmp .eq 340, 3) := by decide +kernel
theorem dL_law_1297 : decode cL_law 1297 = .ok (.iconst 0, 1) := by decide +kernel
theorem dL_law_1298 : decode cL_law 1298 = .ok (.ireturn, 1) := by decide +kernel
theorem dL_law_1299 : decode cL_law 1299 = .ok (.aload_n 1, 1) := by decide +kernel
theorem dL_law_1300 : decode cL_law 1300 = .ok (.aload_n 0, 1) := by decide +kernel
theorem dL_law_1301 : decode cL_law 1301 = .ok (.iload 4, 2) := by decide +kernel
theorem dL_law_1303 : decode cL_law 1303 = .ok (.iconst 1, 1) := by decide +kernel
theorem dL_law_1304 : decode cL_law 1304 = .ok (.iadd, 1) := by decide +kernel
theorem dL_law_1305 : decode cL_law 1305 = .ok (.iaload, 1) := by decide +kernel
theorem dL_law_1306 : decode cL_law 1306 = .ok (.invokevirtual 156, 3) := by decide +kernel
theorem dL_law_1309 : decode cL_law 1309 = .ok (.aload_n 2, 1) := by decide +kernel
theorem dL_law_1310 : decode cL_law 1310 = .ok (.aload_n 0, 1) := by decide +kernel
theorem dL_law_1311 : decode cL_law 1311 = .ok (.iload 4, 2) := by decide +kernel
theorem dL_law_1313 : decode cL_law 1313 = .ok (.iconst 1, 1) := by decide +kernel
theorem dL_law_1314 : decode cL_law 1314 = .ok (.iadd, 1) := by decide +kernel
theorem dL_law_1315 : decode cL_law 1315 = .ok (.iaload, 1) := by decide +kernel
theorem dL_law_1316 : decode cL_law 1316 = .ok (.invokevirtual 159, 3) := by decide +kernel
theorem dL_law_1319 : decode cL_law 1319 = .ok (.if_icmp .eq 315, 3) := by decide +kernel
theorem dL_law_1322 : decode cL_law 1322 = .ok (.iconst 0, 1) := by decide +kernel
theorem dL_law_1323 : decode cL_law 1323 = .ok (.ireturn, 1) := by decide +kernel
theorem dL_law_1324 : decode cL_law 1324 = .ok (.aload_n 1, 1) := by decide +kernel
theorem dL_law_1325 : decode cL_law 1325 = .ok (.invokevirtual 160, 3) := by decide +kernel
theorem dL_law_1328 : decode cL_law 1328 = .ok (.aload_n 2, 1) := by decide +kernel
theorem dL_law_1329 : decode cL_law 1329 = .ok (.invokevirtual 163, 3) := by decide +kernel
theorem dL_law_1332 : decode cL_law 1332 = .ok (.if_icmp .eq 302, 3) := by decide +kernel
theorem dL_law_1335 : decode cL_law 1335 = .ok (.iconst 0, 1) := by decide +kernel
theorem dL_law_1336 : decode cL_law 1336 = .ok (.ireturn, 1) := by decide +kernel
theorem dL_law_1337 : decode cL_law 1337 = .ok (.aload_n 1, 1) := by decide +kernel
theorem dL_law_1338 : decode cL_law 1338 = .ok (.aload_n 0, 1) := by decide +kernel
theorem dL_law_1339 : decode cL_law 1339 = .ok (.iload 4, 2) := by decide +kernel
theorem dL_law_1341 : decode cL_law 1341 = .ok (.iconst 1, 1) := by decide +kernel
theorem dL_law_1342 : decode cL_law 1342 = .ok (.iadd, 1) := by decide +kernel
theorem dL_law_1343 : decode cL_law 1343 = .ok (.iaload, 1) := by decide +kernel
theorem dL_law_1344 : decode cL_law 1344 = .ok (.aload_n 0, 1) := by decide +kernel
theorem dL_law_1345 : decode cL_law 1345 = .ok (.iload 4, 2) := by decide +kernel
theorem dL_law_1347 : decode cL_law 1347 = .ok (.iconst 2, 1) := by decide +kernel
theorem dL_law_1348 : decode cL_law 1348 = .ok (.iadd, 1) := by decide +kernel
theorem dL_law_1349 : decode cL_law 1349 = .ok (.iaload, 1) := by decide +kernel
theorem dL_law_1350 : decode cL_law 1350 = .ok (.invokevirtual 164, 3) := by decide +kernel
theorem dL_law_1353 : decode cL_law 1353 = .ok (.aload_n 2, 1) := by decide +kernel
theorem dL_law_1354 : decode cL_law 1354 = .ok (.aload_n 0, 1) := by decide +kernel
theorem dL_law_1355 : decode cL_law 1355 = .ok (.iload 4, 2) := by decide +kernel
theorem dL_law_1357 : decode cL_law 1357 = .ok (.iconst 1, 1) := by decide +kernel
theorem dL_law_1358 : decode cL_law 1358 = .ok (.iadd, 1) := by decide +kernel
theorem dL_law_1359 : decode cL_law 1359 = .ok (.iaload, 1) := by decide +kernel
theorem dL_law_1360 : decode cL_law 1360 = .ok (.aload_n 0, 1) := by decide +kernel
theorem dL_law_1361 : decode cL_law 1361 = .ok (.iload 4, 2) := by decide +kernel
theorem dL_law_1363 : decode cL_law 1363 = .ok (.iconst 2, 1) := by decide +kernel
theorem dL_law_1364 : decode cL_law 1364 = .ok (.iadd, 1) := by decide +kernel
theorem dL_law_1365 : decode cL_law 1365 = .ok (.iaload, 1) := by decide +kernel
theorem dL_law_1366 : decode cL_law 1366 = .ok (.invokevirtual 167, 3) := by decide +kernel
theorem dL_law_1369 : decode cL_law 1369 = .ok (.if_icmp .eq 265, 3) := by decide +kernel
theorem dL_law_1372 : decode cL_law 1372 = .ok (.iconst 0, 1) := by decide +kernel
theorem dL_law_1373 : decode cL_law 1373 = .ok (.ireturn, 1) := by decide +kernel
theorem dL_law_1374 : decode cL_law 1374 = .ok (.aload_n 1, 1) := by decide +kernel
theorem dL_law_1375 : decode cL_law 1375 = .ok (.aload_n 0, 1) := by decide +kernel
theorem dL_law_1376 : decode cL_law 1376 = .ok (.iload 4, 2) := by decide +kernel
theorem dL_law_1378 : decode cL_law 1378 = .ok (.iconst 1, 1) := by decide +kernel
theorem dL_law_1379 : decode cL_law 1379 = .ok (.iadd, 1) := by decide +kernel
theorem dL_law_1380 : decode cL_law 1380 = .ok (.iaload, 1) := by decide +kernel
theorem dL_law_1381 : decode cL_law 1381 = .ok (.aload_n 0, 1) := by decide +kernel
theorem dL_law_1382 : decode cL_law 1382 = .ok (.iload 4, 2) := by decide +kernel
theorem dL_law_1384 : decode cL_law 1384 = .ok (.iconst 2, 1) := by decide +kernel
theorem dL_law_1385 : decode cL_law 1385 = .ok (.iadd, 1) := by decide +kernel
theorem dL_law_1386 : decode cL_law 1386 = .ok (.iaload, 1) := by decide +kernel
theorem dL_law_1387 : decode cL_law 1387 = .ok (.aload_n 0, 1) := by decide +kernel
theorem dL_law_1388 : decode cL_law 1388 = .ok (.iload 4, 2) := by decide +kernel
theorem dL_law_1390 : decode cL_law 1390 = .ok (.iconst 3, 1) := by decide +kernel
theorem dL_law_1391 : decode cL_law 1391 = .ok (.iadd, 1) := by decide +kernel
theorem dL_law_1392 : decode cL_law 1392 = .ok (.iaload, 1) := by decide +kernel
theorem dL_law_1393 : decode cL_law 1393 = .ok (.aload_n 0, 1) := by decide +kernel
theorem dL_law_1394 : decode cL_law 1394 = .ok (.iload 4, 2) := by decide +kernel
theorem dL_law_1396 : decode cL_law 1396 = .ok (.iconst 4, 1) := by decide +kernel
theorem dL_law_1397 : decode cL_law 1397 = .ok (.iadd, 1) := by decide +kernel
theorem dL_law_1398 : decode cL_law 1398 = .ok (.iaload, 1) := by decide +kernel
theorem dL_law_1399 : decode cL_law 1399 = .ok (.aload_n 0, 1) := by decide +kernel
theorem dL_law_1400 : decode cL_law 1400 = .ok (.iload 4, 2) := by decide +kernel
theorem dL_law_1402 : decode cL_law 1402 = .ok (.iconst 5, 1) := by decide +kernel
theorem dL_law_1403 : decode cL_law 1403 = .ok (.iadd, 1) := by decide +kernel
theorem dL_law_1404 : decode cL_law 1404 = .ok (.iaload, 1) := by decide +kernel
theorem dL_law_1405 : decode cL_law 1405 = .ok (.invokevirtual 168, 3) := by decide +kernel
theorem dL_law_1408 : decode cL_law 1408 = .ok (.aload_n 2, 1) := by decide +kernel
theorem dL_law_1409 : decode cL_law 1409 = .ok (.aload_n 0, 1) := by decide +kernel
theorem dL_law_1410 : decode cL_law 1410 = .ok (.iload 4, 2) := by decide +kernel
theorem dL_law_1412 : decode cL_law 1412 = .ok (.iconst 1, 1) := by decide +kernel
theorem dL_law_1413 : decode cL_law 1413 = .ok (.iadd, 1) := by decide +kernel
theorem dL_law_1414 : decode cL_law 1414 = .ok (.iaload, 1) := by decide +kernel
theorem dL_law_1415 : decode cL_law 1415 = .ok (.aload_n 0, 1) := by decide +kernel
theorem dL_law_1416 : decode cL_law 1416 = .ok (.iload 4, 2) := by decide +kernel
theorem dL_law_1418 : decode cL_law 1418 = .ok (.iconst 2, 1) := by decide +kernel
theorem dL_law_1419 : decode cL_law 1419 = .ok (.iadd, 1) := by decide +kernel
theorem dL_law_1420 : decode cL_law 1420 = .ok (.iaload, 1) := by decide +kernel
theorem dL_law_1421 : decode cL_law 1421 = .ok (.aload_n 0, 1) := by decide +kernel
theorem dL_law_1422 : decode cL_law 1422 = .ok (.iload 4, 2) := by decide +kernel
theorem dL_law_1424 : decode cL_law 1424 = .ok (.iconst 3, 1) := by decide +kernel
theorem dL_law_1425 : decode cL_law 1425 = .ok (.iadd, 1) := by decide +kernel
theorem dL_law_1426 : decode cL_law 1426 = .ok (.iaload, 1) := by decide +kernel
theorem dL_law_1427 : decode cL_law 1427 = .ok (.aload_n 0, 1) := by decide +kernel
theorem dL_law_1428 : decode cL_law 1428 = .ok (.iload 4, 2) := by decide +kernel
theorem dL_law_1430 : decode cL_law 1430 = .ok (.iconst 4, 1) := by decide +kernel
theorem dL_law_1431 : decode cL_law 1431 = .ok (.iadd, 1) := by decide +kernel
theorem dL_law_1432 : decode cL_law 1432 = .ok (.iaload, 1) := by decide +kernel
theorem dL_law_1433 : decode cL_law 1433 = .ok (.aload_n 0, 1) := by decide +kernel
theorem dL_law_1434 : decode cL_law 1434 = .ok (.iload 4, 2) := by decide +kernel
theorem dL_law_1436 : decode cL_law 1436 = .ok (.iconst 5, 1) := by decide +kernel
theorem dL_law_1437 : decode cL_law 1437 = .ok (.iadd, 1) := by decide +kernel
theorem dL_law_1438 : decode cL_law 1438 = .ok (.iaload, 1) := by decide +kernel
theorem dL_law_1439 : decode cL_law 1439 = .ok (.invokevirtual 171, 3) := by decide +kernel
theorem dL_law_1442 : decode cL_law 1442 = .ok (.if_icmp .eq 192, 3) := by decide +kernel
theorem dL_law_1445 : decode cL_law 1445 = .ok (.iconst 0, 1) := by decide +kernel
theorem dL_law_1446 : decode cL_law 1446 = .ok (.ireturn, 1) := by decide +kernel
theorem dL_law_1447 : decode cL_law 1447 = .ok (.aload_n 1, 1) := by decide +kernel
theorem dL_law_1448 : decode cL_law 1448 = .ok (.aload_n 0, 1) := by decide +kernel
theorem dL_law_1449 : decode cL_law 1449 = .ok (.iload 4, 2) := by decide +kernel
theorem dL_law_1451 : decode cL_law 1451 = .ok (.iconst 1, 1) := by decide +kernel
theorem dL_law_1452 : decode cL_law 1452 = .ok (.iadd, 1) := by decide +kernel
theorem dL_law_1453 : decode cL_law 1453 = .ok (.iaload, 1) := by decide +kernel
theorem dL_law_1454 : decode cL_law 1454 = .ok (.aload_n 0, 1) := by decide +kernel
theorem dL_law_1455 : decode cL_law 1455 = .ok (.iload 4, 2) := by decide +kernel
theorem dL_law_1457 : decode cL_law 1457 = .ok (.iconst 2, 1) := by decide +kernel
theorem dL_law_1458 : decode cL_law 1458 = .ok (.iadd, 1) := by decide +kernel
theorem dL_law_1459 : decode cL_law 1459 = .ok (.iaload, 1) := by decide +kernel
theorem dL_law_1460 : decode cL_law 1460 = .ok (.aload_n 0, 1) := by decide +kernel
theorem dL_law_1461 : decode cL_law 1461 = .ok (.iload 4, 2) := by decide +kernel
theorem dL_law_1463 : decode cL_law 1463 = .ok (.iconst 3, 1) := by decide +kernel
theorem dL_law_1464 : decode cL_law 1464 = .ok (.iadd, 1) := by decide +kernel
theorem dL_law_1465 : decode cL_law 1465 = .ok (.iaload, 1) := by decide +kernel
theorem dL_law_1466 : decode cL_law 1466 = .ok (.invokevirtual 172, 3) := by decide +kernel
theorem dL_law_1469 : decode cL_law 1469 = .ok (.aload_n 2, 1) := by decide +kernel
theorem dL_law_1470 : decode cL_law 1470 = .ok (.aload_n 0, 1) := by decide +kernel
theorem dL_law_1471 : decode cL_law 1471 = .ok (.iload 4, 2) := by decide +kernel
theorem dL_law_1473 : decode cL_law 1473 = .ok (.iconst 1, 1) := by decide +kernel
theorem dL_law_1474 : decode cL_law 1474 = .ok (.iadd, 1) := by decide +kernel
theorem dL_law_1475 : decode cL_law 1475 = .ok (.iaload, 1) := by decide +kernel
theorem dL_law_1476 : decode cL_law 1476 = .ok (.aload_n 0, 1) := by decide +kernel
theorem dL_law_1477 : decode cL_law 1477 = .ok (.iload 4, 2) := by decide +kernel
theorem dL_law_1479 : decode cL_law 1479 = .ok (.iconst 2, 1) := by decide +kernel
theorem dL_law_1480 : decode cL_law 1480 = .ok (.iadd, 1) := by decide +kernel
theorem dL_law_1481 : decode cL_law 1481 = .ok (.iaload, 1) := by decide +kernel
theorem dL_law_1482 : decode cL_law 1482 = .ok (.aload_n 0, 1) := by decide +kernel
theorem dL_law_1483 : decode cL_law 1483 = .ok (.iload 4, 2) := by decide +kernel
theorem dL_law_1485 : decode cL_law 1485 = .ok (.iconst 3, 1) := by decide +kernel
theorem dL_law_1486 : decode cL_law 1486 = .ok (.iadd, 1) := by decide +kernel
theorem dL_law_1487 : decode cL_law 1487 = .ok (.iaload, 1) := by decide +kernel
theorem dL_law_1488 : decode cL_law 1488 = .ok (.invokevirtual 175, 3) := by decide +kernel
theorem dL_law_1491 : decode cL_law 1491 = .ok (.if_icmp .eq 143, 3) := by decide +kernel
theorem dL_law_1494 : decode cL_law 1494 = .ok (.iconst 0, 1) := by decide +kernel
theorem dL_law_1495 : decode cL_law 1495 = .ok (.ireturn, 1) := by decide +kernel
theorem dL_law_1496 : decode cL_law 1496 = .ok (.aload_n 1, 1) := by decide +kernel
theorem dL_law_1497 : decode cL_law 1497 = .ok (.aload_n 0, 1) := by decide +kernel
theorem dL_law_1498 : decode cL_law 1498 = .ok (.iload 4, 2) := by decide +kernel
theorem dL_law_1500 : decode cL_law 1500 = .ok (.iconst 1, 1) := by decide +kernel
theorem dL_law_1501 : decode cL_law 1501 = .ok (.iadd, 1) := by decide +kernel
theorem dL_law_1502 : decode cL_law 1502 = .ok (.iaload, 1) := by decide +kernel
theorem dL_law_1503 : decode cL_law 1503 = .ok (.aload_n 0, 1) := by decide +kernel
theorem dL_law_1504 : decode cL_law 1504 = .ok (.iload 4, 2) := by decide +kernel
theorem dL_law_1506 : decode cL_law 1506 = .ok (.iconst 2, 1) := by decide +kernel
theorem dL_law_1507 : decode cL_law 1507 = .ok (.iadd, 1) := by decide +kernel
theorem dL_law_1508 : decode cL_law 1508 = .ok (.iaload, 1) := by decide +kernel
theorem dL_law_1509 : decode cL_law 1509 = .ok (.invokevirtual 176, 3) := by decide +kernel
theorem dL_law_1512 : decode cL_law 1512 = .ok (.aload_n 2, 1) := by decide +kernel
theorem dL_law_1513 : decode cL_law 1513 = .ok (.aload_n 0, 1) := by decide +kernel
theorem dL_law_1514 : decode cL_law 1514 = .ok (.iload 4, 2) := by decide +kernel
theorem dL_law_1516 : decode cL_law 1516 = .ok (.iconst 1, 1) := by decide +kernel
theorem dL_law_1517 : decode cL_law 1517 = .ok (.iadd, 1) := by decide +kernel
theorem dL_law_1518 : decode cL_law 1518 = .ok (.iaload, 1) := by decide +kernel
theorem dL_law_1519 : decode cL_law 1519 = .ok (.aload_n 0, 1) := by decide +kernel
theorem dL_law_1520 : decode cL_law 1520 = .ok (.iload 4, 2) := by decide +kernel
theorem dL_law_1522 : decode cL_law 1522 = .ok (.iconst 2, 1) := by decide +kernel
theorem dL_law_1523 : decode cL_law 1523 = .ok (.iadd, 1) := by decide +kernel
theorem dL_law_1524 : decode cL_law 1524 = .ok (.iaload, 1) := by decide +kernel
theorem dL_law_1525 : decode cL_law 1525 = .ok (.invokevirtual 179, 3) := by decide +kernel
theorem dL_law_1528 : decode cL_law 1528 = .ok (.if_icmp .eq 106, 3) := by decide +kernel
theorem dL_law_1531 : decode cL_law 1531 = .ok (.iconst 0, 1) := by decide +kernel
theorem dL_law_1532 : decode cL_law 1532 = .ok (.ireturn, 1) := by decide +kernel
theorem dL_law_1533 : decode cL_law 1533 = .ok (.aload_n 1, 1) := by decide +kernel
theorem dL_law_1534 : decode cL_law 1534 = .ok (.aload_n 0, 1) := by decide +kernel
theorem dL_law_1535 : decode cL_law 1535 = .ok (.iload 4, 2) := by decide +kernel
theorem dL_law_1537 : decode cL_law 1537 = .ok (.iconst 1, 1) := by decide +kernel
theorem dL_law_1538 : decode cL_law 1538 = .ok (.iadd, 1) := by decide +kernel
theorem dL_law_1539 : decode cL_law 1539 = .ok (.iaload, 1) := by decide +kernel
theorem dL_law_1540 : decode cL_law 1540 = .ok (.invokevirtual 180, 3) := by decide +kernel
theorem dL_law_1543 : decode cL_law 1543 = .ok (.aload_n 2, 1) := by decide +kernel
theorem dL_law_1544 : decode cL_law 1544 = .ok (.aload_n 0, 1) := by decide +kernel
theorem dL_law_1545 : decode cL_law 1545 = .ok (.iload 4, 2) := by decide +kernel
theorem dL_law_1547 : decode cL_law 1547 = .ok (.iconst 1, 1) := by decide +kernel
theorem dL_law_1548 : decode cL_law 1548 = .ok (.iadd, 1) := by decide +kernel
theorem dL_law_1549 : decode cL_law 1549 = .ok (.iaload, 1) := by decide +kernel
theorem dL_law_1550 : decode cL_law 1550 = .ok (.invokevirtual 183, 3) := by decide +kernel
theorem dL_law_1553 : decode cL_law 1553 = .ok (.if_icmp .eq 81, 3) := by decide +kernel
theorem dL_law_1556 : decode cL_law 1556 = .ok (.iconst 0, 1) := by decide +kernel
theorem dL_law_1557 : decode cL_law 1557 = .ok (.ireturn, 1) := by decide +kernel
theorem dL_law_1558 : decode cL_law 1558 = .ok (.aload_n 1, 1) := by decide +kernel
theorem dL_law_1559 : decode cL_law 1559 = .ok (.aload_n 0, 1) := by decide +kernel
theorem dL_law_1560 : decode cL_law 1560 = .ok (.iload 4, 2) := by decide +kernel
theorem dL_law_1562 : decode cL_law 1562 = .ok (.iconst 1, 1) := by decide +kernel
theorem dL_law_1563 : decode cL_law 1563 = .ok (.iadd, 1) := by decide +kernel
theorem dL_law_1564 : decode cL_law 1564 = .ok (.iaload, 1) := by decide +kernel
theorem dL_law_1565 : decode cL_law 1565 = .ok (.invokevirtual 184, 3) := by decide +kernel
theorem dL_law_1568 : decode cL_law 1568 = .ok (.aload_n 2, 1) := by decide +kernel
theorem dL_law_1569 : decode cL_law 1569 = .ok (.aload_n 0, 1) := by decide +kernel
theorem dL_law_1570 : decode cL_law 1570 = .ok (.iload 4, 2) := by decide +kernel
theorem dL_law_1572 : decode cL_law 1572 = .ok (.iconst 1, 1) := by decide +kernel
theorem dL_law_1573 : decode cL_law 1573 = .ok (.iadd, 1) := by decide +kernel
theorem dL_law_1574 : decode cL_law 1574 = .ok (.iaload, 1) := by decide +kernel
theorem dL_law_1575 : decode cL_law 1575 = .ok (.invokevirtual 187, 3) := by decide +kernel
theorem dL_law_1578 : decode cL_law 1578 = .ok (.if_icmp .eq 56, 3) := by decide +kernel
theorem dL_law_1581 : decode cL_law 1581 = .ok (.iconst 0, 1) := by decide +kernel
theorem dL_law_1582 : decode cL_law 1582 = .ok (.ireturn, 1) := by decide +kernel
theorem dL_law_1583 : decode cL_law 1583 = .ok (.aload_n 1, 1) := by decide +kernel
theorem dL_law_1584 : decode cL_law 1584 = .ok (.invokevirtual 188, 3) := by decide +kernel
theorem dL_law_1587 : decode cL_law 1587 = .ok (.aload_n 2, 1) := by decide +kernel
theorem dL_law_1588 : decode cL_law 1588 = .ok (.invokevirtual 191, 3) := by decide +kernel
theorem dL_law_1591 : decode cL_law 1591 = .ok (.if_icmp .eq 43, 3) := by decide +kernel
theorem dL_law_1594 : decode cL_law 1594 = .ok (.iconst 0, 1) := by decide +kernel
theorem dL_law_1595 : decode cL_law 1595 = .ok (.ireturn, 1) := by decide +kernel
theorem dL_law_1596 : decode cL_law 1596 = .ok (.aload_n 1, 1) := by decide +kernel
theorem dL_law_1597 : decode cL_law 1597 = .ok (.invokevirtual 192, 3) := by decide +kernel
theorem dL_law_1600 : decode cL_law 1600 = .ok (.aload_n 2, 1) := by decide +kernel
theorem dL_law_1601 : decode cL_law 1601 = .ok (.invokevirtual 195, 3) := by decide +kernel
theorem dL_law_1604 : decode cL_law 1604 = .ok (.if_icmp .eq 30, 3) := by decide +kernel
theorem dL_law_1607 : decode cL_law 1607 = .ok (.iconst 0, 1) := by decide +kernel
theorem dL_law_1608 : decode cL_law 1608 = .ok (.ireturn, 1) := by decide +kernel
theorem dL_law_1609 : decode cL_law 1609 = .ok (.aload_n 1, 1) := by decide +kernel
theorem dL_law_1610 : decode cL_law 1610 = .ok (.aload_n 0, 1) := by decide +kernel
theorem dL_law_1611 : decode cL_law 1611 = .ok (.iload 4, 2) := by decide +kernel
theorem dL_law_1613 : decode cL_law 1613 = .ok (.iconst 1, 1) := by decide +kernel
theorem dL_law_1614 : decode cL_law 1614 = .ok (.iadd, 1) := by decide +kernel
theorem dL_law_1615 : decode cL_law 1615 = .ok (.iaload, 1) := by decide +kernel
theorem dL_law_1616 : decode cL_law 1616 = .ok (.invokevirtual 196, 3) := by decide +kernel
theorem dL_law_1619 : decode cL_law 1619 = .ok (.aload_n 2, 1) := by decide +kernel
theorem dL_law_1620 : decode cL_law 1620 = .ok (.aload_n 0, 1) := by decide +kernel
theorem dL_law_1621 : decode cL_law 1621 = .ok (.iload 4, 2) := by decide +kernel
theorem dL_law_1623 : decode cL_law 1623 = .ok (.iconst 1, 1) := by decide +kernel
theorem dL_law_1624 : decode cL_law 1624 = .ok (.iadd, 1) := by decide +kernel
theorem dL_law_1625 : decode cL_law 1625 = .ok (.iaload, 1) := by decide +kernel
theorem dL_law_1626 : decode cL_law 1626 = .ok (.invokevirtual 199, 3) := by decide +kernel
theorem dL_law_1629 : decode cL_law 1629 = .ok (.if_icmp .eq 5, 3) := by decide +kernel
theorem dL_law_1632 : decode cL_law 1632 = .ok (.iconst 0, 1) := by decide +kernel
theorem dL_law_1633 : decode cL_law 1633 = .ok (.ireturn, 1) := by decide +kernel
theorem dL_law_1634 : decode cL_law 1634 = .ok (.iinc 4 6, 3) := by decide +kernel
theorem dL_law_1637 : decode cL_law 1637 = .ok (.goto (-1614), 3) := by decide +kernel
theorem dL_law_1640 : decode cL_law 1640 = .ok (.iconst 1, 1) := by decide +kernel
theorem dL_law_1641 : decode cL_law 1641 = .ok (.ireturn, 1) := by decide +kernel
theorem mX8_feed : gMv yX8_feed cX8_feed 7 (some .int) RX8 5 := ⟨q204, q205, q1, q206, rfl, by decide, by decide, by decide +kernel⟩
theorem mX9_feed : gMv yX9_feed cX9_feed 9 (some .int) RX9 5 := ⟨q913, q914, q10, q915, rfl, by decide, by decide, by decide +kernel⟩
theorem mX8_end : gMv yX8_end cX8_end 2 (some .boolean) RX8 1 := ⟨q215, q216, q1, q217, rfl, by decide, by decide, by decide +kernel⟩
theorem mX9_end : gMv yX9_end cX9_end 2 (some .boolean) RX9 1 := ⟨q920, q921, q10, q922, rfl, by decide, by decide, by decide +kernel⟩
theorem mX8_fault : gMv yX8_fault cX8_fault 2 (some .int) RX8 1 := ⟨q219, q220, q1, q221, rfl, by decide, by decide, by decide +kernel⟩
theorem mX9_fault : gMv yX9_fault cX9_fault 2 (some .int) RX9 1 := ⟨q927, q928, q10, q929, rfl, by decide, by decide, by decide +kernel⟩
theorem mX8_text : gMv yX8_text cX8_text 2 (some .int) RX8 1 := ⟨q308, q309, q1, q310, rfl, by decide, by decide, by decide +kernel⟩
theorem mX9_text : gMv yX9_text cX9_text 2 (some .int) RX9 1 := ⟨q982, q983, q10, q984, rfl, by decide, by decide, by decide +kernel⟩
theorem mX8_rule : gMv yX8_rule cX8_rule 2 (some .int) RX8 1 := ⟨q400, q401, q1, q402, rfl, by decide, by decide, by decide +kernel⟩
theorem mX9_rule : gMv yX9_rule cX9_rule 2 (some .int) RX9 1 := ⟨q1145, q1146, q10, q1147, rfl, by decide, by decide, by decide +kernel⟩
theorem mX9_table : gMv yX9_table cX9_table 3 (some .int) RX9 2 := ⟨q1152, q1153, q10, q1154, rfl, by decide, by decide, by decide +kernel⟩
theorem mX9_thrown : gMv yX9_thrown cX9_thrown 1 (some .int) RX9 0 := ⟨q909, q910, q10, q911, rfl, by decide, by decide, by decide +kernel⟩
theorem mX8_cell : gMv yX8_cell cX8_cell 4 (some .int) RX8 3 := ⟨q409, q410, q1, q411, rfl, by decide, by decide, by decide +kernel⟩
theorem mX9_cell : gMv yX9_cell cX9_cell 4 (some .int) RX9 3 := ⟨q1156, q1157, q10, q1158, rfl, by decide, by decide, by decide +kernel⟩
theorem mX8_rows : gMv yX8_rows cX8_rows 1 (some .int) RX8 0 := ⟨q415, q416, q1, q417, rfl, by decide, by decide, by decide +kernel⟩
theorem mX9_rows : gMv yX9_rows cX9_rows 1 (some .int) RX9 0 := ⟨q1160, q1161, q10, q1162, rfl, by decide, by decide, by decide +kernel⟩
theorem mX8_row : gMv yX8_row cX8_row 3 (some .int) RX8 2 := ⟨q419, q420, q1, q421, rfl, by decide, by decide, by decide +kernel⟩
theorem mX9_row : gMv yX9_row cX9_row 3 (some .int) RX9 2 := ⟨q1164, q1165, q10, q1166, rfl, by decide, by decide, by decide +kernel⟩
theorem mX8_leaps : gMv yX8_leaps cX8_leaps 1 (some .int) RX8 0 := ⟨q434, q435, q1, q436, rfl, by decide, by decide, by decide +kernel⟩
theorem mX9_leaps_ : gMv yX9_leaps_ cX9_leaps_ 1 (some .int) RX9 0 := ⟨q1174, q1175, q10, q1176, rfl, by decide, by decide, by decide +kernel⟩
theorem mX8_beginnings : gMv yX8_beginnings cX8_beginnings 2 (some .int) RX8 1 := ⟨q438, q439, q1, q440, rfl, by decide, by decide, by decide +kernel⟩
theorem mX9_beginnings : gMv yX9_beginnings cX9_beginnings 2 (some .int) RX9 1 := ⟨q1178, q1179, q10, q1180, rfl, by decide, by decide, by decide +kernel⟩
theorem mX8_best : gMv yX8_best cX8_best 2 (some .int) RX8 1 := ⟨q442, q443, q1, q444, rfl, by decide, by decide, by decide +kernel⟩
theorem mX9_best : gMv yX9_best cX9_best 2 (some .int) RX9 1 := ⟨q1182, q1183, q10, q1184, rfl, by decide, by decide, by decide +kernel⟩
theorem mX8_plain : gMv yX8_plain cX8_plain 3 (some .int) RX8 0 := ⟨q451, q452, q1, q453, rfl, by decide, by decide, by decide +kernel⟩
theorem mX9_plain : gMv yX9_plain cX9_plain 3 (some .int) RX9 0 := ⟨q1189, q1190, q10, q1191, rfl, by decide, by decide, by decide +kernel⟩
theorem mX8_given : gMv yX8_given cX8_given 2 (some .int) RX8 1 := ⟨q456, q457, q1, q458, rfl, by decide, by decide, by decide +kernel⟩
theorem mX9_given : gMv yX9_given cX9_given 2 (some .int) RX9 1 := ⟨q1193, q1194, q10, q1195, rfl, by decide, by decide, by decide +kernel⟩
theorem mX8_without : gMv yX8_without cX8_without 3 (some .int) RX8 1 := ⟨q471, q472, q1, q473, rfl, by decide, by decide, by decide +kernel⟩
theorem mX9_without : gMv yX9_without cX9_without 4 (some .int) RX9 1 := ⟨q1203, q1204, q10, q1205, rfl, by decide, by decide, by decide +kernel⟩
theorem mX8_projected : gMv yX8_projected cX8_projected 2 (some .int) RX8 1 := ⟨q475, q476, q1, q477, rfl, by decide, by decide, by decide +kernel⟩
theorem mX9_projected : gMv yX9_projected cX9_projected 6 (some .int) RX9 1 := ⟨q1207, q1208, q10, q1209, rfl, by decide, by decide, by decide +kernel⟩
theorem mX8_times : gMv yX8_times cX8_times 3 (some .int) RX8 2 := ⟨q487, q488, q1, q489, rfl, by decide, by decide, by decide +kernel⟩
theorem mX9_times : gMv yX9_times cX9_times 3 (some .int) RX9 2 := ⟨q1214, q1215, q10, q1216, rfl, by decide, by decide, by decide +kernel⟩
theorem mX8_distinct : gMv yX8_distinct cX8_distinct 3 (some .int) RX8 2 := ⟨q497, q498, q1, q499, rfl, by decide, by decide, by decide +kernel⟩
theorem mX9_distinct : gMv yX9_distinct cX9_distinct 3 (some .int) RX9 2 := ⟨q1218, q1219, q10, q1220, rfl, by decide, by decide, by decide +kernel⟩
theorem mX8_tells : gMv yX8_tells cX8_tells 3 (some .boolean) RX8 2 := ⟨q517, q518, q1, q519, rfl, by decide, by decide, by decide +kernel⟩
theorem mX9_tells : gMv yX9_tells cX9_tells 3 (some .boolean) RX9 2 := ⟨q1225, q1226, q10, q1227, rfl, by decide, by decide, by decide +kernel⟩
theorem mX8_behind : gMv yX8_behind cX8_behind 6 (some .int) RX8 4 := ⟨q525, q526, q1, q527, rfl, by decide, by decide, by decide +kernel⟩
theorem mX9_behind : gMv yX9_behind cX9_behind 6 (some .int) RX9 4 := ⟨q1232, q1233, q10, q1234, rfl, by decide, by decide, by decide +kernel⟩
theorem mX8_has : gMv yX8_has cX8_has 6 (some .boolean) RX8 4 := ⟨q534, q535, q1, q536, rfl, by decide, by decide, by decide +kernel⟩
theorem mX9_has_ : gMv yX9_has_ cX9_has_ 6 (some .boolean) RX9 4 := ⟨q1242, q1243, q10, q1244, rfl, by decide, by decide, by decide +kernel⟩
theorem mX8_mean : gMv yX8_mean cX8_mean 2 (some .long) RX8 1 := ⟨q538, q539, q1, q540, rfl, by decide, by decide, by decide +kernel⟩
theorem mX9_mean : gMv yX9_mean cX9_mean 2 (some .long) RX9 1 := ⟨q1246, q1247, q10, q1248, rfl, by decide, by decide, by decide +kernel⟩
theorem mX8_meanAs : gMv yX8_meanAs cX8_meanAs 5 (some .int) RX8 2 := ⟨q552, q553, q1, q554, rfl, by decide, by decide, by decide +kernel⟩
theorem mX9_meanAs : gMv yX9_meanAs cX9_meanAs 3 (some .int) RX9 2 := ⟨q1266, q1267, q10, q1268, rfl, by decide, by decide, by decide +kernel⟩
theorem mX8_spread : gMv yX8_spread cX8_spread 2 (some .long) RX8 1 := ⟨q562, q563, q1, q564, rfl, by decide, by decide, by decide +kernel⟩
theorem mX9_spread : gMv yX9_spread cX9_spread 9 (some .long) RX9 1 := ⟨q1279, q1280, q10, q1281, rfl, by decide, by decide, by decide +kernel⟩
theorem mX8_skew : gMv yX8_skew cX8_skew 3 (some .int) RX8 1 := ⟨q571, q572, q1, q573, rfl, by decide, by decide, by decide +kernel⟩
theorem mX9_skew : gMv yX9_skew cX9_skew 3 (some .int) RX9 1 := ⟨q1283, q1284, q10, q1285, rfl, by decide, by decide, by decide +kernel⟩
theorem mX8_put : gMv yX8_put cX8_put 5 (some .int) RX8 4 := ⟨q575, q576, q1, q577, rfl, by decide, by decide, by decide +kernel⟩
theorem mX9_put : gMv yX9_put cX9_put 5 (some .int) RX9 4 := ⟨q1007, q1008, q10, q1009, rfl, by decide, by decide, by decide +kernel⟩
theorem mX8_take : gMv yX8_take cX8_take 5 (some .int) RX8 4 := ⟨q617, q618, q1, q619, rfl, by decide, by decide, by decide +kernel⟩
theorem mX9_take : gMv yX9_take cX9_take 5 (some .int) RX9 4 := ⟨q1105, q1106, q10, q1107, rfl, by decide, by decide, by decide +kernel⟩
theorem mX8_use : gMv yX8_use cX8_use 2 (some .int) RX8 1 := ⟨q621, q622, q1, q623, rfl, by decide, by decide, by decide +kernel⟩
theorem mX9_use : gMv yX9_use cX9_use 2 (some .int) RX9 1 := ⟨q1109, q1110, q10, q1111, rfl, by decide, by decide, by decide +kernel⟩
theorem mX8_order : gMv yX8_order cX8_order 3 (some .int) RX8 1 := ⟨q625, q626, q1, q627, rfl, by decide, by decide, by decide +kernel⟩
theorem mX9_order : gMv yX9_order cX9_order 2 (some .int) RX9 1 := ⟨q1113, q1114, q10, q1115, rfl, by decide, by decide, by decide +kernel⟩
theorem mX8_ways : gMv yX8_ways cX8_ways 5 (some .int) RX8 2 := ⟨q629, q630, q1, q631, rfl, by decide, by decide, by decide +kernel⟩
theorem mX9_ways : gMv yX9_ways cX9_ways 5 (some .int) RX9 2 := ⟨q1117, q1118, q10, q1119, rfl, by decide, by decide, by decide +kernel⟩
theorem mX8_status : gMv yX8_status cX8_status 2 (some .int) RX8 1 := ⟨q642, q643, q1, q644, rfl, by decide, by decide, by decide +kernel⟩
theorem mX9_status : gMv yX9_status cX9_status 2 (some .int) RX9 1 := ⟨q1132, q1133, q10, q1134, rfl, by decide, by decide, by decide +kernel⟩
theorem mX8_undo : gMv yX8_undo cX8_undo 1 (some .int) RX8 0 := ⟨q646, q647, q1, q648, rfl, by decide, by decide, by decide +kernel⟩
theorem mX9_undo : gMv yX9_undo cX9_undo 2 (some .int) RX9 0 := ⟨q1136, q1137, q10, q1138, rfl, by decide, by decide, by decide +kernel⟩
theorem mX8_log : gMv yX8_log cX8_log 3 (some .int) RX8 2 := ⟨q675, q676, q1, q677, rfl, by decide, by decide, by decide +kernel⟩
theorem mX9_log : gMv yX9_log cX9_log 3 (some .int) RX9 2 := ⟨q1140, q1141, q10, q1142, rfl, by decide, by decide, by decide +kernel⟩
theorem mX8_would : gMv yX8_would cX8_would 6 (some .int) RX8 5 := ⟨q687, q688, q1, q689, rfl, by decide, by decide, by decide +kernel⟩
theorem mX9_would : gMv yX9_would cX9_would 6 (some .int) RX9 5 := ⟨q1287, q1288, q10, q1289, rfl, by decide, by decide, by decide +kernel⟩
theorem mX8_step : gMv yX8_step cX8_step 4 (some .int) RX8 3 := ⟨q691, q692, q1, q693, rfl, by decide, by decide, by decide +kernel⟩
theorem mX9_step : gMv yX9_step cX9_step 4 (some .int) RX9 3 := ⟨q1297, q1298, q10, q1299, rfl, by decide, by decide, by decide +kernel⟩
theorem mX8_run : gMv yX8_run cX8_run 4 (some .int) RX8 2 := ⟨q702, q703, q1, q704, rfl, by decide, by decide, by decide +kernel⟩
theorem mX9_run : gMv yX9_run cX9_run 5 (some .int) RX9 2 := ⟨q1304, q1305, q10, q1306, rfl, by decide, by decide, by decide +kernel⟩
theorem mX8_perform : gMv yX8_perform cX8_perform 5 (some .int) RX8 1 := ⟨q714, q715, q1, q716, rfl, by decide, by decide, by decide +kernel⟩
theorem mX9_perform : gMv yX9_perform cX9_perform 2 (some .int) RX9 1 := ⟨q1311, q1312, q10, q1313, rfl, by decide, by decide, by decide +kernel⟩
theorem mX8_most : gMv yX8_most cX8_most 2 (some .int) RX8 1 := ⟨q718, q719, q1, q720, rfl, by decide, by decide, by decide +kernel⟩
theorem mX9_most : gMv yX9_most cX9_most 2 (some .int) RX9 1 := ⟨q1315, q1316, q10, q1317, rfl, by decide, by decide, by decide +kernel⟩
theorem mX8_image : gMv yX8_image cX8_image 1 (some .int) RX8 0 := ⟨q748, q749, q1, q750, rfl, by decide, by decide, by decide +kernel⟩
theorem mX9_image : gMv yX9_image cX9_image 2 (some .int) RX9 0 := ⟨q1334, q1335, q10, q1336, rfl, by decide, by decide, by decide +kernel⟩
theorem mX8_back : gMv yX8_back cX8_back 1 (some .int) RX8 0 := ⟨q757, q758, q1, q759, rfl, by decide, by decide, by decide +kernel⟩
theorem mX9_back : gMv yX9_back cX9_back 2 (some .int) RX9 0 := ⟨q1338, q1339, q10, q1340, rfl, by decide, by decide, by decide +kernel⟩
theorem mX8_count : gMv yX8_count cX8_count 2 (some .int) RX8 1 := ⟨q761, q762, q1, q763, rfl, by decide, by decide, by decide +kernel⟩
theorem mX9_count : gMv yX9_count cX9_count 2 (some .int) RX9 1 := ⟨q1342, q1343, q10, q1344, rfl, by decide, by decide, by decide +kernel⟩
section LROWS
variable {z : gZ} {S : List gS} {E : gE} {own : String} {cc : ByteArray} {rm : Room} {nL pc : Nat} {L : List (Nat × Value)} {st : List Value} {I : gM} {J : gN}
theorem g_sld (F : Fx z S E own cc rm nL) {b n : Nat} {xs : Nat → Int32} {i v : Int32} (hX : va_X b n xs (zs z) (zs z).heap) (hbl : b < (zs z).heap.size) (hbA : ¬ zA z b) (hin : vp_in i n) (hv : xs i.toNatClampNeg = v) (hd : decode cc pc = .ok (.iaload, 1)) (K : G z (pc + 1) L (.int v :: st) I J) : G z pc L (.int i :: .ref b :: st) I J := by
  obtain ⟨hx, hb, hml, hown, hts, hK, hD, hk0, rfl, rfl, rfl, rfl⟩ := F
  intro H locs ls hP hS hl
  exact va_sld hx hb hX hbl hbA hS hin hd (by rw [hv]; exact K H locs ls hP hS hl)
theorem g_slen (F : Fx z S E own cc rm nL) {b n : Nat} {xs : Nat → Int32} (hX : va_X b n xs (zs z) (zs z).heap) (hbl : b < (zs z).heap.size) (hbA : ¬ zA z b) (hd : decode cc pc = .ok (.arraylength, 1)) (K : G z (pc + 1) L (.int (Int32.ofNat n) :: st) I J) : G z pc L (.ref b :: st) I J := by
  obtain ⟨hx, hb, hml, hown, hts, hK, hD, hk0, rfl, rfl, rfl, rfl⟩ := F
  intro H locs ls hP hS hl
  exact va_slen hx hb hX hbl hbA hS hd (K H locs ls hP hS hl)
theorem g_lcmpE (F : Fx z S E own cc rm nL) {x : Int64} (hd : decode cc pc = .ok (.lcmp, 1)) (K : G z (pc + 1) L (.int 0 :: st) I J) : G z pc L (.long x :: .long x :: st) I J := by
  obtain ⟨hx, hb, hml, hown, hts, hK, hD, hk0, rfl, rfl, rfl, rfl⟩ := F
  intro H locs ls hP hS hl
  have e : lg_cmp x x = 0 := by
    have h1 : ¬ x < x := Int64.lt_irrefl
    simp [lg_cmp, h1]
  exact W.lcmp hx hb hd (by rw [e]; exact K H locs ls hP hS hl)
end LROWS
/-- the machine's place with more cells made -/
abbrev zUp (z : gZ) (k n : Nat) : gZ := (z.1, (zk z + k, zn z + n, zQ z), z.2.2)
theorem Fx.up {z : gZ} {S : List gS} {E : gE} {own : String} {cc : ByteArray} {rm : Room} {nL : Nat} (F : Fx z S E own cc rm nL) {k n : Nat} (h : zk z + k ≤ rm.cells ∧ zn z + n ≤ rm.slots) : Fx (zUp z k n) S E own cc rm nL := by
  obtain ⟨hx, hb, hml, hown, hts, hK, hD, hk0, h1, h2, h3, h4⟩ := F
  exact ⟨hx, hb, hml, hown, hts, hK, hD, h, h1, h2, h3, h4⟩
theorem g_tab {z : gZ} {E : gE} {pc : Nat} {L : List (Nat × Value)} {st rest : List Value} {a1 a2 : Int32} {sa : Nat} (F : Fx z sh E RL cL_law room_1 7) (hE : gDist sh E) (hfl : (zl z).stackTraces = false) (hX : jx_X (zA z) sa (zs z).heap (zs z)) (hst : st = (jx_avL E a1 a2).reverse ++ rest) (hW : (rest.map fun v => v.category).sum ≤ 8) (hk : zk z + 1 ≤ room_1.cells ∧ zn z + 6 ≤ room_1.slots) (hcw : Cond.codeWith yL_table cL_table 5 (some .int) jx_hh ∈ gw) (hm : Cond.static yL_table ∈ gw ∧ Cond.initialized RL ∈ gw ∧ Cond.methodLink RL 42 yL_table ∈ gw)
    (hd : decode cL_law pc = .ok (.invokestatic 42, 3)) (K : G (zUp z 1 6) (pc + 3) L (.int 1 :: rest) g0 h0) : G z pc L st g0 h0 := by
  obtain ⟨hx, hb, hml, hown, hts, hK, hD, hk0, hL, hR, hS0, hE0⟩ := F
  have hAA : ∀ q, gA sh E q → zA z q := g_AA (S := sh) (E := E) hD
  intro H locs ls hP hS hl
  rw [hS0, hE0] at hP
  unfold gW
  rw [hR]
  have hXH : jx_X (gA sh E) sa H (zs z) := (hX.kept hS.2.1).narrow hAA
  have cw : vx_CSW room_1 (zs z) (za z) RL 42 yL_table cL_table 5 (some .int) jx_hh jx_wsL ({ frames := 8, cells := 1, slots := 6, locals := 512 } : Room) 1 6 4 :=
    ⟨⟨rfl, rfl, Nat.le_of_ble_eq_true rfl, Nat.le_of_ble_eq_true rfl, pay_in hts (gw_good0 hcw), List.mem_cons_self⟩, hts _ hcw, hts _ hm.2.1, ⟨by decide, by decide⟩, fun sig h => by
      have e : (parseMethodDescriptor yL_table.desc).map (fun d => d.parameters.length) = some 4 := by decide +kernel
      rw [h] at e
      exact (Option.some.inj e).symm, hts _ hm.2.2, hts _ hm.1⟩
  refine vx_calli (vx_runSX (As := jx_avL E a1 a2) (rest := rest) ⟨hx, hb, hml.trans hL.symm, hown, hts⟩ (kL_table (zl z) hfl E hE sa a1 a2) cw ⟨jx_blind, fun U hU hW => ⟨rfl, by rw [hU]; exact hP, va_K.moved hW.alike hK, by rw [hU]; exact jx_X.warm hW hXH⟩⟩ rfl rfl hl.1 hst (g_room hW) hd hk) hS (fun q _ h => hAA q h) (fun q h => hAA q h) (fun q _ h => h.elim) (fun C ce q9 u t H1 locs1 ht hvm hpx hBX hz hk hS1 hce hcv hcl => hpx.elim) (fun r u t H1 locs1 ht hvm hpost hB hz hk hS1 => ?_)
  obtain rfl := hpost
  rw [ht] at hB
  have K2 := K H1 locs1 ls (by rw [show zS (zUp z 1 6) = sh from hS0, show zE (zUp z 1 6) = E from hE0]; exact hB) hS1 hl
  unfold gW at K2
  rw [show zR (zUp z 1 6) = room_1 from hR] at K2
  exact K2
theorem law_fin {z : gZ} {E : gE} {b : Nat} {Lc : List (Nat × Value)} {I : gM} {J : gN} (F : Fx z sh E RL cL_law room_1 7) (hza : za z = #[Value.ref b]) (hzQ : zQ z = lw_Z (zb z) #[Value.ref b] (zs z)) (hret : (zh z).sig.returnType = ret) (hlk : (zh z).locks = false) (hzA : ∀ q, zA z q → (zs z).heap.size ≤ q) (hk : zk z ≤ 600002 ∧ zn z ≤ 7302232) : G z 1640 Lc [] I J := by
  refine g_iconst (v := 1) F dL_law_1640 (by decide) ?_
  obtain ⟨hx, hb, hml, hown, hts, hK, hD, hk0, hL, hR, hS0, hE0⟩ := F
  intro H locs ls hP hS hl
  unfold gW
  rw [hza, hzQ, hR]
  refine va_forget (fun q hq => hzA _ (hS.2.2 q hq)) ?_
  refine W.widen (k := 600002) (n := 7302232) hk.1 hk.2 ?_
  refine W.base ?_
  exact lw_ret (Drawn.sameBut.refl (zs z).drawn lw_cs) hx hb hret hlk dL_law_1641
theorem law_end {z : gZ} {E : gE} {b : Nat} {xs : Nat → Int32} (F : Fx z sh E RL cL_law room_1 7) (hza : za z = #[Value.ref b]) (hzQ : zQ z = lw_Z (zb z) #[Value.ref b] (zs z)) (hret : (zh z).sig.returnType = ret) (hlk : (zh z).locks = false) (hzA : ∀ q, zA z q → (zs z).heap.size ≤ q) (hX : va_X b 6 xs (zs z) (zs z).heap) (hbl : b < (zs z).heap.size) (hbA : ¬ zA z b) (hk : zk z ≤ 600002 ∧ zn z ≤ 7302232) (I : gM) (J : gN) : G z 1634 [(4, .int 0), (0, .ref b)] [] I J := by
  refine g_iinc (v := 6) (Ln := [(4, .int 6), (0, .ref b)]) F 0 dL_law_1634 rfl (by decide) (by decide) rfl ?_
  refine g_goto (tgt := 23) F dL_law_1637 (by decide) ?_
  refine g_iload F 0 dL_law_23 rfl ?_
  refine g_aload_n F 1 dL_law_25 rfl rfl ?_
  refine g_slen F hX hbl hbA dL_law_26 ?_
  refine g_bipush (v := 6) F dL_law_27 (by decide) ?_
  refine g_isub (v := 0) F dL_law_29 (by decide) ?_
  refine g_icmp_gt (tgt := 1640) F dL_law_30 (by decide) (fun _ => ?_) (fun h => absurd (by decide) h)
  exact law_fin F hza hzQ hret hlk hzA hk
theorem law_short {z : gZ} {E : gE} {b n : Nat} {xs : Nat → Int32} {v : Int32} {L : List (Nat × Value)} {I : gM} {J : gN} (F : Fx z sh E RL cL_law room_1 7) (hza : za z = #[Value.ref b]) (hzQ : zQ z = lw_Z (zb z) #[Value.ref b] (zs z)) (hret : (zh z).sig.returnType = ret) (hlk : (zh z).locks = false) (hzA : ∀ q, zA z q → (zs z).heap.size ≤ q) (hX : va_X b n xs (zs z) (zs z).heap) (hbl : b < (zs z).heap.size) (hbA : ¬ zA z b) (hk : zk z ≤ 600002 ∧ zn z ≤ 7302232) (hv : Int32.ofNat n - 6 = v) (h0 : v < 0) : G z 23 ((4, .int 0) :: (3, .ref (E.2.1 90)) :: (2, .ref (E.2.1 62)) :: (1, .ref (E.2.1 0)) :: (0, .ref b) :: L) [] I J := by
  refine g_iload F 0 dL_law_23 rfl ?_
  refine g_aload_n F 4 dL_law_25 rfl rfl ?_
  refine g_slen F hX hbl hbA dL_law_26 ?_
  refine g_bipush (v := 6) F dL_law_27 (by decide) ?_
  refine g_isub (v := v) F dL_law_29 hv ?_
  refine g_icmp_gt (tgt := 1640) F dL_law_30 (by decide) (fun _ => ?_) (fun h => absurd h0 h)
  exact law_fin F hza hzQ hret hlk hzA hk
theorem TX_0 : TX [] g0 := ⟨by decide, rfl, fun j h => absurd h (Nat.not_lt_zero j)⟩
theorem TM_0 {I : gM} : TM [] (g9 I) := ⟨by decide, rfl, fun j h => absurd h (Nat.not_lt_zero j)⟩
set_option maxRecDepth 100000 in
set_option maxHeartbeats 4000000 in
theorem law_c0 {z : gZ} {E : gE} {b : Nat} {xs : Nat → Int32} (F : Fx z sh E RL cL_law room_1 7) (hE : gDist sh E) (hX : va_X b 6 xs (zs z) (zs z).heap) (hbl : b < (zs z).heap.size) (hbA : ¬ zA z b) (hend : ∀ I J, G z 1634 [(4, .int 0), (0, .ref b)] [] I J) : G z 220 [(4, .int 0), (3, .ref (E.2.1 90)), (2, .ref (E.2.1 62)), (1, .ref (E.2.1 0)), (0, .ref b)] [] g0 h0 := by
  refine g_aload_n F 3 dL_law_220 rfl rfl ?_
  refine g_aload_n F 4 dL_law_221 rfl rfl ?_
  refine g_iload F 0 dL_law_222 rfl ?_
  refine g_iconst (v := 1) F dL_law_224 (by decide) ?_
  refine g_iadd (v := 1) F dL_law_225 (by decide) ?_
  refine g_sld (v := xs 1) F hX hbl hbA (vp_in_nI (n := 1) (by decide) (by decide)) (congrArg xs (nI_clamp (n := 1) (by decide))) dL_law_226 ?_
  refine g_aload_n F 4 dL_law_227 rfl rfl ?_
  refine g_iload F 0 dL_law_228 rfl ?_
  refine g_iconst (v := 2) F dL_law_230 (by decide) ?_
  refine g_iadd (v := 2) F dL_law_231 (by decide) ?_
  refine g_sld (v := xs 2) F hX hbl hbA (vp_in_nI (n := 2) (by decide) (by decide)) (congrArg xs (nI_clamp (n := 2) (by decide))) dL_law_232 ?_
  refine g_aload_n F 4 dL_law_233 rfl rfl ?_
  refine g_iload F 0 dL_law_234 rfl ?_
  refine g_iconst (v := 3) F dL_law_236 (by decide) ?_
  refine g_iadd (v := 3) F dL_law_237 (by decide) ?_
  refine g_sld (v := xs 3) F hX hbl hbA (vp_in_nI (n := 3) (by decide) (by decide)) (congrArg xs (nI_clamp (n := 3) (by decide))) dL_law_238 ?_
  refine g_aload_n F 4 dL_law_239 rfl rfl ?_
  refine g_iload F 0 dL_law_240 rfl ?_
  refine g_iconst (v := 4) F dL_law_242 (by decide) ?_
  refine g_iadd (v := 4) F dL_law_243 (by decide) ?_
  refine g_sld (v := xs 4) F hX hbl hbA (vp_in_nI (n := 4) (by decide) (by decide)) (congrArg xs (nI_clamp (n := 4) (by decide))) dL_law_244 ?_
  refine g_aload_n F 4 dL_law_245 rfl rfl ?_
  refine g_iload F 0 dL_law_246 rfl ?_
  refine g_iconst (v := 5) F dL_law_248 (by decide) ?_
  refine g_iadd (v := 5) F dL_law_249 (by decide) ?_
  refine g_sld (v := xs 5) F hX hbl hbA (vp_in_nI (n := 5) (by decide) (by decide)) (congrArg xs (nI_clamp (n := 5) (by decide))) dL_law_250 ?_
  refine g_callV (k := 0) (As := [.int (xs 1), .int (xs 2), .int (xs 3), .int (xs 4), .int (xs 5)]) (rest := []) F (kX8_feed (zl z) E hE _ _ (xs 1) (xs 2) (xs 3) (xs 4) (xs 5) [] TX_0) mX8_feed q203 rfl s0 rfl rfl rfl (Nat.le_of_ble_eq_true rfl) dL_law_251 (fun r I1 J1 h1 => ?_)
  rcases h1 with ⟨hf1, rfl, ht1, hfr1, rfl⟩ | ⟨hf1, rfl, rfl, rfl⟩
  · have hz : Z9 I1 h0 := ⟨fun k j hk => hfr1 k j (fun q => by rcases q with ⟨q, -⟩ | q <;> omega), fun _ _ _ => rfl⟩
    refine g_mem (Z9_g hz) (Z9_h hz) ?_
    refine g_st (sn := [.int (iI (([] ++ bl (xs 1) (xs 2) (xs 3) (xs 4) (xs 5)).length : Nat))]) rfl ?_
    refine g_aload_n F 2 dL_law_254 rfl rfl ?_
    refine g_aload_n F 4 dL_law_255 rfl rfl ?_
    refine g_iload F 0 dL_law_256 rfl ?_
    refine g_iconst (v := 1) F dL_law_258 (by decide) ?_
    refine g_iadd (v := 1) F dL_law_259 (by decide) ?_
    refine g_sld (v := xs 1) F hX hbl hbA (vp_in_nI (n := 1) (by decide) (by decide)) (congrArg xs (nI_clamp (n := 1) (by decide))) dL_law_260 ?_
    refine g_aload_n F 4 dL_law_261 rfl rfl ?_
    refine g_iload F 0 dL_law_262 rfl ?_
    refine g_iconst (v := 2) F dL_law_264 (by decide) ?_
    refine g_iadd (v := 2) F dL_law_265 (by decide) ?_
    refine g_sld (v := xs 2) F hX hbl hbA (vp_in_nI (n := 2) (by decide) (by decide)) (congrArg xs (nI_clamp (n := 2) (by decide))) dL_law_266 ?_
    refine g_aload_n F 4 dL_law_267 rfl rfl ?_
    refine g_iload F 0 dL_law_268 rfl ?_
    refine g_iconst (v := 3) F dL_law_270 (by decide) ?_
    refine g_iadd (v := 3) F dL_law_271 (by decide) ?_
    refine g_sld (v := xs 3) F hX hbl hbA (vp_in_nI (n := 3) (by decide) (by decide)) (congrArg xs (nI_clamp (n := 3) (by decide))) dL_law_272 ?_
    refine g_aload_n F 4 dL_law_273 rfl rfl ?_
    refine g_iload F 0 dL_law_274 rfl ?_
    refine g_iconst (v := 4) F dL_law_276 (by decide) ?_
    refine g_iadd (v := 4) F dL_law_277 (by decide) ?_
    refine g_sld (v := xs 4) F hX hbl hbA (vp_in_nI (n := 4) (by decide) (by decide)) (congrArg xs (nI_clamp (n := 4) (by decide))) dL_law_278 ?_
    refine g_aload_n F 4 dL_law_279 rfl rfl ?_
    refine g_iload F 0 dL_law_280 rfl ?_
    refine g_iconst (v := 5) F dL_law_282 (by decide) ?_
    refine g_iadd (v := 5) F dL_law_283 (by decide) ?_
    refine g_sld (v := xs 5) F hX hbl hbA (vp_in_nI (n := 5) (by decide) (by decide)) (congrArg xs (nI_clamp (n := 5) (by decide))) dL_law_284 ?_
    refine g_callV (k := 62) (As := [.int (xs 1), .int (xs 2), .int (xs 3), .int (xs 4), .int (xs 5)]) (rest := [.int (iI (([] ++ bl (xs 1) (xs 2) (xs 3) (xs 4) (xs 5)).length : Nat))]) F (kX9_feed (zl z) E hE _ _ (xs 1) (xs 2) (xs 3) (xs 4) (xs 5) [] TM_0) mX9_feed q912 rfl s62 rfl rfl rfl (Nat.le_of_ble_eq_true rfl) dL_law_285 (fun r2 I2 J2 h2 => ?_)
    rcases h2 with ⟨hf2, rfl, -, -, -⟩ | ⟨hf2, rfl, -, -⟩
    · refine g_st (sn := [.int (iI (([] ++ bl (xs 1) (xs 2) (xs 3) (xs 4) (xs 5)).length : Nat)), .int (iI (([] ++ bl (xs 1) (xs 2) (xs 3) (xs 4) (xs 5)).length : Nat))]) rfl ?_
      refine g_icmp_eq (tgt := 1634) F dL_law_288 (by decide) (fun _ => ?_) (fun h => absurd rfl h)
      refine g_sub (Ln := [(4, .int 0), (0, .ref b)]) [0, 4] rfl ?_
      exact hend _ _
    · exact absurd hf1 hf2
  · have hz : Z9 g0 h0 := Z9_0
    refine g_mem (Z9_g hz) (Z9_h hz) ?_
    refine g_st (sn := [.int (-1)]) rfl ?_
    refine g_aload_n F 2 dL_law_254 rfl rfl ?_
    refine g_aload_n F 4 dL_law_255 rfl rfl ?_
    refine g_iload F 0 dL_law_256 rfl ?_
    refine g_iconst (v := 1) F dL_law_258 (by decide) ?_
    refine g_iadd (v := 1) F dL_law_259 (by decide) ?_
    refine g_sld (v := xs 1) F hX hbl hbA (vp_in_nI (n := 1) (by decide) (by decide)) (congrArg xs (nI_clamp (n := 1) (by decide))) dL_law_260 ?_
    refine g_aload_n F 4 dL_law_261 rfl rfl ?_
    refine g_iload F 0 dL_law_262 rfl ?_
    refine g_iconst (v := 2) F dL_law_264 (by decide) ?_
    refine g_iadd (v := 2) F dL_law_265 (by decide) ?_
    refine g_sld (v := xs 2) F hX hbl hbA (vp_in_nI (n := 2) (by decide) (by decide)) (congrArg xs (nI_clamp (n := 2) (by decide))) dL_law_266 ?_
    refine g_aload_n F 4 dL_law_267 rfl rfl ?_
    refine g_iload F 0 dL_law_268 rfl ?_
    refine g_iconst (v := 3) F dL_law_270 (by decide) ?_
    refine g_iadd (v := 3) F dL_law_271 (by decide) ?_
    refine g_sld (v := xs 3) F hX hbl hbA (vp_in_nI (n := 3) (by decide) (by decide)) (congrArg xs (nI_clamp (n := 3) (by decide))) dL_law_272 ?_
    refine g_aload_n F 4 dL_law_273 rfl rfl ?_
    refine g_iload F 0 dL_law_274 rfl ?_
    refine g_iconst (v := 4) F dL_law_276 (by decide) ?_
    refine g_iadd (v := 4) F dL_law_277 (by decide) ?_
    refine g_sld (v := xs 4) F hX hbl hbA (vp_in_nI (n := 4) (by decide) (by decide)) (congrArg xs (nI_clamp (n := 4) (by decide))) dL_law_278 ?_
    refine g_aload_n F 4 dL_law_279 rfl rfl ?_
    refine g_iload F 0 dL_law_280 rfl ?_
    refine g_iconst (v := 5) F dL_law_282 (by decide) ?_
    refine g_iadd (v := 5) F dL_law_283 (by decide) ?_
    refine g_sld (v := xs 5) F hX hbl hbA (vp_in_nI (n := 5) (by decide) (by decide)) (congrArg xs (nI_clamp (n := 5) (by decide))) dL_law_284 ?_
    refine g_callV (k := 62) (As := [.int (xs 1), .int (xs 2), .int (xs 3), .int (xs 4), .int (xs 5)]) (rest := [.int (-1)]) F (kX9_feed (zl z) E hE _ _ (xs 1) (xs 2) (xs 3) (xs 4) (xs 5) [] TM_0) mX9_feed q912 rfl s62 rfl rfl rfl (Nat.le_of_ble_eq_true rfl) dL_law_285 (fun r2 I2 J2 h2 => ?_)
    rcases h2 with ⟨hf2, rfl, -, -, -⟩ | ⟨hf2, rfl, -, -⟩
    · exact absurd hf2 hf1
    · refine g_st (sn := [.int (-1), .int (-1)]) rfl ?_
      refine g_icmp_eq (tgt := 1634) F dL_law_288 (by decide) (fun _ => ?_) (fun h => absurd rfl h)
      refine g_sub (Ln := [(4, .int 0), (0, .ref b)]) [0, 4] rfl ?_
      exact hend _ _
set_option maxRecDepth 100000 in
set_option maxHeartbeats 4000000 in
theorem law_c1 {z : gZ} {E : gE} {b : Nat} {xs : Nat → Int32} (F : Fx z sh E RL cL_law room_1 7) (hE : gDist sh E) (hX : va_X b 6 xs (zs z) (zs z).heap) (hbl : b < (zs z).heap.size) (hbA : ¬ zA z b) (hend : ∀ I J, G z 1634 [(4, .int 0), (0, .ref b)] [] I J) : G z 293 [(4, .int 0), (3, .ref (E.2.1 90)), (2, .ref (E.2.1 62)), (1, .ref (E.2.1 0)), (0, .ref b)] [] g0 h0 := by
  refine g_aload_n F 3 dL_law_293 rfl rfl ?_
  refine g_aload_n F 4 dL_law_294 rfl rfl ?_
  refine g_iload F 0 dL_law_295 rfl ?_
  refine g_iconst (v := 1) F dL_law_297 (by decide) ?_
  refine g_iadd (v := 1) F dL_law_298 (by decide) ?_
  refine g_sld (v := xs 1) F hX hbl hbA (vp_in_nI (n := 1) (by decide) (by decide)) (congrArg xs (nI_clamp (n := 1) (by decide))) dL_law_299 ?_
  refine g_callV (k := 0) (As := [.int (xs 1)]) (rest := []) F (kX8_end (zl z) E hE (xs 1)) mX8_end q214 rfl s0 rfl rfl rfl (Nat.le_of_ble_eq_true rfl) dL_law_300 (fun r I1 J1 h1 => ?_)
  obtain ⟨rfl, hz⟩ := h1
  refine g_mem (Z9_g hz) (Z9_h hz) ?_
  refine g_st (sn := [.int (if (xs 1) = 0 then 1 else 0)]) rfl ?_
  refine g_aload_n F 2 dL_law_303 rfl rfl ?_
  refine g_aload_n F 4 dL_law_304 rfl rfl ?_
  refine g_iload F 0 dL_law_305 rfl ?_
  refine g_iconst (v := 1) F dL_law_307 (by decide) ?_
  refine g_iadd (v := 1) F dL_law_308 (by decide) ?_
  refine g_sld (v := xs 1) F hX hbl hbA (vp_in_nI (n := 1) (by decide) (by decide)) (congrArg xs (nI_clamp (n := 1) (by decide))) dL_law_309 ?_
  refine g_callV (k := 62) (As := [.int (xs 1)]) (rest := [.int (if (xs 1) = 0 then 1 else 0)]) F (kX9_end (zl z) E hE _ _ (xs 1)) mX9_end q919 rfl s62 rfl rfl rfl (Nat.le_of_ble_eq_true rfl) dL_law_310 (fun r I2 J2 h2 => ?_)
  obtain rfl := h2
  refine g_st (sn := [.int (if (xs 1) = 0 then 1 else 0), .int (if (xs 1) = 0 then 1 else 0)]) rfl ?_
  refine g_icmp_eq (tgt := 1634) F dL_law_313 (by decide) (fun _ => ?_) (fun h => absurd rfl h)
  refine g_sub (Ln := [(4, .int 0), (0, .ref b)]) [0, 4] rfl ?_
  exact hend _ _
set_option maxRecDepth 100000 in
set_option maxHeartbeats 4000000 in
theorem law_c2 {z : gZ} {E : gE} {b : Nat} {xs : Nat → Int32} (F : Fx z sh E RL cL_law room_1 7) (hE : gDist sh E) (hX : va_X b 6 xs (zs z) (zs z).heap) (hbl : b < (zs z).heap.size) (hbA : ¬ zA z b) (hend : ∀ I J, G z 1634 [(4, .int 0), (0, .ref b)] [] I J) : G z 318 [(4, .int 0), (3, .ref (E.2.1 90)), (2, .ref (E.2.1 62)), (1, .ref (E.2.1 0)), (0, .ref b)] [] g0 h0 := by
  refine g_aload_n F 3 dL_law_318 rfl rfl ?_
  refine g_aload_n F 4 dL_law_319 rfl rfl ?_
  refine g_iload F 0 dL_law_320 rfl ?_
  refine g_iconst (v := 1) F dL_law_322 (by decide) ?_
  refine g_iadd (v := 1) F dL_law_323 (by decide) ?_
  refine g_sld (v := xs 1) F hX hbl hbA (vp_in_nI (n := 1) (by decide) (by decide)) (congrArg xs (nI_clamp (n := 1) (by decide))) dL_law_324 ?_
  refine g_callV (k := 0) (As := [.int (xs 1)]) (rest := []) F (kX8_fault (zl z) E hE (xs 1)) mX8_fault q218 rfl s0 rfl rfl rfl (Nat.le_of_ble_eq_true rfl) dL_law_325 (fun r I1 J1 h1 => ?_)
  obtain ⟨rfl, hz⟩ := h1
  refine g_mem (Z9_g hz) (Z9_h hz) ?_
  refine g_st (sn := [.int (if (xs 1) = 0 ∨ (xs 1) = 1 then 0 else (-2))]) rfl ?_
  refine g_aload_n F 2 dL_law_328 rfl rfl ?_
  refine g_aload_n F 4 dL_law_329 rfl rfl ?_
  refine g_iload F 0 dL_law_330 rfl ?_
  refine g_iconst (v := 1) F dL_law_332 (by decide) ?_
  refine g_iadd (v := 1) F dL_law_333 (by decide) ?_
  refine g_sld (v := xs 1) F hX hbl hbA (vp_in_nI (n := 1) (by decide) (by decide)) (congrArg xs (nI_clamp (n := 1) (by decide))) dL_law_334 ?_
  refine g_callV (k := 62) (As := [.int (xs 1)]) (rest := [.int (if (xs 1) = 0 ∨ (xs 1) = 1 then 0 else (-2))]) F (kX9_fault (zl z) E hE _ _ (xs 1)) mX9_fault q926 rfl s62 rfl rfl rfl (Nat.le_of_ble_eq_true rfl) dL_law_335 (fun r I2 J2 h2 => ?_)
  obtain rfl := h2
  refine g_st (sn := [.int (if (xs 1) = 0 ∨ (xs 1) = 1 then 0 else (-2)), .int (if (xs 1) = 0 ∨ (xs 1) = 1 then 0 else (-2))]) rfl ?_
  refine g_icmp_eq (tgt := 1634) F dL_law_338 (by decide) (fun _ => ?_) (fun h => absurd rfl h)
  refine g_sub (Ln := [(4, .int 0), (0, .ref b)]) [0, 4] rfl ?_
  exact hend _ _
set_option maxRecDepth 100000 in
set_option maxHeartbeats 4000000 in
theorem law_c3 {z : gZ} {E : gE} {b : Nat} {xs : Nat → Int32} (F : Fx z sh E RL cL_law room_1 7) (hE : gDist sh E) (hX : va_X b 6 xs (zs z) (zs z).heap) (hbl : b < (zs z).heap.size) (hbA : ¬ zA z b) (hend : ∀ I J, G z 1634 [(4, .int 0), (0, .ref b)] [] I J) : G z 343 [(4, .int 0), (3, .ref (E.2.1 90)), (2, .ref (E.2.1 62)), (1, .ref (E.2.1 0)), (0, .ref b)] [] g0 h0 := by
  refine g_aload_n F 3 dL_law_343 rfl rfl ?_
  refine g_aload_n F 4 dL_law_344 rfl rfl ?_
  refine g_iload F 0 dL_law_345 rfl ?_
  refine g_iconst (v := 1) F dL_law_347 (by decide) ?_
  refine g_iadd (v := 1) F dL_law_348 (by decide) ?_
  refine g_sld (v := xs 1) F hX hbl hbA (vp_in_nI (n := 1) (by decide) (by decide)) (congrArg xs (nI_clamp (n := 1) (by decide))) dL_law_349 ?_
  refine g_callV (k := 0) (As := [.int (xs 1)]) (rest := []) F (kX8_text (zl z) E hE (xs 1)) mX8_text q307 rfl s0 rfl rfl rfl (Nat.le_of_ble_eq_true rfl) dL_law_350 (fun r I1 J1 h1 => ?_)
  obtain ⟨rfl, hz⟩ := h1
  refine g_mem (Z9_g hz) (Z9_h hz) ?_
  refine g_st (sn := [.int (-1)]) rfl ?_
  refine g_aload_n F 2 dL_law_353 rfl rfl ?_
  refine g_aload_n F 4 dL_law_354 rfl rfl ?_
  refine g_iload F 0 dL_law_355 rfl ?_
  refine g_iconst (v := 1) F dL_law_357 (by decide) ?_
  refine g_iadd (v := 1) F dL_law_358 (by decide) ?_
  refine g_sld (v := xs 1) F hX hbl hbA (vp_in_nI (n := 1) (by decide) (by decide)) (congrArg xs (nI_clamp (n := 1) (by decide))) dL_law_359 ?_
  refine g_callV (k := 62) (As := [.int (xs 1)]) (rest := [.int (-1)]) F (kX9_text (zl z) E hE _ _ (xs 1)) mX9_text q981 rfl s62 rfl rfl rfl (Nat.le_of_ble_eq_true rfl) dL_law_360 (fun r I2 J2 h2 => ?_)
  obtain rfl := h2
  refine g_st (sn := [.int (-1), .int (-1)]) rfl ?_
  refine g_icmp_eq (tgt := 1634) F dL_law_363 (by decide) (fun _ => ?_) (fun h => absurd rfl h)
  refine g_sub (Ln := [(4, .int 0), (0, .ref b)]) [0, 4] rfl ?_
  exact hend _ _
set_option maxRecDepth 100000 in
set_option maxHeartbeats 4000000 in
theorem law_c4 {z : gZ} {E : gE} {b : Nat} {xs : Nat → Int32} (F : Fx z sh E RL cL_law room_1 7) (hE : gDist sh E) (hX : va_X b 6 xs (zs z) (zs z).heap) (hbl : b < (zs z).heap.size) (hbA : ¬ zA z b) (hend : ∀ I J, G z 1634 [(4, .int 0), (0, .ref b)] [] I J) : G z 368 [(4, .int 0), (3, .ref (E.2.1 90)), (2, .ref (E.2.1 62)), (1, .ref (E.2.1 0)), (0, .ref b)] [] g0 h0 := by
  refine g_aload_n F 3 dL_law_368 rfl rfl ?_
  refine g_aload_n F 4 dL_law_369 rfl rfl ?_
  refine g_iload F 0 dL_law_370 rfl ?_
  refine g_iconst (v := 1) F dL_law_372 (by decide) ?_
  refine g_iadd (v := 1) F dL_law_373 (by decide) ?_
  refine g_sld (v := xs 1) F hX hbl hbA (vp_in_nI (n := 1) (by decide) (by decide)) (congrArg xs (nI_clamp (n := 1) (by decide))) dL_law_374 ?_
  refine g_callV (k := 0) (As := [.int (xs 1)]) (rest := []) F (kX8_rule (zl z) E hE (xs 1)) mX8_rule q399 rfl s0 rfl rfl rfl (Nat.le_of_ble_eq_true rfl) dL_law_375 (fun r I1 J1 h1 => ?_)
  obtain ⟨rfl, hz⟩ := h1
  refine g_mem (Z9_g hz) (Z9_h hz) ?_
  refine g_st (sn := [.int (-1)]) rfl ?_
  refine g_aload_n F 2 dL_law_378 rfl rfl ?_
  refine g_aload_n F 4 dL_law_379 rfl rfl ?_
  refine g_iload F 0 dL_law_380 rfl ?_
  refine g_iconst (v := 1) F dL_law_382 (by decide) ?_
  refine g_iadd (v := 1) F dL_law_383 (by decide) ?_
  refine g_sld (v := xs 1) F hX hbl hbA (vp_in_nI (n := 1) (by decide) (by decide)) (congrArg xs (nI_clamp (n := 1) (by decide))) dL_law_384 ?_
  refine g_callV (k := 62) (As := [.int (xs 1)]) (rest := [.int (-1)]) F (kX9_rule (zl z) E hE _ _ (xs 1)) mX9_rule q1144 rfl s62 rfl rfl rfl (Nat.le_of_ble_eq_true rfl) dL_law_385 (fun r I2 J2 h2 => ?_)
  obtain rfl := h2
  refine g_st (sn := [.int (-1), .int (-1)]) rfl ?_
  refine g_icmp_eq (tgt := 1634) F dL_law_388 (by decide) (fun _ => ?_) (fun h => absurd rfl h)
  refine g_sub (Ln := [(4, .int 0), (0, .ref b)]) [0, 4] rfl ?_
  exact hend _ _
set_option maxRecDepth 100000 in
set_option maxHeartbeats 4000000 in
theorem law_c5 {z : gZ} {E : gE} {b : Nat} {xs : Nat → Int32} (F : Fx z sh E RL cL_law room_1 7) (hE : gDist sh E) (hX : va_X b 6 xs (zs z) (zs z).heap) (hbl : b < (zs z).heap.size) (hbA : ¬ zA z b) {sa : Nat} (hfl : (zl z).stackTraces = false) (hjx : jx_X (zA z) sa (zs z).heap (zs z)) (hkx : zk z + 1 ≤ room_1.cells ∧ zn z + 6 ≤ room_1.slots) (hcwt : Cond.codeWith yL_table cL_table 5 (some .int) jx_hh ∈ gw) (hmt : Cond.static yL_table ∈ gw ∧ Cond.initialized RL ∈ gw ∧ Cond.methodLink RL 42 yL_table ∈ gw) (hend : ∀ I J, G (zUp z 1 6) 1634 [(4, .int 0), (0, .ref b)] [] I J) : G z 393 [(4, .int 0), (3, .ref (E.2.1 90)), (2, .ref (E.2.1 62)), (1, .ref (E.2.1 0)), (0, .ref b)] [] g0 h0 := by
  refine g_aload_n F 3 dL_law_393 rfl rfl ?_
  refine g_aload_n F 4 dL_law_394 rfl rfl ?_
  refine g_iload F 0 dL_law_395 rfl ?_
  refine g_iconst (v := 1) F dL_law_397 (by decide) ?_
  refine g_iadd (v := 1) F dL_law_398 (by decide) ?_
  refine g_sld (v := xs 1) F hX hbl hbA (vp_in_nI (n := 1) (by decide) (by decide)) (congrArg xs (nI_clamp (n := 1) (by decide))) dL_law_399 ?_
  refine g_aload_n F 4 dL_law_400 rfl rfl ?_
  refine g_iload F 0 dL_law_401 rfl ?_
  refine g_iconst (v := 2) F dL_law_403 (by decide) ?_
  refine g_iadd (v := 2) F dL_law_404 (by decide) ?_
  refine g_sld (v := xs 2) F hX hbl hbA (vp_in_nI (n := 2) (by decide) (by decide)) (congrArg xs (nI_clamp (n := 2) (by decide))) dL_law_405 ?_
  refine g_aload_n F 1 dL_law_406 rfl rfl ?_
  refine g_tab (a1 := xs 1) (a2 := xs 2) (rest := []) F hE hfl hjx rfl (Nat.le_of_ble_eq_true rfl) hkx hcwt hmt dL_law_407 ?_
  have F := F.up hkx
  refine g_mem (Z9_g Z9_0) (Z9_h Z9_0) ?_
  refine g_istore (Ln := [(5, .int 1), (4, .int 0), (3, .ref (E.2.1 90)), (2, .ref (E.2.1 62)), (1, .ref (E.2.1 0)), (0, .ref b)]) F dL_law_410 (by decide) rfl ?_
  refine g_aload_n F 3 dL_law_412 rfl rfl ?_
  refine g_aload_n F 5 dL_law_413 rfl rfl ?_
  refine g_iload F 1 dL_law_414 rfl ?_
  refine g_iconst (v := 1) F dL_law_416 (by decide) ?_
  refine g_iadd (v := 1) F dL_law_417 (by decide) ?_
  refine g_sld (v := xs 1) F hX hbl hbA (vp_in_nI (n := 1) (by decide) (by decide)) (congrArg xs (nI_clamp (n := 1) (by decide))) dL_law_418 ?_
  refine g_aload_n F 5 dL_law_419 rfl rfl ?_
  refine g_iload F 1 dL_law_420 rfl ?_
  refine g_iconst (v := 2) F dL_law_422 (by decide) ?_
  refine g_iadd (v := 2) F dL_law_423 (by decide) ?_
  refine g_sld (v := xs 2) F hX hbl hbA (vp_in_nI (n := 2) (by decide) (by decide)) (congrArg xs (nI_clamp (n := 2) (by decide))) dL_law_424 ?_
  refine g_callV (k := 62) (As := [.int (xs 1), .int (xs 2)]) (rest := []) F (kX9_table (zl z) E hE _ _ (xs 1) (xs 2)) mX9_table q1151 rfl s62 rfl rfl rfl (Nat.le_of_ble_eq_true rfl) dL_law_425 (fun r I1 J1 h1 => ?_)
  obtain ⟨rfl, rfl, rfl⟩ := h1
  refine g_st (sn := [.int 0]) rfl ?_
  refine g_istore (Ln := [(6, .int 0), (5, .int 1), (4, .int 0), (3, .ref (E.2.1 90)), (2, .ref (E.2.1 62)), (1, .ref (E.2.1 0)), (0, .ref b)]) F dL_law_428 (by decide) rfl ?_
  refine g_aload_n F 4 dL_law_430 rfl rfl ?_
  refine g_callV (k := 62) (As := []) (rest := []) F (kX9_thrown (zl z) E hE _ _) mX9_thrown q908 rfl s62 rfl rfl rfl (Nat.le_of_ble_eq_true rfl) dL_law_431 (fun r I2 J2 h2 => ?_)
  obtain ⟨rfl, rfl, rfl⟩ := h2
  refine g_st (sn := [.int 1]) rfl ?_
  refine g_iload F 1 dL_law_434 rfl ?_
  refine g_icmp_eq (tgt := 441) F dL_law_436 (by decide) (fun _ => ?_) (fun h => absurd rfl h)
  refine g_iload F 1 dL_law_441 rfl ?_
  refine g_if_ne (tgt := 458) F dL_law_443 (by decide) (fun _ => ?_) (fun h => absurd h (by decide))
  refine g_goto (tgt := 1634) F dL_law_458 (by decide) ?_
  refine g_sub (Ln := [(4, .int 0), (0, .ref b)]) [2, 6] rfl ?_
  exact hend _ _
set_option maxRecDepth 100000 in
set_option maxHeartbeats 4000000 in
theorem law_c6 {z : gZ} {E : gE} {b : Nat} {xs : Nat → Int32} (F : Fx z sh E RL cL_law room_1 7) (hE : gDist sh E) (hX : va_X b 6 xs (zs z) (zs z).heap) (hbl : b < (zs z).heap.size) (hbA : ¬ zA z b) (hend : ∀ I J, G z 1634 [(4, .int 0), (0, .ref b)] [] I J) : G z 461 [(4, .int 0), (3, .ref (E.2.1 90)), (2, .ref (E.2.1 62)), (1, .ref (E.2.1 0)), (0, .ref b)] [] g0 h0 := by
  refine g_aload_n F 3 dL_law_461 rfl rfl ?_
  refine g_aload_n F 4 dL_law_462 rfl rfl ?_
  refine g_iload F 0 dL_law_463 rfl ?_
  refine g_iconst (v := 1) F dL_law_465 (by decide) ?_
  refine g_iadd (v := 1) F dL_law_466 (by decide) ?_
  refine g_sld (v := xs 1) F hX hbl hbA (vp_in_nI (n := 1) (by decide) (by decide)) (congrArg xs (nI_clamp (n := 1) (by decide))) dL_law_467 ?_
  refine g_aload_n F 4 dL_law_468 rfl rfl ?_
  refine g_iload F 0 dL_law_469 rfl ?_
  refine g_iconst (v := 2) F dL_law_471 (by decide) ?_
  refine g_iadd (v := 2) F dL_law_472 (by decide) ?_
  refine g_sld (v := xs 2) F hX hbl hbA (vp_in_nI (n := 2) (by decide) (by decide)) (congrArg xs (nI_clamp (n := 2) (by decide))) dL_law_473 ?_
  refine g_aload_n F 4 dL_law_474 rfl rfl ?_
  refine g_iload F 0 dL_law_475 rfl ?_
  refine g_iconst (v := 3) F dL_law_477 (by decide) ?_
  refine g_iadd (v := 3) F dL_law_478 (by decide) ?_
  refine g_sld (v := xs 3) F hX hbl hbA (vp_in_nI (n := 3) (by decide) (by decide)) (congrArg xs (nI_clamp (n := 3) (by decide))) dL_law_479 ?_
  refine g_callV (k := 0) (As := [.int (xs 1), .int (xs 2), .int (xs 3)]) (rest := []) F (kX8_cell (zl z) E hE (xs 1) (xs 2) (xs 3)) mX8_cell q408 rfl s0 rfl rfl rfl (Nat.le_of_ble_eq_true rfl) dL_law_480 (fun r I1 J1 h1 => ?_)
  obtain ⟨rfl, hz⟩ := h1
  refine g_mem (Z9_g hz) (Z9_h hz) ?_
  refine g_st (sn := [.int (-1)]) rfl ?_
  refine g_aload_n F 2 dL_law_483 rfl rfl ?_
  refine g_aload_n F 4 dL_law_484 rfl rfl ?_
  refine g_iload F 0 dL_law_485 rfl ?_
  refine g_iconst (v := 1) F dL_law_487 (by decide) ?_
  refine g_iadd (v := 1) F dL_law_488 (by decide) ?_
  refine g_sld (v := xs 1) F hX hbl hbA (vp_in_nI (n := 1) (by decide) (by decide)) (congrArg xs (nI_clamp (n := 1) (by decide))) dL_law_489 ?_
  refine g_aload_n F 4 dL_law_490 rfl rfl ?_
  refine g_iload F 0 dL_law_491 rfl ?_
  refine g_iconst (v := 2) F dL_law_493 (by decide) ?_
  refine g_iadd (v := 2) F dL_law_494 (by decide) ?_
  refine g_sld (v := xs 2) F hX hbl hbA (vp_in_nI (n := 2) (by decide) (by decide)) (congrArg xs (nI_clamp (n := 2) (by decide))) dL_law_495 ?_
  refine g_aload_n F 4 dL_law_496 rfl rfl ?_
  refine g_iload F 0 dL_law_497 rfl ?_
  refine g_iconst (v := 3) F dL_law_499 (by decide) ?_
  refine g_iadd (v := 3) F dL_law_500 (by decide) ?_
  refine g_sld (v := xs 3) F hX hbl hbA (vp_in_nI (n := 3) (by decide) (by decide)) (congrArg xs (nI_clamp (n := 3) (by decide))) dL_law_501 ?_
  refine g_callV (k := 62) (As := [.int (xs 1), .int (xs 2), .int (xs 3)]) (rest := [.int (-1)]) F (kX9_cell (zl z) E hE _ _ (xs 1) (xs 2) (xs 3)) mX9_cell q1155 rfl s62 rfl rfl rfl (Nat.le_of_ble_eq_true rfl) dL_law_502 (fun r I2 J2 h2 => ?_)
  obtain rfl := h2
  refine g_st (sn := [.int (-1), .int (-1)]) rfl ?_
  refine g_icmp_eq (tgt := 1634) F dL_law_505 (by decide) (fun _ => ?_) (fun h => absurd rfl h)
  refine g_sub (Ln := [(4, .int 0), (0, .ref b)]) [0, 4] rfl ?_
  exact hend _ _
set_option maxRecDepth 100000 in
set_option maxHeartbeats 4000000 in
theorem law_c7 {z : gZ} {E : gE} {b : Nat} {xs : Nat → Int32} (F : Fx z sh E RL cL_law room_1 7) (hE : gDist sh E) (hX : va_X b 6 xs (zs z) (zs z).heap) (hbl : b < (zs z).heap.size) (hbA : ¬ zA z b) (hend : ∀ I J, G z 1634 [(4, .int 0), (0, .ref b)] [] I J) : G z 510 [(4, .int 0), (3, .ref (E.2.1 90)), (2, .ref (E.2.1 62)), (1, .ref (E.2.1 0)), (0, .ref b)] [] g0 h0 := by
  refine g_aload_n F 3 dL_law_510 rfl rfl ?_
  refine g_callV (k := 0) (As := []) (rest := []) F (kX8_rows (zl z) E hE) mX8_rows q414 rfl s0 rfl rfl rfl (Nat.le_of_ble_eq_true rfl) dL_law_511 (fun r I1 J1 h1 => ?_)
  obtain ⟨rfl, hz⟩ := h1
  refine g_mem (Z9_g hz) (Z9_h hz) ?_
  refine g_st (sn := [.int (-1)]) rfl ?_
  refine g_aload_n F 2 dL_law_514 rfl rfl ?_
  refine g_callV (k := 62) (As := []) (rest := [.int (-1)]) F (kX9_rows (zl z) E hE _ _) mX9_rows q1159 rfl s62 rfl rfl rfl (Nat.le_of_ble_eq_true rfl) dL_law_515 (fun r I2 J2 h2 => ?_)
  obtain rfl := h2
  refine g_st (sn := [.int (-1), .int (-1)]) rfl ?_
  refine g_icmp_eq (tgt := 1634) F dL_law_518 (by decide) (fun _ => ?_) (fun h => absurd rfl h)
  refine g_sub (Ln := [(4, .int 0), (0, .ref b)]) [0, 4] rfl ?_
  exact hend _ _
set_option maxRecDepth 100000 in
set_option maxHeartbeats 4000000 in
theorem law_c8 {z : gZ} {E : gE} {b : Nat} {xs : Nat → Int32} (F : Fx z sh E RL cL_law room_1 7) (hE : gDist sh E) (hX : va_X b 6 xs (zs z) (zs z).heap) (hbl : b < (zs z).heap.size) (hbA : ¬ zA z b) (hend : ∀ I J, G z 1634 [(4, .int 0), (0, .ref b)] [] I J) : G z 523 [(4, .int 0), (3, .ref (E.2.1 90)), (2, .ref (E.2.1 62)), (1, .ref (E.2.1 0)), (0, .ref b)] [] g0 h0 := by
  refine g_aload_n F 3 dL_law_523 rfl rfl ?_
  refine g_aload_n F 4 dL_law_524 rfl rfl ?_
  refine g_iload F 0 dL_law_525 rfl ?_
  refine g_iconst (v := 1) F dL_law_527 (by decide) ?_
  refine g_iadd (v := 1) F dL_law_528 (by decide) ?_
  refine g_sld (v := xs 1) F hX hbl hbA (vp_in_nI (n := 1) (by decide) (by decide)) (congrArg xs (nI_clamp (n := 1) (by decide))) dL_law_529 ?_
  refine g_aload_n F 4 dL_law_530 rfl rfl ?_
  refine g_iload F 0 dL_law_531 rfl ?_
  refine g_iconst (v := 2) F dL_law_533 (by decide) ?_
  refine g_iadd (v := 2) F dL_law_534 (by decide) ?_
  refine g_sld (v := xs 2) F hX hbl hbA (vp_in_nI (n := 2) (by decide) (by decide)) (congrArg xs (nI_clamp (n := 2) (by decide))) dL_law_535 ?_
  refine g_callV (k := 0) (As := [.int (xs 1), .int (xs 2)]) (rest := []) F (kX8_row (zl z) E hE (xs 1) (xs 2)) mX8_row q418 rfl s0 rfl rfl rfl (Nat.le_of_ble_eq_true rfl) dL_law_536 (fun r I1 J1 h1 => ?_)
  obtain ⟨rfl, hz⟩ := h1
  refine g_mem (Z9_g hz) (Z9_h hz) ?_
  refine g_st (sn := [.int (-1)]) rfl ?_
  refine g_aload_n F 2 dL_law_539 rfl rfl ?_
  refine g_aload_n F 4 dL_law_540 rfl rfl ?_
  refine g_iload F 0 dL_law_541 rfl ?_
  refine g_iconst (v := 1) F dL_law_543 (by decide) ?_
  refine g_iadd (v := 1) F dL_law_544 (by decide) ?_
  refine g_sld (v := xs 1) F hX hbl hbA (vp_in_nI (n := 1) (by decide) (by decide)) (congrArg xs (nI_clamp (n := 1) (by decide))) dL_law_545 ?_
  refine g_aload_n F 4 dL_law_546 rfl rfl ?_
  refine g_iload F 0 dL_law_547 rfl ?_
  refine g_iconst (v := 2) F dL_law_549 (by decide) ?_
  refine g_iadd (v := 2) F dL_law_550 (by decide) ?_
  refine g_sld (v := xs 2) F hX hbl hbA (vp_in_nI (n := 2) (by decide) (by decide)) (congrArg xs (nI_clamp (n := 2) (by decide))) dL_law_551 ?_
  refine g_callV (k := 62) (As := [.int (xs 1), .int (xs 2)]) (rest := [.int (-1)]) F (kX9_row (zl z) E hE _ _ (xs 1) (xs 2)) mX9_row q1163 rfl s62 rfl rfl rfl (Nat.le_of_ble_eq_true rfl) dL_law_552 (fun r I2 J2 h2 => ?_)
  obtain rfl := h2
  refine g_st (sn := [.int (-1), .int (-1)]) rfl ?_
  refine g_icmp_eq (tgt := 1634) F dL_law_555 (by decide) (fun _ => ?_) (fun h => absurd rfl h)
  refine g_sub (Ln := [(4, .int 0), (0, .ref b)]) [0, 4] rfl ?_
  exact hend _ _
set_option maxRecDepth 100000 in
set_option maxHeartbeats 4000000 in
theorem law_c9 {z : gZ} {E : gE} {b : Nat} {xs : Nat → Int32} (F : Fx z sh E RL cL_law room_1 7) (hE : gDist sh E) (hX : va_X b 6 xs (zs z) (zs z).heap) (hbl : b < (zs z).heap.size) (hbA : ¬ zA z b) (hend : ∀ I J, G z 1634 [(4, .int 0), (0, .ref b)] [] I J) : G z 560 [(4, .int 0), (3, .ref (E.2.1 90)), (2, .ref (E.2.1 62)), (1, .ref (E.2.1 0)), (0, .ref b)] [] g0 h0 := by
  refine g_aload_n F 3 dL_law_560 rfl rfl ?_
  refine g_callV (k := 0) (As := []) (rest := []) F (kX8_leaps (zl z) E hE) mX8_leaps q433 rfl s0 rfl rfl rfl (Nat.le_of_ble_eq_true rfl) dL_law_561 (fun r I1 J1 h1 => ?_)
  obtain ⟨rfl, hz⟩ := h1
  refine g_mem (Z9_g hz) (Z9_h hz) ?_
  refine g_st (sn := [.int (-1)]) rfl ?_
  refine g_aload_n F 2 dL_law_564 rfl rfl ?_
  refine g_callV (k := 62) (As := []) (rest := [.int (-1)]) F (kX9_leaps_ (zl z) E hE _ _) mX9_leaps_ q1173 rfl s62 rfl rfl rfl (Nat.le_of_ble_eq_true rfl) dL_law_565 (fun r I2 J2 h2 => ?_)
  obtain rfl := h2
  refine g_st (sn := [.int (-1), .int (-1)]) rfl ?_
  refine g_icmp_eq (tgt := 1634) F dL_law_568 (by decide) (fun _ => ?_) (fun h => absurd rfl h)
  refine g_sub (Ln := [(4, .int 0), (0, .ref b)]) [0, 4] rfl ?_
  exact hend _ _
set_option maxRecDepth 100000 in
set_option maxHeartbeats 4000000 in
theorem law_c10 {z : gZ} {E : gE} {b : Nat} {xs : Nat → Int32} (F : Fx z sh E RL cL_law room_1 7) (hE : gDist sh E) (hX : va_X b 6 xs (zs z) (zs z).heap) (hbl : b < (zs z).heap.size) (hbA : ¬ zA z b) (hend : ∀ I J, G z 1634 [(4, .int 0), (0, .ref b)] [] I J) : G z 573 [(4, .int 0), (3, .ref (E.2.1 90)), (2, .ref (E.2.1 62)), (1, .ref (E.2.1 0)), (0, .ref b)] [] g0 h0 := by
  refine g_aload_n F 3 dL_law_573 rfl rfl ?_
  refine g_aload_n F 4 dL_law_574 rfl rfl ?_
  refine g_iload F 0 dL_law_575 rfl ?_
  refine g_iconst (v := 1) F dL_law_577 (by decide) ?_
  refine g_iadd (v := 1) F dL_law_578 (by decide) ?_
  refine g_sld (v := xs 1) F hX hbl hbA (vp_in_nI (n := 1) (by decide) (by decide)) (congrArg xs (nI_clamp (n := 1) (by decide))) dL_law_579 ?_
  refine g_callV (k := 0) (As := [.int (xs 1)]) (rest := []) F (kX8_beginnings (zl z) E hE (xs 1)) mX8_beginnings q437 rfl s0 rfl rfl rfl (Nat.le_of_ble_eq_true rfl) dL_law_580 (fun r I1 J1 h1 => ?_)
  obtain ⟨rfl, hz⟩ := h1
  refine g_mem (Z9_g hz) (Z9_h hz) ?_
  refine g_st (sn := [.int (-1)]) rfl ?_
  refine g_aload_n F 2 dL_law_583 rfl rfl ?_
  refine g_aload_n F 4 dL_law_584 rfl rfl ?_
  refine g_iload F 0 dL_law_585 rfl ?_
  refine g_iconst (v := 1) F dL_law_587 (by decide) ?_
  refine g_iadd (v := 1) F dL_law_588 (by decide) ?_
  refine g_sld (v := xs 1) F hX hbl hbA (vp_in_nI (n := 1) (by decide) (by decide)) (congrArg xs (nI_clamp (n := 1) (by decide))) dL_law_589 ?_
  refine g_callV (k := 62) (As := [.int (xs 1)]) (rest := [.int (-1)]) F (kX9_beginnings (zl z) E hE _ _ (xs 1)) mX9_beginnings q1177 rfl s62 rfl rfl rfl (Nat.le_of_ble_eq_true rfl) dL_law_590 (fun r I2 J2 h2 => ?_)
  obtain rfl := h2
  refine g_st (sn := [.int (-1), .int (-1)]) rfl ?_
  refine g_icmp_eq (tgt := 1634) F dL_law_593 (by decide) (fun _ => ?_) (fun h => absurd rfl h)
  refine g_sub (Ln := [(4, .int 0), (0, .ref b)]) [0, 4] rfl ?_
  exact hend _ _
set_option maxRecDepth 100000 in
set_option maxHeartbeats 4000000 in
theorem law_c11 {z : gZ} {E : gE} {b : Nat} {xs : Nat → Int32} (F : Fx z sh E RL cL_law room_1 7) (hE : gDist sh E) (hX : va_X b 6 xs (zs z) (zs z).heap) (hbl : b < (zs z).heap.size) (hbA : ¬ zA z b) (hend : ∀ I J, G z 1634 [(4, .int 0), (0, .ref b)] [] I J) : G z 598 [(4, .int 0), (3, .ref (E.2.1 90)), (2, .ref (E.2.1 62)), (1, .ref (E.2.1 0)), (0, .ref b)] [] g0 h0 := by
  refine g_aload_n F 3 dL_law_598 rfl rfl ?_
  refine g_aload_n F 4 dL_law_599 rfl rfl ?_
  refine g_iload F 0 dL_law_600 rfl ?_
  refine g_iconst (v := 1) F dL_law_602 (by decide) ?_
  refine g_iadd (v := 1) F dL_law_603 (by decide) ?_
  refine g_sld (v := xs 1) F hX hbl hbA (vp_in_nI (n := 1) (by decide) (by decide)) (congrArg xs (nI_clamp (n := 1) (by decide))) dL_law_604 ?_
  refine g_callV (k := 0) (As := [.int (xs 1)]) (rest := []) F (kX8_best (zl z) E hE (xs 1)) mX8_best q441 rfl s0 rfl rfl rfl (Nat.le_of_ble_eq_true rfl) dL_law_605 (fun r I1 J1 h1 => ?_)
  obtain ⟨rfl, hz⟩ := h1
  refine g_mem (Z9_g hz) (Z9_h hz) ?_
  refine g_st (sn := [.int (-1)]) rfl ?_
  refine g_aload_n F 2 dL_law_608 rfl rfl ?_
  refine g_aload_n F 4 dL_law_609 rfl rfl ?_
  refine g_iload F 0 dL_law_610 rfl ?_
  refine g_iconst (v := 1) F dL_law_612 (by decide) ?_
  refine g_iadd (v := 1) F dL_law_613 (by decide) ?_
  refine g_sld (v := xs 1) F hX hbl hbA (vp_in_nI (n := 1) (by decide) (by decide)) (congrArg xs (nI_clamp (n := 1) (by decide))) dL_law_614 ?_
  refine g_callV (k := 62) (As := [.int (xs 1)]) (rest := [.int (-1)]) F (kX9_best (zl z) E hE _ _ (xs 1)) mX9_best q1181 rfl s62 rfl rfl rfl (Nat.le_of_ble_eq_true rfl) dL_law_615 (fun r I2 J2 h2 => ?_)
  obtain rfl := h2
  refine g_st (sn := [.int (-1), .int (-1)]) rfl ?_
  refine g_icmp_eq (tgt := 1634) F dL_law_618 (by decide) (fun _ => ?_) (fun h => absurd rfl h)
  refine g_sub (Ln := [(4, .int 0), (0, .ref b)]) [0, 4] rfl ?_
  exact hend _ _
set_option maxRecDepth 100000 in
set_option maxHeartbeats 4000000 in
theorem law_c12 {z : gZ} {E : gE} {b : Nat} {xs : Nat → Int32} (F : Fx z sh E RL cL_law room_1 7) (hE : gDist sh E) (hX : va_X b 6 xs (zs z) (zs z).heap) (hbl : b < (zs z).heap.size) (hbA : ¬ zA z b) (hend : ∀ I J, G z 1634 [(4, .int 0), (0, .ref b)] [] I J) : G z 623 [(4, .int 0), (3, .ref (E.2.1 90)), (2, .ref (E.2.1 62)), (1, .ref (E.2.1 0)), (0, .ref b)] [] g0 h0 := by
  refine g_aload_n F 3 dL_law_623 rfl rfl ?_
  refine g_callV (k := 0) (As := []) (rest := []) F (kX8_plain (zl z) E hE) mX8_plain q450 rfl s0 rfl rfl rfl (Nat.le_of_ble_eq_true rfl) dL_law_624 (fun r I1 J1 h1 => ?_)
  obtain ⟨rfl, hz⟩ := h1
  refine g_mem (Z9_g hz) (Z9_h hz) ?_
  refine g_st (sn := [.int (-1)]) rfl ?_
  refine g_aload_n F 2 dL_law_627 rfl rfl ?_
  refine g_callV (k := 62) (As := []) (rest := [.int (-1)]) F (kX9_plain (zl z) E hE _ _) mX9_plain q1188 rfl s62 rfl rfl rfl (Nat.le_of_ble_eq_true rfl) dL_law_628 (fun r I2 J2 h2 => ?_)
  obtain rfl := h2
  refine g_st (sn := [.int (-1), .int (-1)]) rfl ?_
  refine g_icmp_eq (tgt := 1634) F dL_law_631 (by decide) (fun _ => ?_) (fun h => absurd rfl h)
  refine g_sub (Ln := [(4, .int 0), (0, .ref b)]) [0, 4] rfl ?_
  exact hend _ _
set_option maxRecDepth 100000 in
set_option maxHeartbeats 4000000 in
theorem law_c13 {z : gZ} {E : gE} {b : Nat} {xs : Nat → Int32} (F : Fx z sh E RL cL_law room_1 7) (hE : gDist sh E) (hX : va_X b 6 xs (zs z) (zs z).heap) (hbl : b < (zs z).heap.size) (hbA : ¬ zA z b) (hend : ∀ I J, G z 1634 [(4, .int 0), (0, .ref b)] [] I J) : G z 636 [(4, .int 0), (3, .ref (E.2.1 90)), (2, .ref (E.2.1 62)), (1, .ref (E.2.1 0)), (0, .ref b)] [] g0 h0 := by
  refine g_aload_n F 3 dL_law_636 rfl rfl ?_
  refine g_aload_n F 4 dL_law_637 rfl rfl ?_
  refine g_iload F 0 dL_law_638 rfl ?_
  refine g_iconst (v := 1) F dL_law_640 (by decide) ?_
  refine g_iadd (v := 1) F dL_law_641 (by decide) ?_
  refine g_sld (v := xs 1) F hX hbl hbA (vp_in_nI (n := 1) (by decide) (by decide)) (congrArg xs (nI_clamp (n := 1) (by decide))) dL_law_642 ?_
  refine g_callV (k := 0) (As := [.int (xs 1)]) (rest := []) F (kX8_given (zl z) E hE (xs 1)) mX8_given q455 rfl s0 rfl rfl rfl (Nat.le_of_ble_eq_true rfl) dL_law_643 (fun r I1 J1 h1 => ?_)
  obtain ⟨rfl, hz⟩ := h1
  refine g_mem (Z9_g hz) (Z9_h hz) ?_
  refine g_st (sn := [.int (-1)]) rfl ?_
  refine g_aload_n F 2 dL_law_646 rfl rfl ?_
  refine g_aload_n F 4 dL_law_647 rfl rfl ?_
  refine g_iload F 0 dL_law_648 rfl ?_
  refine g_iconst (v := 1) F dL_law_650 (by decide) ?_
  refine g_iadd (v := 1) F dL_law_651 (by decide) ?_
  refine g_sld (v := xs 1) F hX hbl hbA (vp_in_nI (n := 1) (by decide) (by decide)) (congrArg xs (nI_clamp (n := 1) (by decide))) dL_law_652 ?_
  refine g_callV (k := 62) (As := [.int (xs 1)]) (rest := [.int (-1)]) F (kX9_given (zl z) E hE _ _ (xs 1)) mX9_given q1192 rfl s62 rfl rfl rfl (Nat.le_of_ble_eq_true rfl) dL_law_653 (fun r I2 J2 h2 => ?_)
  obtain rfl := h2
  refine g_st (sn := [.int (-1), .int (-1)]) rfl ?_
  refine g_icmp_eq (tgt := 1634) F dL_law_656 (by decide) (fun _ => ?_) (fun h => absurd rfl h)
  refine g_sub (Ln := [(4, .int 0), (0, .ref b)]) [0, 4] rfl ?_
  exact hend _ _
set_option maxRecDepth 100000 in
set_option maxHeartbeats 4000000 in
theorem law_c14 {z : gZ} {E : gE} {b : Nat} {xs : Nat → Int32} (F : Fx z sh E RL cL_law room_1 7) (hE : gDist sh E) (hX : va_X b 6 xs (zs z) (zs z).heap) (hbl : b < (zs z).heap.size) (hbA : ¬ zA z b) (hend : ∀ I J, G z 1634 [(4, .int 0), (0, .ref b)] [] I J) : G z 661 [(4, .int 0), (3, .ref (E.2.1 90)), (2, .ref (E.2.1 62)), (1, .ref (E.2.1 0)), (0, .ref b)] [] g0 h0 := by
  refine g_aload_n F 3 dL_law_661 rfl rfl ?_
  refine g_aload_n F 4 dL_law_662 rfl rfl ?_
  refine g_iload F 0 dL_law_663 rfl ?_
  refine g_iconst (v := 1) F dL_law_665 (by decide) ?_
  refine g_iadd (v := 1) F dL_law_666 (by decide) ?_
  refine g_sld (v := xs 1) F hX hbl hbA (vp_in_nI (n := 1) (by decide) (by decide)) (congrArg xs (nI_clamp (n := 1) (by decide))) dL_law_667 ?_
  refine g_callV (k := 0) (As := [.int (xs 1)]) (rest := []) F (kX8_without (zl z) E hE (xs 1)) mX8_without q470 rfl s0 rfl rfl rfl (Nat.le_of_ble_eq_true rfl) dL_law_668 (fun r I1 J1 h1 => ?_)
  obtain ⟨rfl, hz⟩ := h1
  refine g_mem (Z9_g hz) (Z9_h hz) ?_
  refine g_st (sn := [.int (-1)]) rfl ?_
  refine g_aload_n F 2 dL_law_671 rfl rfl ?_
  refine g_aload_n F 4 dL_law_672 rfl rfl ?_
  refine g_iload F 0 dL_law_673 rfl ?_
  refine g_iconst (v := 1) F dL_law_675 (by decide) ?_
  refine g_iadd (v := 1) F dL_law_676 (by decide) ?_
  refine g_sld (v := xs 1) F hX hbl hbA (vp_in_nI (n := 1) (by decide) (by decide)) (congrArg xs (nI_clamp (n := 1) (by decide))) dL_law_677 ?_
  refine g_callV (k := 62) (As := [.int (xs 1)]) (rest := [.int (-1)]) F (kX9_without (zl z) E hE _ _ (xs 1)) mX9_without q1202 rfl s62 rfl rfl rfl (Nat.le_of_ble_eq_true rfl) dL_law_678 (fun r I2 J2 h2 => ?_)
  obtain rfl := h2
  refine g_st (sn := [.int (-1), .int (-1)]) rfl ?_
  refine g_icmp_eq (tgt := 1634) F dL_law_681 (by decide) (fun _ => ?_) (fun h => absurd rfl h)
  refine g_sub (Ln := [(4, .int 0), (0, .ref b)]) [0, 4] rfl ?_
  exact hend _ _
set_option maxRecDepth 100000 in
set_option maxHeartbeats 4000000 in
theorem law_c15 {z : gZ} {E : gE} {b : Nat} {xs : Nat → Int32} (F : Fx z sh E RL cL_law room_1 7) (hE : gDist sh E) (hX : va_X b 6 xs (zs z) (zs z).heap) (hbl : b < (zs z).heap.size) (hbA : ¬ zA z b) (hend : ∀ I J, G z 1634 [(4, .int 0), (0, .ref b)] [] I J) : G z 686 [(4, .int 0), (3, .ref (E.2.1 90)), (2, .ref (E.2.1 62)), (1, .ref (E.2.1 0)), (0, .ref b)] [] g0 h0 := by
  refine g_aload_n F 3 dL_law_686 rfl rfl ?_
  refine g_aload_n F 4 dL_law_687 rfl rfl ?_
  refine g_iload F 0 dL_law_688 rfl ?_
  refine g_iconst (v := 1) F dL_law_690 (by decide) ?_
  refine g_iadd (v := 1) F dL_law_691 (by decide) ?_
  refine g_sld (v := xs 1) F hX hbl hbA (vp_in_nI (n := 1) (by decide) (by decide)) (congrArg xs (nI_clamp (n := 1) (by decide))) dL_law_692 ?_
  refine g_callV (k := 0) (As := [.int (xs 1)]) (rest := []) F (kX8_projected (zl z) E hE (xs 1)) mX8_projected q474 rfl s0 rfl rfl rfl (Nat.le_of_ble_eq_true rfl) dL_law_693 (fun r I1 J1 h1 => ?_)
  obtain ⟨rfl, hz⟩ := h1
  refine g_mem (Z9_g hz) (Z9_h hz) ?_
  refine g_st (sn := [.int (-1)]) rfl ?_
  refine g_aload_n F 2 dL_law_696 rfl rfl ?_
  refine g_aload_n F 4 dL_law_697 rfl rfl ?_
  refine g_iload F 0 dL_law_698 rfl ?_
  refine g_iconst (v := 1) F dL_law_700 (by decide) ?_
  refine g_iadd (v := 1) F dL_law_701 (by decide) ?_
  refine g_sld (v := xs 1) F hX hbl hbA (vp_in_nI (n := 1) (by decide) (by decide)) (congrArg xs (nI_clamp (n := 1) (by decide))) dL_law_702 ?_
  refine g_callV (k := 62) (As := [.int (xs 1)]) (rest := [.int (-1)]) F (kX9_projected (zl z) E hE _ _ (xs 1)) mX9_projected q1206 rfl s62 rfl rfl rfl (Nat.le_of_ble_eq_true rfl) dL_law_703 (fun r I2 J2 h2 => ?_)
  obtain rfl := h2
  refine g_st (sn := [.int (-1), .int (-1)]) rfl ?_
  refine g_icmp_eq (tgt := 1634) F dL_law_706 (by decide) (fun _ => ?_) (fun h => absurd rfl h)
  refine g_sub (Ln := [(4, .int 0), (0, .ref b)]) [0, 4] rfl ?_
  exact hend _ _
set_option maxRecDepth 100000 in
set_option maxHeartbeats 4000000 in
theorem law_c16 {z : gZ} {E : gE} {b : Nat} {xs : Nat → Int32} (F : Fx z sh E RL cL_law room_1 7) (hE : gDist sh E) (hX : va_X b 6 xs (zs z) (zs z).heap) (hbl : b < (zs z).heap.size) (hbA : ¬ zA z b) (hend : ∀ I J, G z 1634 [(4, .int 0), (0, .ref b)] [] I J) : G z 711 [(4, .int 0), (3, .ref (E.2.1 90)), (2, .ref (E.2.1 62)), (1, .ref (E.2.1 0)), (0, .ref b)] [] g0 h0 := by
  refine g_aload_n F 3 dL_law_711 rfl rfl ?_
  refine g_aload_n F 4 dL_law_712 rfl rfl ?_
  refine g_iload F 0 dL_law_713 rfl ?_
  refine g_iconst (v := 1) F dL_law_715 (by decide) ?_
  refine g_iadd (v := 1) F dL_law_716 (by decide) ?_
  refine g_sld (v := xs 1) F hX hbl hbA (vp_in_nI (n := 1) (by decide) (by decide)) (congrArg xs (nI_clamp (n := 1) (by decide))) dL_law_717 ?_
  refine g_aload_n F 4 dL_law_718 rfl rfl ?_
  refine g_iload F 0 dL_law_719 rfl ?_
  refine g_iconst (v := 2) F dL_law_721 (by decide) ?_
  refine g_iadd (v := 2) F dL_law_722 (by decide) ?_
  refine g_sld (v := xs 2) F hX hbl hbA (vp_in_nI (n := 2) (by decide) (by decide)) (congrArg xs (nI_clamp (n := 2) (by decide))) dL_law_723 ?_
  refine g_callV (k := 0) (As := [.int (xs 1), .int (xs 2)]) (rest := []) F (kX8_times (zl z) E hE (xs 1) (xs 2)) mX8_times q486 rfl s0 rfl rfl rfl (Nat.le_of_ble_eq_true rfl) dL_law_724 (fun r I1 J1 h1 => ?_)
  obtain ⟨rfl, hz⟩ := h1
  refine g_mem (Z9_g hz) (Z9_h hz) ?_
  refine g_st (sn := [.int (-1)]) rfl ?_
  refine g_aload_n F 2 dL_law_727 rfl rfl ?_
  refine g_aload_n F 4 dL_law_728 rfl rfl ?_
  refine g_iload F 0 dL_law_729 rfl ?_
  refine g_iconst (v := 1) F dL_law_731 (by decide) ?_
  refine g_iadd (v := 1) F dL_law_732 (by decide) ?_
  refine g_sld (v := xs 1) F hX hbl hbA (vp_in_nI (n := 1) (by decide) (by decide)) (congrArg xs (nI_clamp (n := 1) (by decide))) dL_law_733 ?_
  refine g_aload_n F 4 dL_law_734 rfl rfl ?_
  refine g_iload F 0 dL_law_735 rfl ?_
  refine g_iconst (v := 2) F dL_law_737 (by decide) ?_
  refine g_iadd (v := 2) F dL_law_738 (by decide) ?_
  refine g_sld (v := xs 2) F hX hbl hbA (vp_in_nI (n := 2) (by decide) (by decide)) (congrArg xs (nI_clamp (n := 2) (by decide))) dL_law_739 ?_
  refine g_callV (k := 62) (As := [.int (xs 1), .int (xs 2)]) (rest := [.int (-1)]) F (kX9_times (zl z) E hE _ _ (xs 1) (xs 2)) mX9_times q1213 rfl s62 rfl rfl rfl (Nat.le_of_ble_eq_true rfl) dL_law_740 (fun r I2 J2 h2 => ?_)
  obtain rfl := h2
  refine g_st (sn := [.int (-1), .int (-1)]) rfl ?_
  refine g_icmp_eq (tgt := 1634) F dL_law_743 (by decide) (fun _ => ?_) (fun h => absurd rfl h)
  refine g_sub (Ln := [(4, .int 0), (0, .ref b)]) [0, 4] rfl ?_
  exact hend _ _
set_option maxRecDepth 100000 in
set_option maxHeartbeats 4000000 in
theorem law_c17 {z : gZ} {E : gE} {b : Nat} {xs : Nat → Int32} (F : Fx z sh E RL cL_law room_1 7) (hE : gDist sh E) (hX : va_X b 6 xs (zs z) (zs z).heap) (hbl : b < (zs z).heap.size) (hbA : ¬ zA z b) (hend : ∀ I J, G z 1634 [(4, .int 0), (0, .ref b)] [] I J) : G z 748 [(4, .int 0), (3, .ref (E.2.1 90)), (2, .ref (E.2.1 62)), (1, .ref (E.2.1 0)), (0, .ref b)] [] g0 h0 := by
  refine g_aload_n F 3 dL_law_748 rfl rfl ?_
  refine g_aload_n F 4 dL_law_749 rfl rfl ?_
  refine g_iload F 0 dL_law_750 rfl ?_
  refine g_iconst (v := 1) F dL_law_752 (by decide) ?_
  refine g_iadd (v := 1) F dL_law_753 (by decide) ?_
  refine g_sld (v := xs 1) F hX hbl hbA (vp_in_nI (n := 1) (by decide) (by decide)) (congrArg xs (nI_clamp (n := 1) (by decide))) dL_law_754 ?_
  refine g_aload_n F 4 dL_law_755 rfl rfl ?_
  refine g_iload F 0 dL_law_756 rfl ?_
  refine g_iconst (v := 2) F dL_law_758 (by decide) ?_
  refine g_iadd (v := 2) F dL_law_759 (by decide) ?_
  refine g_sld (v := xs 2) F hX hbl hbA (vp_in_nI (n := 2) (by decide) (by decide)) (congrArg xs (nI_clamp (n := 2) (by decide))) dL_law_760 ?_
  refine g_callV (k := 0) (As := [.int (xs 1), .int (xs 2)]) (rest := []) F (kX8_distinct (zl z) E hE (xs 1) (xs 2)) mX8_distinct q496 rfl s0 rfl rfl rfl (Nat.le_of_ble_eq_true rfl) dL_law_761 (fun r I1 J1 h1 => ?_)
  obtain ⟨rfl, hz⟩ := h1
  refine g_mem (Z9_g hz) (Z9_h hz) ?_
  refine g_st (sn := [.int (-1)]) rfl ?_
  refine g_aload_n F 2 dL_law_764 rfl rfl ?_
  refine g_aload_n F 4 dL_law_765 rfl rfl ?_
  refine g_iload F 0 dL_law_766 rfl ?_
  refine g_iconst (v := 1) F dL_law_768 (by decide) ?_
  refine g_iadd (v := 1) F dL_law_769 (by decide) ?_
  refine g_sld (v := xs 1) F hX hbl hbA (vp_in_nI (n := 1) (by decide) (by decide)) (congrArg xs (nI_clamp (n := 1) (by decide))) dL_law_770 ?_
  refine g_aload_n F 4 dL_law_771 rfl rfl ?_
  refine g_iload F 0 dL_law_772 rfl ?_
  refine g_iconst (v := 2) F dL_law_774 (by decide) ?_
  refine g_iadd (v := 2) F dL_law_775 (by decide) ?_
  refine g_sld (v := xs 2) F hX hbl hbA (vp_in_nI (n := 2) (by decide) (by decide)) (congrArg xs (nI_clamp (n := 2) (by decide))) dL_law_776 ?_
  refine g_callV (k := 62) (As := [.int (xs 1), .int (xs 2)]) (rest := [.int (-1)]) F (kX9_distinct (zl z) E hE _ _ (xs 1) (xs 2)) mX9_distinct q1217 rfl s62 rfl rfl rfl (Nat.le_of_ble_eq_true rfl) dL_law_777 (fun r I2 J2 h2 => ?_)
  obtain rfl := h2
  refine g_st (sn := [.int (-1), .int (-1)]) rfl ?_
  refine g_icmp_eq (tgt := 1634) F dL_law_780 (by decide) (fun _ => ?_) (fun h => absurd rfl h)
  refine g_sub (Ln := [(4, .int 0), (0, .ref b)]) [0, 4] rfl ?_
  exact hend _ _
set_option maxRecDepth 100000 in
set_option maxHeartbeats 4000000 in
theorem law_c18 {z : gZ} {E : gE} {b : Nat} {xs : Nat → Int32} (F : Fx z sh E RL cL_law room_1 7) (hE : gDist sh E) (hX : va_X b 6 xs (zs z) (zs z).heap) (hbl : b < (zs z).heap.size) (hbA : ¬ zA z b) (hend : ∀ I J, G z 1634 [(4, .int 0), (0, .ref b)] [] I J) : G z 785 [(4, .int 0), (3, .ref (E.2.1 90)), (2, .ref (E.2.1 62)), (1, .ref (E.2.1 0)), (0, .ref b)] [] g0 h0 := by
  refine g_aload_n F 3 dL_law_785 rfl rfl ?_
  refine g_aload_n F 4 dL_law_786 rfl rfl ?_
  refine g_iload F 0 dL_law_787 rfl ?_
  refine g_iconst (v := 1) F dL_law_789 (by decide) ?_
  refine g_iadd (v := 1) F dL_law_790 (by decide) ?_
  refine g_sld (v := xs 1) F hX hbl hbA (vp_in_nI (n := 1) (by decide) (by decide)) (congrArg xs (nI_clamp (n := 1) (by decide))) dL_law_791 ?_
  refine g_aload_n F 4 dL_law_792 rfl rfl ?_
  refine g_iload F 0 dL_law_793 rfl ?_
  refine g_iconst (v := 2) F dL_law_795 (by decide) ?_
  refine g_iadd (v := 2) F dL_law_796 (by decide) ?_
  refine g_sld (v := xs 2) F hX hbl hbA (vp_in_nI (n := 2) (by decide) (by decide)) (congrArg xs (nI_clamp (n := 2) (by decide))) dL_law_797 ?_
  refine g_callV (k := 0) (As := [.int (xs 1), .int (xs 2)]) (rest := []) F (kX8_tells (zl z) E hE (xs 1) (xs 2)) mX8_tells q516 rfl s0 rfl rfl rfl (Nat.le_of_ble_eq_true rfl) dL_law_798 (fun r I1 J1 h1 => ?_)
  obtain ⟨rfl, hz⟩ := h1
  refine g_mem (Z9_g hz) (Z9_h hz) ?_
  refine g_st (sn := [.int (0)]) rfl ?_
  refine g_aload_n F 2 dL_law_801 rfl rfl ?_
  refine g_aload_n F 4 dL_law_802 rfl rfl ?_
  refine g_iload F 0 dL_law_803 rfl ?_
  refine g_iconst (v := 1) F dL_law_805 (by decide) ?_
  refine g_iadd (v := 1) F dL_law_806 (by decide) ?_
  refine g_sld (v := xs 1) F hX hbl hbA (vp_in_nI (n := 1) (by decide) (by decide)) (congrArg xs (nI_clamp (n := 1) (by decide))) dL_law_807 ?_
  refine g_aload_n F 4 dL_law_808 rfl rfl ?_
  refine g_iload F 0 dL_law_809 rfl ?_
  refine g_iconst (v := 2) F dL_law_811 (by decide) ?_
  refine g_iadd (v := 2) F dL_law_812 (by decide) ?_
  refine g_sld (v := xs 2) F hX hbl hbA (vp_in_nI (n := 2) (by decide) (by decide)) (congrArg xs (nI_clamp (n := 2) (by decide))) dL_law_813 ?_
  refine g_callV (k := 62) (As := [.int (xs 1), .int (xs 2)]) (rest := [.int (0)]) F (kX9_tells (zl z) E hE _ _ (xs 1) (xs 2)) mX9_tells q1224 rfl s62 rfl rfl rfl (Nat.le_of_ble_eq_true rfl) dL_law_814 (fun r I2 J2 h2 => ?_)
  obtain rfl := h2
  refine g_st (sn := [.int (0), .int (0)]) rfl ?_
  refine g_icmp_eq (tgt := 1634) F dL_law_817 (by decide) (fun _ => ?_) (fun h => absurd rfl h)
  refine g_sub (Ln := [(4, .int 0), (0, .ref b)]) [0, 4] rfl ?_
  exact hend _ _
set_option maxRecDepth 100000 in
set_option maxHeartbeats 4000000 in
theorem law_c19 {z : gZ} {E : gE} {b : Nat} {xs : Nat → Int32} (F : Fx z sh E RL cL_law room_1 7) (hE : gDist sh E) (hX : va_X b 6 xs (zs z) (zs z).heap) (hbl : b < (zs z).heap.size) (hbA : ¬ zA z b) (hend : ∀ I J, G z 1634 [(4, .int 0), (0, .ref b)] [] I J) : G z 822 [(4, .int 0), (3, .ref (E.2.1 90)), (2, .ref (E.2.1 62)), (1, .ref (E.2.1 0)), (0, .ref b)] [] g0 h0 := by
  refine g_aload_n F 3 dL_law_822 rfl rfl ?_
  refine g_aload_n F 4 dL_law_823 rfl rfl ?_
  refine g_iload F 0 dL_law_824 rfl ?_
  refine g_iconst (v := 1) F dL_law_826 (by decide) ?_
  refine g_iadd (v := 1) F dL_law_827 (by decide) ?_
  refine g_sld (v := xs 1) F hX hbl hbA (vp_in_nI (n := 1) (by decide) (by decide)) (congrArg xs (nI_clamp (n := 1) (by decide))) dL_law_828 ?_
  refine g_aload_n F 4 dL_law_829 rfl rfl ?_
  refine g_iload F 0 dL_law_830 rfl ?_
  refine g_iconst (v := 2) F dL_law_832 (by decide) ?_
  refine g_iadd (v := 2) F dL_law_833 (by decide) ?_
  refine g_sld (v := xs 2) F hX hbl hbA (vp_in_nI (n := 2) (by decide) (by decide)) (congrArg xs (nI_clamp (n := 2) (by decide))) dL_law_834 ?_
  refine g_aload_n F 4 dL_law_835 rfl rfl ?_
  refine g_iload F 0 dL_law_836 rfl ?_
  refine g_iconst (v := 3) F dL_law_838 (by decide) ?_
  refine g_iadd (v := 3) F dL_law_839 (by decide) ?_
  refine g_sld (v := xs 3) F hX hbl hbA (vp_in_nI (n := 3) (by decide) (by decide)) (congrArg xs (nI_clamp (n := 3) (by decide))) dL_law_840 ?_
  refine g_aload_n F 4 dL_law_841 rfl rfl ?_
  refine g_iload F 0 dL_law_842 rfl ?_
  refine g_iconst (v := 4) F dL_law_844 (by decide) ?_
  refine g_iadd (v := 4) F dL_law_845 (by decide) ?_
  refine g_sld (v := xs 4) F hX hbl hbA (vp_in_nI (n := 4) (by decide) (by decide)) (congrArg xs (nI_clamp (n := 4) (by decide))) dL_law_846 ?_
  refine g_callV (k := 0) (As := [.int (xs 1), .int (xs 2), .int (xs 3), .int (xs 4)]) (rest := []) F (kX8_behind (zl z) E hE (xs 1) (xs 2) (xs 3) (xs 4)) mX8_behind q524 rfl s0 rfl rfl rfl (Nat.le_of_ble_eq_true rfl) dL_law_847 (fun r I1 J1 h1 => ?_)
  obtain ⟨rfl, hz⟩ := h1
  refine g_mem (Z9_g hz) (Z9_h hz) ?_
  refine g_st (sn := [.int (-1)]) rfl ?_
  refine g_aload_n F 2 dL_law_850 rfl rfl ?_
  refine g_aload_n F 4 dL_law_851 rfl rfl ?_
  refine g_iload F 0 dL_law_852 rfl ?_
  refine g_iconst (v := 1) F dL_law_854 (by decide) ?_
  refine g_iadd (v := 1) F dL_law_855 (by decide) ?_
  refine g_sld (v := xs 1) F hX hbl hbA (vp_in_nI (n := 1) (by decide) (by decide)) (congrArg xs (nI_clamp (n := 1) (by decide))) dL_law_856 ?_
  refine g_aload_n F 4 dL_law_857 rfl rfl ?_
  refine g_iload F 0 dL_law_858 rfl ?_
  refine g_iconst (v := 2) F dL_law_860 (by decide) ?_
  refine g_iadd (v := 2) F dL_law_861 (by decide) ?_
  refine g_sld (v := xs 2) F hX hbl hbA (vp_in_nI (n := 2) (by decide) (by decide)) (congrArg xs (nI_clamp (n := 2) (by decide))) dL_law_862 ?_
  refine g_aload_n F 4 dL_law_863 rfl rfl ?_
  refine g_iload F 0 dL_law_864 rfl ?_
  refine g_iconst (v := 3) F dL_law_866 (by decide) ?_
  refine g_iadd (v := 3) F dL_law_867 (by decide) ?_
  refine g_sld (v := xs 3) F hX hbl hbA (vp_in_nI (n := 3) (by decide) (by decide)) (congrArg xs (nI_clamp (n := 3) (by decide))) dL_law_868 ?_
  refine g_aload_n F 4 dL_law_869 rfl rfl ?_
  refine g_iload F 0 dL_law_870 rfl ?_
  refine g_iconst (v := 4) F dL_law_872 (by decide) ?_
  refine g_iadd (v := 4) F dL_law_873 (by decide) ?_
  refine g_sld (v := xs 4) F hX hbl hbA (vp_in_nI (n := 4) (by decide) (by decide)) (congrArg xs (nI_clamp (n := 4) (by decide))) dL_law_874 ?_
  refine g_callV (k := 62) (As := [.int (xs 1), .int (xs 2), .int (xs 3), .int (xs 4)]) (rest := [.int (-1)]) F (kX9_behind (zl z) E hE _ _ (xs 1) (xs 2) (xs 3) (xs 4)) mX9_behind q1231 rfl s62 rfl rfl rfl (Nat.le_of_ble_eq_true rfl) dL_law_875 (fun r I2 J2 h2 => ?_)
  obtain rfl := h2
  refine g_st (sn := [.int (-1), .int (-1)]) rfl ?_
  refine g_icmp_eq (tgt := 1634) F dL_law_878 (by decide) (fun _ => ?_) (fun h => absurd rfl h)
  refine g_sub (Ln := [(4, .int 0), (0, .ref b)]) [0, 4] rfl ?_
  exact hend _ _
set_option maxRecDepth 100000 in
set_option maxHeartbeats 4000000 in
theorem law_c20 {z : gZ} {E : gE} {b : Nat} {xs : Nat → Int32} (F : Fx z sh E RL cL_law room_1 7) (hE : gDist sh E) (hX : va_X b 6 xs (zs z) (zs z).heap) (hbl : b < (zs z).heap.size) (hbA : ¬ zA z b) (hend : ∀ I J, G z 1634 [(4, .int 0), (0, .ref b)] [] I J) : G z 883 [(4, .int 0), (3, .ref (E.2.1 90)), (2, .ref (E.2.1 62)), (1, .ref (E.2.1 0)), (0, .ref b)] [] g0 h0 := by
  refine g_aload_n F 3 dL_law_883 rfl rfl ?_
  refine g_aload_n F 4 dL_law_884 rfl rfl ?_
  refine g_iload F 0 dL_law_885 rfl ?_
  refine g_iconst (v := 1) F dL_law_887 (by decide) ?_
  refine g_iadd (v := 1) F dL_law_888 (by decide) ?_
  refine g_sld (v := xs 1) F hX hbl hbA (vp_in_nI (n := 1) (by decide) (by decide)) (congrArg xs (nI_clamp (n := 1) (by decide))) dL_law_889 ?_
  refine g_aload_n F 4 dL_law_890 rfl rfl ?_
  refine g_iload F 0 dL_law_891 rfl ?_
  refine g_iconst (v := 2) F dL_law_893 (by decide) ?_
  refine g_iadd (v := 2) F dL_law_894 (by decide) ?_
  refine g_sld (v := xs 2) F hX hbl hbA (vp_in_nI (n := 2) (by decide) (by decide)) (congrArg xs (nI_clamp (n := 2) (by decide))) dL_law_895 ?_
  refine g_aload_n F 4 dL_law_896 rfl rfl ?_
  refine g_iload F 0 dL_law_897 rfl ?_
  refine g_iconst (v := 3) F dL_law_899 (by decide) ?_
  refine g_iadd (v := 3) F dL_law_900 (by decide) ?_
  refine g_sld (v := xs 3) F hX hbl hbA (vp_in_nI (n := 3) (by decide) (by decide)) (congrArg xs (nI_clamp (n := 3) (by decide))) dL_law_901 ?_
  refine g_aload_n F 4 dL_law_902 rfl rfl ?_
  refine g_iload F 0 dL_law_903 rfl ?_
  refine g_iconst (v := 4) F dL_law_905 (by decide) ?_
  refine g_iadd (v := 4) F dL_law_906 (by decide) ?_
  refine g_sld (v := xs 4) F hX hbl hbA (vp_in_nI (n := 4) (by decide) (by decide)) (congrArg xs (nI_clamp (n := 4) (by decide))) dL_law_907 ?_
  refine g_callV (k := 0) (As := [.int (xs 1), .int (xs 2), .int (xs 3), .int (xs 4)]) (rest := []) F (kX8_has (zl z) E hE (xs 1) (xs 2) (xs 3) (xs 4)) mX8_has q533 rfl s0 rfl rfl rfl (Nat.le_of_ble_eq_true rfl) dL_law_908 (fun r I1 J1 h1 => ?_)
  obtain ⟨rfl, hz⟩ := h1
  refine g_mem (Z9_g hz) (Z9_h hz) ?_
  refine g_st (sn := [.int (0)]) rfl ?_
  refine g_aload_n F 2 dL_law_911 rfl rfl ?_
  refine g_aload_n F 4 dL_law_912 rfl rfl ?_
  refine g_iload F 0 dL_law_913 rfl ?_
  refine g_iconst (v := 1) F dL_law_915 (by decide) ?_
  refine g_iadd (v := 1) F dL_law_916 (by decide) ?_
  refine g_sld (v := xs 1) F hX hbl hbA (vp_in_nI (n := 1) (by decide) (by decide)) (congrArg xs (nI_clamp (n := 1) (by decide))) dL_law_917 ?_
  refine g_aload_n F 4 dL_law_918 rfl rfl ?_
  refine g_iload F 0 dL_law_919 rfl ?_
  refine g_iconst (v := 2) F dL_law_921 (by decide) ?_
  refine g_iadd (v := 2) F dL_law_922 (by decide) ?_
  refine g_sld (v := xs 2) F hX hbl hbA (vp_in_nI (n := 2) (by decide) (by decide)) (congrArg xs (nI_clamp (n := 2) (by decide))) dL_law_923 ?_
  refine g_aload_n F 4 dL_law_924 rfl rfl ?_
  refine g_iload F 0 dL_law_925 rfl ?_
  refine g_iconst (v := 3) F dL_law_927 (by decide) ?_
  refine g_iadd (v := 3) F dL_law_928 (by decide) ?_
  refine g_sld (v := xs 3) F hX hbl hbA (vp_in_nI (n := 3) (by decide) (by decide)) (congrArg xs (nI_clamp (n := 3) (by decide))) dL_law_929 ?_
  refine g_aload_n F 4 dL_law_930 rfl rfl ?_
  refine g_iload F 0 dL_law_931 rfl ?_
  refine g_iconst (v := 4) F dL_law_933 (by decide) ?_
  refine g_iadd (v := 4) F dL_law_934 (by decide) ?_
  refine g_sld (v := xs 4) F hX hbl hbA (vp_in_nI (n := 4) (by decide) (by decide)) (congrArg xs (nI_clamp (n := 4) (by decide))) dL_law_935 ?_
  refine g_callV (k := 62) (As := [.int (xs 1), .int (xs 2), .int (xs 3), .int (xs 4)]) (rest := [.int (0)]) F (kX9_has_ (zl z) E hE _ _ (xs 1) (xs 2) (xs 3) (xs 4)) mX9_has_ q1241 rfl s62 rfl rfl rfl (Nat.le_of_ble_eq_true rfl) dL_law_936 (fun r I2 J2 h2 => ?_)
  obtain rfl := h2
  refine g_st (sn := [.int (0), .int (0)]) rfl ?_
  refine g_icmp_eq (tgt := 1634) F dL_law_939 (by decide) (fun _ => ?_) (fun h => absurd rfl h)
  refine g_sub (Ln := [(4, .int 0), (0, .ref b)]) [0, 4] rfl ?_
  exact hend _ _
set_option maxRecDepth 100000 in
set_option maxHeartbeats 4000000 in
theorem law_c21 {z : gZ} {E : gE} {b : Nat} {xs : Nat → Int32} (F : Fx z sh E RL cL_law room_1 7) (hE : gDist sh E) (hX : va_X b 6 xs (zs z) (zs z).heap) (hbl : b < (zs z).heap.size) (hbA : ¬ zA z b) (hend : ∀ I J, G z 1634 [(4, .int 0), (0, .ref b)] [] I J) : G z 944 [(4, .int 0), (3, .ref (E.2.1 90)), (2, .ref (E.2.1 62)), (1, .ref (E.2.1 0)), (0, .ref b)] [] g0 h0 := by
  refine g_aload_n F 3 dL_law_944 rfl rfl ?_
  refine g_aload_n F 4 dL_law_945 rfl rfl ?_
  refine g_iload F 0 dL_law_946 rfl ?_
  refine g_iconst (v := 1) F dL_law_948 (by decide) ?_
  refine g_iadd (v := 1) F dL_law_949 (by decide) ?_
  refine g_sld (v := xs 1) F hX hbl hbA (vp_in_nI (n := 1) (by decide) (by decide)) (congrArg xs (nI_clamp (n := 1) (by decide))) dL_law_950 ?_
  refine g_callV (k := 0) (As := [.int (xs 1)]) (rest := []) F (kX8_mean (zl z) E hE (xs 1)) mX8_mean q537 rfl s0 rfl rfl rfl (Nat.le_of_ble_eq_true rfl) dL_law_951 (fun r I1 J1 h1 => ?_)
  obtain ⟨rfl, hz⟩ := h1
  refine g_mem (Z9_g hz) (Z9_h hz) ?_
  refine g_st (sn := [.long (-1000000)]) rfl ?_
  refine g_aload_n F 2 dL_law_954 rfl rfl ?_
  refine g_aload_n F 4 dL_law_955 rfl rfl ?_
  refine g_iload F 0 dL_law_956 rfl ?_
  refine g_iconst (v := 1) F dL_law_958 (by decide) ?_
  refine g_iadd (v := 1) F dL_law_959 (by decide) ?_
  refine g_sld (v := xs 1) F hX hbl hbA (vp_in_nI (n := 1) (by decide) (by decide)) (congrArg xs (nI_clamp (n := 1) (by decide))) dL_law_960 ?_
  refine g_callV (k := 62) (As := [.int (xs 1)]) (rest := [.long (-1000000)]) F (kX9_mean (zl z) E hE _ _ (xs 1)) mX9_mean q1245 rfl s62 rfl rfl rfl (Nat.le_of_ble_eq_true rfl) dL_law_961 (fun r I2 J2 h2 => ?_)
  obtain rfl := h2
  refine g_st (sn := [.long (-1000000), .long (-1000000)]) rfl ?_
  refine g_lcmpE F dL_law_964 ?_
  refine g_if_eq (tgt := 1634) F dL_law_965 (by decide) (fun _ => ?_) (fun h => absurd rfl h)
  refine g_sub (Ln := [(4, .int 0), (0, .ref b)]) [0, 4] rfl ?_
  exact hend _ _
set_option maxRecDepth 100000 in
set_option maxHeartbeats 4000000 in
theorem law_c22 {z : gZ} {E : gE} {b : Nat} {xs : Nat → Int32} (F : Fx z sh E RL cL_law room_1 7) (hE : gDist sh E) (hX : va_X b 6 xs (zs z) (zs z).heap) (hbl : b < (zs z).heap.size) (hbA : ¬ zA z b) (hend : ∀ I J, G z 1634 [(4, .int 0), (0, .ref b)] [] I J) : G z 970 [(4, .int 0), (3, .ref (E.2.1 90)), (2, .ref (E.2.1 62)), (1, .ref (E.2.1 0)), (0, .ref b)] [] g0 h0 := by
  refine g_aload_n F 3 dL_law_970 rfl rfl ?_
  refine g_aload_n F 4 dL_law_971 rfl rfl ?_
  refine g_iload F 0 dL_law_972 rfl ?_
  refine g_iconst (v := 1) F dL_law_974 (by decide) ?_
  refine g_iadd (v := 1) F dL_law_975 (by decide) ?_
  refine g_sld (v := xs 1) F hX hbl hbA (vp_in_nI (n := 1) (by decide) (by decide)) (congrArg xs (nI_clamp (n := 1) (by decide))) dL_law_976 ?_
  refine g_aload_n F 4 dL_law_977 rfl rfl ?_
  refine g_iload F 0 dL_law_978 rfl ?_
  refine g_iconst (v := 2) F dL_law_980 (by decide) ?_
  refine g_iadd (v := 2) F dL_law_981 (by decide) ?_
  refine g_sld (v := xs 2) F hX hbl hbA (vp_in_nI (n := 2) (by decide) (by decide)) (congrArg xs (nI_clamp (n := 2) (by decide))) dL_law_982 ?_
  refine g_callV (k := 0) (As := [.int (xs 1), .int (xs 2)]) (rest := []) F (kX8_meanAs (zl z) E hE (xs 1) (xs 2)) mX8_meanAs q551 rfl s0 rfl rfl rfl (Nat.le_of_ble_eq_true rfl) dL_law_983 (fun r I1 J1 h1 => ?_)
  obtain ⟨rfl, hz⟩ := h1
  refine g_mem (Z9_g hz) (Z9_h hz) ?_
  refine g_st (sn := [.int (-1000000)]) rfl ?_
  refine g_aload_n F 2 dL_law_986 rfl rfl ?_
  refine g_aload_n F 4 dL_law_987 rfl rfl ?_
  refine g_iload F 0 dL_law_988 rfl ?_
  refine g_iconst (v := 1) F dL_law_990 (by decide) ?_
  refine g_iadd (v := 1) F dL_law_991 (by decide) ?_
  refine g_sld (v := xs 1) F hX hbl hbA (vp_in_nI (n := 1) (by decide) (by decide)) (congrArg xs (nI_clamp (n := 1) (by decide))) dL_law_992 ?_
  refine g_aload_n F 4 dL_law_993 rfl rfl ?_
  refine g_iload F 0 dL_law_994 rfl ?_
  refine g_iconst (v := 2) F dL_law_996 (by decide) ?_
  refine g_iadd (v := 2) F dL_law_997 (by decide) ?_
  refine g_sld (v := xs 2) F hX hbl hbA (vp_in_nI (n := 2) (by decide) (by decide)) (congrArg xs (nI_clamp (n := 2) (by decide))) dL_law_998 ?_
  refine g_callV (k := 62) (As := [.int (xs 1), .int (xs 2)]) (rest := [.int (-1000000)]) F (kX9_meanAs (zl z) E hE _ _ (xs 1) (xs 2)) mX9_meanAs q1265 rfl s62 rfl rfl rfl (Nat.le_of_ble_eq_true rfl) dL_law_999 (fun r I2 J2 h2 => ?_)
  obtain rfl := h2
  refine g_st (sn := [.int (-1000000), .int (-1000000)]) rfl ?_
  refine g_icmp_eq (tgt := 1634) F dL_law_1002 (by decide) (fun _ => ?_) (fun h => absurd rfl h)
  refine g_sub (Ln := [(4, .int 0), (0, .ref b)]) [0, 4] rfl ?_
  exact hend _ _
set_option maxRecDepth 100000 in
set_option maxHeartbeats 4000000 in
theorem law_c23 {z : gZ} {E : gE} {b : Nat} {xs : Nat → Int32} (F : Fx z sh E RL cL_law room_1 7) (hE : gDist sh E) (hX : va_X b 6 xs (zs z) (zs z).heap) (hbl : b < (zs z).heap.size) (hbA : ¬ zA z b) (hend : ∀ I J, G z 1634 [(4, .int 0), (0, .ref b)] [] I J) : G z 1007 [(4, .int 0), (3, .ref (E.2.1 90)), (2, .ref (E.2.1 62)), (1, .ref (E.2.1 0)), (0, .ref b)] [] g0 h0 := by
  refine g_aload_n F 3 dL_law_1007 rfl rfl ?_
  refine g_aload_n F 4 dL_law_1008 rfl rfl ?_
  refine g_iload F 0 dL_law_1009 rfl ?_
  refine g_iconst (v := 1) F dL_law_1011 (by decide) ?_
  refine g_iadd (v := 1) F dL_law_1012 (by decide) ?_
  refine g_sld (v := xs 1) F hX hbl hbA (vp_in_nI (n := 1) (by decide) (by decide)) (congrArg xs (nI_clamp (n := 1) (by decide))) dL_law_1013 ?_
  refine g_callV (k := 0) (As := [.int (xs 1)]) (rest := []) F (kX8_spread (zl z) E hE (xs 1)) mX8_spread q561 rfl s0 rfl rfl rfl (Nat.le_of_ble_eq_true rfl) dL_law_1014 (fun r I1 J1 h1 => ?_)
  obtain ⟨rfl, hz⟩ := h1
  refine g_mem (Z9_g hz) (Z9_h hz) ?_
  refine g_st (sn := [.long (-1000000)]) rfl ?_
  refine g_aload_n F 2 dL_law_1017 rfl rfl ?_
  refine g_aload_n F 4 dL_law_1018 rfl rfl ?_
  refine g_iload F 0 dL_law_1019 rfl ?_
  refine g_iconst (v := 1) F dL_law_1021 (by decide) ?_
  refine g_iadd (v := 1) F dL_law_1022 (by decide) ?_
  refine g_sld (v := xs 1) F hX hbl hbA (vp_in_nI (n := 1) (by decide) (by decide)) (congrArg xs (nI_clamp (n := 1) (by decide))) dL_law_1023 ?_
  refine g_callV (k := 62) (As := [.int (xs 1)]) (rest := [.long (-1000000)]) F (kX9_spread (zl z) E hE _ _ (xs 1)) mX9_spread q1278 rfl s62 rfl rfl rfl (Nat.le_of_ble_eq_true rfl) dL_law_1024 (fun r I2 J2 h2 => ?_)
  obtain rfl := h2
  refine g_st (sn := [.long (-1000000), .long (-1000000)]) rfl ?_
  refine g_lcmpE F dL_law_1027 ?_
  refine g_if_eq (tgt := 1634) F dL_law_1028 (by decide) (fun _ => ?_) (fun h => absurd rfl h)
  refine g_sub (Ln := [(4, .int 0), (0, .ref b)]) [0, 4] rfl ?_
  exact hend _ _
set_option maxRecDepth 100000 in
set_option maxHeartbeats 4000000 in
theorem law_c24 {z : gZ} {E : gE} {b : Nat} {xs : Nat → Int32} (F : Fx z sh E RL cL_law room_1 7) (hE : gDist sh E) (hX : va_X b 6 xs (zs z) (zs z).heap) (hbl : b < (zs z).heap.size) (hbA : ¬ zA z b) (hend : ∀ I J, G z 1634 [(4, .int 0), (0, .ref b)] [] I J) : G z 1033 [(4, .int 0), (3, .ref (E.2.1 90)), (2, .ref (E.2.1 62)), (1, .ref (E.2.1 0)), (0, .ref b)] [] g0 h0 := by
  refine g_aload_n F 3 dL_law_1033 rfl rfl ?_
  refine g_aload_n F 4 dL_law_1034 rfl rfl ?_
  refine g_iload F 0 dL_law_1035 rfl ?_
  refine g_iconst (v := 1) F dL_law_1037 (by decide) ?_
  refine g_iadd (v := 1) F dL_law_1038 (by decide) ?_
  refine g_sld (v := xs 1) F hX hbl hbA (vp_in_nI (n := 1) (by decide) (by decide)) (congrArg xs (nI_clamp (n := 1) (by decide))) dL_law_1039 ?_
  refine g_callV (k := 0) (As := [.int (xs 1)]) (rest := []) F (kX8_skew (zl z) E hE (xs 1)) mX8_skew q570 rfl s0 rfl rfl rfl (Nat.le_of_ble_eq_true rfl) dL_law_1040 (fun r I1 J1 h1 => ?_)
  obtain ⟨rfl, hz⟩ := h1
  refine g_mem (Z9_g hz) (Z9_h hz) ?_
  refine g_st (sn := [.int (-1000000)]) rfl ?_
  refine g_aload_n F 2 dL_law_1043 rfl rfl ?_
  refine g_aload_n F 4 dL_law_1044 rfl rfl ?_
  refine g_iload F 0 dL_law_1045 rfl ?_
  refine g_iconst (v := 1) F dL_law_1047 (by decide) ?_
  refine g_iadd (v := 1) F dL_law_1048 (by decide) ?_
  refine g_sld (v := xs 1) F hX hbl hbA (vp_in_nI (n := 1) (by decide) (by decide)) (congrArg xs (nI_clamp (n := 1) (by decide))) dL_law_1049 ?_
  refine g_callV (k := 62) (As := [.int (xs 1)]) (rest := [.int (-1000000)]) F (kX9_skew (zl z) E hE _ _ (xs 1)) mX9_skew q1282 rfl s62 rfl rfl rfl (Nat.le_of_ble_eq_true rfl) dL_law_1050 (fun r I2 J2 h2 => ?_)
  obtain rfl := h2
  refine g_st (sn := [.int (-1000000), .int (-1000000)]) rfl ?_
  refine g_icmp_eq (tgt := 1634) F dL_law_1053 (by decide) (fun _ => ?_) (fun h => absurd rfl h)
  refine g_sub (Ln := [(4, .int 0), (0, .ref b)]) [0, 4] rfl ?_
  exact hend _ _
set_option maxRecDepth 100000 in
set_option maxHeartbeats 4000000 in
theorem law_c25 {z : gZ} {E : gE} {b : Nat} {xs : Nat → Int32} (F : Fx z sh E RL cL_law room_1 7) (hE : gDist sh E) (hX : va_X b 6 xs (zs z) (zs z).heap) (hbl : b < (zs z).heap.size) (hbA : ¬ zA z b) (hend : ∀ I J, G z 1634 [(4, .int 0), (0, .ref b)] [] I J) : G z 1058 [(4, .int 0), (3, .ref (E.2.1 90)), (2, .ref (E.2.1 62)), (1, .ref (E.2.1 0)), (0, .ref b)] [] g0 h0 := by
  refine g_aload_n F 3 dL_law_1058 rfl rfl ?_
  refine g_aload_n F 4 dL_law_1059 rfl rfl ?_
  refine g_iload F 0 dL_law_1060 rfl ?_
  refine g_iconst (v := 1) F dL_law_1062 (by decide) ?_
  refine g_iadd (v := 1) F dL_law_1063 (by decide) ?_
  refine g_sld (v := xs 1) F hX hbl hbA (vp_in_nI (n := 1) (by decide) (by decide)) (congrArg xs (nI_clamp (n := 1) (by decide))) dL_law_1064 ?_
  refine g_aload_n F 4 dL_law_1065 rfl rfl ?_
  refine g_iload F 0 dL_law_1066 rfl ?_
  refine g_iconst (v := 2) F dL_law_1068 (by decide) ?_
  refine g_iadd (v := 2) F dL_law_1069 (by decide) ?_
  refine g_sld (v := xs 2) F hX hbl hbA (vp_in_nI (n := 2) (by decide) (by decide)) (congrArg xs (nI_clamp (n := 2) (by decide))) dL_law_1070 ?_
  refine g_aload_n F 4 dL_law_1071 rfl rfl ?_
  refine g_iload F 0 dL_law_1072 rfl ?_
  refine g_iconst (v := 3) F dL_law_1074 (by decide) ?_
  refine g_iadd (v := 3) F dL_law_1075 (by decide) ?_
  refine g_sld (v := xs 3) F hX hbl hbA (vp_in_nI (n := 3) (by decide) (by decide)) (congrArg xs (nI_clamp (n := 3) (by decide))) dL_law_1076 ?_
  refine g_aload_n F 4 dL_law_1077 rfl rfl ?_
  refine g_iload F 0 dL_law_1078 rfl ?_
  refine g_iconst (v := 4) F dL_law_1080 (by decide) ?_
  refine g_iadd (v := 4) F dL_law_1081 (by decide) ?_
  refine g_sld (v := xs 4) F hX hbl hbA (vp_in_nI (n := 4) (by decide) (by decide)) (congrArg xs (nI_clamp (n := 4) (by decide))) dL_law_1082 ?_
  refine g_callV (k := 0) (As := [.int (xs 1), .int (xs 2), .int (xs 3), .int (xs 4)]) (rest := []) F (kX8_put (zl z) E hE (xs 1) (xs 2) (xs 3) (xs 4)) mX8_put q574 rfl s0 rfl rfl rfl (Nat.le_of_ble_eq_true rfl) dL_law_1083 (fun r I1 J1 h1 => ?_)
  obtain ⟨rfl, hz⟩ := h1
  refine g_mem (Z9_g hz) (Z9_h hz) ?_
  refine g_st (sn := [.int (-1)]) rfl ?_
  refine g_aload_n F 2 dL_law_1086 rfl rfl ?_
  refine g_aload_n F 4 dL_law_1087 rfl rfl ?_
  refine g_iload F 0 dL_law_1088 rfl ?_
  refine g_iconst (v := 1) F dL_law_1090 (by decide) ?_
  refine g_iadd (v := 1) F dL_law_1091 (by decide) ?_
  refine g_sld (v := xs 1) F hX hbl hbA (vp_in_nI (n := 1) (by decide) (by decide)) (congrArg xs (nI_clamp (n := 1) (by decide))) dL_law_1092 ?_
  refine g_aload_n F 4 dL_law_1093 rfl rfl ?_
  refine g_iload F 0 dL_law_1094 rfl ?_
  refine g_iconst (v := 2) F dL_law_1096 (by decide) ?_
  refine g_iadd (v := 2) F dL_law_1097 (by decide) ?_
  refine g_sld (v := xs 2) F hX hbl hbA (vp_in_nI (n := 2) (by decide) (by decide)) (congrArg xs (nI_clamp (n := 2) (by decide))) dL_law_1098 ?_
  refine g_aload_n F 4 dL_law_1099 rfl rfl ?_
  refine g_iload F 0 dL_law_1100 rfl ?_
  refine g_iconst (v := 3) F dL_law_1102 (by decide) ?_
  refine g_iadd (v := 3) F dL_law_1103 (by decide) ?_
  refine g_sld (v := xs 3) F hX hbl hbA (vp_in_nI (n := 3) (by decide) (by decide)) (congrArg xs (nI_clamp (n := 3) (by decide))) dL_law_1104 ?_
  refine g_aload_n F 4 dL_law_1105 rfl rfl ?_
  refine g_iload F 0 dL_law_1106 rfl ?_
  refine g_iconst (v := 4) F dL_law_1108 (by decide) ?_
  refine g_iadd (v := 4) F dL_law_1109 (by decide) ?_
  refine g_sld (v := xs 4) F hX hbl hbA (vp_in_nI (n := 4) (by decide) (by decide)) (congrArg xs (nI_clamp (n := 4) (by decide))) dL_law_1110 ?_
  refine g_callV (k := 62) (As := [.int (xs 1), .int (xs 2), .int (xs 3), .int (xs 4)]) (rest := [.int (-1)]) F (kX9_put (zl z) E hE _ _ (xs 1) (xs 2) (xs 3) (xs 4)) mX9_put q1006 rfl s62 rfl rfl rfl (Nat.le_of_ble_eq_true rfl) dL_law_1111 (fun r I2 J2 h2 => ?_)
  obtain rfl := h2
  refine g_st (sn := [.int (-1), .int (-1)]) rfl ?_
  refine g_icmp_eq (tgt := 1634) F dL_law_1114 (by decide) (fun _ => ?_) (fun h => absurd rfl h)
  refine g_sub (Ln := [(4, .int 0), (0, .ref b)]) [0, 4] rfl ?_
  exact hend _ _
set_option maxRecDepth 100000 in
set_option maxHeartbeats 4000000 in
theorem law_c26 {z : gZ} {E : gE} {b : Nat} {xs : Nat → Int32} (F : Fx z sh E RL cL_law room_1 7) (hE : gDist sh E) (hX : va_X b 6 xs (zs z) (zs z).heap) (hbl : b < (zs z).heap.size) (hbA : ¬ zA z b) (hend : ∀ I J, G z 1634 [(4, .int 0), (0, .ref b)] [] I J) : G z 1119 [(4, .int 0), (3, .ref (E.2.1 90)), (2, .ref (E.2.1 62)), (1, .ref (E.2.1 0)), (0, .ref b)] [] g0 h0 := by
  refine g_aload_n F 3 dL_law_1119 rfl rfl ?_
  refine g_aload_n F 4 dL_law_1120 rfl rfl ?_
  refine g_iload F 0 dL_law_1121 rfl ?_
  refine g_iconst (v := 1) F dL_law_1123 (by decide) ?_
  refine g_iadd (v := 1) F dL_law_1124 (by decide) ?_
  refine g_sld (v := xs 1) F hX hbl hbA (vp_in_nI (n := 1) (by decide) (by decide)) (congrArg xs (nI_clamp (n := 1) (by decide))) dL_law_1125 ?_
  refine g_aload_n F 4 dL_law_1126 rfl rfl ?_
  refine g_iload F 0 dL_law_1127 rfl ?_
  refine g_iconst (v := 2) F dL_law_1129 (by decide) ?_
  refine g_iadd (v := 2) F dL_law_1130 (by decide) ?_
  refine g_sld (v := xs 2) F hX hbl hbA (vp_in_nI (n := 2) (by decide) (by decide)) (congrArg xs (nI_clamp (n := 2) (by decide))) dL_law_1131 ?_
  refine g_aload_n F 4 dL_law_1132 rfl rfl ?_
  refine g_iload F 0 dL_law_1133 rfl ?_
  refine g_iconst (v := 3) F dL_law_1135 (by decide) ?_
  refine g_iadd (v := 3) F dL_law_1136 (by decide) ?_
  refine g_sld (v := xs 3) F hX hbl hbA (vp_in_nI (n := 3) (by decide) (by decide)) (congrArg xs (nI_clamp (n := 3) (by decide))) dL_law_1137 ?_
  refine g_aload_n F 4 dL_law_1138 rfl rfl ?_
  refine g_iload F 0 dL_law_1139 rfl ?_
  refine g_iconst (v := 4) F dL_law_1141 (by decide) ?_
  refine g_iadd (v := 4) F dL_law_1142 (by decide) ?_
  refine g_sld (v := xs 4) F hX hbl hbA (vp_in_nI (n := 4) (by decide) (by decide)) (congrArg xs (nI_clamp (n := 4) (by decide))) dL_law_1143 ?_
  refine g_callV (k := 0) (As := [.int (xs 1), .int (xs 2), .int (xs 3), .int (xs 4)]) (rest := []) F (kX8_take (zl z) E hE (xs 1) (xs 2) (xs 3) (xs 4)) mX8_take q616 rfl s0 rfl rfl rfl (Nat.le_of_ble_eq_true rfl) dL_law_1144 (fun r I1 J1 h1 => ?_)
  obtain ⟨rfl, hz⟩ := h1
  refine g_mem (Z9_g hz) (Z9_h hz) ?_
  refine g_st (sn := [.int (-1)]) rfl ?_
  refine g_aload_n F 2 dL_law_1147 rfl rfl ?_
  refine g_aload_n F 4 dL_law_1148 rfl rfl ?_
  refine g_iload F 0 dL_law_1149 rfl ?_
  refine g_iconst (v := 1) F dL_law_1151 (by decide) ?_
  refine g_iadd (v := 1) F dL_law_1152 (by decide) ?_
  refine g_sld (v := xs 1) F hX hbl hbA (vp_in_nI (n := 1) (by decide) (by decide)) (congrArg xs (nI_clamp (n := 1) (by decide))) dL_law_1153 ?_
  refine g_aload_n F 4 dL_law_1154 rfl rfl ?_
  refine g_iload F 0 dL_law_1155 rfl ?_
  refine g_iconst (v := 2) F dL_law_1157 (by decide) ?_
  refine g_iadd (v := 2) F dL_law_1158 (by decide) ?_
  refine g_sld (v := xs 2) F hX hbl hbA (vp_in_nI (n := 2) (by decide) (by decide)) (congrArg xs (nI_clamp (n := 2) (by decide))) dL_law_1159 ?_
  refine g_aload_n F 4 dL_law_1160 rfl rfl ?_
  refine g_iload F 0 dL_law_1161 rfl ?_
  refine g_iconst (v := 3) F dL_law_1163 (by decide) ?_
  refine g_iadd (v := 3) F dL_law_1164 (by decide) ?_
  refine g_sld (v := xs 3) F hX hbl hbA (vp_in_nI (n := 3) (by decide) (by decide)) (congrArg xs (nI_clamp (n := 3) (by decide))) dL_law_1165 ?_
  refine g_aload_n F 4 dL_law_1166 rfl rfl ?_
  refine g_iload F 0 dL_law_1167 rfl ?_
  refine g_iconst (v := 4) F dL_law_1169 (by decide) ?_
  refine g_iadd (v := 4) F dL_law_1170 (by decide) ?_
  refine g_sld (v := xs 4) F hX hbl hbA (vp_in_nI (n := 4) (by decide) (by decide)) (congrArg xs (nI_clamp (n := 4) (by decide))) dL_law_1171 ?_
  refine g_callV (k := 62) (As := [.int (xs 1), .int (xs 2), .int (xs 3), .int (xs 4)]) (rest := [.int (-1)]) F (kX9_take (zl z) E hE _ _ (xs 1) (xs 2) (xs 3) (xs 4)) mX9_take q1104 rfl s62 rfl rfl rfl (Nat.le_of_ble_eq_true rfl) dL_law_1172 (fun r I2 J2 h2 => ?_)
  obtain rfl := h2
  refine g_st (sn := [.int (-1), .int (-1)]) rfl ?_
  refine g_icmp_eq (tgt := 1634) F dL_law_1175 (by decide) (fun _ => ?_) (fun h => absurd rfl h)
  refine g_sub (Ln := [(4, .int 0), (0, .ref b)]) [0, 4] rfl ?_
  exact hend _ _
set_option maxRecDepth 100000 in
set_option maxHeartbeats 4000000 in
theorem law_c27 {z : gZ} {E : gE} {b : Nat} {xs : Nat → Int32} (F : Fx z sh E RL cL_law room_1 7) (hE : gDist sh E) (hX : va_X b 6 xs (zs z) (zs z).heap) (hbl : b < (zs z).heap.size) (hbA : ¬ zA z b) (hend : ∀ I J, G z 1634 [(4, .int 0), (0, .ref b)] [] I J) : G z 1180 [(4, .int 0), (3, .ref (E.2.1 90)), (2, .ref (E.2.1 62)), (1, .ref (E.2.1 0)), (0, .ref b)] [] g0 h0 := by
  refine g_aload_n F 3 dL_law_1180 rfl rfl ?_
  refine g_aload_n F 4 dL_law_1181 rfl rfl ?_
  refine g_iload F 0 dL_law_1182 rfl ?_
  refine g_iconst (v := 1) F dL_law_1184 (by decide) ?_
  refine g_iadd (v := 1) F dL_law_1185 (by decide) ?_
  refine g_sld (v := xs 1) F hX hbl hbA (vp_in_nI (n := 1) (by decide) (by decide)) (congrArg xs (nI_clamp (n := 1) (by decide))) dL_law_1186 ?_
  refine g_callV (k := 0) (As := [.int (xs 1)]) (rest := []) F (kX8_use (zl z) E hE (xs 1)) mX8_use q620 rfl s0 rfl rfl rfl (Nat.le_of_ble_eq_true rfl) dL_law_1187 (fun r I1 J1 h1 => ?_)
  obtain ⟨rfl, hz⟩ := h1
  refine g_mem (Z9_g hz) (Z9_h hz) ?_
  refine g_st (sn := [.int (-1)]) rfl ?_
  refine g_aload_n F 2 dL_law_1190 rfl rfl ?_
  refine g_aload_n F 4 dL_law_1191 rfl rfl ?_
  refine g_iload F 0 dL_law_1192 rfl ?_
  refine g_iconst (v := 1) F dL_law_1194 (by decide) ?_
  refine g_iadd (v := 1) F dL_law_1195 (by decide) ?_
  refine g_sld (v := xs 1) F hX hbl hbA (vp_in_nI (n := 1) (by decide) (by decide)) (congrArg xs (nI_clamp (n := 1) (by decide))) dL_law_1196 ?_
  refine g_callV (k := 62) (As := [.int (xs 1)]) (rest := [.int (-1)]) F (kX9_use (zl z) E hE _ _ (xs 1)) mX9_use q1108 rfl s62 rfl rfl rfl (Nat.le_of_ble_eq_true rfl) dL_law_1197 (fun r I2 J2 h2 => ?_)
  obtain rfl := h2
  refine g_st (sn := [.int (-1), .int (-1)]) rfl ?_
  refine g_icmp_eq (tgt := 1634) F dL_law_1200 (by decide) (fun _ => ?_) (fun h => absurd rfl h)
  refine g_sub (Ln := [(4, .int 0), (0, .ref b)]) [0, 4] rfl ?_
  exact hend _ _
set_option maxRecDepth 100000 in
set_option maxHeartbeats 4000000 in
theorem law_c28 {z : gZ} {E : gE} {b : Nat} {xs : Nat → Int32} (F : Fx z sh E RL cL_law room_1 7) (hE : gDist sh E) (hX : va_X b 6 xs (zs z) (zs z).heap) (hbl : b < (zs z).heap.size) (hbA : ¬ zA z b) (hend : ∀ I J, G z 1634 [(4, .int 0), (0, .ref b)] [] I J) : G z 1205 [(4, .int 0), (3, .ref (E.2.1 90)), (2, .ref (E.2.1 62)), (1, .ref (E.2.1 0)), (0, .ref b)] [] g0 h0 := by
  refine g_aload_n F 3 dL_law_1205 rfl rfl ?_
  refine g_aload_n F 4 dL_law_1206 rfl rfl ?_
  refine g_iload F 0 dL_law_1207 rfl ?_
  refine g_iconst (v := 1) F dL_law_1209 (by decide) ?_
  refine g_iadd (v := 1) F dL_law_1210 (by decide) ?_
  refine g_sld (v := xs 1) F hX hbl hbA (vp_in_nI (n := 1) (by decide) (by decide)) (congrArg xs (nI_clamp (n := 1) (by decide))) dL_law_1211 ?_
  refine g_callV (k := 0) (As := [.int (xs 1)]) (rest := []) F (kX8_order (zl z) E hE (xs 1)) mX8_order q624 rfl s0 rfl rfl rfl (Nat.le_of_ble_eq_true rfl) dL_law_1212 (fun r I1 J1 h1 => ?_)
  obtain ⟨rfl, hz⟩ := h1
  refine g_mem (Z9_g hz) (Z9_h hz) ?_
  refine g_st (sn := [.int (-1)]) rfl ?_
  refine g_aload_n F 2 dL_law_1215 rfl rfl ?_
  refine g_aload_n F 4 dL_law_1216 rfl rfl ?_
  refine g_iload F 0 dL_law_1217 rfl ?_
  refine g_iconst (v := 1) F dL_law_1219 (by decide) ?_
  refine g_iadd (v := 1) F dL_law_1220 (by decide) ?_
  refine g_sld (v := xs 1) F hX hbl hbA (vp_in_nI (n := 1) (by decide) (by decide)) (congrArg xs (nI_clamp (n := 1) (by decide))) dL_law_1221 ?_
  refine g_callV (k := 62) (As := [.int (xs 1)]) (rest := [.int (-1)]) F (kX9_order (zl z) E hE _ _ (xs 1)) mX9_order q1112 rfl s62 rfl rfl rfl (Nat.le_of_ble_eq_true rfl) dL_law_1222 (fun r I2 J2 h2 => ?_)
  obtain rfl := h2
  refine g_st (sn := [.int (-1), .int (-1)]) rfl ?_
  refine g_icmp_eq (tgt := 1634) F dL_law_1225 (by decide) (fun _ => ?_) (fun h => absurd rfl h)
  refine g_sub (Ln := [(4, .int 0), (0, .ref b)]) [0, 4] rfl ?_
  exact hend _ _
set_option maxRecDepth 100000 in
set_option maxHeartbeats 4000000 in
theorem law_c29 {z : gZ} {E : gE} {b : Nat} {xs : Nat → Int32} (F : Fx z sh E RL cL_law room_1 7) (hE : gDist sh E) (hX : va_X b 6 xs (zs z) (zs z).heap) (hbl : b < (zs z).heap.size) (hbA : ¬ zA z b) (hend : ∀ I J, G z 1634 [(4, .int 0), (0, .ref b)] [] I J) : G z 1230 [(4, .int 0), (3, .ref (E.2.1 90)), (2, .ref (E.2.1 62)), (1, .ref (E.2.1 0)), (0, .ref b)] [] g0 h0 := by
  refine g_aload_n F 3 dL_law_1230 rfl rfl ?_
  refine g_aload_n F 4 dL_law_1231 rfl rfl ?_
  refine g_iload F 0 dL_law_1232 rfl ?_
  refine g_iconst (v := 1) F dL_law_1234 (by decide) ?_
  refine g_iadd (v := 1) F dL_law_1235 (by decide) ?_
  refine g_sld (v := xs 1) F hX hbl hbA (vp_in_nI (n := 1) (by decide) (by decide)) (congrArg xs (nI_clamp (n := 1) (by decide))) dL_law_1236 ?_
  refine g_aload_n F 4 dL_law_1237 rfl rfl ?_
  refine g_iload F 0 dL_law_1238 rfl ?_
  refine g_iconst (v := 2) F dL_law_1240 (by decide) ?_
  refine g_iadd (v := 2) F dL_law_1241 (by decide) ?_
  refine g_sld (v := xs 2) F hX hbl hbA (vp_in_nI (n := 2) (by decide) (by decide)) (congrArg xs (nI_clamp (n := 2) (by decide))) dL_law_1242 ?_
  obtain ⟨y0, ey0⟩ : ∃ y : Int64, y = (xs 2).toInt64 := ⟨_, rfl⟩
  refine g_i2l (v := y0) F dL_law_1243 ey0.symm ?_
  refine g_bipush (v := 32) F dL_law_1244 (by decide) ?_
  obtain ⟨y1, ey1⟩ : ∃ y : Int64, y = y0 <<< ((32 : Int32).toInt64 &&& 63) := ⟨_, rfl⟩
  refine g_lshl (v := y1) F dL_law_1246 ey1.symm ?_
  refine g_aload_n F 4 dL_law_1247 rfl rfl ?_
  refine g_iload F 0 dL_law_1248 rfl ?_
  refine g_iconst (v := 3) F dL_law_1250 (by decide) ?_
  refine g_iadd (v := 3) F dL_law_1251 (by decide) ?_
  refine g_sld (v := xs 3) F hX hbl hbA (vp_in_nI (n := 3) (by decide) (by decide)) (congrArg xs (nI_clamp (n := 3) (by decide))) dL_law_1252 ?_
  obtain ⟨y2, ey2⟩ : ∃ y : Int64, y = (xs 3).toInt64 := ⟨_, rfl⟩
  refine g_i2l (v := y2) F dL_law_1253 ey2.symm ?_
  refine g_ldc2_w F dL_law_1254 q1345 ?_
  obtain ⟨y3, ey3⟩ : ∃ y : Int64, y = y2 &&& 4294967295 := ⟨_, rfl⟩
  refine g_land (v := y3) F dL_law_1257 ey3.symm ?_
  obtain ⟨y4, ey4⟩ : ∃ y : Int64, y = y1 ||| y3 := ⟨_, rfl⟩
  refine g_lor (v := y4) F dL_law_1258 ey4.symm ?_
  refine g_callV (k := 0) (As := [.int (xs 1), .long y4]) (rest := []) F (kX8_ways (zl z) E hE (xs 1) y4) mX8_ways q628 rfl s0 rfl rfl rfl (Nat.le_of_ble_eq_true rfl) dL_law_1259 (fun r I1 J1 h1 => ?_)
  obtain ⟨rfl, hz⟩ := h1
  refine g_mem (Z9_g hz) (Z9_h hz) ?_
  refine g_st (sn := [.int (-1)]) rfl ?_
  refine g_aload_n F 2 dL_law_1262 rfl rfl ?_
  refine g_aload_n F 4 dL_law_1263 rfl rfl ?_
  refine g_iload F 0 dL_law_1264 rfl ?_
  refine g_iconst (v := 1) F dL_law_1266 (by decide) ?_
  refine g_iadd (v := 1) F dL_law_1267 (by decide) ?_
  refine g_sld (v := xs 1) F hX hbl hbA (vp_in_nI (n := 1) (by decide) (by decide)) (congrArg xs (nI_clamp (n := 1) (by decide))) dL_law_1268 ?_
  refine g_aload_n F 4 dL_law_1269 rfl rfl ?_
  refine g_iload F 0 dL_law_1270 rfl ?_
  refine g_iconst (v := 2) F dL_law_1272 (by decide) ?_
  refine g_iadd (v := 2) F dL_law_1273 (by decide) ?_
  refine g_sld (v := xs 2) F hX hbl hbA (vp_in_nI (n := 2) (by decide) (by decide)) (congrArg xs (nI_clamp (n := 2) (by decide))) dL_law_1274 ?_
  refine g_i2l (v := y0) F dL_law_1275 ey0.symm ?_
  refine g_bipush (v := 32) F dL_law_1276 (by decide) ?_
  refine g_lshl (v := y1) F dL_law_1278 ey1.symm ?_
  refine g_aload_n F 4 dL_law_1279 rfl rfl ?_
  refine g_iload F 0 dL_law_1280 rfl ?_
  refine g_iconst (v := 3) F dL_law_1282 (by decide) ?_
  refine g_iadd (v := 3) F dL_law_1283 (by decide) ?_
  refine g_sld (v := xs 3) F hX hbl hbA (vp_in_nI (n := 3) (by decide) (by decide)) (congrArg xs (nI_clamp (n := 3) (by decide))) dL_law_1284 ?_
  refine g_i2l (v := y2) F dL_law_1285 ey2.symm ?_
  refine g_ldc2_w F dL_law_1286 q1345 ?_
  refine g_land (v := y3) F dL_law_1289 ey3.symm ?_
  refine g_lor (v := y4) F dL_law_1290 ey4.symm ?_
  refine g_callV (k := 62) (As := [.int (xs 1), .long y4]) (rest := [.int (-1)]) F (kX9_ways (zl z) E hE _ _ (xs 1) y4) mX9_ways q1116 rfl s62 rfl rfl rfl (Nat.le_of_ble_eq_true rfl) dL_law_1291 (fun r I2 J2 h2 => ?_)
  obtain rfl := h2
  refine g_st (sn := [.int (-1), .int (-1)]) rfl ?_
  refine g_icmp_eq (tgt := 1634) F dL_law_1294 (by decide) (fun _ => ?_) (fun h => absurd rfl h)
  refine g_sub (Ln := [(4, .int 0), (0, .ref b)]) [0, 4] rfl ?_
  exact hend _ _
set_option maxRecDepth 100000 in
set_option maxHeartbeats 4000000 in
theorem law_c30 {z : gZ} {E : gE} {b : Nat} {xs : Nat → Int32} (F : Fx z sh E RL cL_law room_1 7) (hE : gDist sh E) (hX : va_X b 6 xs (zs z) (zs z).heap) (hbl : b < (zs z).heap.size) (hbA : ¬ zA z b) (hend : ∀ I J, G z 1634 [(4, .int 0), (0, .ref b)] [] I J) : G z 1299 [(4, .int 0), (3, .ref (E.2.1 90)), (2, .ref (E.2.1 62)), (1, .ref (E.2.1 0)), (0, .ref b)] [] g0 h0 := by
  refine g_aload_n F 3 dL_law_1299 rfl rfl ?_
  refine g_aload_n F 4 dL_law_1300 rfl rfl ?_
  refine g_iload F 0 dL_law_1301 rfl ?_
  refine g_iconst (v := 1) F dL_law_1303 (by decide) ?_
  refine g_iadd (v := 1) F dL_law_1304 (by decide) ?_
  refine g_sld (v := xs 1) F hX hbl hbA (vp_in_nI (n := 1) (by decide) (by decide)) (congrArg xs (nI_clamp (n := 1) (by decide))) dL_law_1305 ?_
  refine g_callV (k := 0) (As := [.int (xs 1)]) (rest := []) F (kX8_status (zl z) E hE (xs 1)) mX8_status q641 rfl s0 rfl rfl rfl (Nat.le_of_ble_eq_true rfl) dL_law_1306 (fun r I1 J1 h1 => ?_)
  obtain ⟨rfl, hz⟩ := h1
  refine g_mem (Z9_g hz) (Z9_h hz) ?_
  refine g_st (sn := [.int (if 0 ≤ (xs 1) ∧ (xs 1) < 4 then 0 else (-1))]) rfl ?_
  refine g_aload_n F 2 dL_law_1309 rfl rfl ?_
  refine g_aload_n F 4 dL_law_1310 rfl rfl ?_
  refine g_iload F 0 dL_law_1311 rfl ?_
  refine g_iconst (v := 1) F dL_law_1313 (by decide) ?_
  refine g_iadd (v := 1) F dL_law_1314 (by decide) ?_
  refine g_sld (v := xs 1) F hX hbl hbA (vp_in_nI (n := 1) (by decide) (by decide)) (congrArg xs (nI_clamp (n := 1) (by decide))) dL_law_1315 ?_
  refine g_callV (k := 62) (As := [.int (xs 1)]) (rest := [.int (if 0 ≤ (xs 1) ∧ (xs 1) < 4 then 0 else (-1))]) F (kX9_status (zl z) E hE _ _ (xs 1)) mX9_status q1131 rfl s62 rfl rfl rfl (Nat.le_of_ble_eq_true rfl) dL_law_1316 (fun r I2 J2 h2 => ?_)
  obtain rfl := h2
  refine g_st (sn := [.int (if 0 ≤ (xs 1) ∧ (xs 1) < 4 then 0 else (-1)), .int (if 0 ≤ (xs 1) ∧ (xs 1) < 4 then 0 else (-1))]) rfl ?_
  refine g_icmp_eq (tgt := 1634) F dL_law_1319 (by decide) (fun _ => ?_) (fun h => absurd rfl h)
  refine g_sub (Ln := [(4, .int 0), (0, .ref b)]) [0, 4] rfl ?_
  exact hend _ _
set_option maxRecDepth 100000 in
set_option maxHeartbeats 4000000 in
theorem law_c31 {z : gZ} {E : gE} {b : Nat} {xs : Nat → Int32} (F : Fx z sh E RL cL_law room_1 7) (hE : gDist sh E) (hX : va_X b 6 xs (zs z) (zs z).heap) (hbl : b < (zs z).heap.size) (hbA : ¬ zA z b) (hend : ∀ I J, G z 1634 [(4, .int 0), (0, .ref b)] [] I J) : G z 1324 [(4, .int 0), (3, .ref (E.2.1 90)), (2, .ref (E.2.1 62)), (1, .ref (E.2.1 0)), (0, .ref b)] [] g0 h0 := by
  refine g_aload_n F 3 dL_law_1324 rfl rfl ?_
  refine g_callV (k := 0) (As := []) (rest := []) F (kX8_undo (zl z) E hE) mX8_undo q645 rfl s0 rfl rfl rfl (Nat.le_of_ble_eq_true rfl) dL_law_1325 (fun r I1 J1 h1 => ?_)
  obtain ⟨rfl, hz⟩ := h1
  refine g_mem (Z9_g hz) (Z9_h hz) ?_
  refine g_st (sn := [.int (-1)]) rfl ?_
  refine g_aload_n F 2 dL_law_1328 rfl rfl ?_
  refine g_callV (k := 62) (As := []) (rest := [.int (-1)]) F (kX9_undo (zl z) E hE _ _) mX9_undo q1135 rfl s62 rfl rfl rfl (Nat.le_of_ble_eq_true rfl) dL_law_1329 (fun r I2 J2 h2 => ?_)
  obtain rfl := h2
  refine g_st (sn := [.int (-1), .int (-1)]) rfl ?_
  refine g_icmp_eq (tgt := 1634) F dL_law_1332 (by decide) (fun _ => ?_) (fun h => absurd rfl h)
  refine g_sub (Ln := [(4, .int 0), (0, .ref b)]) [0, 4] rfl ?_
  exact hend _ _
set_option maxRecDepth 100000 in
set_option maxHeartbeats 4000000 in
theorem law_c32 {z : gZ} {E : gE} {b : Nat} {xs : Nat → Int32} (F : Fx z sh E RL cL_law room_1 7) (hE : gDist sh E) (hX : va_X b 6 xs (zs z) (zs z).heap) (hbl : b < (zs z).heap.size) (hbA : ¬ zA z b) (hend : ∀ I J, G z 1634 [(4, .int 0), (0, .ref b)] [] I J) : G z 1337 [(4, .int 0), (3, .ref (E.2.1 90)), (2, .ref (E.2.1 62)), (1, .ref (E.2.1 0)), (0, .ref b)] [] g0 h0 := by
  refine g_aload_n F 3 dL_law_1337 rfl rfl ?_
  refine g_aload_n F 4 dL_law_1338 rfl rfl ?_
  refine g_iload F 0 dL_law_1339 rfl ?_
  refine g_iconst (v := 1) F dL_law_1341 (by decide) ?_
  refine g_iadd (v := 1) F dL_law_1342 (by decide) ?_
  refine g_sld (v := xs 1) F hX hbl hbA (vp_in_nI (n := 1) (by decide) (by decide)) (congrArg xs (nI_clamp (n := 1) (by decide))) dL_law_1343 ?_
  refine g_aload_n F 4 dL_law_1344 rfl rfl ?_
  refine g_iload F 0 dL_law_1345 rfl ?_
  refine g_iconst (v := 2) F dL_law_1347 (by decide) ?_
  refine g_iadd (v := 2) F dL_law_1348 (by decide) ?_
  refine g_sld (v := xs 2) F hX hbl hbA (vp_in_nI (n := 2) (by decide) (by decide)) (congrArg xs (nI_clamp (n := 2) (by decide))) dL_law_1349 ?_
  refine g_callV (k := 0) (As := [.int (xs 1), .int (xs 2)]) (rest := []) F (kX8_log (zl z) E hE (xs 1) (xs 2)) mX8_log q674 rfl s0 rfl rfl rfl (Nat.le_of_ble_eq_true rfl) dL_law_1350 (fun r I1 J1 h1 => ?_)
  obtain ⟨rfl, hz⟩ := h1
  refine g_mem (Z9_g hz) (Z9_h hz) ?_
  refine g_st (sn := [.int (-1000000)]) rfl ?_
  refine g_aload_n F 2 dL_law_1353 rfl rfl ?_
  refine g_aload_n F 4 dL_law_1354 rfl rfl ?_
  refine g_iload F 0 dL_law_1355 rfl ?_
  refine g_iconst (v := 1) F dL_law_1357 (by decide) ?_
  refine g_iadd (v := 1) F dL_law_1358 (by decide) ?_
  refine g_sld (v := xs 1) F hX hbl hbA (vp_in_nI (n := 1) (by decide) (by decide)) (congrArg xs (nI_clamp (n := 1) (by decide))) dL_law_1359 ?_
  refine g_aload_n F 4 dL_law_1360 rfl rfl ?_
  refine g_iload F 0 dL_law_1361 rfl ?_
  refine g_iconst (v := 2) F dL_law_1363 (by decide) ?_
  refine g_iadd (v := 2) F dL_law_1364 (by decide) ?_
  refine g_sld (v := xs 2) F hX hbl hbA (vp_in_nI (n := 2) (by decide) (by decide)) (congrArg xs (nI_clamp (n := 2) (by decide))) dL_law_1365 ?_
  refine g_callV (k := 62) (As := [.int (xs 1), .int (xs 2)]) (rest := [.int (-1000000)]) F (kX9_log (zl z) E hE _ _ (xs 1) (xs 2)) mX9_log q1139 rfl s62 rfl rfl rfl (Nat.le_of_ble_eq_true rfl) dL_law_1366 (fun r I2 J2 h2 => ?_)
  obtain rfl := h2
  refine g_st (sn := [.int (-1000000), .int (-1000000)]) rfl ?_
  refine g_icmp_eq (tgt := 1634) F dL_law_1369 (by decide) (fun _ => ?_) (fun h => absurd rfl h)
  refine g_sub (Ln := [(4, .int 0), (0, .ref b)]) [0, 4] rfl ?_
  exact hend _ _
set_option maxRecDepth 100000 in
set_option maxHeartbeats 4000000 in
theorem law_c33 {z : gZ} {E : gE} {b : Nat} {xs : Nat → Int32} (F : Fx z sh E RL cL_law room_1 7) (hE : gDist sh E) (hX : va_X b 6 xs (zs z) (zs z).heap) (hbl : b < (zs z).heap.size) (hbA : ¬ zA z b) (hend : ∀ I J, G z 1634 [(4, .int 0), (0, .ref b)] [] I J) : G z 1374 [(4, .int 0), (3, .ref (E.2.1 90)), (2, .ref (E.2.1 62)), (1, .ref (E.2.1 0)), (0, .ref b)] [] g0 h0 := by
  refine g_aload_n F 3 dL_law_1374 rfl rfl ?_
  refine g_aload_n F 4 dL_law_1375 rfl rfl ?_
  refine g_iload F 0 dL_law_1376 rfl ?_
  refine g_iconst (v := 1) F dL_law_1378 (by decide) ?_
  refine g_iadd (v := 1) F dL_law_1379 (by decide) ?_
  refine g_sld (v := xs 1) F hX hbl hbA (vp_in_nI (n := 1) (by decide) (by decide)) (congrArg xs (nI_clamp (n := 1) (by decide))) dL_law_1380 ?_
  refine g_aload_n F 4 dL_law_1381 rfl rfl ?_
  refine g_iload F 0 dL_law_1382 rfl ?_
  refine g_iconst (v := 2) F dL_law_1384 (by decide) ?_
  refine g_iadd (v := 2) F dL_law_1385 (by decide) ?_
  refine g_sld (v := xs 2) F hX hbl hbA (vp_in_nI (n := 2) (by decide) (by decide)) (congrArg xs (nI_clamp (n := 2) (by decide))) dL_law_1386 ?_
  refine g_aload_n F 4 dL_law_1387 rfl rfl ?_
  refine g_iload F 0 dL_law_1388 rfl ?_
  refine g_iconst (v := 3) F dL_law_1390 (by decide) ?_
  refine g_iadd (v := 3) F dL_law_1391 (by decide) ?_
  refine g_sld (v := xs 3) F hX hbl hbA (vp_in_nI (n := 3) (by decide) (by decide)) (congrArg xs (nI_clamp (n := 3) (by decide))) dL_law_1392 ?_
  refine g_aload_n F 4 dL_law_1393 rfl rfl ?_
  refine g_iload F 0 dL_law_1394 rfl ?_
  refine g_iconst (v := 4) F dL_law_1396 (by decide) ?_
  refine g_iadd (v := 4) F dL_law_1397 (by decide) ?_
  refine g_sld (v := xs 4) F hX hbl hbA (vp_in_nI (n := 4) (by decide) (by decide)) (congrArg xs (nI_clamp (n := 4) (by decide))) dL_law_1398 ?_
  refine g_aload_n F 4 dL_law_1399 rfl rfl ?_
  refine g_iload F 0 dL_law_1400 rfl ?_
  refine g_iconst (v := 5) F dL_law_1402 (by decide) ?_
  refine g_iadd (v := 5) F dL_law_1403 (by decide) ?_
  refine g_sld (v := xs 5) F hX hbl hbA (vp_in_nI (n := 5) (by decide) (by decide)) (congrArg xs (nI_clamp (n := 5) (by decide))) dL_law_1404 ?_
  refine g_callV (k := 0) (As := [.int (xs 1), .int (xs 2), .int (xs 3), .int (xs 4), .int (xs 5)]) (rest := []) F (kX8_would (zl z) E hE (xs 1) (xs 2) (xs 3) (xs 4) (xs 5)) mX8_would q686 rfl s0 rfl rfl rfl (Nat.le_of_ble_eq_true rfl) dL_law_1405 (fun r I1 J1 h1 => ?_)
  obtain ⟨rfl, hz⟩ := h1
  refine g_mem (Z9_g hz) (Z9_h hz) ?_
  refine g_st (sn := [.int (-1)]) rfl ?_
  refine g_aload_n F 2 dL_law_1408 rfl rfl ?_
  refine g_aload_n F 4 dL_law_1409 rfl rfl ?_
  refine g_iload F 0 dL_law_1410 rfl ?_
  refine g_iconst (v := 1) F dL_law_1412 (by decide) ?_
  refine g_iadd (v := 1) F dL_law_1413 (by decide) ?_
  refine g_sld (v := xs 1) F hX hbl hbA (vp_in_nI (n := 1) (by decide) (by decide)) (congrArg xs (nI_clamp (n := 1) (by decide))) dL_law_1414 ?_
  refine g_aload_n F 4 dL_law_1415 rfl rfl ?_
  refine g_iload F 0 dL_law_1416 rfl ?_
  refine g_iconst (v := 2) F dL_law_1418 (by decide) ?_
  refine g_iadd (v := 2) F dL_law_1419 (by decide) ?_
  refine g_sld (v := xs 2) F hX hbl hbA (vp_in_nI (n := 2) (by decide) (by decide)) (congrArg xs (nI_clamp (n := 2) (by decide))) dL_law_1420 ?_
  refine g_aload_n F 4 dL_law_1421 rfl rfl ?_
  refine g_iload F 0 dL_law_1422 rfl ?_
  refine g_iconst (v := 3) F dL_law_1424 (by decide) ?_
  refine g_iadd (v := 3) F dL_law_1425 (by decide) ?_
  refine g_sld (v := xs 3) F hX hbl hbA (vp_in_nI (n := 3) (by decide) (by decide)) (congrArg xs (nI_clamp (n := 3) (by decide))) dL_law_1426 ?_
  refine g_aload_n F 4 dL_law_1427 rfl rfl ?_
  refine g_iload F 0 dL_law_1428 rfl ?_
  refine g_iconst (v := 4) F dL_law_1430 (by decide) ?_
  refine g_iadd (v := 4) F dL_law_1431 (by decide) ?_
  refine g_sld (v := xs 4) F hX hbl hbA (vp_in_nI (n := 4) (by decide) (by decide)) (congrArg xs (nI_clamp (n := 4) (by decide))) dL_law_1432 ?_
  refine g_aload_n F 4 dL_law_1433 rfl rfl ?_
  refine g_iload F 0 dL_law_1434 rfl ?_
  refine g_iconst (v := 5) F dL_law_1436 (by decide) ?_
  refine g_iadd (v := 5) F dL_law_1437 (by decide) ?_
  refine g_sld (v := xs 5) F hX hbl hbA (vp_in_nI (n := 5) (by decide) (by decide)) (congrArg xs (nI_clamp (n := 5) (by decide))) dL_law_1438 ?_
  refine g_callV (k := 62) (As := [.int (xs 1), .int (xs 2), .int (xs 3), .int (xs 4), .int (xs 5)]) (rest := [.int (-1)]) F (kX9_would (zl z) E hE _ _ (xs 1) (xs 2) (xs 3) (xs 4) (xs 5)) mX9_would q1286 rfl s62 rfl rfl rfl (Nat.le_of_ble_eq_true rfl) dL_law_1439 (fun r I2 J2 h2 => ?_)
  obtain rfl := h2
  refine g_st (sn := [.int (-1), .int (-1)]) rfl ?_
  refine g_icmp_eq (tgt := 1634) F dL_law_1442 (by decide) (fun _ => ?_) (fun h => absurd rfl h)
  refine g_sub (Ln := [(4, .int 0), (0, .ref b)]) [0, 4] rfl ?_
  exact hend _ _
set_option maxRecDepth 100000 in
set_option maxHeartbeats 4000000 in
theorem law_c34 {z : gZ} {E : gE} {b : Nat} {xs : Nat → Int32} (F : Fx z sh E RL cL_law room_1 7) (hE : gDist sh E) (hX : va_X b 6 xs (zs z) (zs z).heap) (hbl : b < (zs z).heap.size) (hbA : ¬ zA z b) (hend : ∀ I J, G z 1634 [(4, .int 0), (0, .ref b)] [] I J) : G z 1447 [(4, .int 0), (3, .ref (E.2.1 90)), (2, .ref (E.2.1 62)), (1, .ref (E.2.1 0)), (0, .ref b)] [] g0 h0 := by
  refine g_aload_n F 3 dL_law_1447 rfl rfl ?_
  refine g_aload_n F 4 dL_law_1448 rfl rfl ?_
  refine g_iload F 0 dL_law_1449 rfl ?_
  refine g_iconst (v := 1) F dL_law_1451 (by decide) ?_
  refine g_iadd (v := 1) F dL_law_1452 (by decide) ?_
  refine g_sld (v := xs 1) F hX hbl hbA (vp_in_nI (n := 1) (by decide) (by decide)) (congrArg xs (nI_clamp (n := 1) (by decide))) dL_law_1453 ?_
  refine g_aload_n F 4 dL_law_1454 rfl rfl ?_
  refine g_iload F 0 dL_law_1455 rfl ?_
  refine g_iconst (v := 2) F dL_law_1457 (by decide) ?_
  refine g_iadd (v := 2) F dL_law_1458 (by decide) ?_
  refine g_sld (v := xs 2) F hX hbl hbA (vp_in_nI (n := 2) (by decide) (by decide)) (congrArg xs (nI_clamp (n := 2) (by decide))) dL_law_1459 ?_
  refine g_aload_n F 4 dL_law_1460 rfl rfl ?_
  refine g_iload F 0 dL_law_1461 rfl ?_
  refine g_iconst (v := 3) F dL_law_1463 (by decide) ?_
  refine g_iadd (v := 3) F dL_law_1464 (by decide) ?_
  refine g_sld (v := xs 3) F hX hbl hbA (vp_in_nI (n := 3) (by decide) (by decide)) (congrArg xs (nI_clamp (n := 3) (by decide))) dL_law_1465 ?_
  refine g_callV (k := 0) (As := [.int (xs 1), .int (xs 2), .int (xs 3)]) (rest := []) F (kX8_step (zl z) E hE (xs 1) (xs 2) (xs 3)) mX8_step q690 rfl s0 rfl rfl rfl (Nat.le_of_ble_eq_true rfl) dL_law_1466 (fun r I1 J1 h1 => ?_)
  obtain ⟨rfl, hz⟩ := h1
  refine g_mem (Z9_g hz) (Z9_h hz) ?_
  refine g_st (sn := [.int (-1000000)]) rfl ?_
  refine g_aload_n F 2 dL_law_1469 rfl rfl ?_
  refine g_aload_n F 4 dL_law_1470 rfl rfl ?_
  refine g_iload F 0 dL_law_1471 rfl ?_
  refine g_iconst (v := 1) F dL_law_1473 (by decide) ?_
  refine g_iadd (v := 1) F dL_law_1474 (by decide) ?_
  refine g_sld (v := xs 1) F hX hbl hbA (vp_in_nI (n := 1) (by decide) (by decide)) (congrArg xs (nI_clamp (n := 1) (by decide))) dL_law_1475 ?_
  refine g_aload_n F 4 dL_law_1476 rfl rfl ?_
  refine g_iload F 0 dL_law_1477 rfl ?_
  refine g_iconst (v := 2) F dL_law_1479 (by decide) ?_
  refine g_iadd (v := 2) F dL_law_1480 (by decide) ?_
  refine g_sld (v := xs 2) F hX hbl hbA (vp_in_nI (n := 2) (by decide) (by decide)) (congrArg xs (nI_clamp (n := 2) (by decide))) dL_law_1481 ?_
  refine g_aload_n F 4 dL_law_1482 rfl rfl ?_
  refine g_iload F 0 dL_law_1483 rfl ?_
  refine g_iconst (v := 3) F dL_law_1485 (by decide) ?_
  refine g_iadd (v := 3) F dL_law_1486 (by decide) ?_
  refine g_sld (v := xs 3) F hX hbl hbA (vp_in_nI (n := 3) (by decide) (by decide)) (congrArg xs (nI_clamp (n := 3) (by decide))) dL_law_1487 ?_
  refine g_callV (k := 62) (As := [.int (xs 1), .int (xs 2), .int (xs 3)]) (rest := [.int (-1000000)]) F (kX9_step (zl z) E hE _ _ (xs 1) (xs 2) (xs 3)) mX9_step q1296 rfl s62 rfl rfl rfl (Nat.le_of_ble_eq_true rfl) dL_law_1488 (fun r I2 J2 h2 => ?_)
  obtain rfl := h2
  refine g_st (sn := [.int (-1000000), .int (-1000000)]) rfl ?_
  refine g_icmp_eq (tgt := 1634) F dL_law_1491 (by decide) (fun _ => ?_) (fun h => absurd rfl h)
  refine g_sub (Ln := [(4, .int 0), (0, .ref b)]) [0, 4] rfl ?_
  exact hend _ _
set_option maxRecDepth 100000 in
set_option maxHeartbeats 4000000 in
theorem law_c35 {z : gZ} {E : gE} {b : Nat} {xs : Nat → Int32} (F : Fx z sh E RL cL_law room_1 7) (hE : gDist sh E) (hX : va_X b 6 xs (zs z) (zs z).heap) (hbl : b < (zs z).heap.size) (hbA : ¬ zA z b) (hend : ∀ I J, G z 1634 [(4, .int 0), (0, .ref b)] [] I J) : G z 1496 [(4, .int 0), (3, .ref (E.2.1 90)), (2, .ref (E.2.1 62)), (1, .ref (E.2.1 0)), (0, .ref b)] [] g0 h0 := by
  refine g_aload_n F 3 dL_law_1496 rfl rfl ?_
  refine g_aload_n F 4 dL_law_1497 rfl rfl ?_
  refine g_iload F 0 dL_law_1498 rfl ?_
  refine g_iconst (v := 1) F dL_law_1500 (by decide) ?_
  refine g_iadd (v := 1) F dL_law_1501 (by decide) ?_
  refine g_sld (v := xs 1) F hX hbl hbA (vp_in_nI (n := 1) (by decide) (by decide)) (congrArg xs (nI_clamp (n := 1) (by decide))) dL_law_1502 ?_
  refine g_aload_n F 4 dL_law_1503 rfl rfl ?_
  refine g_iload F 0 dL_law_1504 rfl ?_
  refine g_iconst (v := 2) F dL_law_1506 (by decide) ?_
  refine g_iadd (v := 2) F dL_law_1507 (by decide) ?_
  refine g_sld (v := xs 2) F hX hbl hbA (vp_in_nI (n := 2) (by decide) (by decide)) (congrArg xs (nI_clamp (n := 2) (by decide))) dL_law_1508 ?_
  refine g_callV (k := 0) (As := [.int (xs 1), .int (xs 2)]) (rest := []) F (kX8_run (zl z) E hE (xs 1) (xs 2)) mX8_run q701 rfl s0 rfl rfl rfl (Nat.le_of_ble_eq_true rfl) dL_law_1509 (fun r I1 J1 h1 => ?_)
  obtain ⟨rfl, hz⟩ := h1
  refine g_mem (Z9_g hz) (Z9_h hz) ?_
  refine g_st (sn := [.int (-1000000)]) rfl ?_
  refine g_aload_n F 2 dL_law_1512 rfl rfl ?_
  refine g_aload_n F 4 dL_law_1513 rfl rfl ?_
  refine g_iload F 0 dL_law_1514 rfl ?_
  refine g_iconst (v := 1) F dL_law_1516 (by decide) ?_
  refine g_iadd (v := 1) F dL_law_1517 (by decide) ?_
  refine g_sld (v := xs 1) F hX hbl hbA (vp_in_nI (n := 1) (by decide) (by decide)) (congrArg xs (nI_clamp (n := 1) (by decide))) dL_law_1518 ?_
  refine g_aload_n F 4 dL_law_1519 rfl rfl ?_
  refine g_iload F 0 dL_law_1520 rfl ?_
  refine g_iconst (v := 2) F dL_law_1522 (by decide) ?_
  refine g_iadd (v := 2) F dL_law_1523 (by decide) ?_
  refine g_sld (v := xs 2) F hX hbl hbA (vp_in_nI (n := 2) (by decide) (by decide)) (congrArg xs (nI_clamp (n := 2) (by decide))) dL_law_1524 ?_
  refine g_callV (k := 62) (As := [.int (xs 1), .int (xs 2)]) (rest := [.int (-1000000)]) F (kX9_run (zl z) E hE _ _ (xs 1) (xs 2)) mX9_run q1303 rfl s62 rfl rfl rfl (Nat.le_of_ble_eq_true rfl) dL_law_1525 (fun r I2 J2 h2 => ?_)
  obtain rfl := h2
  refine g_st (sn := [.int (-1000000), .int (-1000000)]) rfl ?_
  refine g_icmp_eq (tgt := 1634) F dL_law_1528 (by decide) (fun _ => ?_) (fun h => absurd rfl h)
  refine g_sub (Ln := [(4, .int 0), (0, .ref b)]) [0, 4] rfl ?_
  exact hend _ _
set_option maxRecDepth 100000 in
set_option maxHeartbeats 4000000 in
theorem law_c36 {z : gZ} {E : gE} {b : Nat} {xs : Nat → Int32} (F : Fx z sh E RL cL_law room_1 7) (hE : gDist sh E) (hX : va_X b 6 xs (zs z) (zs z).heap) (hbl : b < (zs z).heap.size) (hbA : ¬ zA z b) (hend : ∀ I J, G z 1634 [(4, .int 0), (0, .ref b)] [] I J) : G z 1533 [(4, .int 0), (3, .ref (E.2.1 90)), (2, .ref (E.2.1 62)), (1, .ref (E.2.1 0)), (0, .ref b)] [] g0 h0 := by
  refine g_aload_n F 3 dL_law_1533 rfl rfl ?_
  refine g_aload_n F 4 dL_law_1534 rfl rfl ?_
  refine g_iload F 0 dL_law_1535 rfl ?_
  refine g_iconst (v := 1) F dL_law_1537 (by decide) ?_
  refine g_iadd (v := 1) F dL_law_1538 (by decide) ?_
  refine g_sld (v := xs 1) F hX hbl hbA (vp_in_nI (n := 1) (by decide) (by decide)) (congrArg xs (nI_clamp (n := 1) (by decide))) dL_law_1539 ?_
  refine g_callV (k := 0) (As := [.int (xs 1)]) (rest := []) F (kX8_perform (zl z) E hE (xs 1)) mX8_perform q713 rfl s0 rfl rfl rfl (Nat.le_of_ble_eq_true rfl) dL_law_1540 (fun r I1 J1 h1 => ?_)
  obtain ⟨rfl, hz⟩ := h1
  refine g_mem (Z9_g hz) (Z9_h hz) ?_
  refine g_st (sn := [.int (-1)]) rfl ?_
  refine g_aload_n F 2 dL_law_1543 rfl rfl ?_
  refine g_aload_n F 4 dL_law_1544 rfl rfl ?_
  refine g_iload F 0 dL_law_1545 rfl ?_
  refine g_iconst (v := 1) F dL_law_1547 (by decide) ?_
  refine g_iadd (v := 1) F dL_law_1548 (by decide) ?_
  refine g_sld (v := xs 1) F hX hbl hbA (vp_in_nI (n := 1) (by decide) (by decide)) (congrArg xs (nI_clamp (n := 1) (by decide))) dL_law_1549 ?_
  refine g_callV (k := 62) (As := [.int (xs 1)]) (rest := [.int (-1)]) F (kX9_perform (zl z) E hE _ _ (xs 1)) mX9_perform q1310 rfl s62 rfl rfl rfl (Nat.le_of_ble_eq_true rfl) dL_law_1550 (fun r I2 J2 h2 => ?_)
  obtain rfl := h2
  refine g_st (sn := [.int (-1), .int (-1)]) rfl ?_
  refine g_icmp_eq (tgt := 1634) F dL_law_1553 (by decide) (fun _ => ?_) (fun h => absurd rfl h)
  refine g_sub (Ln := [(4, .int 0), (0, .ref b)]) [0, 4] rfl ?_
  exact hend _ _
set_option maxRecDepth 100000 in
set_option maxHeartbeats 4000000 in
theorem law_c37 {z : gZ} {E : gE} {b : Nat} {xs : Nat → Int32} (F : Fx z sh E RL cL_law room_1 7) (hE : gDist sh E) (hX : va_X b 6 xs (zs z) (zs z).heap) (hbl : b < (zs z).heap.size) (hbA : ¬ zA z b) (hend : ∀ I J, G z 1634 [(4, .int 0), (0, .ref b)] [] I J) : G z 1558 [(4, .int 0), (3, .ref (E.2.1 90)), (2, .ref (E.2.1 62)), (1, .ref (E.2.1 0)), (0, .ref b)] [] g0 h0 := by
  refine g_aload_n F 3 dL_law_1558 rfl rfl ?_
  refine g_aload_n F 4 dL_law_1559 rfl rfl ?_
  refine g_iload F 0 dL_law_1560 rfl ?_
  refine g_iconst (v := 1) F dL_law_1562 (by decide) ?_
  refine g_iadd (v := 1) F dL_law_1563 (by decide) ?_
  refine g_sld (v := xs 1) F hX hbl hbA (vp_in_nI (n := 1) (by decide) (by decide)) (congrArg xs (nI_clamp (n := 1) (by decide))) dL_law_1564 ?_
  refine g_callV (k := 0) (As := [.int (xs 1)]) (rest := []) F (kX8_most (zl z) E hE (xs 1)) mX8_most q717 rfl s0 rfl rfl rfl (Nat.le_of_ble_eq_true rfl) dL_law_1565 (fun r I1 J1 h1 => ?_)
  obtain ⟨rfl, hz⟩ := h1
  refine g_mem (Z9_g hz) (Z9_h hz) ?_
  refine g_st (sn := [.int (-1000000)]) rfl ?_
  refine g_aload_n F 2 dL_law_1568 rfl rfl ?_
  refine g_aload_n F 4 dL_law_1569 rfl rfl ?_
  refine g_iload F 0 dL_law_1570 rfl ?_
  refine g_iconst (v := 1) F dL_law_1572 (by decide) ?_
  refine g_iadd (v := 1) F dL_law_1573 (by decide) ?_
  refine g_sld (v := xs 1) F hX hbl hbA (vp_in_nI (n := 1) (by decide) (by decide)) (congrArg xs (nI_clamp (n := 1) (by decide))) dL_law_1574 ?_
  refine g_callV (k := 62) (As := [.int (xs 1)]) (rest := [.int (-1000000)]) F (kX9_most (zl z) E hE _ _ (xs 1)) mX9_most q1314 rfl s62 rfl rfl rfl (Nat.le_of_ble_eq_true rfl) dL_law_1575 (fun r I2 J2 h2 => ?_)
  obtain rfl := h2
  refine g_st (sn := [.int (-1000000), .int (-1000000)]) rfl ?_
  refine g_icmp_eq (tgt := 1634) F dL_law_1578 (by decide) (fun _ => ?_) (fun h => absurd rfl h)
  refine g_sub (Ln := [(4, .int 0), (0, .ref b)]) [0, 4] rfl ?_
  exact hend _ _
set_option maxRecDepth 100000 in
set_option maxHeartbeats 4000000 in
theorem law_c38 {z : gZ} {E : gE} {b : Nat} {xs : Nat → Int32} (F : Fx z sh E RL cL_law room_1 7) (hE : gDist sh E) (hX : va_X b 6 xs (zs z) (zs z).heap) (hbl : b < (zs z).heap.size) (hbA : ¬ zA z b) (hend : ∀ I J, G z 1634 [(4, .int 0), (0, .ref b)] [] I J) : G z 1583 [(4, .int 0), (3, .ref (E.2.1 90)), (2, .ref (E.2.1 62)), (1, .ref (E.2.1 0)), (0, .ref b)] [] g0 h0 := by
  refine g_aload_n F 3 dL_law_1583 rfl rfl ?_
  refine g_callV (k := 0) (As := []) (rest := []) F (kX8_image (zl z) E hE) mX8_image q747 rfl s0 rfl rfl rfl (Nat.le_of_ble_eq_true rfl) dL_law_1584 (fun r I1 J1 h1 => ?_)
  obtain ⟨rfl, hz⟩ := h1
  refine g_mem (Z9_g hz) (Z9_h hz) ?_
  refine g_st (sn := [.int (-1)]) rfl ?_
  refine g_aload_n F 2 dL_law_1587 rfl rfl ?_
  refine g_callV (k := 62) (As := []) (rest := [.int (-1)]) F (kX9_image (zl z) E hE _ _) mX9_image q1333 rfl s62 rfl rfl rfl (Nat.le_of_ble_eq_true rfl) dL_law_1588 (fun r I2 J2 h2 => ?_)
  obtain rfl := h2
  refine g_st (sn := [.int (-1), .int (-1)]) rfl ?_
  refine g_icmp_eq (tgt := 1634) F dL_law_1591 (by decide) (fun _ => ?_) (fun h => absurd rfl h)
  refine g_sub (Ln := [(4, .int 0), (0, .ref b)]) [0, 4] rfl ?_
  exact hend _ _
set_option maxRecDepth 100000 in
set_option maxHeartbeats 4000000 in
theorem law_c39 {z : gZ} {E : gE} {b : Nat} {xs : Nat → Int32} (F : Fx z sh E RL cL_law room_1 7) (hE : gDist sh E) (hX : va_X b 6 xs (zs z) (zs z).heap) (hbl : b < (zs z).heap.size) (hbA : ¬ zA z b) (hend : ∀ I J, G z 1634 [(4, .int 0), (0, .ref b)] [] I J) : G z 1596 [(4, .int 0), (3, .ref (E.2.1 90)), (2, .ref (E.2.1 62)), (1, .ref (E.2.1 0)), (0, .ref b)] [] g0 h0 := by
  refine g_aload_n F 3 dL_law_1596 rfl rfl ?_
  refine g_callV (k := 0) (As := []) (rest := []) F (kX8_back (zl z) E hE) mX8_back q756 rfl s0 rfl rfl rfl (Nat.le_of_ble_eq_true rfl) dL_law_1597 (fun r I1 J1 h1 => ?_)
  obtain ⟨rfl, hz⟩ := h1
  refine g_mem (Z9_g hz) (Z9_h hz) ?_
  refine g_st (sn := [.int (-1)]) rfl ?_
  refine g_aload_n F 2 dL_law_1600 rfl rfl ?_
  refine g_callV (k := 62) (As := []) (rest := [.int (-1)]) F (kX9_back (zl z) E hE _ _) mX9_back q1337 rfl s62 rfl rfl rfl (Nat.le_of_ble_eq_true rfl) dL_law_1601 (fun r I2 J2 h2 => ?_)
  obtain rfl := h2
  refine g_st (sn := [.int (-1), .int (-1)]) rfl ?_
  refine g_icmp_eq (tgt := 1634) F dL_law_1604 (by decide) (fun _ => ?_) (fun h => absurd rfl h)
  refine g_sub (Ln := [(4, .int 0), (0, .ref b)]) [0, 4] rfl ?_
  exact hend _ _
set_option maxRecDepth 100000 in
set_option maxHeartbeats 4000000 in
theorem law_c40 {z : gZ} {E : gE} {b : Nat} {xs : Nat → Int32} (F : Fx z sh E RL cL_law room_1 7) (hE : gDist sh E) (hX : va_X b 6 xs (zs z) (zs z).heap) (hbl : b < (zs z).heap.size) (hbA : ¬ zA z b) (hend : ∀ I J, G z 1634 [(4, .int 0), (0, .ref b)] [] I J) : G z 1609 [(4, .int 0), (3, .ref (E.2.1 90)), (2, .ref (E.2.1 62)), (1, .ref (E.2.1 0)), (0, .ref b)] [] g0 h0 := by
  refine g_aload_n F 3 dL_law_1609 rfl rfl ?_
  refine g_aload_n F 4 dL_law_1610 rfl rfl ?_
  refine g_iload F 0 dL_law_1611 rfl ?_
  refine g_iconst (v := 1) F dL_law_1613 (by decide) ?_
  refine g_iadd (v := 1) F dL_law_1614 (by decide) ?_
  refine g_sld (v := xs 1) F hX hbl hbA (vp_in_nI (n := 1) (by decide) (by decide)) (congrArg xs (nI_clamp (n := 1) (by decide))) dL_law_1615 ?_
  refine g_callV (k := 0) (As := [.int (xs 1)]) (rest := []) F (kX8_count (zl z) E hE (xs 1)) mX8_count q760 rfl s0 rfl rfl rfl (Nat.le_of_ble_eq_true rfl) dL_law_1616 (fun r I1 J1 h1 => ?_)
  obtain ⟨rfl, hz⟩ := h1
  refine g_mem (Z9_g hz) (Z9_h hz) ?_
  refine g_st (sn := [.int (if 0 ≤ (xs 1) ∧ (xs 1) < 5 then 0 else (-1000000))]) rfl ?_
  refine g_aload_n F 2 dL_law_1619 rfl rfl ?_
  refine g_aload_n F 4 dL_law_1620 rfl rfl ?_
  refine g_iload F 0 dL_law_1621 rfl ?_
  refine g_iconst (v := 1) F dL_law_1623 (by decide) ?_
  refine g_iadd (v := 1) F dL_law_1624 (by decide) ?_
  refine g_sld (v := xs 1) F hX hbl hbA (vp_in_nI (n := 1) (by decide) (by decide)) (congrArg xs (nI_clamp (n := 1) (by decide))) dL_law_1625 ?_
  refine g_callV (k := 62) (As := [.int (xs 1)]) (rest := [.int (if 0 ≤ (xs 1) ∧ (xs 1) < 5 then 0 else (-1000000))]) F (kX9_count (zl z) E hE _ _ (xs 1)) mX9_count q1341 rfl s62 rfl rfl rfl (Nat.le_of_ble_eq_true rfl) dL_law_1626 (fun r I2 J2 h2 => ?_)
  obtain rfl := h2
  refine g_st (sn := [.int (if 0 ≤ (xs 1) ∧ (xs 1) < 5 then 0 else (-1000000)), .int (if 0 ≤ (xs 1) ∧ (xs 1) < 5 then 0 else (-1000000))]) rfl ?_
  refine g_icmp_eq (tgt := 1634) F dL_law_1629 (by decide) (fun _ => ?_) (fun h => absurd rfl h)
  refine g_sub (Ln := [(4, .int 0), (0, .ref b)]) [0, 4] rfl ?_
  exact hend _ _
set_option maxRecDepth 100000 in
set_option maxHeartbeats 4000000 in
theorem law_sw {z : gZ} {E : gE} {b : Nat} {xs : Nat → Int32} {x : Int32} (F : Fx z sh E RL cL_law room_1 7) (hE : gDist sh E) (hX : va_X b 6 xs (zs z) (zs z).heap) (hbl : b < (zs z).heap.size) (hbA : ¬ zA z b) {sa : Nat} (hfl : (zl z).stackTraces = false) (hjx : jx_X (zA z) sa (zs z).heap (zs z)) (hkx : zk z + 1 ≤ room_1.cells ∧ zn z + 6 ≤ room_1.slots) (hcwt : Cond.codeWith yL_table cL_table 5 (some .int) jx_hh ∈ gw) (hmt : Cond.static yL_table ∈ gw ∧ Cond.initialized RL ∈ gw ∧ Cond.methodLink RL 42 yL_table ∈ gw) (hend : ∀ I J, G z 1634 [(4, .int 0), (0, .ref b)] [] I J) (hend1 : ∀ I J, G (zUp z 1 6) 1634 [(4, .int 0), (0, .ref b)] [] I J) : G z 40 [(4, .int 0), (3, .ref (E.2.1 90)), (2, .ref (E.2.1 62)), (1, .ref (E.2.1 0)), (0, .ref b)] [.int x] g0 h0 := by
  by_cases hr : 0 ≤ x.toInt ∧ x.toInt ≤ 40
  · obtain ⟨n, hn⟩ := Int.eq_ofNat_of_zero_le hr.1
    have hn2 : n < 41 := by omega
    match n, hn, hn2 with
    | 0, hn, _ =>
      refine g_tableIn (tgt := 220) F dL_law_40 (by rw [hn]; decide) (by rw [hn]; decide) (by rw [hn]; rfl) (by decide) ?_
      exact law_c0 F hE hX hbl hbA hend
    | 1, hn, _ =>
      refine g_tableIn (tgt := 293) F dL_law_40 (by rw [hn]; decide) (by rw [hn]; decide) (by rw [hn]; rfl) (by decide) ?_
      exact law_c1 F hE hX hbl hbA hend
    | 2, hn, _ =>
      refine g_tableIn (tgt := 318) F dL_law_40 (by rw [hn]; decide) (by rw [hn]; decide) (by rw [hn]; rfl) (by decide) ?_
      exact law_c2 F hE hX hbl hbA hend
    | 3, hn, _ =>
      refine g_tableIn (tgt := 343) F dL_law_40 (by rw [hn]; decide) (by rw [hn]; decide) (by rw [hn]; rfl) (by decide) ?_
      exact law_c3 F hE hX hbl hbA hend
    | 4, hn, _ =>
      refine g_tableIn (tgt := 368) F dL_law_40 (by rw [hn]; decide) (by rw [hn]; decide) (by rw [hn]; rfl) (by decide) ?_
      exact law_c4 F hE hX hbl hbA hend
    | 5, hn, _ =>
      refine g_tableIn (tgt := 393) F dL_law_40 (by rw [hn]; decide) (by rw [hn]; decide) (by rw [hn]; rfl) (by decide) ?_
      exact law_c5 F hE hX hbl hbA hfl hjx hkx hcwt hmt hend1
    | 6, hn, _ =>
      refine g_tableIn (tgt := 461) F dL_law_40 (by rw [hn]; decide) (by rw [hn]; decide) (by rw [hn]; rfl) (by decide) ?_
      exact law_c6 F hE hX hbl hbA hend
    | 7, hn, _ =>
      refine g_tableIn (tgt := 510) F dL_law_40 (by rw [hn]; decide) (by rw [hn]; decide) (by rw [hn]; rfl) (by decide) ?_
      exact law_c7 F hE hX hbl hbA hend
    | 8, hn, _ =>
      refine g_tableIn (tgt := 523) F dL_law_40 (by rw [hn]; decide) (by rw [hn]; decide) (by rw [hn]; rfl) (by decide) ?_
      exact law_c8 F hE hX hbl hbA hend
    | 9, hn, _ =>
      refine g_tableIn (tgt := 560) F dL_law_40 (by rw [hn]; decide) (by rw [hn]; decide) (by rw [hn]; rfl) (by decide) ?_
      exact law_c9 F hE hX hbl hbA hend
    | 10, hn, _ =>
      refine g_tableIn (tgt := 573) F dL_law_40 (by rw [hn]; decide) (by rw [hn]; decide) (by rw [hn]; rfl) (by decide) ?_
      exact law_c10 F hE hX hbl hbA hend
    | 11, hn, _ =>
      refine g_tableIn (tgt := 598) F dL_law_40 (by rw [hn]; decide) (by rw [hn]; decide) (by rw [hn]; rfl) (by decide) ?_
      exact law_c11 F hE hX hbl hbA hend
    | 12, hn, _ =>
      refine g_tableIn (tgt := 623) F dL_law_40 (by rw [hn]; decide) (by rw [hn]; decide) (by rw [hn]; rfl) (by decide) ?_
      exact law_c12 F hE hX hbl hbA hend
    | 13, hn, _ =>
      refine g_tableIn (tgt := 636) F dL_law_40 (by rw [hn]; decide) (by rw [hn]; decide) (by rw [hn]; rfl) (by decide) ?_
      exact law_c13 F hE hX hbl hbA hend
    | 14, hn, _ =>
      refine g_tableIn (tgt := 661) F dL_law_40 (by rw [hn]; decide) (by rw [hn]; decide) (by rw [hn]; rfl) (by decide) ?_
      exact law_c14 F hE hX hbl hbA hend
    | 15, hn, _ =>
      refine g_tableIn (tgt := 686) F dL_law_40 (by rw [hn]; decide) (by rw [hn]; decide) (by rw [hn]; rfl) (by decide) ?_
      exact law_c15 F hE hX hbl hbA hend
    | 16, hn, _ =>
      refine g_tableIn (tgt := 711) F dL_law_40 (by rw [hn]; decide) (by rw [hn]; decide) (by rw [hn]; rfl) (by decide) ?_
      exact law_c16 F hE hX hbl hbA hend
    | 17, hn, _ =>
      refine g_tableIn (tgt := 748) F dL_law_40 (by rw [hn]; decide) (by rw [hn]; decide) (by rw [hn]; rfl) (by decide) ?_
      exact law_c17 F hE hX hbl hbA hend
    | 18, hn, _ =>
      refine g_tableIn (tgt := 785) F dL_law_40 (by rw [hn]; decide) (by rw [hn]; decide) (by rw [hn]; rfl) (by decide) ?_
      exact law_c18 F hE hX hbl hbA hend
    | 19, hn, _ =>
      refine g_tableIn (tgt := 822) F dL_law_40 (by rw [hn]; decide) (by rw [hn]; decide) (by rw [hn]; rfl) (by decide) ?_
      exact law_c19 F hE hX hbl hbA hend
    | 20, hn, _ =>
      refine g_tableIn (tgt := 883) F dL_law_40 (by rw [hn]; decide) (by rw [hn]; decide) (by rw [hn]; rfl) (by decide) ?_
      exact law_c20 F hE hX hbl hbA hend
    | 21, hn, _ =>
      refine g_tableIn (tgt := 944) F dL_law_40 (by rw [hn]; decide) (by rw [hn]; decide) (by rw [hn]; rfl) (by decide) ?_
      exact law_c21 F hE hX hbl hbA hend
    | 22, hn, _ =>
      refine g_tableIn (tgt := 970) F dL_law_40 (by rw [hn]; decide) (by rw [hn]; decide) (by rw [hn]; rfl) (by decide) ?_
      exact law_c22 F hE hX hbl hbA hend
    | 23, hn, _ =>
      refine g_tableIn (tgt := 1007) F dL_law_40 (by rw [hn]; decide) (by rw [hn]; decide) (by rw [hn]; rfl) (by decide) ?_
      exact law_c23 F hE hX hbl hbA hend
    | 24, hn, _ =>
      refine g_tableIn (tgt := 1033) F dL_law_40 (by rw [hn]; decide) (by rw [hn]; decide) (by rw [hn]; rfl) (by decide) ?_
      exact law_c24 F hE hX hbl hbA hend
    | 25, hn, _ =>
      refine g_tableIn (tgt := 1058) F dL_law_40 (by rw [hn]; decide) (by rw [hn]; decide) (by rw [hn]; rfl) (by decide) ?_
      exact law_c25 F hE hX hbl hbA hend
    | 26, hn, _ =>
      refine g_tableIn (tgt := 1119) F dL_law_40 (by rw [hn]; decide) (by rw [hn]; decide) (by rw [hn]; rfl) (by decide) ?_
      exact law_c26 F hE hX hbl hbA hend
    | 27, hn, _ =>
      refine g_tableIn (tgt := 1180) F dL_law_40 (by rw [hn]; decide) (by rw [hn]; decide) (by rw [hn]; rfl) (by decide) ?_
      exact law_c27 F hE hX hbl hbA hend
    | 28, hn, _ =>
      refine g_tableIn (tgt := 1205) F dL_law_40 (by rw [hn]; decide) (by rw [hn]; decide) (by rw [hn]; rfl) (by decide) ?_
      exact law_c28 F hE hX hbl hbA hend
    | 29, hn, _ =>
      refine g_tableIn (tgt := 1230) F dL_law_40 (by rw [hn]; decide) (by rw [hn]; decide) (by rw [hn]; rfl) (by decide) ?_
      exact law_c29 F hE hX hbl hbA hend
    | 30, hn, _ =>
      refine g_tableIn (tgt := 1299) F dL_law_40 (by rw [hn]; decide) (by rw [hn]; decide) (by rw [hn]; rfl) (by decide) ?_
      exact law_c30 F hE hX hbl hbA hend
    | 31, hn, _ =>
      refine g_tableIn (tgt := 1324) F dL_law_40 (by rw [hn]; decide) (by rw [hn]; decide) (by rw [hn]; rfl) (by decide) ?_
      exact law_c31 F hE hX hbl hbA hend
    | 32, hn, _ =>
      refine g_tableIn (tgt := 1337) F dL_law_40 (by rw [hn]; decide) (by rw [hn]; decide) (by rw [hn]; rfl) (by decide) ?_
      exact law_c32 F hE hX hbl hbA hend
    | 33, hn, _ =>
      refine g_tableIn (tgt := 1374) F dL_law_40 (by rw [hn]; decide) (by rw [hn]; decide) (by rw [hn]; rfl) (by decide) ?_
      exact law_c33 F hE hX hbl hbA hend
    | 34, hn, _ =>
      refine g_tableIn (tgt := 1447) F dL_law_40 (by rw [hn]; decide) (by rw [hn]; decide) (by rw [hn]; rfl) (by decide) ?_
      exact law_c34 F hE hX hbl hbA hend
    | 35, hn, _ =>
      refine g_tableIn (tgt := 1496) F dL_law_40 (by rw [hn]; decide) (by rw [hn]; decide) (by rw [hn]; rfl) (by decide) ?_
      exact law_c35 F hE hX hbl hbA hend
    | 36, hn, _ =>
      refine g_tableIn (tgt := 1533) F dL_law_40 (by rw [hn]; decide) (by rw [hn]; decide) (by rw [hn]; rfl) (by decide) ?_
      exact law_c36 F hE hX hbl hbA hend
    | 37, hn, _ =>
      refine g_tableIn (tgt := 1558) F dL_law_40 (by rw [hn]; decide) (by rw [hn]; decide) (by rw [hn]; rfl) (by decide) ?_
      exact law_c37 F hE hX hbl hbA hend
    | 38, hn, _ =>
      refine g_tableIn (tgt := 1583) F dL_law_40 (by rw [hn]; decide) (by rw [hn]; decide) (by rw [hn]; rfl) (by decide) ?_
      exact law_c38 F hE hX hbl hbA hend
    | 39, hn, _ =>
      refine g_tableIn (tgt := 1596) F dL_law_40 (by rw [hn]; decide) (by rw [hn]; decide) (by rw [hn]; rfl) (by decide) ?_
      exact law_c39 F hE hX hbl hbA hend
    | 40, hn, _ =>
      refine g_tableIn (tgt := 1609) F dL_law_40 (by rw [hn]; decide) (by rw [hn]; decide) (by rw [hn]; rfl) (by decide) ?_
      exact law_c40 F hE hX hbl hbA hend
    | n + 41, _, h => exact absurd h (by omega)
  · refine g_tableOut (tgt := 1634) F dL_law_40 (by omega) (by decide) ?_
    exact g_sub (Ln := [(4, .int 0), (0, .ref b)]) [0, 4] rfl (hend _ _)
