theorem dL_isChartSo_224 : decode cL_isChartSo 224 = .ok (.iconst 1, 1) := by decide +kernel
theorem dL_isChartSo_225 : decode cL_isChartSo 225 = .ok (.isub, 1) := by decide +kernel
theorem dL_isChartSo_226 : decode cL_isChartSo 226 = .ok (.invokevirtual 72, 3) := by decide +kernel
theorem dL_isChartSo_229 : decode cL_isChartSo 229 = .ok (.iload 6, 2) := by decide +kernel
theorem dL_isChartSo_231 : decode cL_isChartSo 231 = .ok (.if_icmp .ne 7, 3) := by decide +kernel
theorem dL_isChartSo_234 : decode cL_isChartSo 234 = .ok (.iconst 1, 1) := by decide +kernel
theorem dL_isChartSo_235 : decode cL_isChartSo 235 = .ok (.goto 4, 3) := by decide +kernel
theorem dL_isChartSo_238 : decode cL_isChartSo 238 = .ok (.iconst 0, 1) := by decide +kernel
theorem dL_isChartSo_239 : decode cL_isChartSo 239 = .ok (.istore 5, 2) := by decide +kernel
theorem dL_isChartSo_241 : decode cL_isChartSo 241 = .ok (.iinc 6 1, 3) := by decide +kernel
theorem dL_isChartSo_244 : decode cL_isChartSo 244 = .ok (.goto (-229), 3) := by decide +kernel
theorem dL_isChartSo_247 : decode cL_isChartSo 247 = .ok (.iconst 0, 1) := by decide +kernel
theorem dL_isChartSo_248 : decode cL_isChartSo 248 = .ok (.istore 6, 2) := by decide +kernel
theorem dL_isChartSo_250 : decode cL_isChartSo 250 = .ok (.iconst 0, 1) := by decide +kernel
theorem dL_isChartSo_251 : decode cL_isChartSo 251 = .ok (.istore 7, 2) := by decide +kernel
theorem dL_isChartSo_253 : decode cL_isChartSo 253 = .ok (.iconst 0, 1) := by decide +kernel
theorem dL_isChartSo_254 : decode cL_isChartSo 254 = .ok (.istore 8, 2) := by decide +kernel
theorem dL_isChartSo_256 : decode cL_isChartSo 256 = .ok (.aload_n 0, 1) := by decide +kernel
theorem dL_isChartSo_257 : decode cL_isChartSo 257 = .ok (.bipush 7, 2) := by decide +kernel
theorem dL_isChartSo_259 : decode cL_isChartSo 259 = .ok (.invokevirtual 8, 3) := by decide +kernel
theorem dL_isChartSo_262 : decode cL_isChartSo 262 = .ok (.istore 9, 2) := by decide +kernel
theorem dL_isChartSo_264 : decode cL_isChartSo 264 = .ok (.iconst 0, 1) := by decide +kernel
theorem dL_isChartSo_265 : decode cL_isChartSo 265 = .ok (.istore 10, 2) := by decide +kernel
theorem dL_isChartSo_267 : decode cL_isChartSo 267 = .ok (.iload 10, 2) := by decide +kernel
theorem dL_isChartSo_269 : decode cL_isChartSo 269 = .ok (.iload 9, 2) := by decide +kernel
theorem dL_isChartSo_271 : decode cL_isChartSo 271 = .ok (.if_icmp .ge 110, 3) := by decide +kernel
theorem dL_isChartSo_274 : decode cL_isChartSo 274 = .ok (.aload_n 0, 1) := by decide +kernel
theorem dL_isChartSo_275 : decode cL_isChartSo 275 = .ok (.bipush 16, 2) := by decide +kernel
theorem dL_isChartSo_277 : decode cL_isChartSo 277 = .ok (.invokevirtual 8, 3) := by decide +kernel
theorem dL_isChartSo_280 : decode cL_isChartSo 280 = .ok (.istore 11, 2) := by decide +kernel
theorem dL_isChartSo_282 : decode cL_isChartSo 282 = .ok (.iload 5, 2) := by decide +kernel
theorem dL_isChartSo_284 : decode cL_isChartSo 284 = .ok (.ifCond .eq 52, 3) := by decide +kernel
theorem dL_isChartSo_287 : decode cL_isChartSo 287 = .ok (.aload_n 0, 1) := by decide +kernel
theorem dL_isChartSo_288 : decode cL_isChartSo 288 = .ok (.iload 10, 2) := by decide +kernel
theorem dL_isChartSo_290 : decode cL_isChartSo 290 = .ok (.iconst 0, 1) := by decide +kernel
theorem dL_isChartSo_291 : decode cL_isChartSo 291 = .ok (.invokevirtual 75, 3) := by decide +kernel
theorem dL_isChartSo_294 : decode cL_isChartSo 294 = .ok (.iload 6, 2) := by decide +kernel
theorem dL_isChartSo_296 : decode cL_isChartSo 296 = .ok (.if_icmp .ne 40, 3) := by decide +kernel
theorem dL_isChartSo_299 : decode cL_isChartSo 299 = .ok (.aload_n 0, 1) := by decide +kernel
theorem dL_isChartSo_300 : decode cL_isChartSo 300 = .ok (.iload 10, 2) := by decide +kernel
theorem dL_isChartSo_302 : decode cL_isChartSo 302 = .ok (.iconst 1, 1) := by decide +kernel
theorem dL_isChartSo_303 : decode cL_isChartSo 303 = .ok (.invokevirtual 75, 3) := by decide +kernel
theorem dL_isChartSo_306 : decode cL_isChartSo 306 = .ok (.ifCond .le 30, 3) := by decide +kernel
theorem dL_isChartSo_309 : decode cL_isChartSo 309 = .ok (.aload_n 0, 1) := by decide +kernel
theorem dL_isChartSo_310 : decode cL_isChartSo 310 = .ok (.iload 10, 2) := by decide +kernel
theorem dL_isChartSo_312 : decode cL_isChartSo 312 = .ok (.iconst 2, 1) := by decide +kernel
theorem dL_isChartSo_313 : decode cL_isChartSo 313 = .ok (.invokevirtual 75, 3) := by decide +kernel
theorem dL_isChartSo_316 : decode cL_isChartSo 316 = .ok (.iload 11, 2) := by decide +kernel
theorem dL_isChartSo_318 : decode cL_isChartSo 318 = .ok (.if_icmp .le 14, 3) := by decide +kernel
theorem dL_isChartSo_321 : decode cL_isChartSo 321 = .ok (.aload_n 0, 1) := by decide +kernel
theorem dL_isChartSo_322 : decode cL_isChartSo 322 = .ok (.iload 10, 2) := by decide +kernel
theorem dL_isChartSo_324 : decode cL_isChartSo 324 = .ok (.iconst 1, 1) := by decide +kernel
theorem dL_isChartSo_325 : decode cL_isChartSo 325 = .ok (.invokevirtual 75, 3) := by decide +kernel
theorem dL_isChartSo_328 : decode cL_isChartSo 328 = .ok (.iconst 1, 1) := by decide +kernel
theorem dL_isChartSo_329 : decode cL_isChartSo 329 = .ok (.if_icmp .ne 7, 3) := by decide +kernel
theorem dL_isChartSo_332 : decode cL_isChartSo 332 = .ok (.iconst 1, 1) := by decide +kernel
theorem dL_isChartSo_333 : decode cL_isChartSo 333 = .ok (.goto 4, 3) := by decide +kernel
theorem dL_isChartSo_336 : decode cL_isChartSo 336 = .ok (.iconst 0, 1) := by decide +kernel
theorem dL_isChartSo_337 : decode cL_isChartSo 337 = .ok (.istore 5, 2) := by decide +kernel
theorem dL_isChartSo_339 : decode cL_isChartSo 339 = .ok (.iload 6, 2) := by decide +kernel
theorem dL_isChartSo_341 : decode cL_isChartSo 341 = .ok (.aload_n 0, 1) := by decide +kernel
theorem dL_isChartSo_342 : decode cL_isChartSo 342 = .ok (.iload 10, 2) := by decide +kernel
theorem dL_isChartSo_344 : decode cL_isChartSo 344 = .ok (.iconst 1, 1) := by decide +kernel
theorem dL_isChartSo_345 : decode cL_isChartSo 345 = .ok (.invokevirtual 75, 3) := by decide +kernel
theorem dL_isChartSo_348 : decode cL_isChartSo 348 = .ok (.iadd, 1) := by decide +kernel
theorem dL_isChartSo_349 : decode cL_isChartSo 349 = .ok (.istore 6, 2) := by decide +kernel
theorem dL_isChartSo_351 : decode cL_isChartSo 351 = .ok (.iload 7, 2) := by decide +kernel
theorem dL_isChartSo_353 : decode cL_isChartSo 353 = .ok (.aload_n 0, 1) := by decide +kernel
theorem dL_isChartSo_354 : decode cL_isChartSo 354 = .ok (.iload 10, 2) := by decide +kernel
theorem dL_isChartSo_356 : decode cL_isChartSo 356 = .ok (.iconst 2, 1) := by decide +kernel
theorem dL_isChartSo_357 : decode cL_isChartSo 357 = .ok (.invokevirtual 75, 3) := by decide +kernel
theorem dL_isChartSo_360 : decode cL_isChartSo 360 = .ok (.iadd, 1) := by decide +kernel
theorem dL_isChartSo_361 : decode cL_isChartSo 361 = .ok (.istore 7, 2) := by decide +kernel
theorem dL_isChartSo_363 : decode cL_isChartSo 363 = .ok (.iload 8, 2) := by decide +kernel
theorem dL_isChartSo_365 : decode cL_isChartSo 365 = .ok (.aload_n 0, 1) := by decide +kernel
theorem dL_isChartSo_366 : decode cL_isChartSo 366 = .ok (.iload 10, 2) := by decide +kernel
theorem dL_isChartSo_368 : decode cL_isChartSo 368 = .ok (.iconst 4, 1) := by decide +kernel
theorem dL_isChartSo_369 : decode cL_isChartSo 369 = .ok (.invokevirtual 75, 3) := by decide +kernel
theorem dL_isChartSo_372 : decode cL_isChartSo 372 = .ok (.iadd, 1) := by decide +kernel
theorem dL_isChartSo_373 : decode cL_isChartSo 373 = .ok (.istore 8, 2) := by decide +kernel
theorem dL_isChartSo_375 : decode cL_isChartSo 375 = .ok (.iinc 10 1, 3) := by decide +kernel
theorem dL_isChartSo_378 : decode cL_isChartSo 378 = .ok (.goto (-111), 3) := by decide +kernel
theorem dL_isChartSo_381 : decode cL_isChartSo 381 = .ok (.iconst 0, 1) := by decide +kernel
theorem dL_isChartSo_382 : decode cL_isChartSo 382 = .ok (.istore 10, 2) := by decide +kernel
theorem dL_isChartSo_384 : decode cL_isChartSo 384 = .ok (.iconst 0, 1) := by decide +kernel
theorem dL_isChartSo_385 : decode cL_isChartSo 385 = .ok (.istore 11, 2) := by decide +kernel
theorem dL_isChartSo_387 : decode cL_isChartSo 387 = .ok (.iconst 0, 1) := by decide +kernel
theorem dL_isChartSo_388 : decode cL_isChartSo 388 = .ok (.istore 12, 2) := by decide +kernel
theorem dL_isChartSo_390 : decode cL_isChartSo 390 = .ok (.iconst 0, 1) := by decide +kernel
theorem dL_isChartSo_391 : decode cL_isChartSo 391 = .ok (.istore 13, 2) := by decide +kernel
theorem dL_isChartSo_393 : decode cL_isChartSo 393 = .ok (.iload 13, 2) := by decide +kernel
theorem dL_isChartSo_395 : decode cL_isChartSo 395 = .ok (.aload_n 0, 1) := by decide +kernel
theorem dL_isChartSo_396 : decode cL_isChartSo 396 = .ok (.bipush 11, 2) := by decide +kernel
theorem dL_isChartSo_398 : decode cL_isChartSo 398 = .ok (.invokevirtual 8, 3) := by decide +kernel
theorem dL_isChartSo_401 : decode cL_isChartSo 401 = .ok (.if_icmp .ge 72, 3) := by decide +kernel
theorem dL_isChartSo_404 : decode cL_isChartSo 404 = .ok (.aload_n 0, 1) := by decide +kernel
theorem dL_isChartSo_405 : decode cL_isChartSo 405 = .ok (.iload 13, 2) := by decide +kernel
theorem dL_isChartSo_407 : decode cL_isChartSo 407 = .ok (.iconst 0, 1) := by decide +kernel
theorem dL_isChartSo_408 : decode cL_isChartSo 408 = .ok (.invokevirtual 23, 3) := by decide +kernel
theorem dL_isChartSo_411 : decode cL_isChartSo 411 = .ok (.ifCond .lt 56, 3) := by decide +kernel
theorem dL_isChartSo_414 : decode cL_isChartSo 414 = .ok (.iload 10, 2) := by decide +kernel
theorem dL_isChartSo_416 : decode cL_isChartSo 416 = .ok (.aload_n 0, 1) := by decide +kernel
theorem dL_isChartSo_417 : decode cL_isChartSo 417 = .ok (.iload 13, 2) := by decide +kernel
theorem dL_isChartSo_419 : decode cL_isChartSo 419 = .ok (.bipush 6, 2) := by decide +kernel
theorem dL_isChartSo_421 : decode cL_isChartSo 421 = .ok (.invokevirtual 23, 3) := by decide +kernel
theorem dL_isChartSo_424 : decode cL_isChartSo 424 = .ok (.iadd, 1) := by decide +kernel
theorem dL_isChartSo_425 : decode cL_isChartSo 425 = .ok (.istore 10, 2) := by decide +kernel
theorem dL_isChartSo_427 : decode cL_isChartSo 427 = .ok (.iload 11, 2) := by decide +kernel
theorem dL_isChartSo_429 : decode cL_isChartSo 429 = .ok (.aload_n 0, 1) := by decide +kernel
theorem dL_isChartSo_430 : decode cL_isChartSo 430 = .ok (.iload 13, 2) := by decide +kernel
theorem dL_isChartSo_432 : decode cL_isChartSo 432 = .ok (.iconst 2, 1) := by decide +kernel
theorem dL_isChartSo_433 : decode cL_isChartSo 433 = .ok (.invokevirtual 23, 3) := by decide +kernel
theorem dL_isChartSo_436 : decode cL_isChartSo 436 = .ok (.ifCond .ge 7, 3) := by decide +kernel
theorem dL_isChartSo_439 : decode cL_isChartSo 439 = .ok (.iconst 1, 1) := by decide +kernel
theorem dL_isChartSo_440 : decode cL_isChartSo 440 = .ok (.goto 4, 3) := by decide +kernel
theorem dL_isChartSo_443 : decode cL_isChartSo 443 = .ok (.iconst 0, 1) := by decide +kernel
theorem dL_isChartSo_444 : decode cL_isChartSo 444 = .ok (.iadd, 1) := by decide +kernel
theorem dL_isChartSo_445 : decode cL_isChartSo 445 = .ok (.istore 11, 2) := by decide +kernel
theorem dL_isChartSo_447 : decode cL_isChartSo 447 = .ok (.iload 12, 2) := by decide +kernel
theorem dL_isChartSo_449 : decode cL_isChartSo 449 = .ok (.aload_n 0, 1) := by decide +kernel
theorem dL_isChartSo_450 : decode cL_isChartSo 450 = .ok (.iload 13, 2) := by decide +kernel
theorem dL_isChartSo_452 : decode cL_isChartSo 452 = .ok (.iconst 3, 1) := by decide +kernel
theorem dL_isChartSo_453 : decode cL_isChartSo 453 = .ok (.invokevirtual 23, 3) := by decide +kernel
theorem dL_isChartSo_456 : decode cL_isChartSo 456 = .ok (.ifCond .le 7, 3) := by decide +kernel
theorem dL_isChartSo_459 : decode cL_isChartSo 459 = .ok (.iconst 1, 1) := by decide +kernel
theorem dL_isChartSo_460 : decode cL_isChartSo 460 = .ok (.goto 4, 3) := by decide +kernel
theorem dL_isChartSo_463 : decode cL_isChartSo 463 = .ok (.iconst 0, 1) := by decide +kernel
theorem dL_isChartSo_464 : decode cL_isChartSo 464 = .ok (.iadd, 1) := by decide +kernel
theorem dL_isChartSo_465 : decode cL_isChartSo 465 = .ok (.istore 12, 2) := by decide +kernel
theorem dL_isChartSo_467 : decode cL_isChartSo 467 = .ok (.iinc 13 1, 3) := by decide +kernel
theorem dL_isChartSo_470 : decode cL_isChartSo 470 = .ok (.goto (-77), 3) := by decide +kernel
theorem dL_isChartSo_473 : decode cL_isChartSo 473 = .ok (.iload 5, 2) := by decide +kernel
theorem dL_isChartSo_475 : decode cL_isChartSo 475 = .ok (.ifCond .eq 117, 3) := by decide +kernel
theorem dL_isChartSo_478 : decode cL_isChartSo 478 = .ok (.iload_n 2, 1) := by decide +kernel
theorem dL_isChartSo_479 : decode cL_isChartSo 479 = .ok (.aload_n 0, 1) := by decide +kernel
theorem dL_isChartSo_480 : decode cL_isChartSo 480 = .ok (.iconst 0, 1) := by decide +kernel
theorem dL_isChartSo_481 : decode cL_isChartSo 481 = .ok (.invokevirtual 8, 3) := by decide +kernel
theorem dL_isChartSo_484 : decode cL_isChartSo 484 = .ok (.if_icmp .ne 108, 3) := by decide +kernel
theorem dL_isChartSo_487 : decode cL_isChartSo 487 = .ok (.iload_n 1, 1) := by decide +kernel
theorem dL_isChartSo_488 : decode cL_isChartSo 488 = .ok (.aload_n 0, 1) := by decide +kernel
theorem dL_isChartSo_489 : decode cL_isChartSo 489 = .ok (.bipush 6, 2) := by decide +kernel
theorem dL_isChartSo_491 : decode cL_isChartSo 491 = .ok (.invokevirtual 8, 3) := by decide +kernel
theorem dL_isChartSo_494 : decode cL_isChartSo 494 = .ok (.if_icmp .ne 98, 3) := by decide +kernel
theorem dL_isChartSo_497 : decode cL_isChartSo 497 = .ok (.iload 4, 2) := by decide +kernel
theorem dL_isChartSo_499 : decode cL_isChartSo 499 = .ok (.iload_n 1, 1) := by decide +kernel
theorem dL_isChartSo_500 : decode cL_isChartSo 500 = .ok (.if_icmp .ne 92, 3) := by decide +kernel
theorem dL_isChartSo_503 : decode cL_isChartSo 503 = .ok (.iload_n 3, 1) := by decide +kernel
theorem dL_isChartSo_504 : decode cL_isChartSo 504 = .ok (.aload_n 0, 1) := by decide +kernel
theorem dL_isChartSo_505 : decode cL_isChartSo 505 = .ok (.bipush 9, 2) := by decide +kernel
theorem dL_isChartSo_507 : decode cL_isChartSo 507 = .ok (.invokevirtual 8, 3) := by decide +kernel
theorem dL_isChartSo_510 : decode cL_isChartSo 510 = .ok (.if_icmp .ne 82, 3) := by decide +kernel
theorem dL_isChartSo_513 : decode cL_isChartSo 513 = .ok (.iload 6, 2) := by decide +kernel
theorem dL_isChartSo_515 : decode cL_isChartSo 515 = .ok (.iload_n 1, 1) := by decide +kernel
theorem dL_isChartSo_516 : decode cL_isChartSo 516 = .ok (.if_icmp .ne 76, 3) := by decide +kernel
theorem dL_isChartSo_519 : decode cL_isChartSo 519 = .ok (.iload 7, 2) := by decide +kernel
theorem dL_isChartSo_521 : decode cL_isChartSo 521 = .ok (.aload_n 0, 1) := by decide +kernel
theorem dL_isChartSo_522 : decode cL_isChartSo 522 = .ok (.bipush 8, 2) := by decide +kernel
theorem dL_isChartSo_524 : decode cL_isChartSo 524 = .ok (.invokevirtual 8, 3) := by decide +kernel
theorem dL_isChartSo_527 : decode cL_isChartSo 527 = .ok (.if_icmp .ne 65, 3) := by decide +kernel
theorem dL_isChartSo_530 : decode cL_isChartSo 530 = .ok (.iload 8, 2) := by decide +kernel
theorem dL_isChartSo_532 : decode cL_isChartSo 532 = .ok (.iload_n 2, 1) := by decide +kernel
theorem dL_isChartSo_533 : decode cL_isChartSo 533 = .ok (.if_icmp .ne 59, 3) := by decide +kernel
theorem dL_isChartSo_536 : decode cL_isChartSo 536 = .ok (.aload_n 0, 1) := by decide +kernel
theorem dL_isChartSo_537 : decode cL_isChartSo 537 = .ok (.iload 9, 2) := by decide +kernel
theorem dL_isChartSo_539 : decode cL_isChartSo 539 = .ok (.iconst 0, 1) := by decide +kernel
theorem dL_isChartSo_540 : decode cL_isChartSo 540 = .ok (.invokevirtual 75, 3) := by decide +kernel
theorem dL_isChartSo_543 : decode cL_isChartSo 543 = .ok (.bipush (-5), 2) := by decide +kernel
theorem dL_isChartSo_545 : decode cL_isChartSo 545 = .ok (.if_icmp .ne 47, 3) := by decide +kernel
theorem dL_isChartSo_548 : decode cL_isChartSo 548 = .ok (.iload 10, 2) := by decide +kernel
theorem dL_isChartSo_550 : decode cL_isChartSo 550 = .ok (.iconst 2, 1) := by decide +kernel
theorem dL_isChartSo_551 : decode cL_isChartSo 551 = .ok (.aload_n 0, 1) := by decide +kernel
theorem dL_isChartSo_552 : decode cL_isChartSo 552 = .ok (.iconst 5, 1) := by decide +kernel
theorem dL_isChartSo_553 : decode cL_isChartSo 553 = .ok (.invokevirtual 8, 3) := by decide +kernel
theorem dL_isChartSo_556 : decode cL_isChartSo 556 = .ok (.imul, 1) := by decide +kernel
theorem dL_isChartSo_557 : decode cL_isChartSo 557 = .ok (.if_icmp .ne 35, 3) := by decide +kernel
theorem dL_isChartSo_560 : decode cL_isChartSo 560 = .ok (.iload 11, 2) := by decide +kernel
theorem dL_isChartSo_562 : decode cL_isChartSo 562 = .ok (.aload_n 0, 1) := by decide +kernel
theorem dL_isChartSo_563 : decode cL_isChartSo 563 = .ok (.iconst 3, 1) := by decide +kernel
theorem dL_isChartSo_564 : decode cL_isChartSo 564 = .ok (.invokevirtual 8, 3) := by decide +kernel
theorem dL_isChartSo_567 : decode cL_isChartSo 567 = .ok (.if_icmp .ne 25, 3) := by decide +kernel
theorem dL_isChartSo_570 : decode cL_isChartSo 570 = .ok (.iload 12, 2) := by decide +kernel
theorem dL_isChartSo_572 : decode cL_isChartSo 572 = .ok (.aload_n 0, 1) := by decide +kernel
theorem dL_isChartSo_573 : decode cL_isChartSo 573 = .ok (.iconst 4, 1) := by decide +kernel
theorem dL_isChartSo_574 : decode cL_isChartSo 574 = .ok (.invokevirtual 8, 3) := by decide +kernel
theorem dL_isChartSo_577 : decode cL_isChartSo 577 = .ok (.if_icmp .ne 15, 3) := by decide +kernel
theorem dL_isChartSo_580 : decode cL_isChartSo 580 = .ok (.aload_n 0, 1) := by decide +kernel
theorem dL_isChartSo_581 : decode cL_isChartSo 581 = .ok (.invokevirtual 78, 3) := by decide +kernel
theorem dL_isChartSo_584 : decode cL_isChartSo 584 = .ok (.iload_n 1, 1) := by decide +kernel
theorem dL_isChartSo_585 : decode cL_isChartSo 585 = .ok (.if_icmp .gt 7, 3) := by decide +kernel
theorem dL_isChartSo_588 : decode cL_isChartSo 588 = .ok (.iconst 1, 1) := by decide +kernel
theorem dL_isChartSo_589 : decode cL_isChartSo 589 = .ok (.goto 4, 3) := by decide +kernel
theorem dL_isChartSo_592 : decode cL_isChartSo 592 = .ok (.iconst 0, 1) := by decide +kernel
theorem dL_isChartSo_593 : decode cL_isChartSo 593 = .ok (.ireturn, 1) := by decide +kernel
theorem dL_isSlipSo_0 : decode cL_isSlipSo 0 = .ok (.aload_n 0, 1) := by decide +kernel
theorem dL_isSlipSo_1 : decode cL_isSlipSo 1 = .ok (.bipush 6, 2) := by decide +kernel
theorem dL_isSlipSo_3 : decode cL_isSlipSo 3 = .ok (.invokevirtual 8, 3) := by decide +kernel
theorem dL_isSlipSo_6 : decode cL_isSlipSo 6 = .ok (.istore_n 2, 1) := by decide +kernel
theorem dL_isSlipSo_7 : decode cL_isSlipSo 7 = .ok (.aload_n 0, 1) := by decide +kernel
theorem dL_isSlipSo_8 : decode cL_isSlipSo 8 = .ok (.iload_n 1, 1) := by decide +kernel
theorem dL_isSlipSo_9 : decode cL_isSlipSo 9 = .ok (.bipush 6, 2) := by decide +kernel
theorem dL_isSlipSo_11 : decode cL_isSlipSo 11 = .ok (.invokevirtual 20, 3) := by decide +kernel
theorem dL_isSlipSo_14 : decode cL_isSlipSo 14 = .ok (.istore_n 3, 1) := by decide +kernel
theorem dL_isSlipSo_15 : decode cL_isSlipSo 15 = .ok (.iload_n 3, 1) := by decide +kernel
theorem dL_isSlipSo_16 : decode cL_isSlipSo 16 = .ok (.iconst 1, 1) := by decide +kernel
theorem dL_isSlipSo_17 : decode cL_isSlipSo 17 = .ok (.if_icmp .ge 7, 3) := by decide +kernel
theorem dL_isSlipSo_20 : decode cL_isSlipSo 20 = .ok (.iconst 1, 1) := by decide +kernel
theorem dL_isSlipSo_21 : decode cL_isSlipSo 21 = .ok (.goto 15, 3) := by decide +kernel
theorem dL_isSlipSo_24 : decode cL_isSlipSo 24 = .ok (.iload_n 3, 1) := by decide +kernel
theorem dL_isSlipSo_25 : decode cL_isSlipSo 25 = .ok (.bipush 30, 2) := by decide +kernel
theorem dL_isSlipSo_27 : decode cL_isSlipSo 27 = .ok (.if_icmp .le 8, 3) := by decide +kernel
theorem dL_isSlipSo_30 : decode cL_isSlipSo 30 = .ok (.bipush 30, 2) := by decide +kernel
theorem dL_isSlipSo_32 : decode cL_isSlipSo 32 = .ok (.goto 4, 3) := by decide +kernel
theorem dL_isSlipSo_35 : decode cL_isSlipSo 35 = .ok (.iload_n 3, 1) := by decide +kernel
theorem dL_isSlipSo_36 : decode cL_isSlipSo 36 = .ok (.istore 4, 2) := by decide +kernel
theorem dL_isSlipSo_38 : decode cL_isSlipSo 38 = .ok (.aload_n 0, 1) := by decide +kernel
theorem dL_isSlipSo_39 : decode cL_isSlipSo 39 = .ok (.iload_n 1, 1) := by decide +kernel
theorem dL_isSlipSo_40 : decode cL_isSlipSo 40 = .ok (.iload 4, 2) := by decide +kernel
theorem dL_isSlipSo_42 : decode cL_isSlipSo 42 = .ok (.invokevirtual 81, 3) := by decide +kernel
theorem dL_isSlipSo_45 : decode cL_isSlipSo 45 = .ok (.istore 5, 2) := by decide +kernel
theorem dL_isSlipSo_47 : decode cL_isSlipSo 47 = .ok (.aload_n 0, 1) := by decide +kernel
theorem dL_isSlipSo_48 : decode cL_isSlipSo 48 = .ok (.iload_n 1, 1) := by decide +kernel
theorem dL_isSlipSo_49 : decode cL_isSlipSo 49 = .ok (.iconst 1, 1) := by decide +kernel
theorem dL_isSlipSo_50 : decode cL_isSlipSo 50 = .ok (.invokevirtual 20, 3) := by decide +kernel
theorem dL_isSlipSo_53 : decode cL_isSlipSo 53 = .ok (.istore 6, 2) := by decide +kernel
theorem dL_isSlipSo_55 : decode cL_isSlipSo 55 = .ok (.aload_n 0, 1) := by decide +kernel
theorem dL_isSlipSo_56 : decode cL_isSlipSo 56 = .ok (.iconst 4, 1) := by decide +kernel
theorem dL_isSlipSo_57 : decode cL_isSlipSo 57 = .ok (.invokevirtual 8, 3) := by decide +kernel
theorem dL_isSlipSo_60 : decode cL_isSlipSo 60 = .ok (.istore 7, 2) := by decide +kernel
theorem dL_isSlipSo_62 : decode cL_isSlipSo 62 = .ok (.aload_n 0, 1) := by decide +kernel
theorem dL_isSlipSo_63 : decode cL_isSlipSo 63 = .ok (.bipush 12, 2) := by decide +kernel
theorem dL_isSlipSo_65 : decode cL_isSlipSo 65 = .ok (.invokevirtual 8, 3) := by decide +kernel
theorem dL_isSlipSo_68 : decode cL_isSlipSo 68 = .ok (.istore 8, 2) := by decide +kernel
theorem dL_isSlipSo_70 : decode cL_isSlipSo 70 = .ok (.aload_n 0, 1) := by decide +kernel
theorem dL_isSlipSo_71 : decode cL_isSlipSo 71 = .ok (.iload_n 1, 1) := by decide +kernel
theorem dL_isSlipSo_72 : decode cL_isSlipSo 72 = .ok (.iload 4, 2) := by decide +kernel
theorem dL_isSlipSo_74 : decode cL_isSlipSo 74 = .ok (.invokevirtual 46, 3) := by decide +kernel
theorem dL_isSlipSo_77 : decode cL_isSlipSo 77 = .ok (.istore 9, 2) := by decide +kernel
theorem dL_isSlipSo_79 : decode cL_isSlipSo 79 = .ok (.iload 5, 2) := by decide +kernel
theorem dL_isSlipSo_81 : decode cL_isSlipSo 81 = .ok (.sipush 200, 3) := by decide +kernel
theorem dL_isSlipSo_84 : decode cL_isSlipSo 84 = .ok (.if_icmp .le 27, 3) := by decide +kernel
theorem dL_isSlipSo_87 : decode cL_isSlipSo 87 = .ok (.iload 9, 2) := by decide +kernel
theorem dL_isSlipSo_89 : decode cL_isSlipSo 89 = .ok (.bipush (-4), 2) := by decide +kernel
theorem dL_isSlipSo_91 : decode cL_isSlipSo 91 = .ok (.if_icmp .ne 18, 3) := by decide +kernel
theorem dL_isSlipSo_94 : decode cL_isSlipSo 94 = .ok (.aload_n 0, 1) := by decide +kernel
theorem dL_isSlipSo_95 : decode cL_isSlipSo 95 = .ok (.iload_n 1, 1) := by decide +kernel
theorem dL_isSlipSo_96 : decode cL_isSlipSo 96 = .ok (.iconst 1, 1) := by decide +kernel
theorem dL_isSlipSo_97 : decode cL_isSlipSo 97 = .ok (.invokevirtual 20, 3) := by decide +kernel
theorem dL_isSlipSo_100 : decode cL_isSlipSo 100 = .ok (.iload 6, 2) := by decide +kernel
theorem dL_isSlipSo_102 : decode cL_isSlipSo 102 = .ok (.if_icmp .ne 7, 3) := by decide +kernel
theorem dL_isSlipSo_105 : decode cL_isSlipSo 105 = .ok (.iconst 1, 1) := by decide +kernel
theorem dL_isSlipSo_106 : decode cL_isSlipSo 106 = .ok (.goto 4, 3) := by decide +kernel
theorem dL_isSlipSo_109 : decode cL_isSlipSo 109 = .ok (.iconst 0, 1) := by decide +kernel
theorem dL_isSlipSo_110 : decode cL_isSlipSo 110 = .ok (.ireturn, 1) := by decide +kernel
theorem dL_isSlipSo_111 : decode cL_isSlipSo 111 = .ok (.iload 9, 2) := by decide +kernel
theorem dL_isSlipSo_113 : decode cL_isSlipSo 113 = .ok (.ifCond .le 81, 3) := by decide +kernel
theorem dL_isSlipSo_116 : decode cL_isSlipSo 116 = .ok (.aload_n 0, 1) := by decide +kernel
theorem dL_isSlipSo_117 : decode cL_isSlipSo 117 = .ok (.bipush 6, 2) := by decide +kernel
theorem dL_isSlipSo_119 : decode cL_isSlipSo 119 = .ok (.invokevirtual 8, 3) := by decide +kernel
theorem dL_isSlipSo_122 : decode cL_isSlipSo 122 = .ok (.iload 5, 2) := by decide +kernel
theorem dL_isSlipSo_124 : decode cL_isSlipSo 124 = .ok (.if_icmp .ne 70, 3) := by decide +kernel
theorem dL_isSlipSo_127 : decode cL_isSlipSo 127 = .ok (.iload 5, 2) := by decide +kernel
theorem dL_isSlipSo_129 : decode cL_isSlipSo 129 = .ok (.iload_n 2, 1) := by decide +kernel
theorem dL_isSlipSo_130 : decode cL_isSlipSo 130 = .ok (.if_icmp .ne 7, 3) := by decide +kernel
theorem dL_isSlipSo_133 : decode cL_isSlipSo 133 = .ok (.iconst 1, 1) := by decide +kernel
theorem dL_isSlipSo_134 : decode cL_isSlipSo 134 = .ok (.goto 4, 3) := by decide +kernel
theorem dL_isSlipSo_137 : decode cL_isSlipSo 137 = .ok (.iconst 0, 1) := by decide +kernel
theorem dL_isSlipSo_138 : decode cL_isSlipSo 138 = .ok (.iload 4, 2) := by decide +kernel
theorem dL_isSlipSo_140 : decode cL_isSlipSo 140 = .ok (.iload_n 3, 1) := by decide +kernel
theorem dL_isSlipSo_141 : decode cL_isSlipSo 141 = .ok (.if_icmp .gt 7, 3) := by decide +kernel
theorem dL_isSlipSo_144 : decode cL_isSlipSo 144 = .ok (.iconst 1, 1) := by decide +kernel
theorem dL_isSlipSo_145 : decode cL_isSlipSo 145 = .ok (.goto 4, 3) := by decide +kernel
theorem dL_isSlipSo_148 : decode cL_isSlipSo 148 = .ok (.iconst 0, 1) := by decide +kernel
theorem dL_isSlipSo_149 : decode cL_isSlipSo 149 = .ok (.if_icmp .ne 45, 3) := by decide +kernel
theorem dL_isSlipSo_152 : decode cL_isSlipSo 152 = .ok (.aload_n 0, 1) := by decide +kernel
theorem dL_isSlipSo_153 : decode cL_isSlipSo 153 = .ok (.iload_n 1, 1) := by decide +kernel
theorem dL_isSlipSo_154 : decode cL_isSlipSo 154 = .ok (.iconst 1, 1) := by decide +kernel
theorem dL_isSlipSo_155 : decode cL_isSlipSo 155 = .ok (.invokevirtual 20, 3) := by decide +kernel
theorem dL_isSlipSo_158 : decode cL_isSlipSo 158 = .ok (.iload 6, 2) := by decide +kernel
theorem dL_isSlipSo_160 : decode cL_isSlipSo 160 = .ok (.iload 4, 2) := by decide +kernel
theorem dL_isSlipSo_162 : decode cL_isSlipSo 162 = .ok (.iadd, 1) := by decide +kernel
theorem dL_isSlipSo_163 : decode cL_isSlipSo 163 = .ok (.if_icmp .ne 31, 3) := by decide +kernel
theorem dL_isSlipSo_166 : decode cL_isSlipSo 166 = .ok (.aload_n 0, 1) := by decide +kernel
theorem dL_isSlipSo_167 : decode cL_isSlipSo 167 = .ok (.iconst 4, 1) := by decide +kernel
theorem dL_isSlipSo_168 : decode cL_isSlipSo 168 = .ok (.invokevirtual 8, 3) := by decide +kernel
theorem dL_isSlipSo_171 : decode cL_isSlipSo 171 = .ok (.iload 7, 2) := by decide +kernel
theorem dL_isSlipSo_173 : decode cL_isSlipSo 173 = .ok (.if_icmp .gt 21, 3) := by decide +kernel
theorem dL_isSlipSo_176 : decode cL_isSlipSo 176 = .ok (.aload_n 0, 1) := by decide +kernel
theorem dL_isSlipSo_177 : decode cL_isSlipSo 177 = .ok (.bipush 12, 2) := by decide +kernel
theorem dL_isSlipSo_179 : decode cL_isSlipSo 179 = .ok (.invokevirtual 8, 3) := by decide +kernel
theorem dL_isSlipSo_182 : decode cL_isSlipSo 182 = .ok (.iload 8, 2) := by decide +kernel
theorem dL_isSlipSo_184 : decode cL_isSlipSo 184 = .ok (.iload 4, 2) := by decide +kernel
theorem dL_isSlipSo_186 : decode cL_isSlipSo 186 = .ok (.iadd, 1) := by decide +kernel
theorem dL_isSlipSo_187 : decode cL_isSlipSo 187 = .ok (.if_icmp .lt 7, 3) := by decide +kernel
theorem dL_isSlipSo_190 : decode cL_isSlipSo 190 = .ok (.iconst 1, 1) := by decide +kernel
theorem dL_isSlipSo_191 : decode cL_isSlipSo 191 = .ok (.goto 4, 3) := by decide +kernel
theorem dL_isSlipSo_194 : decode cL_isSlipSo 194 = .ok (.iconst 0, 1) := by decide +kernel
theorem dL_isSlipSo_195 : decode cL_isSlipSo 195 = .ok (.istore 10, 2) := by decide +kernel
theorem dL_isSlipSo_197 : decode cL_isSlipSo 197 = .ok (.aload_n 0, 1) := by decide +kernel
theorem dL_isSlipSo_198 : decode cL_isSlipSo 198 = .ok (.iload_n 1, 1) := by decide +kernel
theorem dL_isSlipSo_199 : decode cL_isSlipSo 199 = .ok (.invokevirtual 49, 3) := by decide +kernel
theorem dL_isSlipSo_202 : decode cL_isSlipSo 202 = .ok (.istore 11, 2) := by decide +kernel
theorem dL_isSlipSo_204 : decode cL_isSlipSo 204 = .ok (.iload 10, 2) := by decide +kernel
theorem dL_isSlipSo_206 : decode cL_isSlipSo 206 = .ok (.ifCond .eq 46, 3) := by decide +kernel
theorem dL_isSlipSo_209 : decode cL_isSlipSo 209 = .ok (.iload 11, 2) := by decide +kernel
theorem dL_isSlipSo_211 : decode cL_isSlipSo 211 = .ok (.ifCond .le 20, 3) := by decide +kernel
theorem dL_isSlipSo_214 : decode cL_isSlipSo 214 = .ok (.aload_n 0, 1) := by decide +kernel
theorem dL_isSlipSo_215 : decode cL_isSlipSo 215 = .ok (.iload_n 1, 1) := by decide +kernel
theorem dL_isSlipSo_216 : decode cL_isSlipSo 216 = .ok (.iconst 1, 1) := by decide +kernel
theorem dL_isSlipSo_217 : decode cL_isSlipSo 217 = .ok (.invokevirtual 20, 3) := by decide +kernel
theorem dL_isSlipSo_220 : decode cL_isSlipSo 220 = .ok (.iload 6, 2) := by decide +kernel
theorem dL_isSlipSo_222 : decode cL_isSlipSo 222 = .ok (.iload 4, 2) := by decide +kernel
theorem dL_isSlipSo_224 : decode cL_isSlipSo 224 = .ok (.iadd, 1) := by decide +kernel
theorem dL_isSlipSo_225 : decode cL_isSlipSo 225 = .ok (.iload 11, 2) := by decide +kernel
theorem dL_isSlipSo_227 : decode cL_isSlipSo 227 = .ok (.isub, 1) := by decide +kernel
theorem dL_isSlipSo_228 : decode cL_isSlipSo 228 = .ok (.if_icmp .eq 10, 3) := by decide +kernel
theorem dL_isSlipSo_231 : decode cL_isSlipSo 231 = .ok (.iload 11, 2) := by decide +kernel
theorem dL_isSlipSo_233 : decode cL_isSlipSo 233 = .ok (.bipush (-5), 2) := by decide +kernel
theorem dL_isSlipSo_235 : decode cL_isSlipSo 235 = .ok (.if_icmp .ne 17, 3) := by decide +kernel
theorem dL_isSlipSo_238 : decode cL_isSlipSo 238 = .ok (.aload_n 0, 1) := by decide +kernel
theorem dL_isSlipSo_239 : decode cL_isSlipSo 239 = .ok (.iload_n 1, 1) := by decide +kernel
theorem dL_isSlipSo_240 : decode cL_isSlipSo 240 = .ok (.invokevirtual 49, 3) := by decide +kernel
theorem dL_isSlipSo_243 : decode cL_isSlipSo 243 = .ok (.bipush (-5), 2) := by decide +kernel
theorem dL_isSlipSo_245 : decode cL_isSlipSo 245 = .ok (.if_icmp .ne 7, 3) := by decide +kernel
theorem dL_isSlipSo_248 : decode cL_isSlipSo 248 = .ok (.iconst 1, 1) := by decide +kernel
theorem dL_isSlipSo_249 : decode cL_isSlipSo 249 = .ok (.goto 4, 3) := by decide +kernel
theorem dL_isSlipSo_252 : decode cL_isSlipSo 252 = .ok (.iconst 0, 1) := by decide +kernel
theorem dL_isSlipSo_253 : decode cL_isSlipSo 253 = .ok (.istore 10, 2) := by decide +kernel
theorem dL_isSlipSo_255 : decode cL_isSlipSo 255 = .ok (.aload_n 0, 1) := by decide +kernel
theorem dL_isSlipSo_256 : decode cL_isSlipSo 256 = .ok (.invokevirtual 84, 3) := by decide +kernel
theorem dL_isSlipSo_259 : decode cL_isSlipSo 259 = .ok (.istore 12, 2) := by decide +kernel
theorem dL_isSlipSo_261 : decode cL_isSlipSo 261 = .ok (.iload 11, 2) := by decide +kernel
theorem dL_isSlipSo_263 : decode cL_isSlipSo 263 = .ok (.ifCond .le 10, 3) := by decide +kernel
theorem dL_isSlipSo_266 : decode cL_isSlipSo 266 = .ok (.aload_n 0, 1) := by decide +kernel
theorem dL_isSlipSo_267 : decode cL_isSlipSo 267 = .ok (.invokevirtual 84, 3) := by decide +kernel
theorem dL_isSlipSo_270 : decode cL_isSlipSo 270 = .ok (.goto 5, 3) := by decide +kernel
theorem dL_isSlipSo_273 : decode cL_isSlipSo 273 = .ok (.iload 12, 2) := by decide +kernel
theorem dL_isSlipSo_275 : decode cL_isSlipSo 275 = .ok (.istore 12, 2) := by decide +kernel
theorem dL_isSlipSo_277 : decode cL_isSlipSo 277 = .ok (.iload 10, 2) := by decide +kernel
theorem dL_isSlipSo_279 : decode cL_isSlipSo 279 = .ok (.ifCond .eq 34, 3) := by decide +kernel
theorem dL_isSlipSo_282 : decode cL_isSlipSo 282 = .ok (.iload 12, 2) := by decide +kernel
theorem dL_isSlipSo_284 : decode cL_isSlipSo 284 = .ok (.ifCond .lt 29, 3) := by decide +kernel
theorem dL_isSlipSo_287 : decode cL_isSlipSo 287 = .ok (.aload_n 0, 1) := by decide +kernel
theorem dL_isSlipSo_288 : decode cL_isSlipSo 288 = .ok (.iload_n 1, 1) := by decide +kernel
theorem dL_isSlipSo_289 : decode cL_isSlipSo 289 = .ok (.iconst 1, 1) := by decide +kernel
theorem dL_isSlipSo_290 : decode cL_isSlipSo 290 = .ok (.invokevirtual 20, 3) := by decide +kernel
theorem dL_isSlipSo_293 : decode cL_isSlipSo 293 = .ok (.iload 6, 2) := by decide +kernel
theorem dL_isSlipSo_295 : decode cL_isSlipSo 295 = .ok (.if_icmp .ne 18, 3) := by decide +kernel
theorem dL_isSlipSo_298 : decode cL_isSlipSo 298 = .ok (.aload_n 0, 1) := by decide +kernel
theorem dL_isSlipSo_299 : decode cL_isSlipSo 299 = .ok (.bipush 12, 2) := by decide +kernel
theorem dL_isSlipSo_301 : decode cL_isSlipSo 301 = .ok (.invokevirtual 8, 3) := by decide +kernel
theorem dL_isSlipSo_304 : decode cL_isSlipSo 304 = .ok (.iload 8, 2) := by decide +kernel
theorem dL_isSlipSo_306 : decode cL_isSlipSo 306 = .ok (.if_icmp .ne 7, 3) := by decide +kernel
theorem dL_isSlipSo_309 : decode cL_isSlipSo 309 = .ok (.iconst 1, 1) := by decide +kernel
theorem dL_isSlipSo_310 : decode cL_isSlipSo 310 = .ok (.goto 4, 3) := by decide +kernel
theorem dL_isSlipSo_313 : decode cL_isSlipSo 313 = .ok (.iconst 0, 1) := by decide +kernel
theorem dL_isSlipSo_314 : decode cL_isSlipSo 314 = .ok (.ireturn, 1) := by decide +kernel
theorem dL_areBestSo_0 : decode cL_areBestSo 0 = .ok (.aload_n 0, 1) := by decide +kernel
theorem dL_areBestSo_1 : decode cL_areBestSo 1 = .ok (.iconst 0, 1) := by decide +kernel
theorem dL_areBestSo_2 : decode cL_areBestSo 2 = .ok (.invokevirtual 87, 3) := by decide +kernel
theorem dL_areBestSo_5 : decode cL_areBestSo 5 = .ok (.istore_n 3, 1) := by decide +kernel
theorem dL_areBestSo_6 : decode cL_areBestSo 6 = .ok (.aload_n 0, 1) := by decide +kernel
theorem dL_areBestSo_7 : decode cL_areBestSo 7 = .ok (.iconst 1, 1) := by decide +kernel
theorem dL_areBestSo_8 : decode cL_areBestSo 8 = .ok (.invokevirtual 87, 3) := by decide +kernel
theorem dL_areBestSo_11 : decode cL_areBestSo 11 = .ok (.istore 4, 2) := by decide +kernel
theorem dL_areBestSo_13 : decode cL_areBestSo 13 = .ok (.aload_n 0, 1) := by decide +kernel
theorem dL_areBestSo_14 : decode cL_areBestSo 14 = .ok (.iconst 3, 1) := by decide +kernel
theorem dL_areBestSo_15 : decode cL_areBestSo 15 = .ok (.invokevirtual 8, 3) := by decide +kernel
theorem dL_areBestSo_18 : decode cL_areBestSo 18 = .ok (.istore 5, 2) := by decide +kernel
theorem dL_areBestSo_20 : decode cL_areBestSo 20 = .ok (.aload_n 0, 1) := by decide +kernel
theorem dL_areBestSo_21 : decode cL_areBestSo 21 = .ok (.iconst 5, 1) := by decide +kernel
theorem dL_areBestSo_22 : decode cL_areBestSo 22 = .ok (.invokevirtual 8, 3) := by decide +kernel
theorem dL_areBestSo_25 : decode cL_areBestSo 25 = .ok (.istore 6, 2) := by decide +kernel
theorem dL_areBestSo_27 : decode cL_areBestSo 27 = .ok (.iload_n 3, 1) := by decide +kernel
theorem dL_areBestSo_28 : decode cL_areBestSo 28 = .ok (.ifCond .ge 8, 3) := by decide +kernel
theorem dL_areBestSo_31 : decode cL_areBestSo 31 = .ok (.iload 5, 2) := by decide +kernel
theorem dL_areBestSo_33 : decode cL_areBestSo 33 = .ok (.goto 8, 3) := by decide +kernel
theorem dL_areBestSo_36 : decode cL_areBestSo 36 = .ok (.aload_n 0, 1) := by decide +kernel
theorem dL_areBestSo_37 : decode cL_areBestSo 37 = .ok (.iconst 2, 1) := by decide +kernel
theorem dL_areBestSo_38 : decode cL_areBestSo 38 = .ok (.invokevirtual 87, 3) := by decide +kernel
theorem dL_areBestSo_41 : decode cL_areBestSo 41 = .ok (.istore 7, 2) := by decide +kernel
theorem dL_areBestSo_43 : decode cL_areBestSo 43 = .ok (.iload_n 3, 1) := by decide +kernel
theorem dL_areBestSo_44 : decode cL_areBestSo 44 = .ok (.ifCond .ge 8, 3) := by decide +kernel
theorem dL_areBestSo_47 : decode cL_areBestSo 47 = .ok (.iload 6, 2) := by decide +kernel
theorem dL_areBestSo_49 : decode cL_areBestSo 49 = .ok (.goto 8, 3) := by decide +kernel
theorem dL_areBestSo_52 : decode cL_areBestSo 52 = .ok (.aload_n 0, 1) := by decide +kernel
theorem dL_areBestSo_53 : decode cL_areBestSo 53 = .ok (.iconst 3, 1) := by decide +kernel
theorem dL_areBestSo_54 : decode cL_areBestSo 54 = .ok (.invokevirtual 87, 3) := by decide +kernel
theorem dL_areBestSo_57 : decode cL_areBestSo 57 = .ok (.istore 8, 2) := by decide +kernel
theorem dL_areBestSo_59 : decode cL_areBestSo 59 = .ok (.iload_n 2, 1) := by decide +kernel
theorem dL_areBestSo_60 : decode cL_areBestSo 60 = .ok (.bipush 6, 2) := by decide +kernel
theorem dL_areBestSo_62 : decode cL_areBestSo 62 = .ok (.invokestatic 14, 3) := by decide +kernel
theorem dL_areBestSo_65 : decode cL_areBestSo 65 = .ok (.istore 9, 2) := by decide +kernel
theorem dL_areBestSo_67 : decode cL_areBestSo 67 = .ok (.iload_n 2, 1) := by decide +kernel
theorem dL_areBestSo_68 : decode cL_areBestSo 68 = .ok (.iconst 3, 1) := by decide +kernel
theorem dL_areBestSo_69 : decode cL_areBestSo 69 = .ok (.ishr, 1) := by decide +kernel
theorem dL_areBestSo_70 : decode cL_areBestSo 70 = .ok (.bipush 6, 2) := by decide +kernel
theorem dL_areBestSo_72 : decode cL_areBestSo 72 = .ok (.invokestatic 14, 3) := by decide +kernel
theorem dL_areBestSo_75 : decode cL_areBestSo 75 = .ok (.istore 10, 2) := by decide +kernel
theorem dL_areBestSo_77 : decode cL_areBestSo 77 = .ok (.iload_n 3, 1) := by decide +kernel
theorem dL_areBestSo_78 : decode cL_areBestSo 78 = .ok (.ifCond .lt 24, 3) := by decide +kernel
theorem dL_areBestSo_81 : decode cL_areBestSo 81 = .ok (.iload 7, 2) := by decide +kernel
theorem dL_areBestSo_83 : decode cL_areBestSo 83 = .ok (.iload 5, 2) := by decide +kernel
theorem dL_areBestSo_85 : decode cL_areBestSo 85 = .ok (.if_icmp .lt 17, 3) := by decide +kernel
theorem dL_areBestSo_88 : decode cL_areBestSo 88 = .ok (.iload 7, 2) := by decide +kernel
theorem dL_areBestSo_90 : decode cL_areBestSo 90 = .ok (.iload 5, 2) := by decide +kernel
theorem dL_areBestSo_92 : decode cL_areBestSo 92 = .ok (.if_icmp .ne 14, 3) := by decide +kernel
theorem dL_areBestSo_95 : decode cL_areBestSo 95 = .ok (.iload 8, 2) := by decide +kernel
theorem dL_areBestSo_97 : decode cL_areBestSo 97 = .ok (.iload 6, 2) := by decide +kernel
theorem dL_areBestSo_99 : decode cL_areBestSo 99 = .ok (.if_icmp .ge 7, 3) := by decide +kernel
theorem dL_areBestSo_102 : decode cL_areBestSo 102 = .ok (.iconst 1, 1) := by decide +kernel
theorem dL_areBestSo_103 : decode cL_areBestSo 103 = .ok (.goto 4, 3) := by decide +kernel
theorem dL_areBestSo_106 : decode cL_areBestSo 106 = .ok (.iconst 0, 1) := by decide +kernel
theorem dL_areBestSo_107 : decode cL_areBestSo 107 = .ok (.istore 11, 2) := by decide +kernel
theorem dL_areBestSo_109 : decode cL_areBestSo 109 = .ok (.aload_n 0, 1) := by decide +kernel
theorem dL_areBestSo_110 : decode cL_areBestSo 110 = .ok (.iload 9, 2) := by decide +kernel
theorem dL_areBestSo_112 : decode cL_areBestSo 112 = .ok (.iload 10, 2) := by decide +kernel
theorem dL_areBestSo_114 : decode cL_areBestSo 114 = .ok (.invokevirtual 39, 3) := by decide +kernel
theorem dL_areBestSo_117 : decode cL_areBestSo 117 = .ok (.istore 12, 2) := by decide +kernel
theorem dL_areBestSo_119 : decode cL_areBestSo 119 = .ok (.iload 12, 2) := by decide +kernel
theorem dL_areBestSo_121 : decode cL_areBestSo 121 = .ok (.ifCond .lt 84, 3) := by decide +kernel
theorem dL_areBestSo_124 : decode cL_areBestSo 124 = .ok (.iload 11, 2) := by decide +kernel
theorem dL_areBestSo_126 : decode cL_areBestSo 126 = .ok (.ifCond .eq 64, 3) := by decide +kernel
theorem dL_areBestSo_129 : decode cL_areBestSo 129 = .ok (.iload 12, 2) := by decide +kernel
theorem dL_areBestSo_131 : decode cL_areBestSo 131 = .ok (.aload_n 0, 1) := by decide +kernel
theorem dL_areBestSo_132 : decode cL_areBestSo 132 = .ok (.iconst 3, 1) := by decide +kernel
theorem dL_areBestSo_133 : decode cL_areBestSo 133 = .ok (.invokevirtual 8, 3) := by decide +kernel
theorem dL_areBestSo_136 : decode cL_areBestSo 136 = .ok (.if_icmp .ne 54, 3) := by decide +kernel
theorem dL_areBestSo_139 : decode cL_areBestSo 139 = .ok (.iload 12, 2) := by decide +kernel
theorem dL_areBestSo_141 : decode cL_areBestSo 141 = .ok (.iload 7, 2) := by decide +kernel
theorem dL_areBestSo_143 : decode cL_areBestSo 143 = .ok (.if_icmp .gt 20, 3) := by decide +kernel
theorem dL_areBestSo_146 : decode cL_areBestSo 146 = .ok (.iload 12, 2) := by decide +kernel
theorem dL_areBestSo_148 : decode cL_areBestSo 148 = .ok (.iload 7, 2) := by decide +kernel
theorem dL_areBestSo_150 : decode cL_areBestSo 150 = .ok (.if_icmp .ne 40, 3) := by decide +kernel
theorem dL_areBestSo_153 : decode cL_areBestSo 153 = .ok (.aload_n 0, 1) := by decide +kernel
theorem dL_areBestSo_154 : decode cL_areBestSo 154 = .ok (.iconst 5, 1) := by decide +kernel
theorem dL_areBestSo_155 : decode cL_areBestSo 155 = .ok (.invokevirtual 8, 3) := by decide +kernel
theorem dL_areBestSo_158 : decode cL_areBestSo 158 = .ok (.iload 8, 2) := by decide +kernel
theorem dL_areBestSo_160 : decode cL_areBestSo 160 = .ok (.if_icmp .lt 30, 3) := by decide +kernel
theorem dL_areBestSo_163 : decode cL_areBestSo 163 = .ok (.aload_n 0, 1) := by decide +kernel
theorem dL_areBestSo_164 : decode cL_areBestSo 164 = .ok (.iload 10, 2) := by decide +kernel
theorem dL_areBestSo_166 : decode cL_areBestSo 166 = .ok (.iload 9, 2) := by decide +kernel
theorem dL_areBestSo_168 : decode cL_areBestSo 168 = .ok (.invokevirtual 39, 3) := by decide +kernel
theorem dL_areBestSo_171 : decode cL_areBestSo 171 = .ok (.iload 5, 2) := by decide +kernel
theorem dL_areBestSo_173 : decode cL_areBestSo 173 = .ok (.if_icmp .ne 17, 3) := by decide +kernel
theorem dL_areBestSo_176 : decode cL_areBestSo 176 = .ok (.aload_n 0, 1) := by decide +kernel
theorem dL_areBestSo_177 : decode cL_areBestSo 177 = .ok (.iconst 5, 1) := by decide +kernel
theorem dL_areBestSo_178 : decode cL_areBestSo 178 = .ok (.invokevirtual 8, 3) := by decide +kernel
theorem dL_areBestSo_181 : decode cL_areBestSo 181 = .ok (.iload 6, 2) := by decide +kernel
theorem dL_areBestSo_183 : decode cL_areBestSo 183 = .ok (.if_icmp .ne 7, 3) := by decide +kernel
theorem dL_areBestSo_186 : decode cL_areBestSo 186 = .ok (.iconst 1, 1) := by decide +kernel
theorem dL_areBestSo_187 : decode cL_areBestSo 187 = .ok (.goto 4, 3) := by decide +kernel
theorem dL_areBestSo_190 : decode cL_areBestSo 190 = .ok (.iconst 0, 1) := by decide +kernel
theorem dL_areBestSo_191 : decode cL_areBestSo 191 = .ok (.istore 11, 2) := by decide +kernel
theorem dL_areBestSo_193 : decode cL_areBestSo 193 = .ok (.aload_n 0, 1) := by decide +kernel
theorem dL_areBestSo_194 : decode cL_areBestSo 194 = .ok (.invokevirtual 84, 3) := by decide +kernel
theorem dL_areBestSo_197 : decode cL_areBestSo 197 = .ok (.istore 12, 2) := by decide +kernel
theorem dL_areBestSo_199 : decode cL_areBestSo 199 = .ok (.aload_n 0, 1) := by decide +kernel
theorem dL_areBestSo_200 : decode cL_areBestSo 200 = .ok (.invokevirtual 84, 3) := by decide +kernel
theorem dL_areBestSo_203 : decode cL_areBestSo 203 = .ok (.istore 12, 2) := by decide +kernel
theorem dL_areBestSo_205 : decode cL_areBestSo 205 = .ok (.iload_n 3, 1) := by decide +kernel
theorem dL_areBestSo_206 : decode cL_areBestSo 206 = .ok (.ifCond .lt 53, 3) := by decide +kernel
theorem dL_areBestSo_209 : decode cL_areBestSo 209 = .ok (.aload_n 0, 1) := by decide +kernel
theorem dL_areBestSo_210 : decode cL_areBestSo 210 = .ok (.iload_n 3, 1) := by decide +kernel
theorem dL_areBestSo_211 : decode cL_areBestSo 211 = .ok (.iload 4, 2) := by decide +kernel
theorem dL_areBestSo_213 : decode cL_areBestSo 213 = .ok (.invokevirtual 39, 3) := by decide +kernel
theorem dL_areBestSo_216 : decode cL_areBestSo 216 = .ok (.istore 12, 2) := by decide +kernel
theorem dL_areBestSo_218 : decode cL_areBestSo 218 = .ok (.iload 11, 2) := by decide +kernel
theorem dL_areBestSo_220 : decode cL_areBestSo 220 = .ok (.ifCond .eq 30, 3) := by decide +kernel
theorem dL_areBestSo_223 : decode cL_areBestSo 223 = .ok (.iload 12, 2) := by decide +kernel
theorem dL_areBestSo_225 : decode cL_areBestSo 225 = .ok (.iload 7, 2) := by decide +kernel
theorem dL_areBestSo_227 : decode cL_areBestSo 227 = .ok (.if_icmp .ne 23, 3) := by decide +kernel
theorem dL_areBestSo_230 : decode cL_areBestSo 230 = .ok (.aload_n 0, 1) := by decide +kernel
theorem dL_areBestSo_231 : decode cL_areBestSo 231 = .ok (.iconst 5, 1) := by decide +kernel
theorem dL_areBestSo_232 : decode cL_areBestSo 232 = .ok (.invokevirtual 8, 3) := by decide +kernel
theorem dL_areBestSo_235 : decode cL_areBestSo 235 = .ok (.iload 8, 2) := by decide +kernel
theorem dL_areBestSo_237 : decode cL_areBestSo 237 = .ok (.if_icmp .ne 13, 3) := by decide +kernel
theorem dL_areBestSo_240 : decode cL_areBestSo 240 = .ok (.iload_n 3, 1) := by decide +kernel
theorem dL_areBestSo_241 : decode cL_areBestSo 241 = .ok (.iload 4, 2) := by decide +kernel
theorem dL_areBestSo_243 : decode cL_areBestSo 243 = .ok (.if_icmp .ge 7, 3) := by decide +kernel
theorem dL_areBestSo_246 : decode cL_areBestSo 246 = .ok (.iconst 1, 1) := by decide +kernel
theorem dL_areBestSo_247 : decode cL_areBestSo 247 = .ok (.goto 4, 3) := by decide +kernel
theorem dL_areBestSo_250 : decode cL_areBestSo 250 = .ok (.iconst 0, 1) := by decide +kernel
theorem dL_areBestSo_251 : decode cL_areBestSo 251 = .ok (.istore 11, 2) := by decide +kernel
theorem dL_areBestSo_253 : decode cL_areBestSo 253 = .ok (.aload_n 0, 1) := by decide +kernel
theorem dL_areBestSo_254 : decode cL_areBestSo 254 = .ok (.invokevirtual 84, 3) := by decide +kernel
theorem dL_areBestSo_257 : decode cL_areBestSo 257 = .ok (.istore 12, 2) := by decide +kernel
theorem dL_areBestSo_259 : decode cL_areBestSo 259 = .ok (.aload_n 0, 1) := by decide +kernel
theorem dL_areBestSo_260 : decode cL_areBestSo 260 = .ok (.iload_n 1, 1) := by decide +kernel
theorem dL_areBestSo_261 : decode cL_areBestSo 261 = .ok (.invokevirtual 90, 3) := by decide +kernel
theorem dL_areBestSo_264 : decode cL_areBestSo 264 = .ok (.istore 13, 2) := by decide +kernel
theorem dL_areBestSo_266 : decode cL_areBestSo 266 = .ok (.aload_n 0, 1) := by decide +kernel
theorem dL_areBestSo_267 : decode cL_areBestSo 267 = .ok (.iload_n 1, 1) := by decide +kernel
theorem dL_areBestSo_268 : decode cL_areBestSo 268 = .ok (.iconst 0, 1) := by decide +kernel
theorem dL_areBestSo_269 : decode cL_areBestSo 269 = .ok (.invokevirtual 20, 3) := by decide +kernel
theorem dL_areBestSo_272 : decode cL_areBestSo 272 = .ok (.istore 14, 2) := by decide +kernel
theorem dL_areBestSo_274 : decode cL_areBestSo 274 = .ok (.aload_n 0, 1) := by decide +kernel
theorem dL_areBestSo_275 : decode cL_areBestSo 275 = .ok (.iload_n 1, 1) := by decide +kernel
theorem dL_areBestSo_276 : decode cL_areBestSo 276 = .ok (.iconst 1, 1) := by decide +kernel
theorem dL_areBestSo_277 : decode cL_areBestSo 277 = .ok (.invokevirtual 20, 3) := by decide +kernel
theorem dL_areBestSo_280 : decode cL_areBestSo 280 = .ok (.istore 15, 2) := by decide +kernel
theorem dL_areBestSo_282 : decode cL_areBestSo 282 = .ok (.iload 5, 2) := by decide +kernel
theorem dL_areBestSo_284 : decode cL_areBestSo 284 = .ok (.istore 16, 2) := by decide +kernel
theorem dL_areBestSo_286 : decode cL_areBestSo 286 = .ok (.iload 13, 2) := by decide +kernel
theorem dL_areBestSo_288 : decode cL_areBestSo 288 = .ok (.iload 14, 2) := by decide +kernel
theorem dL_areBestSo_290 : decode cL_areBestSo 290 = .ok (.if_icmp .eq 62, 3) := by decide +kernel
theorem dL_areBestSo_293 : decode cL_areBestSo 293 = .ok (.aload_n 0, 1) := by decide +kernel
theorem dL_areBestSo_294 : decode cL_areBestSo 294 = .ok (.iload_n 1, 1) := by decide +kernel
theorem dL_areBestSo_295 : decode cL_areBestSo 295 = .ok (.iload 13, 2) := by decide +kernel
theorem dL_areBestSo_297 : decode cL_areBestSo 297 = .ok (.iload 15, 2) := by decide +kernel
theorem dL_areBestSo_299 : decode cL_areBestSo 299 = .ok (.invokevirtual 36, 3) := by decide +kernel
theorem dL_areBestSo_302 : decode cL_areBestSo 302 = .ok (.istore 12, 2) := by decide +kernel
theorem dL_areBestSo_304 : decode cL_areBestSo 304 = .ok (.iload 12, 2) := by decide +kernel
theorem dL_areBestSo_306 : decode cL_areBestSo 306 = .ok (.istore 16, 2) := by decide +kernel
theorem dL_areBestSo_308 : decode cL_areBestSo 308 = .ok (.iload 11, 2) := by decide +kernel
theorem dL_areBestSo_310 : decode cL_areBestSo 310 = .ok (.ifCond .eq 33, 3) := by decide +kernel
theorem dL_areBestSo_313 : decode cL_areBestSo 313 = .ok (.iload 12, 2) := by decide +kernel
theorem dL_areBestSo_315 : decode cL_areBestSo 315 = .ok (.ifCond .lt 28, 3) := by decide +kernel
theorem dL_areBestSo_318 : decode cL_areBestSo 318 = .ok (.iload 12, 2) := by decide +kernel
theorem dL_areBestSo_320 : decode cL_areBestSo 320 = .ok (.iload 5, 2) := by decide +kernel
theorem dL_areBestSo_322 : decode cL_areBestSo 322 = .ok (.if_icmp .lt 17, 3) := by decide +kernel
theorem dL_areBestSo_325 : decode cL_areBestSo 325 = .ok (.iload 12, 2) := by decide +kernel
theorem dL_areBestSo_327 : decode cL_areBestSo 327 = .ok (.iload 5, 2) := by decide +kernel
theorem dL_areBestSo_329 : decode cL_areBestSo 329 = .ok (.if_icmp .ne 14, 3) := by decide +kernel
theorem dL_areBestSo_332 : decode cL_areBestSo 332 = .ok (.iload 13, 2) := by decide +kernel
theorem dL_areBestSo_334 : decode cL_areBestSo 334 = .ok (.iload 14, 2) := by decide +kernel
theorem dL_areBestSo_336 : decode cL_areBestSo 336 = .ok (.if_icmp .ge 7, 3) := by decide +kernel
theorem dL_areBestSo_339 : decode cL_areBestSo 339 = .ok (.iconst 1, 1) := by decide +kernel
theorem dL_areBestSo_340 : decode cL_areBestSo 340 = .ok (.goto 4, 3) := by decide +kernel
theorem dL_areBestSo_343 : decode cL_areBestSo 343 = .ok (.iconst 0, 1) := by decide +kernel
theorem dL_areBestSo_344 : decode cL_areBestSo 344 = .ok (.istore 11, 2) := by decide +kernel
theorem dL_areBestSo_346 : decode cL_areBestSo 346 = .ok (.aload_n 0, 1) := by decide +kernel
theorem dL_areBestSo_347 : decode cL_areBestSo 347 = .ok (.invokevirtual 84, 3) := by decide +kernel
theorem dL_areBestSo_350 : decode cL_areBestSo 350 = .ok (.istore 12, 2) := by decide +kernel
theorem dL_areBestSo_352 : decode cL_areBestSo 352 = .ok (.iconst 0, 1) := by decide +kernel
theorem dL_areBestSo_353 : decode cL_areBestSo 353 = .ok (.istore 17, 2) := by decide +kernel
theorem dL_areBestSo_355 : decode cL_areBestSo 355 = .ok (.iload 17, 2) := by decide +kernel
theorem dL_areBestSo_357 : decode cL_areBestSo 357 = .ok (.bipush 12, 2) := by decide +kernel
theorem dL_areBestSo_359 : decode cL_areBestSo 359 = .ok (.if_icmp .ge 64, 3) := by decide +kernel
theorem dL_areBestSo_362 : decode cL_areBestSo 362 = .ok (.aload_n 0, 1) := by decide +kernel
theorem dL_areBestSo_363 : decode cL_areBestSo 363 = .ok (.iload_n 1, 1) := by decide +kernel
theorem dL_areBestSo_364 : decode cL_areBestSo 364 = .ok (.iload 17, 2) := by decide +kernel
theorem dL_areBestSo_366 : decode cL_areBestSo 366 = .ok (.iload 15, 2) := by decide +kernel
theorem dL_areBestSo_368 : decode cL_areBestSo 368 = .ok (.invokevirtual 36, 3) := by decide +kernel
theorem dL_areBestSo_371 : decode cL_areBestSo 371 = .ok (.istore 12, 2) := by decide +kernel
theorem dL_areBestSo_373 : decode cL_areBestSo 373 = .ok (.iload 12, 2) := by decide +kernel
theorem dL_areBestSo_375 : decode cL_areBestSo 375 = .ok (.ifCond .lt 42, 3) := by decide +kernel
theorem dL_areBestSo_378 : decode cL_areBestSo 378 = .ok (.iload 11, 2) := by decide +kernel
theorem dL_areBestSo_380 : decode cL_areBestSo 380 = .ok (.ifCond .eq 28, 3) := by decide +kernel
theorem dL_areBestSo_383 : decode cL_areBestSo 383 = .ok (.iload 12, 2) := by decide +kernel
theorem dL_areBestSo_385 : decode cL_areBestSo 385 = .ok (.iload 16, 2) := by decide +kernel
theorem dL_areBestSo_387 : decode cL_areBestSo 387 = .ok (.if_icmp .gt 17, 3) := by decide +kernel
theorem dL_areBestSo_390 : decode cL_areBestSo 390 = .ok (.iload 12, 2) := by decide +kernel
theorem dL_areBestSo_392 : decode cL_areBestSo 392 = .ok (.iload 16, 2) := by decide +kernel
theorem dL_areBestSo_394 : decode cL_areBestSo 394 = .ok (.if_icmp .ne 14, 3) := by decide +kernel
theorem dL_areBestSo_397 : decode cL_areBestSo 397 = .ok (.iload 17, 2) := by decide +kernel
theorem dL_areBestSo_399 : decode cL_areBestSo 399 = .ok (.iload 13, 2) := by decide +kernel
theorem dL_areBestSo_401 : decode cL_areBestSo 401 = .ok (.if_icmp .lt 7, 3) := by decide +kernel
theorem dL_areBestSo_404 : decode cL_areBestSo 404 = .ok (.iconst 1, 1) := by decide +kernel
theorem dL_areBestSo_405 : decode cL_areBestSo 405 = .ok (.goto 4, 3) := by decide +kernel
theorem dL_areBestSo_408 : decode cL_areBestSo 408 = .ok (.iconst 0, 1) := by decide +kernel
theorem dL_areBestSo_409 : decode cL_areBestSo 409 = .ok (.istore 11, 2) := by decide +kernel
theorem dL_areBestSo_411 : decode cL_areBestSo 411 = .ok (.aload_n 0, 1) := by decide +kernel
theorem dL_areBestSo_412 : decode cL_areBestSo 412 = .ok (.invokevirtual 84, 3) := by decide +kernel
theorem dL_areBestSo_415 : decode cL_areBestSo 415 = .ok (.istore 12, 2) := by decide +kernel
theorem dL_areBestSo_417 : decode cL_areBestSo 417 = .ok (.iinc 17 1, 3) := by decide +kernel
theorem dL_areBestSo_420 : decode cL_areBestSo 420 = .ok (.goto (-65), 3) := by decide +kernel
theorem dL_areBestSo_423 : decode cL_areBestSo 423 = .ok (.iload 11, 2) := by decide +kernel
theorem dL_areBestSo_425 : decode cL_areBestSo 425 = .ok (.ifCond .eq 28, 3) := by decide +kernel
theorem dL_areBestSo_428 : decode cL_areBestSo 428 = .ok (.aload_n 0, 1) := by decide +kernel
theorem dL_areBestSo_429 : decode cL_areBestSo 429 = .ok (.iload_n 1, 1) := by decide +kernel
theorem dL_areBestSo_430 : decode cL_areBestSo 430 = .ok (.iconst 0, 1) := by decide +kernel
theorem dL_areBestSo_431 : decode cL_areBestSo 431 = .ok (.invokevirtual 20, 3) := by decide +kernel
theorem dL_areBestSo_434 : decode cL_areBestSo 434 = .ok (.iload 14, 2) := by decide +kernel
theorem dL_areBestSo_436 : decode cL_areBestSo 436 = .ok (.if_icmp .ne 17, 3) := by decide +kernel
theorem dL_areBestSo_439 : decode cL_areBestSo 439 = .ok (.aload_n 0, 1) := by decide +kernel
theorem dL_areBestSo_440 : decode cL_areBestSo 440 = .ok (.iconst 3, 1) := by decide +kernel
theorem dL_areBestSo_441 : decode cL_areBestSo 441 = .ok (.invokevirtual 8, 3) := by decide +kernel
theorem dL_areBestSo_444 : decode cL_areBestSo 444 = .ok (.iload 5, 2) := by decide +kernel
theorem dL_areBestSo_446 : decode cL_areBestSo 446 = .ok (.if_icmp .ne 7, 3) := by decide +kernel
theorem dL_areBestSo_449 : decode cL_areBestSo 449 = .ok (.iconst 1, 1) := by decide +kernel
theorem dL_areBestSo_450 : decode cL_areBestSo 450 = .ok (.goto 4, 3) := by decide +kernel
theorem dL_areBestSo_453 : decode cL_areBestSo 453 = .ok (.iconst 0, 1) := by decide +kernel
theorem dL_areBestSo_454 : decode cL_areBestSo 454 = .ok (.ireturn, 1) := by decide +kernel
theorem dL_law_0 : decode cL_law 0 = .ok (.new 9, 3) := by decide +kernel
theorem dL_law_3 : decode cL_law 3 = .ok (.dup, 1) := by decide +kernel
theorem dL_law_4 : decode cL_law 4 = .ok (.invokespecial 93, 3) := by decide +kernel
theorem dL_law_7 : decode cL_law 7 = .ok (.astore_n 1, 1) := by decide +kernel
theorem dL_law_8 : decode cL_law 8 = .ok (.iconst 0, 1) := by decide +kernel
theorem dL_law_9 : decode cL_law 9 = .ok (.istore_n 2, 1) := by decide +kernel
theorem dL_law_10 : decode cL_law 10 = .ok (.iload_n 2, 1) := by decide +kernel
theorem dL_law_11 : decode cL_law 11 = .ok (.bipush 48, 2) := by decide +kernel
theorem dL_law_13 : decode cL_law 13 = .ok (.if_icmp .ge 120, 3) := by decide +kernel
theorem dL_law_16 : decode cL_law 16 = .ok (.aload_n 0, 1) := by decide +kernel
theorem dL_law_17 : decode cL_law 17 = .ok (.iload_n 2, 1) := by decide +kernel
theorem dL_law_18 : decode cL_law 18 = .ok (.invokestatic 94, 3) := by decide +kernel
theorem dL_law_21 : decode cL_law 21 = .ok (.istore_n 3, 1) := by decide +kernel
theorem dL_law_22 : decode cL_law 22 = .ok (.aload_n 1, 1) := by decide +kernel
theorem dL_law_23 : decode cL_law 23 = .ok (.iload_n 3, 1) := by decide +kernel
theorem dL_law_24 : decode cL_law 24 = .ok (.invokestatic 97, 3) := by decide +kernel
theorem dL_law_27 : decode cL_law 27 = .ok (.istore 4, 2) := by decide +kernel
theorem dL_law_29 : decode cL_law 29 = .ok (.aload_n 1, 1) := by decide +kernel
theorem dL_law_30 : decode cL_law 30 = .ok (.iload_n 3, 1) := by decide +kernel
theorem dL_law_31 : decode cL_law 31 = .ok (.bipush 6, 2) := by decide +kernel
theorem dL_law_33 : decode cL_law 33 = .ok (.ishr, 1) := by decide +kernel
theorem dL_law_34 : decode cL_law 34 = .ok (.invokestatic 26, 3) := by decide +kernel
theorem dL_law_37 : decode cL_law 37 = .ok (.istore 5, 2) := by decide +kernel
theorem dL_law_39 : decode cL_law 39 = .ok (.aload_n 1, 1) := by decide +kernel
theorem dL_law_40 : decode cL_law 40 = .ok (.iload_n 3, 1) := by decide +kernel
theorem dL_law_41 : decode cL_law 41 = .ok (.bipush 7, 2) := by decide +kernel
theorem dL_law_43 : decode cL_law 43 = .ok (.ishr, 1) := by decide +kernel
theorem dL_law_44 : decode cL_law 44 = .ok (.invokestatic 58, 3) := by decide +kernel
theorem dL_law_47 : decode cL_law 47 = .ok (.istore 6, 2) := by decide +kernel
theorem dL_law_49 : decode cL_law 49 = .ok (.iload_n 2, 1) := by decide +kernel
theorem dL_law_50 : decode cL_law 50 = .ok (.bipush 8, 2) := by decide +kernel
theorem dL_law_52 : decode cL_law 52 = .ok (.irem, 1) := by decide +kernel
theorem dL_law_53 : decode cL_law 53 = .ok (.iconst 1, 1) := by decide +kernel
theorem dL_law_54 : decode cL_law 54 = .ok (.if_icmp .ne 10, 3) := by decide +kernel
theorem dL_law_57 : decode cL_law 57 = .ok (.aload_n 1, 1) := by decide +kernel
theorem dL_law_58 : decode cL_law 58 = .ok (.invokestatic 100, 3) := by decide +kernel
theorem dL_law_61 : decode cL_law 61 = .ok (.ifCond .eq 64, 3) := by decide +kernel
theorem dL_law_64 : decode cL_law 64 = .ok (.iload 6, 2) := by decide +kernel
theorem dL_law_66 : decode cL_law 66 = .ok (.ifCond .lt 12, 3) := by decide +kernel
theorem dL_law_69 : decode cL_law 69 = .ok (.aload_n 1, 1) := by decide +kernel
theorem dL_law_70 : decode cL_law 70 = .ok (.iload 6, 2) := by decide +kernel
theorem dL_law_72 : decode cL_law 72 = .ok (.invokestatic 104, 3) := by decide +kernel
theorem dL_law_75 : decode cL_law 75 = .ok (.ifCond .eq 50, 3) := by decide +kernel
theorem dL_law_78 : decode cL_law 78 = .ok (.iload 5, 2) := by decide +kernel
theorem dL_law_80 : decode cL_law 80 = .ok (.ifCond .lt 19, 3) := by decide +kernel
theorem dL_law_83 : decode cL_law 83 = .ok (.iload_n 2, 1) := by decide +kernel
theorem dL_law_84 : decode cL_law 84 = .ok (.iconst 3, 1) := by decide +kernel
theorem dL_law_85 : decode cL_law 85 = .ok (.irem, 1) := by decide +kernel
theorem dL_law_86 : decode cL_law 86 = .ok (.iconst 2, 1) := by decide +kernel
theorem dL_law_87 : decode cL_law 87 = .ok (.if_icmp .ne 12, 3) := by decide +kernel
theorem dL_law_90 : decode cL_law 90 = .ok (.aload_n 1, 1) := by decide +kernel
theorem dL_law_91 : decode cL_law 91 = .ok (.iload 5, 2) := by decide +kernel
theorem dL_law_93 : decode cL_law 93 = .ok (.invokestatic 108, 3) := by decide +kernel
theorem dL_law_96 : decode cL_law 96 = .ok (.ifCond .eq 29, 3) := by decide +kernel
theorem dL_law_99 : decode cL_law 99 = .ok (.iload 5, 2) := by decide +kernel
theorem dL_law_101 : decode cL_law 101 = .ok (.ifCond .lt 26, 3) := by decide +kernel
theorem dL_law_104 : decode cL_law 104 = .ok (.iload_n 2, 1) := by decide +kernel
theorem dL_law_105 : decode cL_law 105 = .ok (.bipush 12, 2) := by decide +kernel
theorem dL_law_107 : decode cL_law 107 = .ok (.irem, 1) := by decide +kernel
theorem dL_law_108 : decode cL_law 108 = .ok (.bipush 7, 2) := by decide +kernel
theorem dL_law_110 : decode cL_law 110 = .ok (.if_icmp .ne 17, 3) := by decide +kernel
theorem dL_law_113 : decode cL_law 113 = .ok (.aload_n 1, 1) := by decide +kernel
theorem dL_law_114 : decode cL_law 114 = .ok (.iload 5, 2) := by decide +kernel
theorem dL_law_116 : decode cL_law 116 = .ok (.iload_n 3, 1) := by decide +kernel
theorem dL_law_117 : decode cL_law 117 = .ok (.iconst 5, 1) := by decide +kernel
theorem dL_law_118 : decode cL_law 118 = .ok (.ishr, 1) := by decide +kernel
theorem dL_law_119 : decode cL_law 119 = .ok (.invokestatic 111, 3) := by decide +kernel
theorem dL_law_122 : decode cL_law 122 = .ok (.ifCond .ne 5, 3) := by decide +kernel
theorem dL_law_125 : decode cL_law 125 = .ok (.iconst 0, 1) := by decide +kernel
theorem dL_law_126 : decode cL_law 126 = .ok (.ireturn, 1) := by decide +kernel
theorem dL_law_127 : decode cL_law 127 = .ok (.iinc 2 1, 3) := by decide +kernel
theorem dL_law_130 : decode cL_law 130 = .ok (.goto (-120), 3) := by decide +kernel
theorem dL_law_133 : decode cL_law 133 = .ok (.iconst 1, 1) := by decide +kernel
theorem dL_law_134 : decode cL_law 134 = .ok (.ireturn, 1) := by decide +kernel
