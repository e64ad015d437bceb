theorem dL_law_0 : decode code 0 = .ok (.new 8, 3) := by decide +kernel
theorem dL_law_3 : decode code 3 = .ok (.dup, 1) := by decide +kernel
theorem dL_law_4 : decode code 4 = .ok (.invokespecial 105, 3) := by decide +kernel
theorem dL_law_7 : decode code 7 = .ok (.astore_n 1, 1) := by decide +kernel
theorem dL_law_8 : decode code 8 = .ok (.new 106, 3) := by decide +kernel
theorem dL_law_11 : decode code 11 = .ok (.dup, 1) := by decide +kernel
theorem dL_law_12 : decode code 12 = .ok (.invokespecial 108, 3) := by decide +kernel
theorem dL_law_15 : decode code 15 = .ok (.astore_n 2, 1) := by decide +kernel
theorem dL_law_16 : decode code 16 = .ok (.iconst 1, 1) := by decide +kernel
theorem dL_law_17 : decode code 17 = .ok (.newarray .long, 2) := by decide +kernel
theorem dL_law_19 : decode code 19 = .ok (.astore_n 3, 1) := by decide +kernel
theorem dL_law_20 : decode code 20 = .ok (.iconst 0, 1) := by decide +kernel
theorem dL_law_21 : decode code 21 = .ok (.istore 4, 2) := by decide +kernel
theorem dL_law_23 : decode code 23 = .ok (.iload 4, 2) := by decide +kernel
theorem dL_law_25 : decode code 25 = .ok (.aload_n 0, 1) := by decide +kernel
theorem dL_law_26 : decode code 26 = .ok (.arraylength, 1) := by decide +kernel
theorem dL_law_27 : decode code 27 = .ok (.iconst 3, 1) := by decide +kernel
theorem dL_law_28 : decode code 28 = .ok (.isub, 1) := by decide +kernel
theorem dL_law_29 : decode code 29 = .ok (.if_icmp .gt 1928, 3) := by decide +kernel
theorem dL_law_32 : decode code 32 = .ok (.aload_n 0, 1) := by decide +kernel
theorem dL_law_33 : decode code 33 = .ok (.iload 4, 2) := by decide +kernel
theorem dL_law_35 : decode code 35 = .ok (.iaload, 1) := by decide +kernel
theorem dL_law_36 : decode code 36 = .ok (.bipush 63, 2) := by decide +kernel
theorem dL_law_38 : decode code 38 = .ok (.iand, 1) := by decide +kernel
theorem dL_law_39 : decode code 39 = .ok (.tableswitch 1912 0 43 #[189, 247, 303, 359, 415, 471, 484, 497, 553, 566, 641, 709, 722, 778, 822, 835, 848, 904, 960, 973, 987, 1031, 1106, 1119, 1132, 1145, 1189, 1233, 1301, 1357, 1370, 1414, 1455, 1523, 1586, 1599, 1643, 1699, 1743, 1787, 1800, 1814, 1858, 1899], 189) := by decide +kernel
theorem dL_law_228 : decode code 228 = .ok (.aload_n 1, 1) := by decide +kernel
theorem dL_law_229 : decode code 229 = .ok (.aload_n 0, 1) := by decide +kernel
theorem dL_law_230 : decode code 230 = .ok (.iload 4, 2) := by decide +kernel
theorem dL_law_232 : decode code 232 = .ok (.iconst 1, 1) := by decide +kernel
theorem dL_law_233 : decode code 233 = .ok (.iadd, 1) := by decide +kernel
theorem dL_law_234 : decode code 234 = .ok (.iaload, 1) := by decide +kernel
theorem dL_law_235 : decode code 235 = .ok (.i2c, 1) := by decide +kernel
theorem dL_law_236 : decode code 236 = .ok (.aload_n 3, 1) := by decide +kernel
theorem dL_law_237 : decode code 237 = .ok (.invokestatic 109, 3) := by decide +kernel
theorem dL_law_240 : decode code 240 = .ok (.istore 5, 2) := by decide +kernel
theorem dL_law_242 : decode code 242 = .ok (.aload_n 2, 1) := by decide +kernel
theorem dL_law_243 : decode code 243 = .ok (.aload_n 0, 1) := by decide +kernel
theorem dL_law_244 : decode code 244 = .ok (.iload 4, 2) := by decide +kernel
theorem dL_law_246 : decode code 246 = .ok (.iconst 1, 1) := by decide +kernel
theorem dL_law_247 : decode code 247 = .ok (.iadd, 1) := by decide +kernel
theorem dL_law_248 : decode code 248 = .ok (.iaload, 1) := by decide +kernel
theorem dL_law_249 : decode code 249 = .ok (.i2c, 1) := by decide +kernel
theorem dL_law_250 : decode code 250 = .ok (.invokevirtual 114, 3) := by decide +kernel
theorem dL_law_253 : decode code 253 = .ok (.istore 6, 2) := by decide +kernel
theorem dL_law_255 : decode code 255 = .ok (.aload_n 2, 1) := by decide +kernel
theorem dL_law_256 : decode code 256 = .ok (.invokevirtual 115, 3) := by decide +kernel
theorem dL_law_259 : decode code 259 = .ok (.iload 5, 2) := by decide +kernel
theorem dL_law_261 : decode code 261 = .ok (.if_icmp .eq 5, 3) := by decide +kernel
theorem dL_law_264 : decode code 264 = .ok (.iconst 0, 1) := by decide +kernel
theorem dL_law_265 : decode code 265 = .ok (.ireturn, 1) := by decide +kernel
theorem dL_law_266 : decode code 266 = .ok (.iload 5, 2) := by decide +kernel
theorem dL_law_268 : decode code 268 = .ok (.ifCond .ne 15, 3) := by decide +kernel
theorem dL_law_271 : decode code 271 = .ok (.aload_n 3, 1) := by decide +kernel
theorem dL_law_272 : decode code 272 = .ok (.iconst 0, 1) := by decide +kernel
theorem dL_law_273 : decode code 273 = .ok (.laload, 1) := by decide +kernel
theorem dL_law_274 : decode code 274 = .ok (.iload 6, 2) := by decide +kernel
theorem dL_law_276 : decode code 276 = .ok (.i2l, 1) := by decide +kernel
theorem dL_law_277 : decode code 277 = .ok (.lcmp, 1) := by decide +kernel
theorem dL_law_278 : decode code 278 = .ok (.ifCond .eq 5, 3) := by decide +kernel
theorem dL_law_281 : decode code 281 = .ok (.iconst 0, 1) := by decide +kernel
theorem dL_law_282 : decode code 282 = .ok (.ireturn, 1) := by decide +kernel
theorem dL_law_283 : decode code 283 = .ok (.goto 1668, 3) := by decide +kernel
theorem dL_law_286 : decode code 286 = .ok (.aload_n 1, 1) := by decide +kernel
theorem dL_law_287 : decode code 287 = .ok (.aload_n 0, 1) := by decide +kernel
theorem dL_law_288 : decode code 288 = .ok (.iload 4, 2) := by decide +kernel
theorem dL_law_290 : decode code 290 = .ok (.iconst 1, 1) := by decide +kernel
theorem dL_law_291 : decode code 291 = .ok (.iadd, 1) := by decide +kernel
theorem dL_law_292 : decode code 292 = .ok (.iaload, 1) := by decide +kernel
theorem dL_law_293 : decode code 293 = .ok (.aload_n 3, 1) := by decide +kernel
theorem dL_law_294 : decode code 294 = .ok (.invokestatic 118, 3) := by decide +kernel
theorem dL_law_297 : decode code 297 = .ok (.istore 5, 2) := by decide +kernel
theorem dL_law_299 : decode code 299 = .ok (.aload_n 2, 1) := by decide +kernel
theorem dL_law_300 : decode code 300 = .ok (.aload_n 0, 1) := by decide +kernel
theorem dL_law_301 : decode code 301 = .ok (.iload 4, 2) := by decide +kernel
theorem dL_law_303 : decode code 303 = .ok (.iconst 1, 1) := by decide +kernel
theorem dL_law_304 : decode code 304 = .ok (.iadd, 1) := by decide +kernel
theorem dL_law_305 : decode code 305 = .ok (.iaload, 1) := by decide +kernel
theorem dL_law_306 : decode code 306 = .ok (.invokevirtual 121, 3) := by decide +kernel
theorem dL_law_309 : decode code 309 = .ok (.istore 6, 2) := by decide +kernel
theorem dL_law_311 : decode code 311 = .ok (.aload_n 2, 1) := by decide +kernel
theorem dL_law_312 : decode code 312 = .ok (.invokevirtual 115, 3) := by decide +kernel
theorem dL_law_315 : decode code 315 = .ok (.iload 5, 2) := by decide +kernel
theorem dL_law_317 : decode code 317 = .ok (.if_icmp .eq 5, 3) := by decide +kernel
theorem dL_law_320 : decode code 320 = .ok (.iconst 0, 1) := by decide +kernel
theorem dL_law_321 : decode code 321 = .ok (.ireturn, 1) := by decide +kernel
theorem dL_law_322 : decode code 322 = .ok (.iload 5, 2) := by decide +kernel
theorem dL_law_324 : decode code 324 = .ok (.ifCond .ne 15, 3) := by decide +kernel
theorem dL_law_327 : decode code 327 = .ok (.aload_n 3, 1) := by decide +kernel
theorem dL_law_328 : decode code 328 = .ok (.iconst 0, 1) := by decide +kernel
theorem dL_law_329 : decode code 329 = .ok (.laload, 1) := by decide +kernel
theorem dL_law_330 : decode code 330 = .ok (.iload 6, 2) := by decide +kernel
theorem dL_law_332 : decode code 332 = .ok (.i2l, 1) := by decide +kernel
theorem dL_law_333 : decode code 333 = .ok (.lcmp, 1) := by decide +kernel
theorem dL_law_334 : decode code 334 = .ok (.ifCond .eq 5, 3) := by decide +kernel
theorem dL_law_337 : decode code 337 = .ok (.iconst 0, 1) := by decide +kernel
theorem dL_law_338 : decode code 338 = .ok (.ireturn, 1) := by decide +kernel
theorem dL_law_339 : decode code 339 = .ok (.goto 1612, 3) := by decide +kernel
theorem dL_law_342 : decode code 342 = .ok (.aload_n 1, 1) := by decide +kernel
theorem dL_law_343 : decode code 343 = .ok (.aload_n 0, 1) := by decide +kernel
theorem dL_law_344 : decode code 344 = .ok (.iload 4, 2) := by decide +kernel
theorem dL_law_346 : decode code 346 = .ok (.iconst 1, 1) := by decide +kernel
theorem dL_law_347 : decode code 347 = .ok (.iadd, 1) := by decide +kernel
theorem dL_law_348 : decode code 348 = .ok (.iaload, 1) := by decide +kernel
theorem dL_law_349 : decode code 349 = .ok (.aload_n 3, 1) := by decide +kernel
theorem dL_law_350 : decode code 350 = .ok (.invokestatic 122, 3) := by decide +kernel
theorem dL_law_353 : decode code 353 = .ok (.istore 5, 2) := by decide +kernel
theorem dL_law_355 : decode code 355 = .ok (.aload_n 2, 1) := by decide +kernel
theorem dL_law_356 : decode code 356 = .ok (.aload_n 0, 1) := by decide +kernel
theorem dL_law_357 : decode code 357 = .ok (.iload 4, 2) := by decide +kernel
theorem dL_law_359 : decode code 359 = .ok (.iconst 1, 1) := by decide +kernel
theorem dL_law_360 : decode code 360 = .ok (.iadd, 1) := by decide +kernel
theorem dL_law_361 : decode code 361 = .ok (.iaload, 1) := by decide +kernel
theorem dL_law_362 : decode code 362 = .ok (.invokevirtual 124, 3) := by decide +kernel
theorem dL_law_365 : decode code 365 = .ok (.istore 6, 2) := by decide +kernel
theorem dL_law_367 : decode code 367 = .ok (.aload_n 2, 1) := by decide +kernel
theorem dL_law_368 : decode code 368 = .ok (.invokevirtual 115, 3) := by decide +kernel
theorem dL_law_371 : decode code 371 = .ok (.iload 5, 2) := by decide +kernel
theorem dL_law_373 : decode code 373 = .ok (.if_icmp .eq 5, 3) := by decide +kernel
theorem dL_law_376 : decode code 376 = .ok (.iconst 0, 1) := by decide +kernel
theorem dL_law_377 : decode code 377 = .ok (.ireturn, 1) := by decide +kernel
theorem dL_law_378 : decode code 378 = .ok (.iload 5, 2) := by decide +kernel
theorem dL_law_380 : decode code 380 = .ok (.ifCond .ne 15, 3) := by decide +kernel
theorem dL_law_383 : decode code 383 = .ok (.aload_n 3, 1) := by decide +kernel
theorem dL_law_384 : decode code 384 = .ok (.iconst 0, 1) := by decide +kernel
theorem dL_law_385 : decode code 385 = .ok (.laload, 1) := by decide +kernel
theorem dL_law_386 : decode code 386 = .ok (.iload 6, 2) := by decide +kernel
theorem dL_law_388 : decode code 388 = .ok (.i2l, 1) := by decide +kernel
theorem dL_law_389 : decode code 389 = .ok (.lcmp, 1) := by decide +kernel
theorem dL_law_390 : decode code 390 = .ok (.ifCond .eq 5, 3) := by decide +kernel
theorem dL_law_393 : decode code 393 = .ok (.iconst 0, 1) := by decide +kernel
theorem dL_law_394 : decode code 394 = .ok (.ireturn, 1) := by decide +kernel
theorem dL_law_395 : decode code 395 = .ok (.goto 1556, 3) := by decide +kernel
theorem dL_law_398 : decode code 398 = .ok (.aload_n 1, 1) := by decide +kernel
theorem dL_law_399 : decode code 399 = .ok (.aload_n 0, 1) := by decide +kernel
theorem dL_law_400 : decode code 400 = .ok (.iload 4, 2) := by decide +kernel
theorem dL_law_402 : decode code 402 = .ok (.iconst 1, 1) := by decide +kernel
theorem dL_law_403 : decode code 403 = .ok (.iadd, 1) := by decide +kernel
theorem dL_law_404 : decode code 404 = .ok (.iaload, 1) := by decide +kernel
theorem dL_law_405 : decode code 405 = .ok (.aload_n 3, 1) := by decide +kernel
theorem dL_law_406 : decode code 406 = .ok (.invokestatic 125, 3) := by decide +kernel
theorem dL_law_409 : decode code 409 = .ok (.istore 5, 2) := by decide +kernel
theorem dL_law_411 : decode code 411 = .ok (.aload_n 2, 1) := by decide +kernel
theorem dL_law_412 : decode code 412 = .ok (.aload_n 0, 1) := by decide +kernel
theorem dL_law_413 : decode code 413 = .ok (.iload 4, 2) := by decide +kernel
theorem dL_law_415 : decode code 415 = .ok (.iconst 1, 1) := by decide +kernel
theorem dL_law_416 : decode code 416 = .ok (.iadd, 1) := by decide +kernel
theorem dL_law_417 : decode code 417 = .ok (.iaload, 1) := by decide +kernel
theorem dL_law_418 : decode code 418 = .ok (.invokevirtual 127, 3) := by decide +kernel
theorem dL_law_421 : decode code 421 = .ok (.istore 6, 2) := by decide +kernel
theorem dL_law_423 : decode code 423 = .ok (.aload_n 2, 1) := by decide +kernel
theorem dL_law_424 : decode code 424 = .ok (.invokevirtual 115, 3) := by decide +kernel
theorem dL_law_427 : decode code 427 = .ok (.iload 5, 2) := by decide +kernel
theorem dL_law_429 : decode code 429 = .ok (.if_icmp .eq 5, 3) := by decide +kernel
theorem dL_law_432 : decode code 432 = .ok (.iconst 0, 1) := by decide +kernel
theorem dL_law_433 : decode code 433 = .ok (.ireturn, 1) := by decide +kernel
theorem dL_law_434 : decode code 434 = .ok (.iload 5, 2) := by decide +kernel
theorem dL_law_436 : decode code 436 = .ok (.ifCond .ne 15, 3) := by decide +kernel
theorem dL_law_439 : decode code 439 = .ok (.aload_n 3, 1) := by decide +kernel
theorem dL_law_440 : decode code 440 = .ok (.iconst 0, 1) := by decide +kernel
theorem dL_law_441 : decode code 441 = .ok (.laload, 1) := by decide +kernel
theorem dL_law_442 : decode code 442 = .ok (.iload 6, 2) := by decide +kernel
theorem dL_law_444 : decode code 444 = .ok (.i2l, 1) := by decide +kernel
theorem dL_law_445 : decode code 445 = .ok (.lcmp, 1) := by decide +kernel
theorem dL_law_446 : decode code 446 = .ok (.ifCond .eq 5, 3) := by decide +kernel
theorem dL_law_449 : decode code 449 = .ok (.iconst 0, 1) := by decide +kernel
theorem dL_law_450 : decode code 450 = .ok (.ireturn, 1) := by decide +kernel
theorem dL_law_451 : decode code 451 = .ok (.goto 1500, 3) := by decide +kernel
theorem dL_law_454 : decode code 454 = .ok (.aload_n 1, 1) := by decide +kernel
theorem dL_law_455 : decode code 455 = .ok (.aload_n 0, 1) := by decide +kernel
theorem dL_law_456 : decode code 456 = .ok (.iload 4, 2) := by decide +kernel
theorem dL_law_458 : decode code 458 = .ok (.iconst 1, 1) := by decide +kernel
theorem dL_law_459 : decode code 459 = .ok (.iadd, 1) := by decide +kernel
theorem dL_law_460 : decode code 460 = .ok (.iaload, 1) := by decide +kernel
theorem dL_law_461 : decode code 461 = .ok (.aload_n 3, 1) := by decide +kernel
theorem dL_law_462 : decode code 462 = .ok (.invokestatic 128, 3) := by decide +kernel
theorem dL_law_465 : decode code 465 = .ok (.istore 5, 2) := by decide +kernel
theorem dL_law_467 : decode code 467 = .ok (.aload_n 2, 1) := by decide +kernel
theorem dL_law_468 : decode code 468 = .ok (.aload_n 0, 1) := by decide +kernel
theorem dL_law_469 : decode code 469 = .ok (.iload 4, 2) := by decide +kernel
theorem dL_law_471 : decode code 471 = .ok (.iconst 1, 1) := by decide +kernel
theorem dL_law_472 : decode code 472 = .ok (.iadd, 1) := by decide +kernel
theorem dL_law_473 : decode code 473 = .ok (.iaload, 1) := by decide +kernel
theorem dL_law_474 : decode code 474 = .ok (.invokevirtual 130, 3) := by decide +kernel
theorem dL_law_477 : decode code 477 = .ok (.istore 6, 2) := by decide +kernel
theorem dL_law_479 : decode code 479 = .ok (.aload_n 2, 1) := by decide +kernel
theorem dL_law_480 : decode code 480 = .ok (.invokevirtual 115, 3) := by decide +kernel
theorem dL_law_483 : decode code 483 = .ok (.iload 5, 2) := by decide +kernel
theorem dL_law_485 : decode code 485 = .ok (.if_icmp .eq 5, 3) := by decide +kernel
theorem dL_law_488 : decode code 488 = .ok (.iconst 0, 1) := by decide +kernel
theorem dL_law_489 : decode code 489 = .ok (.ireturn, 1) := by decide +kernel
theorem dL_law_490 : decode code 490 = .ok (.iload 5, 2) := by decide +kernel
theorem dL_law_492 : decode code 492 = .ok (.ifCond .ne 15, 3) := by decide +kernel
theorem dL_law_495 : decode code 495 = .ok (.aload_n 3, 1) := by decide +kernel
theorem dL_law_496 : decode code 496 = .ok (.iconst 0, 1) := by decide +kernel
theorem dL_law_497 : decode code 497 = .ok (.laload, 1) := by decide +kernel
theorem dL_law_498 : decode code 498 = .ok (.iload 6, 2) := by decide +kernel
theorem dL_law_500 : decode code 500 = .ok (.i2l, 1) := by decide +kernel
theorem dL_law_501 : decode code 501 = .ok (.lcmp, 1) := by decide +kernel
theorem dL_law_502 : decode code 502 = .ok (.ifCond .eq 5, 3) := by decide +kernel
theorem dL_law_505 : decode code 505 = .ok (.iconst 0, 1) := by decide +kernel
theorem dL_law_506 : decode code 506 = .ok (.ireturn, 1) := by decide +kernel
theorem dL_law_507 : decode code 507 = .ok (.goto 1444, 3) := by decide +kernel
theorem dL_law_510 : decode code 510 = .ok (.aload_n 1, 1) := by decide +kernel
theorem dL_law_511 : decode code 511 = .ok (.invokevirtual 131, 3) := by decide +kernel
theorem dL_law_514 : decode code 514 = .ok (.aload_n 2, 1) := by decide +kernel
theorem dL_law_515 : decode code 515 = .ok (.invokevirtual 134, 3) := by decide +kernel
theorem dL_law_518 : decode code 518 = .ok (.if_icmp .eq 1433, 3) := by decide +kernel
theorem dL_law_521 : decode code 521 = .ok (.iconst 0, 1) := by decide +kernel
theorem dL_law_522 : decode code 522 = .ok (.ireturn, 1) := by decide +kernel
theorem dL_law_523 : decode code 523 = .ok (.aload_n 1, 1) := by decide +kernel
theorem dL_law_524 : decode code 524 = .ok (.invokevirtual 135, 3) := by decide +kernel
theorem dL_law_527 : decode code 527 = .ok (.aload_n 2, 1) := by decide +kernel
theorem dL_law_528 : decode code 528 = .ok (.invokevirtual 138, 3) := by decide +kernel
theorem dL_law_531 : decode code 531 = .ok (.if_icmp .eq 1420, 3) := by decide +kernel
theorem dL_law_534 : decode code 534 = .ok (.iconst 0, 1) := by decide +kernel
theorem dL_law_535 : decode code 535 = .ok (.ireturn, 1) := by decide +kernel
theorem dL_law_536 : decode code 536 = .ok (.aload_n 1, 1) := by decide +kernel
theorem dL_law_537 : decode code 537 = .ok (.aload_n 0, 1) := by decide +kernel
theorem dL_law_538 : decode code 538 = .ok (.iload 4, 2) := by decide +kernel
theorem dL_law_540 : decode code 540 = .ok (.iconst 1, 1) := by decide +kernel
theorem dL_law_541 : decode code 541 = .ok (.iadd, 1) := by decide +kernel
theorem dL_law_542 : decode code 542 = .ok (.iaload, 1) := by decide +kernel
theorem dL_law_543 : decode code 543 = .ok (.aload_n 3, 1) := by decide +kernel
theorem dL_law_544 : decode code 544 = .ok (.invokestatic 139, 3) := by decide +kernel
theorem dL_law_547 : decode code 547 = .ok (.istore 5, 2) := by decide +kernel
theorem dL_law_549 : decode code 549 = .ok (.aload_n 2, 1) := by decide +kernel
theorem dL_law_550 : decode code 550 = .ok (.aload_n 0, 1) := by decide +kernel
theorem dL_law_551 : decode code 551 = .ok (.iload 4, 2) := by decide +kernel
theorem dL_law_553 : decode code 553 = .ok (.iconst 1, 1) := by decide +kernel
theorem dL_law_554 : decode code 554 = .ok (.iadd, 1) := by decide +kernel
theorem dL_law_555 : decode code 555 = .ok (.iaload, 1) := by decide +kernel
theorem dL_law_556 : decode code 556 = .ok (.invokevirtual 141, 3) := by decide +kernel
theorem dL_law_559 : decode code 559 = .ok (.istore 6, 2) := by decide +kernel
theorem dL_law_561 : decode code 561 = .ok (.aload_n 2, 1) := by decide +kernel
theorem dL_law_562 : decode code 562 = .ok (.invokevirtual 115, 3) := by decide +kernel
theorem dL_law_565 : decode code 565 = .ok (.iload 5, 2) := by decide +kernel
theorem dL_law_567 : decode code 567 = .ok (.if_icmp .eq 5, 3) := by decide +kernel
theorem dL_law_570 : decode code 570 = .ok (.iconst 0, 1) := by decide +kernel
theorem dL_law_571 : decode code 571 = .ok (.ireturn, 1) := by decide +kernel
theorem dL_law_572 : decode code 572 = .ok (.iload 5, 2) := by decide +kernel
theorem dL_law_574 : decode code 574 = .ok (.ifCond .ne 15, 3) := by decide +kernel
theorem dL_law_577 : decode code 577 = .ok (.aload_n 3, 1) := by decide +kernel
theorem dL_law_578 : decode code 578 = .ok (.iconst 0, 1) := by decide +kernel
theorem dL_law_579 : decode code 579 = .ok (.laload, 1) := by decide +kernel
theorem dL_law_580 : decode code 580 = .ok (.iload 6, 2) := by decide +kernel
theorem dL_law_582 : decode code 582 = .ok (.i2l, 1) := by decide +kernel
theorem dL_law_583 : decode code 583 = .ok (.lcmp, 1) := by decide +kernel
theorem dL_law_584 : decode code 584 = .ok (.ifCond .eq 5, 3) := by decide +kernel
theorem dL_law_587 : decode code 587 = .ok (.iconst 0, 1) := by decide +kernel
theorem dL_law_588 : decode code 588 = .ok (.ireturn, 1) := by decide +kernel
theorem dL_law_589 : decode code 589 = .ok (.goto 1362, 3) := by decide +kernel
theorem dL_law_592 : decode code 592 = .ok (.aload_n 1, 1) := by decide +kernel
theorem dL_law_593 : decode code 593 = .ok (.invokevirtual 142, 3) := by decide +kernel
theorem dL_law_596 : decode code 596 = .ok (.aload_n 2, 1) := by decide +kernel
theorem dL_law_597 : decode code 597 = .ok (.invokevirtual 145, 3) := by decide +kernel
theorem dL_law_600 : decode code 600 = .ok (.if_icmp .eq 1351, 3) := by decide +kernel
theorem dL_law_603 : decode code 603 = .ok (.iconst 0, 1) := by decide +kernel
theorem dL_law_604 : decode code 604 = .ok (.ireturn, 1) := by decide +kernel
theorem dL_law_605 : decode code 605 = .ok (.aload_n 1, 1) := by decide +kernel
theorem dL_law_606 : decode code 606 = .ok (.aload_n 0, 1) := by decide +kernel
theorem dL_law_607 : decode code 607 = .ok (.iload 4, 2) := by decide +kernel
theorem dL_law_609 : decode code 609 = .ok (.iconst 1, 1) := by decide +kernel
theorem dL_law_610 : decode code 610 = .ok (.iadd, 1) := by decide +kernel
theorem dL_law_611 : decode code 611 = .ok (.iaload, 1) := by decide +kernel
theorem dL_law_612 : decode code 612 = .ok (.aload_n 0, 1) := by decide +kernel
theorem dL_law_613 : decode code 613 = .ok (.iload 4, 2) := by decide +kernel
theorem dL_law_615 : decode code 615 = .ok (.iconst 2, 1) := by decide +kernel
theorem dL_law_616 : decode code 616 = .ok (.iadd, 1) := by decide +kernel
theorem dL_law_617 : decode code 617 = .ok (.iaload, 1) := by decide +kernel
theorem dL_law_618 : decode code 618 = .ok (.aload_n 3, 1) := by decide +kernel
theorem dL_law_619 : decode code 619 = .ok (.invokestatic 146, 3) := by decide +kernel
theorem dL_law_622 : decode code 622 = .ok (.istore 5, 2) := by decide +kernel
theorem dL_law_624 : decode code 624 = .ok (.aload_n 2, 1) := by decide +kernel
theorem dL_law_625 : decode code 625 = .ok (.aload_n 0, 1) := by decide +kernel
theorem dL_law_626 : decode code 626 = .ok (.iload 4, 2) := by decide +kernel
theorem dL_law_628 : decode code 628 = .ok (.iconst 1, 1) := by decide +kernel
theorem dL_law_629 : decode code 629 = .ok (.iadd, 1) := by decide +kernel
theorem dL_law_630 : decode code 630 = .ok (.iaload, 1) := by decide +kernel
theorem dL_law_631 : decode code 631 = .ok (.aload_n 0, 1) := by decide +kernel
theorem dL_law_632 : decode code 632 = .ok (.iload 4, 2) := by decide +kernel
theorem dL_law_634 : decode code 634 = .ok (.iconst 2, 1) := by decide +kernel
theorem dL_law_635 : decode code 635 = .ok (.iadd, 1) := by decide +kernel
theorem dL_law_636 : decode code 636 = .ok (.iaload, 1) := by decide +kernel
theorem dL_law_637 : decode code 637 = .ok (.invokevirtual 149, 3) := by decide +kernel
theorem dL_law_640 : decode code 640 = .ok (.istore 6, 2) := by decide +kernel
theorem dL_law_642 : decode code 642 = .ok (.aload_n 2, 1) := by decide +kernel
theorem dL_law_643 : decode code 643 = .ok (.invokevirtual 115, 3) := by decide +kernel
theorem dL_law_646 : decode code 646 = .ok (.iload 5, 2) := by decide +kernel
theorem dL_law_648 : decode code 648 = .ok (.if_icmp .eq 5, 3) := by decide +kernel
theorem dL_law_651 : decode code 651 = .ok (.iconst 0, 1) := by decide +kernel
theorem dL_law_652 : decode code 652 = .ok (.ireturn, 1) := by decide +kernel
theorem dL_law_653 : decode code 653 = .ok (.iload 5, 2) := by decide +kernel
theorem dL_law_655 : decode code 655 = .ok (.ifCond .ne 22, 3) := by decide +kernel
theorem dL_law_658 : decode code 658 = .ok (.aload_n 3, 1) := by decide +kernel
theorem dL_law_659 : decode code 659 = .ok (.iconst 0, 1) := by decide +kernel
theorem dL_law_660 : decode code 660 = .ok (.laload, 1) := by decide +kernel
theorem dL_law_661 : decode code 661 = .ok (.iload 6, 2) := by decide +kernel
theorem dL_law_663 : decode code 663 = .ok (.ifCond .eq 7, 3) := by decide +kernel
theorem dL_law_666 : decode code 666 = .ok (.lconst 1, 1) := by decide +kernel
theorem dL_law_667 : decode code 667 = .ok (.goto 4, 3) := by decide +kernel
theorem dL_law_670 : decode code 670 = .ok (.lconst 0, 1) := by decide +kernel
theorem dL_law_671 : decode code 671 = .ok (.lcmp, 1) := by decide +kernel
theorem dL_law_672 : decode code 672 = .ok (.ifCond .eq 5, 3) := by decide +kernel
theorem dL_law_675 : decode code 675 = .ok (.iconst 0, 1) := by decide +kernel
theorem dL_law_676 : decode code 676 = .ok (.ireturn, 1) := by decide +kernel
theorem dL_law_677 : decode code 677 = .ok (.goto 1274, 3) := by decide +kernel
theorem dL_law_680 : decode code 680 = .ok (.aload_n 1, 1) := by decide +kernel
theorem dL_law_681 : decode code 681 = .ok (.aload_n 0, 1) := by decide +kernel
theorem dL_law_682 : decode code 682 = .ok (.iload 4, 2) := by decide +kernel
theorem dL_law_684 : decode code 684 = .ok (.iconst 1, 1) := by decide +kernel
theorem dL_law_685 : decode code 685 = .ok (.iadd, 1) := by decide +kernel
theorem dL_law_686 : decode code 686 = .ok (.iaload, 1) := by decide +kernel
theorem dL_law_687 : decode code 687 = .ok (.aload_n 0, 1) := by decide +kernel
theorem dL_law_688 : decode code 688 = .ok (.iload 4, 2) := by decide +kernel
theorem dL_law_690 : decode code 690 = .ok (.iconst 2, 1) := by decide +kernel
theorem dL_law_691 : decode code 691 = .ok (.iadd, 1) := by decide +kernel
theorem dL_law_692 : decode code 692 = .ok (.iaload, 1) := by decide +kernel
theorem dL_law_693 : decode code 693 = .ok (.aload_n 3, 1) := by decide +kernel
theorem dL_law_694 : decode code 694 = .ok (.invokestatic 150, 3) := by decide +kernel
theorem dL_law_697 : decode code 697 = .ok (.istore 5, 2) := by decide +kernel
theorem dL_law_699 : decode code 699 = .ok (.aload_n 2, 1) := by decide +kernel
theorem dL_law_700 : decode code 700 = .ok (.aload_n 0, 1) := by decide +kernel
theorem dL_law_701 : decode code 701 = .ok (.iload 4, 2) := by decide +kernel
theorem dL_law_703 : decode code 703 = .ok (.iconst 1, 1) := by decide +kernel
theorem dL_law_704 : decode code 704 = .ok (.iadd, 1) := by decide +kernel
theorem dL_law_705 : decode code 705 = .ok (.iaload, 1) := by decide +kernel
theorem dL_law_706 : decode code 706 = .ok (.aload_n 0, 1) := by decide +kernel
theorem dL_law_707 : decode code 707 = .ok (.iload 4, 2) := by decide +kernel
theorem dL_law_709 : decode code 709 = .ok (.iconst 2, 1) := by decide +kernel
theorem dL_law_710 : decode code 710 = .ok (.iadd, 1) := by decide +kernel
theorem dL_law_711 : decode code 711 = .ok (.iaload, 1) := by decide +kernel
theorem dL_law_712 : decode code 712 = .ok (.invokevirtual 152, 3) := by decide +kernel
theorem dL_law_715 : decode code 715 = .ok (.istore 6, 2) := by decide +kernel
theorem dL_law_717 : decode code 717 = .ok (.aload_n 2, 1) := by decide +kernel
theorem dL_law_718 : decode code 718 = .ok (.invokevirtual 115, 3) := by decide +kernel
theorem dL_law_721 : decode code 721 = .ok (.iload 5, 2) := by decide +kernel
theorem dL_law_723 : decode code 723 = .ok (.if_icmp .eq 5, 3) := by decide +kernel
theorem dL_law_726 : decode code 726 = .ok (.iconst 0, 1) := by decide +kernel
theorem dL_law_727 : decode code 727 = .ok (.ireturn, 1) := by decide +kernel
theorem dL_law_728 : decode code 728 = .ok (.iload 5, 2) := by decide +kernel
theorem dL_law_730 : decode code 730 = .ok (.ifCond .ne 15, 3) := by decide +kernel
theorem dL_law_733 : decode code 733 = .ok (.aload_n 3, 1) := by decide +kernel
theorem dL_law_734 : decode code 734 = .ok (.iconst 0, 1) := by decide +kernel
theorem dL_law_735 : decode code 735 = .ok (.laload, 1) := by decide +kernel
theorem dL_law_736 : decode code 736 = .ok (.iload 6, 2) := by decide +kernel
theorem dL_law_738 : decode code 738 = .ok (.i2l, 1) := by decide +kernel
theorem dL_law_739 : decode code 739 = .ok (.lcmp, 1) := by decide +kernel
theorem dL_law_740 : decode code 740 = .ok (.ifCond .eq 5, 3) := by decide +kernel
theorem dL_law_743 : decode code 743 = .ok (.iconst 0, 1) := by decide +kernel
theorem dL_law_744 : decode code 744 = .ok (.ireturn, 1) := by decide +kernel
theorem dL_law_745 : decode code 745 = .ok (.goto 1206, 3) := by decide +kernel
theorem dL_law_748 : decode code 748 = .ok (.aload_n 1, 1) := by decide +kernel
theorem dL_law_749 : decode code 749 = .ok (.invokevirtual 153, 3) := by decide +kernel
theorem dL_law_752 : decode code 752 = .ok (.aload_n 2, 1) := by decide +kernel
theorem dL_law_753 : decode code 753 = .ok (.invokevirtual 156, 3) := by decide +kernel
theorem dL_law_756 : decode code 756 = .ok (.if_icmp .eq 1195, 3) := by decide +kernel
theorem dL_law_759 : decode code 759 = .ok (.iconst 0, 1) := by decide +kernel
theorem dL_law_760 : decode code 760 = .ok (.ireturn, 1) := by decide +kernel
theorem dL_law_761 : decode code 761 = .ok (.aload_n 1, 1) := by decide +kernel
theorem dL_law_762 : decode code 762 = .ok (.aload_n 0, 1) := by decide +kernel
theorem dL_law_763 : decode code 763 = .ok (.iload 4, 2) := by decide +kernel
theorem dL_law_765 : decode code 765 = .ok (.iconst 1, 1) := by decide +kernel
theorem dL_law_766 : decode code 766 = .ok (.iadd, 1) := by decide +kernel
theorem dL_law_767 : decode code 767 = .ok (.iaload, 1) := by decide +kernel
theorem dL_law_768 : decode code 768 = .ok (.aload_n 3, 1) := by decide +kernel
theorem dL_law_769 : decode code 769 = .ok (.invokestatic 157, 3) := by decide +kernel
theorem dL_law_772 : decode code 772 = .ok (.istore 5, 2) := by decide +kernel
theorem dL_law_774 : decode code 774 = .ok (.aload_n 2, 1) := by decide +kernel
theorem dL_law_775 : decode code 775 = .ok (.aload_n 0, 1) := by decide +kernel
theorem dL_law_776 : decode code 776 = .ok (.iload 4, 2) := by decide +kernel
theorem dL_law_778 : decode code 778 = .ok (.iconst 1, 1) := by decide +kernel
theorem dL_law_779 : decode code 779 = .ok (.iadd, 1) := by decide +kernel
theorem dL_law_780 : decode code 780 = .ok (.iaload, 1) := by decide +kernel
theorem dL_law_781 : decode code 781 = .ok (.invokevirtual 159, 3) := by decide +kernel
theorem dL_law_784 : decode code 784 = .ok (.istore 6, 2) := by decide +kernel
theorem dL_law_786 : decode code 786 = .ok (.aload_n 2, 1) := by decide +kernel
theorem dL_law_787 : decode code 787 = .ok (.invokevirtual 115, 3) := by decide +kernel
theorem dL_law_790 : decode code 790 = .ok (.iload 5, 2) := by decide +kernel
theorem dL_law_792 : decode code 792 = .ok (.if_icmp .eq 5, 3) := by decide +kernel
theorem dL_law_795 : decode code 795 = .ok (.iconst 0, 1) := by decide +kernel
theorem dL_law_796 : decode code 796 = .ok (.ireturn, 1) := by decide +kernel
theorem dL_law_797 : decode code 797 = .ok (.iload 5, 2) := by decide +kernel
theorem dL_law_799 : decode code 799 = .ok (.ifCond .ne 15, 3) := by decide +kernel
theorem dL_law_802 : decode code 802 = .ok (.aload_n 3, 1) := by decide +kernel
theorem dL_law_803 : decode code 803 = .ok (.iconst 0, 1) := by decide +kernel
theorem dL_law_804 : decode code 804 = .ok (.laload, 1) := by decide +kernel
theorem dL_law_805 : decode code 805 = .ok (.iload 6, 2) := by decide +kernel
theorem dL_law_807 : decode code 807 = .ok (.i2l, 1) := by decide +kernel
theorem dL_law_808 : decode code 808 = .ok (.lcmp, 1) := by decide +kernel
theorem dL_law_809 : decode code 809 = .ok (.ifCond .eq 5, 3) := by decide +kernel
theorem dL_law_812 : decode code 812 = .ok (.iconst 0, 1) := by decide +kernel
theorem dL_law_813 : decode code 813 = .ok (.ireturn, 1) := by decide +kernel
theorem dL_law_814 : decode code 814 = .ok (.goto 1137, 3) := by decide +kernel
theorem dL_law_817 : decode code 817 = .ok (.aload_n 1, 1) := by decide +kernel
theorem dL_law_818 : decode code 818 = .ok (.aload_n 3, 1) := by decide +kernel
theorem dL_law_819 : decode code 819 = .ok (.invokestatic 160, 3) := by decide +kernel
theorem dL_law_822 : decode code 822 = .ok (.istore 5, 2) := by decide +kernel
theorem dL_law_824 : decode code 824 = .ok (.aload_n 2, 1) := by decide +kernel
theorem dL_law_825 : decode code 825 = .ok (.invokevirtual 163, 3) := by decide +kernel
theorem dL_law_828 : decode code 828 = .ok (.istore 6, 2) := by decide +kernel
theorem dL_law_830 : decode code 830 = .ok (.aload_n 2, 1) := by decide +kernel
theorem dL_law_831 : decode code 831 = .ok (.invokevirtual 115, 3) := by decide +kernel
theorem dL_law_834 : decode code 834 = .ok (.iload 5, 2) := by decide +kernel
theorem dL_law_836 : decode code 836 = .ok (.if_icmp .eq 5, 3) := by decide +kernel
theorem dL_law_839 : decode code 839 = .ok (.iconst 0, 1) := by decide +kernel
theorem dL_law_840 : decode code 840 = .ok (.ireturn, 1) := by decide +kernel
theorem dL_law_841 : decode code 841 = .ok (.iload 5, 2) := by decide +kernel
theorem dL_law_843 : decode code 843 = .ok (.ifCond .ne 15, 3) := by decide +kernel
theorem dL_law_846 : decode code 846 = .ok (.aload_n 3, 1) := by decide +kernel
theorem dL_law_847 : decode code 847 = .ok (.iconst 0, 1) := by decide +kernel
theorem dL_law_848 : decode code 848 = .ok (.laload, 1) := by decide +kernel
theorem dL_law_849 : decode code 849 = .ok (.iload 6, 2) := by decide +kernel
theorem dL_law_851 : decode code 851 = .ok (.i2l, 1) := by decide +kernel
theorem dL_law_852 : decode code 852 = .ok (.lcmp, 1) := by decide +kernel
theorem dL_law_853 : decode code 853 = .ok (.ifCond .eq 5, 3) := by decide +kernel
theorem dL_law_856 : decode code 856 = .ok (.iconst 0, 1) := by decide +kernel
theorem dL_law_857 : decode code 857 = .ok (.ireturn, 1) := by decide +kernel
theorem dL_law_858 : decode code 858 = .ok (.goto 1093, 3) := by decide +kernel
theorem dL_law_861 : decode code 861 = .ok (.aload_n 1, 1) := by decide +kernel
theorem dL_law_862 : decode code 862 = .ok (.invokevirtual 164, 3) := by decide +kernel
theorem dL_law_865 : decode code 865 = .ok (.aload_n 2, 1) := by decide +kernel
theorem dL_law_866 : decode code 866 = .ok (.invokevirtual 167, 3) := by decide +kernel
theorem dL_law_869 : decode code 869 = .ok (.if_icmp .eq 1082, 3) := by decide +kernel
theorem dL_law_872 : decode code 872 = .ok (.iconst 0, 1) := by decide +kernel
theorem dL_law_873 : decode code 873 = .ok (.ireturn, 1) := by decide +kernel
theorem dL_law_874 : decode code 874 = .ok (.aload_n 1, 1) := by decide +kernel
theorem dL_law_875 : decode code 875 = .ok (.invokevirtual 168, 3) := by decide +kernel
theorem dL_law_878 : decode code 878 = .ok (.aload_n 2, 1) := by decide +kernel
theorem dL_law_879 : decode code 879 = .ok (.invokevirtual 171, 3) := by decide +kernel
theorem dL_law_882 : decode code 882 = .ok (.if_icmp .eq 1069, 3) := by decide +kernel
theorem dL_law_885 : decode code 885 = .ok (.iconst 0, 1) := by decide +kernel
theorem dL_law_886 : decode code 886 = .ok (.ireturn, 1) := by decide +kernel
theorem dL_law_887 : decode code 887 = .ok (.aload_n 1, 1) := by decide +kernel
theorem dL_law_888 : decode code 888 = .ok (.aload_n 0, 1) := by decide +kernel
theorem dL_law_889 : decode code 889 = .ok (.iload 4, 2) := by decide +kernel
theorem dL_law_891 : decode code 891 = .ok (.iconst 1, 1) := by decide +kernel
theorem dL_law_892 : decode code 892 = .ok (.iadd, 1) := by decide +kernel
theorem dL_law_893 : decode code 893 = .ok (.iaload, 1) := by decide +kernel
theorem dL_law_894 : decode code 894 = .ok (.aload_n 3, 1) := by decide +kernel
theorem dL_law_895 : decode code 895 = .ok (.invokestatic 172, 3) := by decide +kernel
theorem dL_law_898 : decode code 898 = .ok (.istore 5, 2) := by decide +kernel
theorem dL_law_900 : decode code 900 = .ok (.aload_n 2, 1) := by decide +kernel
theorem dL_law_901 : decode code 901 = .ok (.aload_n 0, 1) := by decide +kernel
theorem dL_law_902 : decode code 902 = .ok (.iload 4, 2) := by decide +kernel
theorem dL_law_904 : decode code 904 = .ok (.iconst 1, 1) := by decide +kernel
theorem dL_law_905 : decode code 905 = .ok (.iadd, 1) := by decide +kernel
theorem dL_law_906 : decode code 906 = .ok (.iaload, 1) := by decide +kernel
theorem dL_law_907 : decode code 907 = .ok (.invokevirtual 174, 3) := by decide +kernel
theorem dL_law_910 : decode code 910 = .ok (.istore 6, 2) := by decide +kernel
theorem dL_law_912 : decode code 912 = .ok (.aload_n 2, 1) := by decide +kernel
theorem dL_law_913 : decode code 913 = .ok (.invokevirtual 115, 3) := by decide +kernel
theorem dL_law_916 : decode code 916 = .ok (.iload 5, 2) := by decide +kernel
theorem dL_law_918 : decode code 918 = .ok (.if_icmp .eq 5, 3) := by decide +kernel
theorem dL_law_921 : decode code 921 = .ok (.iconst 0, 1) := by decide +kernel
theorem dL_law_922 : decode code 922 = .ok (.ireturn, 1) := by decide +kernel
theorem dL_law_923 : decode code 923 = .ok (.iload 5, 2) := by decide +kernel
theorem dL_law_925 : decode code 925 = .ok (.ifCond .ne 15, 3) := by decide +kernel
theorem dL_law_928 : decode code 928 = .ok (.aload_n 3, 1) := by decide +kernel
theorem dL_law_929 : decode code 929 = .ok (.iconst 0, 1) := by decide +kernel
theorem dL_law_930 : decode code 930 = .ok (.laload, 1) := by decide +kernel
theorem dL_law_931 : decode code 931 = .ok (.iload 6, 2) := by decide +kernel
theorem dL_law_933 : decode code 933 = .ok (.i2l, 1) := by decide +kernel
theorem dL_law_934 : decode code 934 = .ok (.lcmp, 1) := by decide +kernel
theorem dL_law_935 : decode code 935 = .ok (.ifCond .eq 5, 3) := by decide +kernel
theorem dL_law_938 : decode code 938 = .ok (.iconst 0, 1) := by decide +kernel
theorem dL_law_939 : decode code 939 = .ok (.ireturn, 1) := by decide +kernel
theorem dL_law_940 : decode code 940 = .ok (.goto 1011, 3) := by decide +kernel
theorem dL_law_943 : decode code 943 = .ok (.aload_n 1, 1) := by decide +kernel
theorem dL_law_944 : decode code 944 = .ok (.aload_n 0, 1) := by decide +kernel
theorem dL_law_945 : decode code 945 = .ok (.iload 4, 2) := by decide +kernel
theorem dL_law_947 : decode code 947 = .ok (.iconst 1, 1) := by decide +kernel
theorem dL_law_948 : decode code 948 = .ok (.iadd, 1) := by decide +kernel
theorem dL_law_949 : decode code 949 = .ok (.iaload, 1) := by decide +kernel
theorem dL_law_950 : decode code 950 = .ok (.aload_n 3, 1) := by decide +kernel
theorem dL_law_951 : decode code 951 = .ok (.invokestatic 175, 3) := by decide +kernel
theorem dL_law_954 : decode code 954 = .ok (.istore 5, 2) := by decide +kernel
theorem dL_law_956 : decode code 956 = .ok (.aload_n 2, 1) := by decide +kernel
theorem dL_law_957 : decode code 957 = .ok (.aload_n 0, 1) := by decide +kernel
theorem dL_law_958 : decode code 958 = .ok (.iload 4, 2) := by decide +kernel
theorem dL_law_960 : decode code 960 = .ok (.iconst 1, 1) := by decide +kernel
theorem dL_law_961 : decode code 961 = .ok (.iadd, 1) := by decide +kernel
theorem dL_law_962 : decode code 962 = .ok (.iaload, 1) := by decide +kernel
theorem dL_law_963 : decode code 963 = .ok (.invokevirtual 177, 3) := by decide +kernel
theorem dL_law_966 : decode code 966 = .ok (.istore 6, 2) := by decide +kernel
theorem dL_law_968 : decode code 968 = .ok (.aload_n 2, 1) := by decide +kernel
theorem dL_law_969 : decode code 969 = .ok (.invokevirtual 115, 3) := by decide +kernel
theorem dL_law_972 : decode code 972 = .ok (.iload 5, 2) := by decide +kernel
theorem dL_law_974 : decode code 974 = .ok (.if_icmp .eq 5, 3) := by decide +kernel
theorem dL_law_977 : decode code 977 = .ok (.iconst 0, 1) := by decide +kernel
theorem dL_law_978 : decode code 978 = .ok (.ireturn, 1) := by decide +kernel
theorem dL_law_979 : decode code 979 = .ok (.iload 5, 2) := by decide +kernel
theorem dL_law_981 : decode code 981 = .ok (.ifCond .ne 15, 3) := by decide +kernel
theorem dL_law_984 : decode code 984 = .ok (.aload_n 3, 1) := by decide +kernel
theorem dL_law_985 : decode code 985 = .ok (.iconst 0, 1) := by decide +kernel
theorem dL_law_986 : decode code 986 = .ok (.laload, 1) := by decide +kernel
theorem dL_law_987 : decode code 987 = .ok (.iload 6, 2) := by decide +kernel
theorem dL_law_989 : decode code 989 = .ok (.i2l, 1) := by decide +kernel
theorem dL_law_990 : decode code 990 = .ok (.lcmp, 1) := by decide +kernel
theorem dL_law_991 : decode code 991 = .ok (.ifCond .eq 5, 3) := by decide +kernel
theorem dL_law_994 : decode code 994 = .ok (.iconst 0, 1) := by decide +kernel
theorem dL_law_995 : decode code 995 = .ok (.ireturn, 1) := by decide +kernel
theorem dL_law_996 : decode code 996 = .ok (.goto 955, 3) := by decide +kernel
theorem dL_law_999 : decode code 999 = .ok (.aload_n 1, 1) := by decide +kernel
theorem dL_law_1000 : decode code 1000 = .ok (.invokevirtual 178, 3) := by decide +kernel
theorem dL_law_1003 : decode code 1003 = .ok (.aload_n 2, 1) := by decide +kernel
theorem dL_law_1004 : decode code 1004 = .ok (.invokevirtual 182, 3) := by decide +kernel
theorem dL_law_1007 : decode code 1007 = .ok (.if_icmp .eq 944, 3) := by decide +kernel
theorem dL_law_1010 : decode code 1010 = .ok (.iconst 0, 1) := by decide +kernel
theorem dL_law_1011 : decode code 1011 = .ok (.ireturn, 1) := by decide +kernel
theorem dL_law_1012 : decode code 1012 = .ok (.aload_n 1, 1) := by decide +kernel
theorem dL_law_1013 : decode code 1013 = .ok (.invokevirtual 183, 3) := by decide +kernel
theorem dL_law_1016 : decode code 1016 = .ok (.aload_n 2, 1) := by decide +kernel
theorem dL_law_1017 : decode code 1017 = .ok (.invokevirtual 187, 3) := by decide +kernel
theorem dL_law_1020 : decode code 1020 = .ok (.lcmp, 1) := by decide +kernel
theorem dL_law_1021 : decode code 1021 = .ok (.ifCond .eq 930, 3) := by decide +kernel
theorem dL_law_1024 : decode code 1024 = .ok (.iconst 0, 1) := by decide +kernel
theorem dL_law_1025 : decode code 1025 = .ok (.ireturn, 1) := by decide +kernel
theorem dL_law_1026 : decode code 1026 = .ok (.aload_n 1, 1) := by decide +kernel
theorem dL_law_1027 : decode code 1027 = .ok (.aload_n 3, 1) := by decide +kernel
theorem dL_law_1028 : decode code 1028 = .ok (.invokestatic 188, 3) := by decide +kernel
theorem dL_law_1031 : decode code 1031 = .ok (.istore 5, 2) := by decide +kernel
theorem dL_law_1033 : decode code 1033 = .ok (.aload_n 2, 1) := by decide +kernel
theorem dL_law_1034 : decode code 1034 = .ok (.invokevirtual 190, 3) := by decide +kernel
theorem dL_law_1037 : decode code 1037 = .ok (.istore 6, 2) := by decide +kernel
theorem dL_law_1039 : decode code 1039 = .ok (.aload_n 2, 1) := by decide +kernel
theorem dL_law_1040 : decode code 1040 = .ok (.invokevirtual 115, 3) := by decide +kernel
theorem dL_law_1043 : decode code 1043 = .ok (.iload 5, 2) := by decide +kernel
theorem dL_law_1045 : decode code 1045 = .ok (.if_icmp .eq 5, 3) := by decide +kernel
theorem dL_law_1048 : decode code 1048 = .ok (.iconst 0, 1) := by decide +kernel
theorem dL_law_1049 : decode code 1049 = .ok (.ireturn, 1) := by decide +kernel
theorem dL_law_1050 : decode code 1050 = .ok (.iload 5, 2) := by decide +kernel
theorem dL_law_1052 : decode code 1052 = .ok (.ifCond .ne 15, 3) := by decide +kernel
theorem dL_law_1055 : decode code 1055 = .ok (.aload_n 3, 1) := by decide +kernel
theorem dL_law_1056 : decode code 1056 = .ok (.iconst 0, 1) := by decide +kernel
theorem dL_law_1057 : decode code 1057 = .ok (.laload, 1) := by decide +kernel
theorem dL_law_1058 : decode code 1058 = .ok (.iload 6, 2) := by decide +kernel
theorem dL_law_1060 : decode code 1060 = .ok (.i2l, 1) := by decide +kernel
theorem dL_law_1061 : decode code 1061 = .ok (.lcmp, 1) := by decide +kernel
theorem dL_law_1062 : decode code 1062 = .ok (.ifCond .eq 5, 3) := by decide +kernel
theorem dL_law_1065 : decode code 1065 = .ok (.iconst 0, 1) := by decide +kernel
theorem dL_law_1066 : decode code 1066 = .ok (.ireturn, 1) := by decide +kernel
theorem dL_law_1067 : decode code 1067 = .ok (.goto 884, 3) := by decide +kernel
theorem dL_law_1070 : decode code 1070 = .ok (.aload_n 1, 1) := by decide +kernel
theorem dL_law_1071 : decode code 1071 = .ok (.aload_n 0, 1) := by decide +kernel
theorem dL_law_1072 : decode code 1072 = .ok (.iload 4, 2) := by decide +kernel
theorem dL_law_1074 : decode code 1074 = .ok (.iconst 1, 1) := by decide +kernel
theorem dL_law_1075 : decode code 1075 = .ok (.iadd, 1) := by decide +kernel
theorem dL_law_1076 : decode code 1076 = .ok (.iaload, 1) := by decide +kernel
theorem dL_law_1077 : decode code 1077 = .ok (.aload_n 0, 1) := by decide +kernel
theorem dL_law_1078 : decode code 1078 = .ok (.iload 4, 2) := by decide +kernel
theorem dL_law_1080 : decode code 1080 = .ok (.iconst 2, 1) := by decide +kernel
theorem dL_law_1081 : decode code 1081 = .ok (.iadd, 1) := by decide +kernel
theorem dL_law_1082 : decode code 1082 = .ok (.iaload, 1) := by decide +kernel
theorem dL_law_1083 : decode code 1083 = .ok (.aload_n 3, 1) := by decide +kernel
theorem dL_law_1084 : decode code 1084 = .ok (.invokestatic 191, 3) := by decide +kernel
theorem dL_law_1087 : decode code 1087 = .ok (.istore 5, 2) := by decide +kernel
theorem dL_law_1089 : decode code 1089 = .ok (.aload_n 2, 1) := by decide +kernel
theorem dL_law_1090 : decode code 1090 = .ok (.aload_n 0, 1) := by decide +kernel
theorem dL_law_1091 : decode code 1091 = .ok (.iload 4, 2) := by decide +kernel
theorem dL_law_1093 : decode code 1093 = .ok (.iconst 1, 1) := by decide +kernel
theorem dL_law_1094 : decode code 1094 = .ok (.iadd, 1) := by decide +kernel
theorem dL_law_1095 : decode code 1095 = .ok (.iaload, 1) := by decide +kernel
theorem dL_law_1096 : decode code 1096 = .ok (.aload_n 0, 1) := by decide +kernel
theorem dL_law_1097 : decode code 1097 = .ok (.iload 4, 2) := by decide +kernel
theorem dL_law_1099 : decode code 1099 = .ok (.iconst 2, 1) := by decide +kernel
theorem dL_law_1100 : decode code 1100 = .ok (.iadd, 1) := by decide +kernel
theorem dL_law_1101 : decode code 1101 = .ok (.iaload, 1) := by decide +kernel
theorem dL_law_1102 : decode code 1102 = .ok (.invokevirtual 193, 3) := by decide +kernel
theorem dL_law_1105 : decode code 1105 = .ok (.istore 6, 2) := by decide +kernel
theorem dL_law_1107 : decode code 1107 = .ok (.aload_n 2, 1) := by decide +kernel
theorem dL_law_1108 : decode code 1108 = .ok (.invokevirtual 115, 3) := by decide +kernel
theorem dL_law_1111 : decode code 1111 = .ok (.iload 5, 2) := by decide +kernel
theorem dL_law_1113 : decode code 1113 = .ok (.if_icmp .eq 5, 3) := by decide +kernel
theorem dL_law_1116 : decode code 1116 = .ok (.iconst 0, 1) := by decide +kernel
theorem dL_law_1117 : decode code 1117 = .ok (.ireturn, 1) := by decide +kernel
theorem dL_law_1118 : decode code 1118 = .ok (.iload 5, 2) := by decide +kernel
theorem dL_law_1120 : decode code 1120 = .ok (.ifCond .ne 22, 3) := by decide +kernel
theorem dL_law_1123 : decode code 1123 = .ok (.aload_n 3, 1) := by decide +kernel
theorem dL_law_1124 : decode code 1124 = .ok (.iconst 0, 1) := by decide +kernel
theorem dL_law_1125 : decode code 1125 = .ok (.laload, 1) := by decide +kernel
theorem dL_law_1126 : decode code 1126 = .ok (.iload 6, 2) := by decide +kernel
theorem dL_law_1128 : decode code 1128 = .ok (.ifCond .eq 7, 3) := by decide +kernel
theorem dL_law_1131 : decode code 1131 = .ok (.lconst 1, 1) := by decide +kernel
theorem dL_law_1132 : decode code 1132 = .ok (.goto 4, 3) := by decide +kernel
theorem dL_law_1135 : decode code 1135 = .ok (.lconst 0, 1) := by decide +kernel
theorem dL_law_1136 : decode code 1136 = .ok (.lcmp, 1) := by decide +kernel
theorem dL_law_1137 : decode code 1137 = .ok (.ifCond .eq 5, 3) := by decide +kernel
theorem dL_law_1140 : decode code 1140 = .ok (.iconst 0, 1) := by decide +kernel
theorem dL_law_1141 : decode code 1141 = .ok (.ireturn, 1) := by decide +kernel
theorem dL_law_1142 : decode code 1142 = .ok (.goto 809, 3) := by decide +kernel
theorem dL_law_1145 : decode code 1145 = .ok (.aload_n 1, 1) := by decide +kernel
theorem dL_law_1146 : decode code 1146 = .ok (.invokevirtual 194, 3) := by decide +kernel
theorem dL_law_1149 : decode code 1149 = .ok (.aload_n 2, 1) := by decide +kernel
theorem dL_law_1150 : decode code 1150 = .ok (.invokevirtual 197, 3) := by decide +kernel
theorem dL_law_1153 : decode code 1153 = .ok (.if_icmp .eq 798, 3) := by decide +kernel
theorem dL_law_1156 : decode code 1156 = .ok (.iconst 0, 1) := by decide +kernel
theorem dL_law_1157 : decode code 1157 = .ok (.ireturn, 1) := by decide +kernel
theorem dL_law_1158 : decode code 1158 = .ok (.aload_n 1, 1) := by decide +kernel
theorem dL_law_1159 : decode code 1159 = .ok (.invokevirtual 198, 3) := by decide +kernel
theorem dL_law_1162 : decode code 1162 = .ok (.aload_n 2, 1) := by decide +kernel
theorem dL_law_1163 : decode code 1163 = .ok (.invokevirtual 201, 3) := by decide +kernel
theorem dL_law_1166 : decode code 1166 = .ok (.if_icmp .eq 785, 3) := by decide +kernel
theorem dL_law_1169 : decode code 1169 = .ok (.iconst 0, 1) := by decide +kernel
theorem dL_law_1170 : decode code 1170 = .ok (.ireturn, 1) := by decide +kernel
theorem dL_law_1171 : decode code 1171 = .ok (.aload_n 1, 1) := by decide +kernel
theorem dL_law_1172 : decode code 1172 = .ok (.invokevirtual 202, 3) := by decide +kernel
theorem dL_law_1175 : decode code 1175 = .ok (.aload_n 2, 1) := by decide +kernel
theorem dL_law_1176 : decode code 1176 = .ok (.invokevirtual 205, 3) := by decide +kernel
theorem dL_law_1179 : decode code 1179 = .ok (.if_icmp .eq 772, 3) := by decide +kernel
theorem dL_law_1182 : decode code 1182 = .ok (.iconst 0, 1) := by decide +kernel
theorem dL_law_1183 : decode code 1183 = .ok (.ireturn, 1) := by decide +kernel
theorem dL_law_1184 : decode code 1184 = .ok (.aload_n 1, 1) := by decide +kernel
theorem dL_law_1185 : decode code 1185 = .ok (.aload_n 3, 1) := by decide +kernel
theorem dL_law_1186 : decode code 1186 = .ok (.invokestatic 206, 3) := by decide +kernel
theorem dL_law_1189 : decode code 1189 = .ok (.istore 5, 2) := by decide +kernel
theorem dL_law_1191 : decode code 1191 = .ok (.aload_n 2, 1) := by decide +kernel
theorem dL_law_1192 : decode code 1192 = .ok (.invokevirtual 208, 3) := by decide +kernel
theorem dL_law_1195 : decode code 1195 = .ok (.istore 6, 2) := by decide +kernel
theorem dL_law_1197 : decode code 1197 = .ok (.aload_n 2, 1) := by decide +kernel
theorem dL_law_1198 : decode code 1198 = .ok (.invokevirtual 115, 3) := by decide +kernel
theorem dL_law_1201 : decode code 1201 = .ok (.iload 5, 2) := by decide +kernel
theorem dL_law_1203 : decode code 1203 = .ok (.if_icmp .eq 5, 3) := by decide +kernel
theorem dL_law_1206 : decode code 1206 = .ok (.iconst 0, 1) := by decide +kernel
theorem dL_law_1207 : decode code 1207 = .ok (.ireturn, 1) := by decide +kernel
theorem dL_law_1208 : decode code 1208 = .ok (.iload 5, 2) := by decide +kernel
theorem dL_law_1210 : decode code 1210 = .ok (.ifCond .ne 15, 3) := by decide +kernel
theorem dL_law_1213 : decode code 1213 = .ok (.aload_n 3, 1) := by decide +kernel
theorem dL_law_1214 : decode code 1214 = .ok (.iconst 0, 1) := by decide +kernel
theorem dL_law_1215 : decode code 1215 = .ok (.laload, 1) := by decide +kernel
theorem dL_law_1216 : decode code 1216 = .ok (.iload 6, 2) := by decide +kernel
theorem dL_law_1218 : decode code 1218 = .ok (.i2l, 1) := by decide +kernel
theorem dL_law_1219 : decode code 1219 = .ok (.lcmp, 1) := by decide +kernel
theorem dL_law_1220 : decode code 1220 = .ok (.ifCond .eq 5, 3) := by decide +kernel
theorem dL_law_1223 : decode code 1223 = .ok (.iconst 0, 1) := by decide +kernel
theorem dL_law_1224 : decode code 1224 = .ok (.ireturn, 1) := by decide +kernel
theorem dL_law_1225 : decode code 1225 = .ok (.goto 726, 3) := by decide +kernel
theorem dL_law_1228 : decode code 1228 = .ok (.aload_n 1, 1) := by decide +kernel
theorem dL_law_1229 : decode code 1229 = .ok (.aload_n 3, 1) := by decide +kernel
theorem dL_law_1230 : decode code 1230 = .ok (.invokestatic 209, 3) := by decide +kernel
theorem dL_law_1233 : decode code 1233 = .ok (.istore 5, 2) := by decide +kernel
theorem dL_law_1235 : decode code 1235 = .ok (.aload_n 2, 1) := by decide +kernel
theorem dL_law_1236 : decode code 1236 = .ok (.invokevirtual 211, 3) := by decide +kernel
theorem dL_law_1239 : decode code 1239 = .ok (.istore 6, 2) := by decide +kernel
theorem dL_law_1241 : decode code 1241 = .ok (.aload_n 2, 1) := by decide +kernel
theorem dL_law_1242 : decode code 1242 = .ok (.invokevirtual 115, 3) := by decide +kernel
theorem dL_law_1245 : decode code 1245 = .ok (.iload 5, 2) := by decide +kernel
theorem dL_law_1247 : decode code 1247 = .ok (.if_icmp .eq 5, 3) := by decide +kernel
theorem dL_law_1250 : decode code 1250 = .ok (.iconst 0, 1) := by decide +kernel
theorem dL_law_1251 : decode code 1251 = .ok (.ireturn, 1) := by decide +kernel
theorem dL_law_1252 : decode code 1252 = .ok (.iload 5, 2) := by decide +kernel
theorem dL_law_1254 : decode code 1254 = .ok (.ifCond .ne 15, 3) := by decide +kernel
theorem dL_law_1257 : decode code 1257 = .ok (.aload_n 3, 1) := by decide +kernel
theorem dL_law_1258 : decode code 1258 = .ok (.iconst 0, 1) := by decide +kernel
theorem dL_law_1259 : decode code 1259 = .ok (.laload, 1) := by decide +kernel
theorem dL_law_1260 : decode code 1260 = .ok (.iload 6, 2) := by decide +kernel
theorem dL_law_1262 : decode code 1262 = .ok (.i2l, 1) := by decide +kernel
theorem dL_law_1263 : decode code 1263 = .ok (.lcmp, 1) := by decide +kernel
theorem dL_law_1264 : decode code 1264 = .ok (.ifCond .eq 5, 3) := by decide +kernel
theorem dL_law_1267 : decode code 1267 = .ok (.iconst 0, 1) := by decide +kernel
theorem dL_law_1268 : decode code 1268 = .ok (.ireturn, 1) := by decide +kernel
theorem dL_law_1269 : decode code 1269 = .ok (.goto 682, 3) := by decide +kernel
theorem dL_law_1272 : decode code 1272 = .ok (.aload_n 1, 1) := by decide +kernel
theorem dL_law_1273 : decode code 1273 = .ok (.aload_n 0, 1) := by decide +kernel
theorem dL_law_1274 : decode code 1274 = .ok (.iload 4, 2) := by decide +kernel
theorem dL_law_1276 : decode code 1276 = .ok (.iconst 1, 1) := by decide +kernel
theorem dL_law_1277 : decode code 1277 = .ok (.iadd, 1) := by decide +kernel
theorem dL_law_1278 : decode code 1278 = .ok (.iaload, 1) := by decide +kernel
theorem dL_law_1279 : decode code 1279 = .ok (.aload_n 0, 1) := by decide +kernel
theorem dL_law_1280 : decode code 1280 = .ok (.iload 4, 2) := by decide +kernel
theorem dL_law_1282 : decode code 1282 = .ok (.iconst 2, 1) := by decide +kernel
theorem dL_law_1283 : decode code 1283 = .ok (.iadd, 1) := by decide +kernel
theorem dL_law_1284 : decode code 1284 = .ok (.iaload, 1) := by decide +kernel
theorem dL_law_1285 : decode code 1285 = .ok (.aload_n 3, 1) := by decide +kernel
theorem dL_law_1286 : decode code 1286 = .ok (.invokestatic 212, 3) := by decide +kernel
theorem dL_law_1289 : decode code 1289 = .ok (.istore 5, 2) := by decide +kernel
theorem dL_law_1291 : decode code 1291 = .ok (.aload_n 2, 1) := by decide +kernel
theorem dL_law_1292 : decode code 1292 = .ok (.aload_n 0, 1) := by decide +kernel
theorem dL_law_1293 : decode code 1293 = .ok (.iload 4, 2) := by decide +kernel
theorem dL_law_1295 : decode code 1295 = .ok (.iconst 1, 1) := by decide +kernel
theorem dL_law_1296 : decode code 1296 = .ok (.iadd, 1) := by decide +kernel
theorem dL_law_1297 : decode code 1297 = .ok (.iaload, 1) := by decide +kernel
theorem dL_law_1298 : decode code 1298 = .ok (.aload_n 0, 1) := by decide +kernel
theorem dL_law_1299 : decode code 1299 = .ok (.iload 4, 2) := by decide +kernel
theorem dL_law_1301 : decode code 1301 = .ok (.iconst 2, 1) := by decide +kernel
theorem dL_law_1302 : decode code 1302 = .ok (.iadd, 1) := by decide +kernel
theorem dL_law_1303 : decode code 1303 = .ok (.iaload, 1) := by decide +kernel
theorem dL_law_1304 : decode code 1304 = .ok (.invokevirtual 214, 3) := by decide +kernel
theorem dL_law_1307 : decode code 1307 = .ok (.istore 6, 2) := by decide +kernel
theorem dL_law_1309 : decode code 1309 = .ok (.aload_n 2, 1) := by decide +kernel
theorem dL_law_1310 : decode code 1310 = .ok (.invokevirtual 115, 3) := by decide +kernel
theorem dL_law_1313 : decode code 1313 = .ok (.iload 5, 2) := by decide +kernel
theorem dL_law_1315 : decode code 1315 = .ok (.if_icmp .eq 5, 3) := by decide +kernel
theorem dL_law_1318 : decode code 1318 = .ok (.iconst 0, 1) := by decide +kernel
theorem dL_law_1319 : decode code 1319 = .ok (.ireturn, 1) := by decide +kernel
theorem dL_law_1320 : decode code 1320 = .ok (.iload 5, 2) := by decide +kernel
theorem dL_law_1322 : decode code 1322 = .ok (.ifCond .ne 15, 3) := by decide +kernel
theorem dL_law_1325 : decode code 1325 = .ok (.aload_n 3, 1) := by decide +kernel
theorem dL_law_1326 : decode code 1326 = .ok (.iconst 0, 1) := by decide +kernel
theorem dL_law_1327 : decode code 1327 = .ok (.laload, 1) := by decide +kernel
theorem dL_law_1328 : decode code 1328 = .ok (.iload 6, 2) := by decide +kernel
theorem dL_law_1330 : decode code 1330 = .ok (.i2l, 1) := by decide +kernel
theorem dL_law_1331 : decode code 1331 = .ok (.lcmp, 1) := by decide +kernel
theorem dL_law_1332 : decode code 1332 = .ok (.ifCond .eq 5, 3) := by decide +kernel
theorem dL_law_1335 : decode code 1335 = .ok (.iconst 0, 1) := by decide +kernel
theorem dL_law_1336 : decode code 1336 = .ok (.ireturn, 1) := by decide +kernel
theorem dL_law_1337 : decode code 1337 = .ok (.goto 614, 3) := by decide +kernel
theorem dL_law_1340 : decode code 1340 = .ok (.aload_n 1, 1) := by decide +kernel
theorem dL_law_1341 : decode code 1341 = .ok (.aload_n 0, 1) := by decide +kernel
theorem dL_law_1342 : decode code 1342 = .ok (.iload 4, 2) := by decide +kernel
theorem dL_law_1344 : decode code 1344 = .ok (.iconst 1, 1) := by decide +kernel
theorem dL_law_1345 : decode code 1345 = .ok (.iadd, 1) := by decide +kernel
theorem dL_law_1346 : decode code 1346 = .ok (.iaload, 1) := by decide +kernel
theorem dL_law_1347 : decode code 1347 = .ok (.aload_n 3, 1) := by decide +kernel
theorem dL_law_1348 : decode code 1348 = .ok (.invokestatic 215, 3) := by decide +kernel
theorem dL_law_1351 : decode code 1351 = .ok (.istore 5, 2) := by decide +kernel
theorem dL_law_1353 : decode code 1353 = .ok (.aload_n 2, 1) := by decide +kernel
theorem dL_law_1354 : decode code 1354 = .ok (.aload_n 0, 1) := by decide +kernel
theorem dL_law_1355 : decode code 1355 = .ok (.iload 4, 2) := by decide +kernel
theorem dL_law_1357 : decode code 1357 = .ok (.iconst 1, 1) := by decide +kernel
theorem dL_law_1358 : decode code 1358 = .ok (.iadd, 1) := by decide +kernel
theorem dL_law_1359 : decode code 1359 = .ok (.iaload, 1) := by decide +kernel
theorem dL_law_1360 : decode code 1360 = .ok (.invokevirtual 217, 3) := by decide +kernel
theorem dL_law_1363 : decode code 1363 = .ok (.istore 6, 2) := by decide +kernel
theorem dL_law_1365 : decode code 1365 = .ok (.aload_n 2, 1) := by decide +kernel
theorem dL_law_1366 : decode code 1366 = .ok (.invokevirtual 115, 3) := by decide +kernel
theorem dL_law_1369 : decode code 1369 = .ok (.iload 5, 2) := by decide +kernel
theorem dL_law_1371 : decode code 1371 = .ok (.if_icmp .eq 5, 3) := by decide +kernel
theorem dL_law_1374 : decode code 1374 = .ok (.iconst 0, 1) := by decide +kernel
theorem dL_law_1375 : decode code 1375 = .ok (.ireturn, 1) := by decide +kernel
theorem dL_law_1376 : decode code 1376 = .ok (.iload 5, 2) := by decide +kernel
theorem dL_law_1378 : decode code 1378 = .ok (.ifCond .ne 15, 3) := by decide +kernel
theorem dL_law_1381 : decode code 1381 = .ok (.aload_n 3, 1) := by decide +kernel
theorem dL_law_1382 : decode code 1382 = .ok (.iconst 0, 1) := by decide +kernel
theorem dL_law_1383 : decode code 1383 = .ok (.laload, 1) := by decide +kernel
theorem dL_law_1384 : decode code 1384 = .ok (.iload 6, 2) := by decide +kernel
theorem dL_law_1386 : decode code 1386 = .ok (.i2l, 1) := by decide +kernel
theorem dL_law_1387 : decode code 1387 = .ok (.lcmp, 1) := by decide +kernel
theorem dL_law_1388 : decode code 1388 = .ok (.ifCond .eq 5, 3) := by decide +kernel
theorem dL_law_1391 : decode code 1391 = .ok (.iconst 0, 1) := by decide +kernel
theorem dL_law_1392 : decode code 1392 = .ok (.ireturn, 1) := by decide +kernel
theorem dL_law_1393 : decode code 1393 = .ok (.goto 558, 3) := by decide +kernel
theorem dL_law_1396 : decode code 1396 = .ok (.aload_n 1, 1) := by decide +kernel
theorem dL_law_1397 : decode code 1397 = .ok (.invokevirtual 218, 3) := by decide +kernel
theorem dL_law_1400 : decode code 1400 = .ok (.aload_n 2, 1) := by decide +kernel
theorem dL_law_1401 : decode code 1401 = .ok (.invokevirtual 221, 3) := by decide +kernel
theorem dL_law_1404 : decode code 1404 = .ok (.if_icmp .eq 547, 3) := by decide +kernel
theorem dL_law_1407 : decode code 1407 = .ok (.iconst 0, 1) := by decide +kernel
theorem dL_law_1408 : decode code 1408 = .ok (.ireturn, 1) := by decide +kernel
theorem dL_law_1409 : decode code 1409 = .ok (.aload_n 1, 1) := by decide +kernel
theorem dL_law_1410 : decode code 1410 = .ok (.aload_n 3, 1) := by decide +kernel
theorem dL_law_1411 : decode code 1411 = .ok (.invokestatic 222, 3) := by decide +kernel
theorem dL_law_1414 : decode code 1414 = .ok (.istore 5, 2) := by decide +kernel
theorem dL_law_1416 : decode code 1416 = .ok (.aload_n 2, 1) := by decide +kernel
theorem dL_law_1417 : decode code 1417 = .ok (.invokevirtual 224, 3) := by decide +kernel
theorem dL_law_1420 : decode code 1420 = .ok (.istore 6, 2) := by decide +kernel
theorem dL_law_1422 : decode code 1422 = .ok (.aload_n 2, 1) := by decide +kernel
theorem dL_law_1423 : decode code 1423 = .ok (.invokevirtual 115, 3) := by decide +kernel
theorem dL_law_1426 : decode code 1426 = .ok (.iload 5, 2) := by decide +kernel
theorem dL_law_1428 : decode code 1428 = .ok (.if_icmp .eq 5, 3) := by decide +kernel
theorem dL_law_1431 : decode code 1431 = .ok (.iconst 0, 1) := by decide +kernel
theorem dL_law_1432 : decode code 1432 = .ok (.ireturn, 1) := by decide +kernel
theorem dL_law_1433 : decode code 1433 = .ok (.iload 5, 2) := by decide +kernel
theorem dL_law_1435 : decode code 1435 = .ok (.ifCond .ne 15, 3) := by decide +kernel
theorem dL_law_1438 : decode code 1438 = .ok (.aload_n 3, 1) := by decide +kernel
theorem dL_law_1439 : decode code 1439 = .ok (.iconst 0, 1) := by decide +kernel
theorem dL_law_1440 : decode code 1440 = .ok (.laload, 1) := by decide +kernel
theorem dL_law_1441 : decode code 1441 = .ok (.iload 6, 2) := by decide +kernel
theorem dL_law_1443 : decode code 1443 = .ok (.i2l, 1) := by decide +kernel
theorem dL_law_1444 : decode code 1444 = .ok (.lcmp, 1) := by decide +kernel
theorem dL_law_1445 : decode code 1445 = .ok (.ifCond .eq 5, 3) := by decide +kernel
theorem dL_law_1448 : decode code 1448 = .ok (.iconst 0, 1) := by decide +kernel
theorem dL_law_1449 : decode code 1449 = .ok (.ireturn, 1) := by decide +kernel
theorem dL_law_1450 : decode code 1450 = .ok (.goto 501, 3) := by decide +kernel
theorem dL_law_1453 : decode code 1453 = .ok (.aload_n 1, 1) := by decide +kernel
theorem dL_law_1454 : decode code 1454 = .ok (.aload_n 0, 1) := by decide +kernel
theorem dL_law_1455 : decode code 1455 = .ok (.iload 4, 2) := by decide +kernel
theorem dL_law_1457 : decode code 1457 = .ok (.iconst 1, 1) := by decide +kernel
theorem dL_law_1458 : decode code 1458 = .ok (.iadd, 1) := by decide +kernel
theorem dL_law_1459 : decode code 1459 = .ok (.iaload, 1) := by decide +kernel
theorem dL_law_1460 : decode code 1460 = .ok (.ifCond .eq 7, 3) := by decide +kernel
theorem dL_law_1463 : decode code 1463 = .ok (.iconst 1, 1) := by decide +kernel
theorem dL_law_1464 : decode code 1464 = .ok (.goto 4, 3) := by decide +kernel
theorem dL_law_1467 : decode code 1467 = .ok (.iconst 0, 1) := by decide +kernel
theorem dL_law_1468 : decode code 1468 = .ok (.invokevirtual 225, 3) := by decide +kernel
theorem dL_law_1471 : decode code 1471 = .ok (.aload_n 2, 1) := by decide +kernel
theorem dL_law_1472 : decode code 1472 = .ok (.aload_n 0, 1) := by decide +kernel
theorem dL_law_1473 : decode code 1473 = .ok (.iload 4, 2) := by decide +kernel
theorem dL_law_1475 : decode code 1475 = .ok (.iconst 1, 1) := by decide +kernel
theorem dL_law_1476 : decode code 1476 = .ok (.iadd, 1) := by decide +kernel
theorem dL_law_1477 : decode code 1477 = .ok (.iaload, 1) := by decide +kernel
theorem dL_law_1478 : decode code 1478 = .ok (.ifCond .eq 7, 3) := by decide +kernel
theorem dL_law_1481 : decode code 1481 = .ok (.iconst 1, 1) := by decide +kernel
theorem dL_law_1482 : decode code 1482 = .ok (.goto 4, 3) := by decide +kernel
theorem dL_law_1485 : decode code 1485 = .ok (.iconst 0, 1) := by decide +kernel
theorem dL_law_1486 : decode code 1486 = .ok (.invokevirtual 229, 3) := by decide +kernel
theorem dL_law_1489 : decode code 1489 = .ok (.if_icmp .eq 462, 3) := by decide +kernel
theorem dL_law_1492 : decode code 1492 = .ok (.iconst 0, 1) := by decide +kernel
theorem dL_law_1493 : decode code 1493 = .ok (.ireturn, 1) := by decide +kernel
theorem dL_law_1494 : decode code 1494 = .ok (.aload_n 1, 1) := by decide +kernel
theorem dL_law_1495 : decode code 1495 = .ok (.aload_n 0, 1) := by decide +kernel
theorem dL_law_1496 : decode code 1496 = .ok (.iload 4, 2) := by decide +kernel
theorem dL_law_1498 : decode code 1498 = .ok (.iconst 1, 1) := by decide +kernel
theorem dL_law_1499 : decode code 1499 = .ok (.iadd, 1) := by decide +kernel
theorem dL_law_1500 : decode code 1500 = .ok (.iaload, 1) := by decide +kernel
theorem dL_law_1501 : decode code 1501 = .ok (.aload_n 0, 1) := by decide +kernel
theorem dL_law_1502 : decode code 1502 = .ok (.iload 4, 2) := by decide +kernel
theorem dL_law_1504 : decode code 1504 = .ok (.iconst 2, 1) := by decide +kernel
theorem dL_law_1505 : decode code 1505 = .ok (.iadd, 1) := by decide +kernel
theorem dL_law_1506 : decode code 1506 = .ok (.iaload, 1) := by decide +kernel
theorem dL_law_1507 : decode code 1507 = .ok (.aload_n 3, 1) := by decide +kernel
theorem dL_law_1508 : decode code 1508 = .ok (.invokestatic 230, 3) := by decide +kernel
theorem dL_law_1511 : decode code 1511 = .ok (.istore 5, 2) := by decide +kernel
theorem dL_law_1513 : decode code 1513 = .ok (.aload_n 2, 1) := by decide +kernel
theorem dL_law_1514 : decode code 1514 = .ok (.aload_n 0, 1) := by decide +kernel
theorem dL_law_1515 : decode code 1515 = .ok (.iload 4, 2) := by decide +kernel
theorem dL_law_1517 : decode code 1517 = .ok (.iconst 1, 1) := by decide +kernel
theorem dL_law_1518 : decode code 1518 = .ok (.iadd, 1) := by decide +kernel
theorem dL_law_1519 : decode code 1519 = .ok (.iaload, 1) := by decide +kernel
theorem dL_law_1520 : decode code 1520 = .ok (.aload_n 0, 1) := by decide +kernel
theorem dL_law_1521 : decode code 1521 = .ok (.iload 4, 2) := by decide +kernel
theorem dL_law_1523 : decode code 1523 = .ok (.iconst 2, 1) := by decide +kernel
theorem dL_law_1524 : decode code 1524 = .ok (.iadd, 1) := by decide +kernel
theorem dL_law_1525 : decode code 1525 = .ok (.iaload, 1) := by decide +kernel
theorem dL_law_1526 : decode code 1526 = .ok (.invokevirtual 232, 3) := by decide +kernel
theorem dL_law_1529 : decode code 1529 = .ok (.istore 6, 2) := by decide +kernel
theorem dL_law_1531 : decode code 1531 = .ok (.aload_n 2, 1) := by decide +kernel
theorem dL_law_1532 : decode code 1532 = .ok (.invokevirtual 115, 3) := by decide +kernel
theorem dL_law_1535 : decode code 1535 = .ok (.iload 5, 2) := by decide +kernel
theorem dL_law_1537 : decode code 1537 = .ok (.if_icmp .eq 5, 3) := by decide +kernel
theorem dL_law_1540 : decode code 1540 = .ok (.iconst 0, 1) := by decide +kernel
theorem dL_law_1541 : decode code 1541 = .ok (.ireturn, 1) := by decide +kernel
theorem dL_law_1542 : decode code 1542 = .ok (.iload 5, 2) := by decide +kernel
theorem dL_law_1544 : decode code 1544 = .ok (.ifCond .ne 15, 3) := by decide +kernel
theorem dL_law_1547 : decode code 1547 = .ok (.aload_n 3, 1) := by decide +kernel
theorem dL_law_1548 : decode code 1548 = .ok (.iconst 0, 1) := by decide +kernel
theorem dL_law_1549 : decode code 1549 = .ok (.laload, 1) := by decide +kernel
theorem dL_law_1550 : decode code 1550 = .ok (.iload 6, 2) := by decide +kernel
theorem dL_law_1552 : decode code 1552 = .ok (.i2l, 1) := by decide +kernel
theorem dL_law_1553 : decode code 1553 = .ok (.lcmp, 1) := by decide +kernel
theorem dL_law_1554 : decode code 1554 = .ok (.ifCond .eq 5, 3) := by decide +kernel
theorem dL_law_1557 : decode code 1557 = .ok (.iconst 0, 1) := by decide +kernel
theorem dL_law_1558 : decode code 1558 = .ok (.ireturn, 1) := by decide +kernel
theorem dL_law_1559 : decode code 1559 = .ok (.goto 392, 3) := by decide +kernel
theorem dL_law_1562 : decode code 1562 = .ok (.aload_n 1, 1) := by decide +kernel
theorem dL_law_1563 : decode code 1563 = .ok (.aload_n 0, 1) := by decide +kernel
theorem dL_law_1564 : decode code 1564 = .ok (.iload 4, 2) := by decide +kernel
theorem dL_law_1566 : decode code 1566 = .ok (.iconst 1, 1) := by decide +kernel
theorem dL_law_1567 : decode code 1567 = .ok (.iadd, 1) := by decide +kernel
theorem dL_law_1568 : decode code 1568 = .ok (.iaload, 1) := by decide +kernel
theorem dL_law_1569 : decode code 1569 = .ok (.aload_n 3, 1) := by decide +kernel
theorem dL_law_1570 : decode code 1570 = .ok (.invokestatic 233, 3) := by decide +kernel
theorem dL_law_1573 : decode code 1573 = .ok (.istore 5, 2) := by decide +kernel
theorem dL_law_1575 : decode code 1575 = .ok (.aload_n 2, 1) := by decide +kernel
theorem dL_law_1576 : decode code 1576 = .ok (.aload_n 0, 1) := by decide +kernel
theorem dL_law_1577 : decode code 1577 = .ok (.iload 4, 2) := by decide +kernel
theorem dL_law_1579 : decode code 1579 = .ok (.iconst 1, 1) := by decide +kernel
theorem dL_law_1580 : decode code 1580 = .ok (.iadd, 1) := by decide +kernel
theorem dL_law_1581 : decode code 1581 = .ok (.iaload, 1) := by decide +kernel
theorem dL_law_1582 : decode code 1582 = .ok (.invokevirtual 235, 3) := by decide +kernel
theorem dL_law_1585 : decode code 1585 = .ok (.istore 6, 2) := by decide +kernel
theorem dL_law_1587 : decode code 1587 = .ok (.aload_n 2, 1) := by decide +kernel
theorem dL_law_1588 : decode code 1588 = .ok (.invokevirtual 115, 3) := by decide +kernel
theorem dL_law_1591 : decode code 1591 = .ok (.iload 5, 2) := by decide +kernel
theorem dL_law_1593 : decode code 1593 = .ok (.if_icmp .eq 5, 3) := by decide +kernel
theorem dL_law_1596 : decode code 1596 = .ok (.iconst 0, 1) := by decide +kernel
theorem dL_law_1597 : decode code 1597 = .ok (.ireturn, 1) := by decide +kernel
theorem dL_law_1598 : decode code 1598 = .ok (.iload 5, 2) := by decide +kernel
theorem dL_law_1600 : decode code 1600 = .ok (.ifCond .ne 22, 3) := by decide +kernel
theorem dL_law_1603 : decode code 1603 = .ok (.aload_n 3, 1) := by decide +kernel
theorem dL_law_1604 : decode code 1604 = .ok (.iconst 0, 1) := by decide +kernel
theorem dL_law_1605 : decode code 1605 = .ok (.laload, 1) := by decide +kernel
theorem dL_law_1606 : decode code 1606 = .ok (.iload 6, 2) := by decide +kernel
theorem dL_law_1608 : decode code 1608 = .ok (.ifCond .eq 7, 3) := by decide +kernel
theorem dL_law_1611 : decode code 1611 = .ok (.lconst 1, 1) := by decide +kernel
theorem dL_law_1612 : decode code 1612 = .ok (.goto 4, 3) := by decide +kernel
theorem dL_law_1615 : decode code 1615 = .ok (.lconst 0, 1) := by decide +kernel
theorem dL_law_1616 : decode code 1616 = .ok (.lcmp, 1) := by decide +kernel
theorem dL_law_1617 : decode code 1617 = .ok (.ifCond .eq 5, 3) := by decide +kernel
theorem dL_law_1620 : decode code 1620 = .ok (.iconst 0, 1) := by decide +kernel
theorem dL_law_1621 : decode code 1621 = .ok (.ireturn, 1) := by decide +kernel
theorem dL_law_1622 : decode code 1622 = .ok (.goto 329, 3) := by decide +kernel
theorem dL_law_1625 : decode code 1625 = .ok (.aload_n 1, 1) := by decide +kernel
theorem dL_law_1626 : decode code 1626 = .ok (.invokevirtual 236, 3) := by decide +kernel
theorem dL_law_1629 : decode code 1629 = .ok (.aload_n 2, 1) := by decide +kernel
theorem dL_law_1630 : decode code 1630 = .ok (.invokevirtual 239, 3) := by decide +kernel
theorem dL_law_1633 : decode code 1633 = .ok (.if_icmp .eq 318, 3) := by decide +kernel
theorem dL_law_1636 : decode code 1636 = .ok (.iconst 0, 1) := by decide +kernel
theorem dL_law_1637 : decode code 1637 = .ok (.ireturn, 1) := by decide +kernel
theorem dL_law_1638 : decode code 1638 = .ok (.aload_n 1, 1) := by decide +kernel
theorem dL_law_1639 : decode code 1639 = .ok (.aload_n 3, 1) := by decide +kernel
theorem dL_law_1640 : decode code 1640 = .ok (.invokestatic 240, 3) := by decide +kernel
theorem dL_law_1643 : decode code 1643 = .ok (.istore 5, 2) := by decide +kernel
theorem dL_law_1645 : decode code 1645 = .ok (.aload_n 2, 1) := by decide +kernel
theorem dL_law_1646 : decode code 1646 = .ok (.invokevirtual 242, 3) := by decide +kernel
theorem dL_law_1649 : decode code 1649 = .ok (.istore 6, 2) := by decide +kernel
theorem dL_law_1651 : decode code 1651 = .ok (.aload_n 2, 1) := by decide +kernel
theorem dL_law_1652 : decode code 1652 = .ok (.invokevirtual 115, 3) := by decide +kernel
theorem dL_law_1655 : decode code 1655 = .ok (.iload 5, 2) := by decide +kernel
theorem dL_law_1657 : decode code 1657 = .ok (.if_icmp .eq 5, 3) := by decide +kernel
theorem dL_law_1660 : decode code 1660 = .ok (.iconst 0, 1) := by decide +kernel
theorem dL_law_1661 : decode code 1661 = .ok (.ireturn, 1) := by decide +kernel
theorem dL_law_1662 : decode code 1662 = .ok (.iload 5, 2) := by decide +kernel
theorem dL_law_1664 : decode code 1664 = .ok (.ifCond .ne 15, 3) := by decide +kernel
theorem dL_law_1667 : decode code 1667 = .ok (.aload_n 3, 1) := by decide +kernel
theorem dL_law_1668 : decode code 1668 = .ok (.iconst 0, 1) := by decide +kernel
theorem dL_law_1669 : decode code 1669 = .ok (.laload, 1) := by decide +kernel
theorem dL_law_1670 : decode code 1670 = .ok (.iload 6, 2) := by decide +kernel
theorem dL_law_1672 : decode code 1672 = .ok (.i2l, 1) := by decide +kernel
theorem dL_law_1673 : decode code 1673 = .ok (.lcmp, 1) := by decide +kernel
theorem dL_law_1674 : decode code 1674 = .ok (.ifCond .eq 5, 3) := by decide +kernel
theorem dL_law_1677 : decode code 1677 = .ok (.iconst 0, 1) := by decide +kernel
theorem dL_law_1678 : decode code 1678 = .ok (.ireturn, 1) := by decide +kernel
theorem dL_law_1679 : decode code 1679 = .ok (.goto 272, 3) := by decide +kernel
theorem dL_law_1682 : decode code 1682 = .ok (.aload_n 1, 1) := by decide +kernel
theorem dL_law_1683 : decode code 1683 = .ok (.aload_n 0, 1) := by decide +kernel
theorem dL_law_1684 : decode code 1684 = .ok (.iload 4, 2) := by decide +kernel
theorem dL_law_1686 : decode code 1686 = .ok (.iconst 1, 1) := by decide +kernel
theorem dL_law_1687 : decode code 1687 = .ok (.iadd, 1) := by decide +kernel
theorem dL_law_1688 : decode code 1688 = .ok (.iaload, 1) := by decide +kernel
theorem dL_law_1689 : decode code 1689 = .ok (.aload_n 3, 1) := by decide +kernel
theorem dL_law_1690 : decode code 1690 = .ok (.invokestatic 243, 3) := by decide +kernel
theorem dL_law_1693 : decode code 1693 = .ok (.istore 5, 2) := by decide +kernel
theorem dL_law_1695 : decode code 1695 = .ok (.aload_n 2, 1) := by decide +kernel
theorem dL_law_1696 : decode code 1696 = .ok (.aload_n 0, 1) := by decide +kernel
theorem dL_law_1697 : decode code 1697 = .ok (.iload 4, 2) := by decide +kernel
theorem dL_law_1699 : decode code 1699 = .ok (.iconst 1, 1) := by decide +kernel
theorem dL_law_1700 : decode code 1700 = .ok (.iadd, 1) := by decide +kernel
theorem dL_law_1701 : decode code 1701 = .ok (.iaload, 1) := by decide +kernel
theorem dL_law_1702 : decode code 1702 = .ok (.invokevirtual 245, 3) := by decide +kernel
theorem dL_law_1705 : decode code 1705 = .ok (.istore 6, 2) := by decide +kernel
theorem dL_law_1707 : decode code 1707 = .ok (.aload_n 2, 1) := by decide +kernel
theorem dL_law_1708 : decode code 1708 = .ok (.invokevirtual 115, 3) := by decide +kernel
theorem dL_law_1711 : decode code 1711 = .ok (.iload 5, 2) := by decide +kernel
theorem dL_law_1713 : decode code 1713 = .ok (.if_icmp .eq 5, 3) := by decide +kernel
theorem dL_law_1716 : decode code 1716 = .ok (.iconst 0, 1) := by decide +kernel
theorem dL_law_1717 : decode code 1717 = .ok (.ireturn, 1) := by decide +kernel
theorem dL_law_1718 : decode code 1718 = .ok (.iload 5, 2) := by decide +kernel
theorem dL_law_1720 : decode code 1720 = .ok (.ifCond .ne 15, 3) := by decide +kernel
theorem dL_law_1723 : decode code 1723 = .ok (.aload_n 3, 1) := by decide +kernel
theorem dL_law_1724 : decode code 1724 = .ok (.iconst 0, 1) := by decide +kernel
theorem dL_law_1725 : decode code 1725 = .ok (.laload, 1) := by decide +kernel
theorem dL_law_1726 : decode code 1726 = .ok (.iload 6, 2) := by decide +kernel
theorem dL_law_1728 : decode code 1728 = .ok (.i2l, 1) := by decide +kernel
theorem dL_law_1729 : decode code 1729 = .ok (.lcmp, 1) := by decide +kernel
theorem dL_law_1730 : decode code 1730 = .ok (.ifCond .eq 5, 3) := by decide +kernel
theorem dL_law_1733 : decode code 1733 = .ok (.iconst 0, 1) := by decide +kernel
theorem dL_law_1734 : decode code 1734 = .ok (.ireturn, 1) := by decide +kernel
theorem dL_law_1735 : decode code 1735 = .ok (.goto 216, 3) := by decide +kernel
theorem dL_law_1738 : decode code 1738 = .ok (.aload_n 1, 1) := by decide +kernel
theorem dL_law_1739 : decode code 1739 = .ok (.aload_n 3, 1) := by decide +kernel
theorem dL_law_1740 : decode code 1740 = .ok (.invokestatic 246, 3) := by decide +kernel
theorem dL_law_1743 : decode code 1743 = .ok (.istore 5, 2) := by decide +kernel
theorem dL_law_1745 : decode code 1745 = .ok (.aload_n 2, 1) := by decide +kernel
theorem dL_law_1746 : decode code 1746 = .ok (.invokevirtual 248, 3) := by decide +kernel
theorem dL_law_1749 : decode code 1749 = .ok (.istore 6, 2) := by decide +kernel
theorem dL_law_1751 : decode code 1751 = .ok (.aload_n 2, 1) := by decide +kernel
theorem dL_law_1752 : decode code 1752 = .ok (.invokevirtual 115, 3) := by decide +kernel
theorem dL_law_1755 : decode code 1755 = .ok (.iload 5, 2) := by decide +kernel
theorem dL_law_1757 : decode code 1757 = .ok (.if_icmp .eq 5, 3) := by decide +kernel
theorem dL_law_1760 : decode code 1760 = .ok (.iconst 0, 1) := by decide +kernel
theorem dL_law_1761 : decode code 1761 = .ok (.ireturn, 1) := by decide +kernel
theorem dL_law_1762 : decode code 1762 = .ok (.iload 5, 2) := by decide +kernel
theorem dL_law_1764 : decode code 1764 = .ok (.ifCond .ne 15, 3) := by decide +kernel
theorem dL_law_1767 : decode code 1767 = .ok (.aload_n 3, 1) := by decide +kernel
theorem dL_law_1768 : decode code 1768 = .ok (.iconst 0, 1) := by decide +kernel
theorem dL_law_1769 : decode code 1769 = .ok (.laload, 1) := by decide +kernel
theorem dL_law_1770 : decode code 1770 = .ok (.iload 6, 2) := by decide +kernel
theorem dL_law_1772 : decode code 1772 = .ok (.i2l, 1) := by decide +kernel
theorem dL_law_1773 : decode code 1773 = .ok (.lcmp, 1) := by decide +kernel
theorem dL_law_1774 : decode code 1774 = .ok (.ifCond .eq 5, 3) := by decide +kernel
theorem dL_law_1777 : decode code 1777 = .ok (.iconst 0, 1) := by decide +kernel
theorem dL_law_1778 : decode code 1778 = .ok (.ireturn, 1) := by decide +kernel
theorem dL_law_1779 : decode code 1779 = .ok (.goto 172, 3) := by decide +kernel
theorem dL_law_1782 : decode code 1782 = .ok (.aload_n 1, 1) := by decide +kernel
theorem dL_law_1783 : decode code 1783 = .ok (.aload_n 3, 1) := by decide +kernel
theorem dL_law_1784 : decode code 1784 = .ok (.invokestatic 249, 3) := by decide +kernel
theorem dL_law_1787 : decode code 1787 = .ok (.istore 5, 2) := by decide +kernel
theorem dL_law_1789 : decode code 1789 = .ok (.aload_n 2, 1) := by decide +kernel
theorem dL_law_1790 : decode code 1790 = .ok (.invokevirtual 251, 3) := by decide +kernel
theorem dL_law_1793 : decode code 1793 = .ok (.istore 6, 2) := by decide +kernel
theorem dL_law_1795 : decode code 1795 = .ok (.aload_n 2, 1) := by decide +kernel
theorem dL_law_1796 : decode code 1796 = .ok (.invokevirtual 115, 3) := by decide +kernel
theorem dL_law_1799 : decode code 1799 = .ok (.iload 5, 2) := by decide +kernel
theorem dL_law_1801 : decode code 1801 = .ok (.if_icmp .eq 5, 3) := by decide +kernel
theorem dL_law_1804 : decode code 1804 = .ok (.iconst 0, 1) := by decide +kernel
theorem dL_law_1805 : decode code 1805 = .ok (.ireturn, 1) := by decide +kernel
theorem dL_law_1806 : decode code 1806 = .ok (.iload 5, 2) := by decide +kernel
theorem dL_law_1808 : decode code 1808 = .ok (.ifCond .ne 15, 3) := by decide +kernel
theorem dL_law_1811 : decode code 1811 = .ok (.aload_n 3, 1) := by decide +kernel
theorem dL_law_1812 : decode code 1812 = .ok (.iconst 0, 1) := by decide +kernel
theorem dL_law_1813 : decode code 1813 = .ok (.laload, 1) := by decide +kernel
theorem dL_law_1814 : decode code 1814 = .ok (.iload 6, 2) := by decide +kernel
theorem dL_law_1816 : decode code 1816 = .ok (.i2l, 1) := by decide +kernel
theorem dL_law_1817 : decode code 1817 = .ok (.lcmp, 1) := by decide +kernel
theorem dL_law_1818 : decode code 1818 = .ok (.ifCond .eq 5, 3) := by decide +kernel
theorem dL_law_1821 : decode code 1821 = .ok (.iconst 0, 1) := by decide +kernel
theorem dL_law_1822 : decode code 1822 = .ok (.ireturn, 1) := by decide +kernel
theorem dL_law_1823 : decode code 1823 = .ok (.goto 128, 3) := by decide +kernel
theorem dL_law_1826 : decode code 1826 = .ok (.aload_n 1, 1) := by decide +kernel
theorem dL_law_1827 : decode code 1827 = .ok (.invokevirtual 252, 3) := by decide +kernel
theorem dL_law_1830 : decode code 1830 = .ok (.aload_n 2, 1) := by decide +kernel
theorem dL_law_1831 : decode code 1831 = .ok (.invokevirtual 255, 3) := by decide +kernel
theorem dL_law_1834 : decode code 1834 = .ok (.if_icmp .eq 117, 3) := by decide +kernel
theorem dL_law_1837 : decode code 1837 = .ok (.iconst 0, 1) := by decide +kernel
theorem dL_law_1838 : decode code 1838 = .ok (.ireturn, 1) := by decide +kernel
theorem dL_law_1839 : decode code 1839 = .ok (.aload_n 1, 1) := by decide +kernel
theorem dL_law_1840 : decode code 1840 = .ok (.invokevirtual 256, 3) := by decide +kernel
theorem dL_law_1843 : decode code 1843 = .ok (.aload_n 2, 1) := by decide +kernel
theorem dL_law_1844 : decode code 1844 = .ok (.invokevirtual 259, 3) := by decide +kernel
theorem dL_law_1847 : decode code 1847 = .ok (.lcmp, 1) := by decide +kernel
theorem dL_law_1848 : decode code 1848 = .ok (.ifCond .eq 103, 3) := by decide +kernel
theorem dL_law_1851 : decode code 1851 = .ok (.iconst 0, 1) := by decide +kernel
theorem dL_law_1852 : decode code 1852 = .ok (.ireturn, 1) := by decide +kernel
theorem dL_law_1853 : decode code 1853 = .ok (.aload_n 1, 1) := by decide +kernel
theorem dL_law_1854 : decode code 1854 = .ok (.aload_n 3, 1) := by decide +kernel
theorem dL_law_1855 : decode code 1855 = .ok (.invokestatic 260, 3) := by decide +kernel
theorem dL_law_1858 : decode code 1858 = .ok (.istore 5, 2) := by decide +kernel
theorem dL_law_1860 : decode code 1860 = .ok (.aload_n 2, 1) := by decide +kernel
theorem dL_law_1861 : decode code 1861 = .ok (.invokevirtual 262, 3) := by decide +kernel
theorem dL_law_1864 : decode code 1864 = .ok (.istore 6, 2) := by decide +kernel
theorem dL_law_1866 : decode code 1866 = .ok (.aload_n 2, 1) := by decide +kernel
theorem dL_law_1867 : decode code 1867 = .ok (.invokevirtual 115, 3) := by decide +kernel
theorem dL_law_1870 : decode code 1870 = .ok (.iload 5, 2) := by decide +kernel
theorem dL_law_1872 : decode code 1872 = .ok (.if_icmp .eq 5, 3) := by decide +kernel
theorem dL_law_1875 : decode code 1875 = .ok (.iconst 0, 1) := by decide +kernel
theorem dL_law_1876 : decode code 1876 = .ok (.ireturn, 1) := by decide +kernel
theorem dL_law_1877 : decode code 1877 = .ok (.iload 5, 2) := by decide +kernel
theorem dL_law_1879 : decode code 1879 = .ok (.ifCond .ne 15, 3) := by decide +kernel
theorem dL_law_1882 : decode code 1882 = .ok (.aload_n 3, 1) := by decide +kernel
theorem dL_law_1883 : decode code 1883 = .ok (.iconst 0, 1) := by decide +kernel
theorem dL_law_1884 : decode code 1884 = .ok (.laload, 1) := by decide +kernel
theorem dL_law_1885 : decode code 1885 = .ok (.iload 6, 2) := by decide +kernel
theorem dL_law_1887 : decode code 1887 = .ok (.i2l, 1) := by decide +kernel
theorem dL_law_1888 : decode code 1888 = .ok (.lcmp, 1) := by decide +kernel
theorem dL_law_1889 : decode code 1889 = .ok (.ifCond .eq 5, 3) := by decide +kernel
theorem dL_law_1892 : decode code 1892 = .ok (.iconst 0, 1) := by decide +kernel
theorem dL_law_1893 : decode code 1893 = .ok (.ireturn, 1) := by decide +kernel
theorem dL_law_1894 : decode code 1894 = .ok (.goto 57, 3) := by decide +kernel
theorem dL_law_1897 : decode code 1897 = .ok (.aload_n 1, 1) := by decide +kernel
theorem dL_law_1898 : decode code 1898 = .ok (.invokevirtual 263, 3) := by decide +kernel
theorem dL_law_1901 : decode code 1901 = .ok (.dstore 5, 2) := by decide +kernel
theorem dL_law_1903 : decode code 1903 = .ok (.aload_n 2, 1) := by decide +kernel
theorem dL_law_1904 : decode code 1904 = .ok (.invokevirtual 267, 3) := by decide +kernel
theorem dL_law_1907 : decode code 1907 = .ok (.dstore 7, 2) := by decide +kernel
theorem dL_law_1909 : decode code 1909 = .ok (.dload 5, 2) := by decide +kernel
theorem dL_law_1911 : decode code 1911 = .ok (.dload 7, 2) := by decide +kernel
theorem dL_law_1913 : decode code 1913 = .ok (.dcmp .l, 1) := by decide +kernel
theorem dL_law_1914 : decode code 1914 = .ok (.ifCond .eq 21, 3) := by decide +kernel
theorem dL_law_1917 : decode code 1917 = .ok (.dload 5, 2) := by decide +kernel
theorem dL_law_1919 : decode code 1919 = .ok (.dload 5, 2) := by decide +kernel
theorem dL_law_1921 : decode code 1921 = .ok (.dcmp .l, 1) := by decide +kernel
theorem dL_law_1922 : decode code 1922 = .ok (.ifCond .eq 11, 3) := by decide +kernel
theorem dL_law_1925 : decode code 1925 = .ok (.dload 7, 2) := by decide +kernel
theorem dL_law_1927 : decode code 1927 = .ok (.dload 7, 2) := by decide +kernel
theorem dL_law_1929 : decode code 1929 = .ok (.dcmp .l, 1) := by decide +kernel
theorem dL_law_1930 : decode code 1930 = .ok (.ifCond .ne 5, 3) := by decide +kernel
theorem dL_law_1933 : decode code 1933 = .ok (.iconst 0, 1) := by decide +kernel
theorem dL_law_1934 : decode code 1934 = .ok (.ireturn, 1) := by decide +kernel
theorem dL_law_1935 : decode code 1935 = .ok (.goto 16, 3) := by decide +kernel
theorem dL_law_1938 : decode code 1938 = .ok (.aload_n 1, 1) := by decide +kernel
theorem dL_law_1939 : decode code 1939 = .ok (.invokevirtual 268, 3) := by decide +kernel
theorem dL_law_1942 : decode code 1942 = .ok (.aload_n 2, 1) := by decide +kernel
theorem dL_law_1943 : decode code 1943 = .ok (.invokevirtual 271, 3) := by decide +kernel
theorem dL_law_1946 : decode code 1946 = .ok (.if_icmp .eq 5, 3) := by decide +kernel
theorem dL_law_1949 : decode code 1949 = .ok (.iconst 0, 1) := by decide +kernel
theorem dL_law_1950 : decode code 1950 = .ok (.ireturn, 1) := by decide +kernel
theorem dL_law_1951 : decode code 1951 = .ok (.iinc 4 3, 3) := by decide +kernel
theorem dL_law_1954 : decode code 1954 = .ok (.goto (-1931), 3) := by decide +kernel
theorem dL_law_1957 : decode code 1957 = .ok (.iconst 1, 1) := by decide +kernel
theorem dL_law_1958 : decode code 1958 = .ok (.ireturn, 1) := by decide +kernel
