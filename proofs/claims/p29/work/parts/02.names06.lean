theorem dL_isDraft_228 : decode cL_isDraft 228 = .ok (.istore 14, 2) := by decide +kernel
theorem dL_isDraft_230 : decode cL_isDraft 230 = .ok (.iinc 15 1, 3) := by decide +kernel
theorem dL_isDraft_233 : decode cL_isDraft 233 = .ok (.goto (-105), 3) := by decide +kernel
theorem dL_isDraft_236 : decode cL_isDraft 236 = .ok (.iconst 0, 1) := by decide +kernel
theorem dL_isDraft_237 : decode cL_isDraft 237 = .ok (.istore 15, 2) := by decide +kernel
theorem dL_isDraft_239 : decode cL_isDraft 239 = .ok (.iconst 0, 1) := by decide +kernel
theorem dL_isDraft_240 : decode cL_isDraft 240 = .ok (.istore 16, 2) := by decide +kernel
theorem dL_isDraft_242 : decode cL_isDraft 242 = .ok (.aload 10, 2) := by decide +kernel
theorem dL_isDraft_244 : decode cL_isDraft 244 = .ok (.invokestatic 105, 3) := by decide +kernel
theorem dL_isDraft_247 : decode cL_isDraft 247 = .ok (.bipush 12, 2) := by decide +kernel
theorem dL_isDraft_249 : decode cL_isDraft 249 = .ok (.if_icmp .ne 7, 3) := by decide +kernel
theorem dL_isDraft_252 : decode cL_isDraft 252 = .ok (.iconst 0, 1) := by decide +kernel
theorem dL_isDraft_253 : decode cL_isDraft 253 = .ok (.goto 5, 3) := by decide +kernel
theorem dL_isDraft_256 : decode cL_isDraft 256 = .ok (.bipush (-6), 2) := by decide +kernel
theorem dL_isDraft_258 : decode cL_isDraft 258 = .ok (.istore 17, 2) := by decide +kernel
theorem dL_isDraft_260 : decode cL_isDraft 260 = .ok (.iconst 0, 1) := by decide +kernel
theorem dL_isDraft_261 : decode cL_isDraft 261 = .ok (.istore 18, 2) := by decide +kernel
theorem dL_isDraft_263 : decode cL_isDraft 263 = .ok (.iconst 1, 1) := by decide +kernel
theorem dL_isDraft_264 : decode cL_isDraft 264 = .ok (.istore 19, 2) := by decide +kernel
theorem dL_isDraft_266 : decode cL_isDraft 266 = .ok (.iload 19, 2) := by decide +kernel
theorem dL_isDraft_268 : decode cL_isDraft 268 = .ok (.bipush 60, 2) := by decide +kernel
theorem dL_isDraft_270 : decode cL_isDraft 270 = .ok (.if_icmp .gt 158, 3) := by decide +kernel
theorem dL_isDraft_273 : decode cL_isDraft 273 = .ok (.iload 18, 2) := by decide +kernel
theorem dL_isDraft_275 : decode cL_isDraft 275 = .ok (.ifCond .ne 153, 3) := by decide +kernel
theorem dL_isDraft_278 : decode cL_isDraft 278 = .ok (.aload 9, 2) := by decide +kernel
theorem dL_isDraft_280 : decode cL_isDraft 280 = .ok (.aload 10, 2) := by decide +kernel
theorem dL_isDraft_282 : decode cL_isDraft 282 = .ok (.invokestatic 101, 3) := by decide +kernel
theorem dL_isDraft_285 : decode cL_isDraft 285 = .ok (.iconst 1, 1) := by decide +kernel
theorem dL_isDraft_286 : decode cL_isDraft 286 = .ok (.istore 18, 2) := by decide +kernel
theorem dL_isDraft_288 : decode cL_isDraft 288 = .ok (.iconst 1, 1) := by decide +kernel
theorem dL_isDraft_289 : decode cL_isDraft 289 = .ok (.istore 20, 2) := by decide +kernel
theorem dL_isDraft_291 : decode cL_isDraft 291 = .ok (.iconst 0, 1) := by decide +kernel
theorem dL_isDraft_292 : decode cL_isDraft 292 = .ok (.istore 21, 2) := by decide +kernel
theorem dL_isDraft_294 : decode cL_isDraft 294 = .ok (.iload 21, 2) := by decide +kernel
theorem dL_isDraft_296 : decode cL_isDraft 296 = .ok (.bipush 12, 2) := by decide +kernel
theorem dL_isDraft_298 : decode cL_isDraft 298 = .ok (.if_icmp .ge 65, 3) := by decide +kernel
theorem dL_isDraft_301 : decode cL_isDraft 301 = .ok (.iload 18, 2) := by decide +kernel
theorem dL_isDraft_303 : decode cL_isDraft 303 = .ok (.ifCond .eq 20, 3) := by decide +kernel
theorem dL_isDraft_306 : decode cL_isDraft 306 = .ok (.aload 10, 2) := by decide +kernel
theorem dL_isDraft_308 : decode cL_isDraft 308 = .ok (.iload 21, 2) := by decide +kernel
theorem dL_isDraft_310 : decode cL_isDraft 310 = .ok (.iaload, 1) := by decide +kernel
theorem dL_isDraft_311 : decode cL_isDraft 311 = .ok (.aload 5, 2) := by decide +kernel
theorem dL_isDraft_313 : decode cL_isDraft 313 = .ok (.iload 21, 2) := by decide +kernel
theorem dL_isDraft_315 : decode cL_isDraft 315 = .ok (.iaload, 1) := by decide +kernel
theorem dL_isDraft_316 : decode cL_isDraft 316 = .ok (.if_icmp .ne 7, 3) := by decide +kernel
theorem dL_isDraft_319 : decode cL_isDraft 319 = .ok (.iconst 1, 1) := by decide +kernel
theorem dL_isDraft_320 : decode cL_isDraft 320 = .ok (.goto 4, 3) := by decide +kernel
theorem dL_isDraft_323 : decode cL_isDraft 323 = .ok (.iconst 0, 1) := by decide +kernel
theorem dL_isDraft_324 : decode cL_isDraft 324 = .ok (.istore 18, 2) := by decide +kernel
theorem dL_isDraft_326 : decode cL_isDraft 326 = .ok (.iload 20, 2) := by decide +kernel
theorem dL_isDraft_328 : decode cL_isDraft 328 = .ok (.ifCond .eq 26, 3) := by decide +kernel
theorem dL_isDraft_331 : decode cL_isDraft 331 = .ok (.aload 6, 2) := by decide +kernel
theorem dL_isDraft_333 : decode cL_isDraft 333 = .ok (.aload 10, 2) := by decide +kernel
theorem dL_isDraft_335 : decode cL_isDraft 335 = .ok (.iload 21, 2) := by decide +kernel
theorem dL_isDraft_337 : decode cL_isDraft 337 = .ok (.iaload, 1) := by decide +kernel
theorem dL_isDraft_338 : decode cL_isDraft 338 = .ok (.iaload, 1) := by decide +kernel
theorem dL_isDraft_339 : decode cL_isDraft 339 = .ok (.aload 6, 2) := by decide +kernel
theorem dL_isDraft_341 : decode cL_isDraft 341 = .ok (.aload 5, 2) := by decide +kernel
theorem dL_isDraft_343 : decode cL_isDraft 343 = .ok (.iload 21, 2) := by decide +kernel
theorem dL_isDraft_345 : decode cL_isDraft 345 = .ok (.iaload, 1) := by decide +kernel
theorem dL_isDraft_346 : decode cL_isDraft 346 = .ok (.iaload, 1) := by decide +kernel
theorem dL_isDraft_347 : decode cL_isDraft 347 = .ok (.if_icmp .ne 7, 3) := by decide +kernel
theorem dL_isDraft_350 : decode cL_isDraft 350 = .ok (.iconst 1, 1) := by decide +kernel
theorem dL_isDraft_351 : decode cL_isDraft 351 = .ok (.goto 4, 3) := by decide +kernel
theorem dL_isDraft_354 : decode cL_isDraft 354 = .ok (.iconst 0, 1) := by decide +kernel
theorem dL_isDraft_355 : decode cL_isDraft 355 = .ok (.istore 20, 2) := by decide +kernel
theorem dL_isDraft_357 : decode cL_isDraft 357 = .ok (.iinc 21 1, 3) := by decide +kernel
theorem dL_isDraft_360 : decode cL_isDraft 360 = .ok (.goto (-66), 3) := by decide +kernel
theorem dL_isDraft_363 : decode cL_isDraft 363 = .ok (.iload 18, 2) := by decide +kernel
theorem dL_isDraft_365 : decode cL_isDraft 365 = .ok (.ifCond .eq 8, 3) := by decide +kernel
theorem dL_isDraft_368 : decode cL_isDraft 368 = .ok (.iload 19, 2) := by decide +kernel
theorem dL_isDraft_370 : decode cL_isDraft 370 = .ok (.goto 5, 3) := by decide +kernel
theorem dL_isDraft_373 : decode cL_isDraft 373 = .ok (.iload 15, 2) := by decide +kernel
theorem dL_isDraft_375 : decode cL_isDraft 375 = .ok (.istore 15, 2) := by decide +kernel
theorem dL_isDraft_377 : decode cL_isDraft 377 = .ok (.iload 20, 2) := by decide +kernel
theorem dL_isDraft_379 : decode cL_isDraft 379 = .ok (.ifCond .eq 13, 3) := by decide +kernel
theorem dL_isDraft_382 : decode cL_isDraft 382 = .ok (.iload 16, 2) := by decide +kernel
theorem dL_isDraft_384 : decode cL_isDraft 384 = .ok (.ifCond .ne 8, 3) := by decide +kernel
theorem dL_isDraft_387 : decode cL_isDraft 387 = .ok (.iload 19, 2) := by decide +kernel
theorem dL_isDraft_389 : decode cL_isDraft 389 = .ok (.goto 5, 3) := by decide +kernel
theorem dL_isDraft_392 : decode cL_isDraft 392 = .ok (.iload 16, 2) := by decide +kernel
theorem dL_isDraft_394 : decode cL_isDraft 394 = .ok (.istore 16, 2) := by decide +kernel
theorem dL_isDraft_396 : decode cL_isDraft 396 = .ok (.iload 17, 2) := by decide +kernel
theorem dL_isDraft_398 : decode cL_isDraft 398 = .ok (.bipush (-6), 2) := by decide +kernel
theorem dL_isDraft_400 : decode cL_isDraft 400 = .ok (.if_icmp .ne 18, 3) := by decide +kernel
theorem dL_isDraft_403 : decode cL_isDraft 403 = .ok (.aload 10, 2) := by decide +kernel
theorem dL_isDraft_405 : decode cL_isDraft 405 = .ok (.invokestatic 105, 3) := by decide +kernel
theorem dL_isDraft_408 : decode cL_isDraft 408 = .ok (.bipush 12, 2) := by decide +kernel
theorem dL_isDraft_410 : decode cL_isDraft 410 = .ok (.if_icmp .ne 8, 3) := by decide +kernel
theorem dL_isDraft_413 : decode cL_isDraft 413 = .ok (.iload 19, 2) := by decide +kernel
theorem dL_isDraft_415 : decode cL_isDraft 415 = .ok (.goto 5, 3) := by decide +kernel
theorem dL_isDraft_418 : decode cL_isDraft 418 = .ok (.iload 17, 2) := by decide +kernel
theorem dL_isDraft_420 : decode cL_isDraft 420 = .ok (.istore 17, 2) := by decide +kernel
theorem dL_isDraft_422 : decode cL_isDraft 422 = .ok (.iinc 19 1, 3) := by decide +kernel
theorem dL_isDraft_425 : decode cL_isDraft 425 = .ok (.goto (-159), 3) := by decide +kernel
theorem dL_isDraft_428 : decode cL_isDraft 428 = .ok (.iload_n 2, 1) := by decide +kernel
theorem dL_isDraft_429 : decode cL_isDraft 429 = .ok (.bipush 12, 2) := by decide +kernel
theorem dL_isDraft_431 : decode cL_isDraft 431 = .ok (.invokestatic 54, 3) := by decide +kernel
theorem dL_isDraft_434 : decode cL_isDraft 434 = .ok (.istore 19, 2) := by decide +kernel
theorem dL_isDraft_436 : decode cL_isDraft 436 = .ok (.iload_n 2, 1) := by decide +kernel
theorem dL_isDraft_437 : decode cL_isDraft 437 = .ok (.iconst 4, 1) := by decide +kernel
theorem dL_isDraft_438 : decode cL_isDraft 438 = .ok (.ishr, 1) := by decide +kernel
theorem dL_isDraft_439 : decode cL_isDraft 439 = .ok (.ldc 113, 2) := by decide +kernel
theorem dL_isDraft_441 : decode cL_isDraft 441 = .ok (.invokestatic 54, 3) := by decide +kernel
theorem dL_isDraft_444 : decode cL_isDraft 444 = .ok (.istore 20, 2) := by decide +kernel
theorem dL_isDraft_446 : decode cL_isDraft 446 = .ok (.iload 19, 2) := by decide +kernel
theorem dL_isDraft_448 : decode cL_isDraft 448 = .ok (.istore 21, 2) := by decide +kernel
theorem dL_isDraft_450 : decode cL_isDraft 450 = .ok (.iconst 0, 1) := by decide +kernel
theorem dL_isDraft_451 : decode cL_isDraft 451 = .ok (.istore 22, 2) := by decide +kernel
theorem dL_isDraft_453 : decode cL_isDraft 453 = .ok (.iload 22, 2) := by decide +kernel
theorem dL_isDraft_455 : decode cL_isDraft 455 = .ok (.iload 20, 2) := by decide +kernel
theorem dL_isDraft_457 : decode cL_isDraft 457 = .ok (.iload 15, 2) := by decide +kernel
theorem dL_isDraft_459 : decode cL_isDraft 459 = .ok (.irem, 1) := by decide +kernel
theorem dL_isDraft_460 : decode cL_isDraft 460 = .ok (.if_icmp .ge 16, 3) := by decide +kernel
theorem dL_isDraft_463 : decode cL_isDraft 463 = .ok (.aload 9, 2) := by decide +kernel
theorem dL_isDraft_465 : decode cL_isDraft 465 = .ok (.iload 21, 2) := by decide +kernel
theorem dL_isDraft_467 : decode cL_isDraft 467 = .ok (.iaload, 1) := by decide +kernel
theorem dL_isDraft_468 : decode cL_isDraft 468 = .ok (.istore 21, 2) := by decide +kernel
theorem dL_isDraft_470 : decode cL_isDraft 470 = .ok (.iinc 22 1, 3) := by decide +kernel
theorem dL_isDraft_473 : decode cL_isDraft 473 = .ok (.goto (-20), 3) := by decide +kernel
theorem dL_isDraft_476 : decode cL_isDraft 476 = .ok (.aload_n 0, 1) := by decide +kernel
theorem dL_isDraft_477 : decode cL_isDraft 477 = .ok (.iload_n 1, 1) := by decide +kernel
theorem dL_isDraft_478 : decode cL_isDraft 478 = .ok (.iconst 0, 1) := by decide +kernel
theorem dL_isDraft_479 : decode cL_isDraft 479 = .ok (.invokevirtual 114, 3) := by decide +kernel
theorem dL_isDraft_482 : decode cL_isDraft 482 = .ok (.aload 7, 2) := by decide +kernel
theorem dL_isDraft_484 : decode cL_isDraft 484 = .ok (.iload_n 1, 1) := by decide +kernel
theorem dL_isDraft_485 : decode cL_isDraft 485 = .ok (.iaload, 1) := by decide +kernel
theorem dL_isDraft_486 : decode cL_isDraft 486 = .ok (.if_icmp .ne 98, 3) := by decide +kernel
theorem dL_isDraft_489 : decode cL_isDraft 489 = .ok (.aload_n 0, 1) := by decide +kernel
theorem dL_isDraft_490 : decode cL_isDraft 490 = .ok (.iload_n 1, 1) := by decide +kernel
theorem dL_isDraft_491 : decode cL_isDraft 491 = .ok (.iconst 1, 1) := by decide +kernel
theorem dL_isDraft_492 : decode cL_isDraft 492 = .ok (.invokevirtual 114, 3) := by decide +kernel
theorem dL_isDraft_495 : decode cL_isDraft 495 = .ok (.iload 15, 2) := by decide +kernel
theorem dL_isDraft_497 : decode cL_isDraft 497 = .ok (.if_icmp .ne 87, 3) := by decide +kernel
theorem dL_isDraft_500 : decode cL_isDraft 500 = .ok (.aload_n 0, 1) := by decide +kernel
theorem dL_isDraft_501 : decode cL_isDraft 501 = .ok (.iload_n 1, 1) := by decide +kernel
theorem dL_isDraft_502 : decode cL_isDraft 502 = .ok (.iconst 2, 1) := by decide +kernel
theorem dL_isDraft_503 : decode cL_isDraft 503 = .ok (.invokevirtual 114, 3) := by decide +kernel
theorem dL_isDraft_506 : decode cL_isDraft 506 = .ok (.iload 11, 2) := by decide +kernel
theorem dL_isDraft_508 : decode cL_isDraft 508 = .ok (.if_icmp .ne 76, 3) := by decide +kernel
theorem dL_isDraft_511 : decode cL_isDraft 511 = .ok (.aload_n 0, 1) := by decide +kernel
theorem dL_isDraft_512 : decode cL_isDraft 512 = .ok (.iload_n 1, 1) := by decide +kernel
theorem dL_isDraft_513 : decode cL_isDraft 513 = .ok (.iconst 3, 1) := by decide +kernel
theorem dL_isDraft_514 : decode cL_isDraft 514 = .ok (.invokevirtual 114, 3) := by decide +kernel
theorem dL_isDraft_517 : decode cL_isDraft 517 = .ok (.iload 13, 2) := by decide +kernel
theorem dL_isDraft_519 : decode cL_isDraft 519 = .ok (.if_icmp .ne 65, 3) := by decide +kernel
theorem dL_isDraft_522 : decode cL_isDraft 522 = .ok (.aload_n 0, 1) := by decide +kernel
theorem dL_isDraft_523 : decode cL_isDraft 523 = .ok (.iload_n 1, 1) := by decide +kernel
theorem dL_isDraft_524 : decode cL_isDraft 524 = .ok (.iconst 4, 1) := by decide +kernel
theorem dL_isDraft_525 : decode cL_isDraft 525 = .ok (.invokevirtual 114, 3) := by decide +kernel
theorem dL_isDraft_528 : decode cL_isDraft 528 = .ok (.iload 14, 2) := by decide +kernel
theorem dL_isDraft_530 : decode cL_isDraft 530 = .ok (.if_icmp .ne 54, 3) := by decide +kernel
theorem dL_isDraft_533 : decode cL_isDraft 533 = .ok (.aload_n 0, 1) := by decide +kernel
theorem dL_isDraft_534 : decode cL_isDraft 534 = .ok (.iload_n 1, 1) := by decide +kernel
theorem dL_isDraft_535 : decode cL_isDraft 535 = .ok (.iconst 5, 1) := by decide +kernel
theorem dL_isDraft_536 : decode cL_isDraft 536 = .ok (.invokevirtual 114, 3) := by decide +kernel
theorem dL_isDraft_539 : decode cL_isDraft 539 = .ok (.iload 12, 2) := by decide +kernel
theorem dL_isDraft_541 : decode cL_isDraft 541 = .ok (.if_icmp .ne 43, 3) := by decide +kernel
theorem dL_isDraft_544 : decode cL_isDraft 544 = .ok (.aload_n 0, 1) := by decide +kernel
theorem dL_isDraft_545 : decode cL_isDraft 545 = .ok (.iload_n 1, 1) := by decide +kernel
theorem dL_isDraft_546 : decode cL_isDraft 546 = .ok (.bipush 6, 2) := by decide +kernel
theorem dL_isDraft_548 : decode cL_isDraft 548 = .ok (.invokevirtual 114, 3) := by decide +kernel
theorem dL_isDraft_551 : decode cL_isDraft 551 = .ok (.iload 16, 2) := by decide +kernel
theorem dL_isDraft_553 : decode cL_isDraft 553 = .ok (.if_icmp .ne 31, 3) := by decide +kernel
theorem dL_isDraft_556 : decode cL_isDraft 556 = .ok (.aload_n 0, 1) := by decide +kernel
theorem dL_isDraft_557 : decode cL_isDraft 557 = .ok (.iload_n 1, 1) := by decide +kernel
theorem dL_isDraft_558 : decode cL_isDraft 558 = .ok (.invokevirtual 117, 3) := by decide +kernel
theorem dL_isDraft_561 : decode cL_isDraft 561 = .ok (.iload 17, 2) := by decide +kernel
theorem dL_isDraft_563 : decode cL_isDraft 563 = .ok (.if_icmp .ne 21, 3) := by decide +kernel
theorem dL_isDraft_566 : decode cL_isDraft 566 = .ok (.aload_n 0, 1) := by decide +kernel
theorem dL_isDraft_567 : decode cL_isDraft 567 = .ok (.iload_n 1, 1) := by decide +kernel
theorem dL_isDraft_568 : decode cL_isDraft 568 = .ok (.iload 19, 2) := by decide +kernel
theorem dL_isDraft_570 : decode cL_isDraft 570 = .ok (.iload 20, 2) := by decide +kernel
theorem dL_isDraft_572 : decode cL_isDraft 572 = .ok (.invokevirtual 120, 3) := by decide +kernel
theorem dL_isDraft_575 : decode cL_isDraft 575 = .ok (.iload 21, 2) := by decide +kernel
theorem dL_isDraft_577 : decode cL_isDraft 577 = .ok (.if_icmp .ne 7, 3) := by decide +kernel
theorem dL_isDraft_580 : decode cL_isDraft 580 = .ok (.iconst 1, 1) := by decide +kernel
theorem dL_isDraft_581 : decode cL_isDraft 581 = .ok (.goto 4, 3) := by decide +kernel
theorem dL_isDraft_584 : decode cL_isDraft 584 = .ok (.iconst 0, 1) := by decide +kernel
theorem dL_isDraft_585 : decode cL_isDraft 585 = .ok (.istore 22, 2) := by decide +kernel
theorem dL_isDraft_587 : decode cL_isDraft 587 = .ok (.iconst 0, 1) := by decide +kernel
theorem dL_isDraft_588 : decode cL_isDraft 588 = .ok (.istore 23, 2) := by decide +kernel
theorem dL_isDraft_590 : decode cL_isDraft 590 = .ok (.iload 23, 2) := by decide +kernel
theorem dL_isDraft_592 : decode cL_isDraft 592 = .ok (.aload 7, 2) := by decide +kernel
theorem dL_isDraft_594 : decode cL_isDraft 594 = .ok (.iload_n 1, 1) := by decide +kernel
theorem dL_isDraft_595 : decode cL_isDraft 595 = .ok (.iaload, 1) := by decide +kernel
theorem dL_isDraft_596 : decode cL_isDraft 596 = .ok (.if_icmp .ge 39, 3) := by decide +kernel
theorem dL_isDraft_599 : decode cL_isDraft 599 = .ok (.iload 22, 2) := by decide +kernel
theorem dL_isDraft_601 : decode cL_isDraft 601 = .ok (.ifCond .eq 25, 3) := by decide +kernel
theorem dL_isDraft_604 : decode cL_isDraft 604 = .ok (.aload_n 0, 1) := by decide +kernel
theorem dL_isDraft_605 : decode cL_isDraft 605 = .ok (.iload_n 1, 1) := by decide +kernel
theorem dL_isDraft_606 : decode cL_isDraft 606 = .ok (.iload 23, 2) := by decide +kernel
theorem dL_isDraft_608 : decode cL_isDraft 608 = .ok (.invokevirtual 43, 3) := by decide +kernel
theorem dL_isDraft_611 : decode cL_isDraft 611 = .ok (.iload_n 1, 1) := by decide +kernel
theorem dL_isDraft_612 : decode cL_isDraft 612 = .ok (.iload 23, 2) := by decide +kernel
theorem dL_isDraft_614 : decode cL_isDraft 614 = .ok (.aload 8, 2) := by decide +kernel
theorem dL_isDraft_616 : decode cL_isDraft 616 = .ok (.invokestatic 16, 3) := by decide +kernel
theorem dL_isDraft_619 : decode cL_isDraft 619 = .ok (.if_icmp .ne 7, 3) := by decide +kernel
theorem dL_isDraft_622 : decode cL_isDraft 622 = .ok (.iconst 1, 1) := by decide +kernel
theorem dL_isDraft_623 : decode cL_isDraft 623 = .ok (.goto 4, 3) := by decide +kernel
theorem dL_isDraft_626 : decode cL_isDraft 626 = .ok (.iconst 0, 1) := by decide +kernel
theorem dL_isDraft_627 : decode cL_isDraft 627 = .ok (.istore 22, 2) := by decide +kernel
theorem dL_isDraft_629 : decode cL_isDraft 629 = .ok (.iinc 23 1, 3) := by decide +kernel
theorem dL_isDraft_632 : decode cL_isDraft 632 = .ok (.goto (-42), 3) := by decide +kernel
theorem dL_isDraft_635 : decode cL_isDraft 635 = .ok (.iload 22, 2) := by decide +kernel
theorem dL_isDraft_637 : decode cL_isDraft 637 = .ok (.ifCond .eq 30, 3) := by decide +kernel
theorem dL_isDraft_640 : decode cL_isDraft 640 = .ok (.aload_n 0, 1) := by decide +kernel
theorem dL_isDraft_641 : decode cL_isDraft 641 = .ok (.iload_n 1, 1) := by decide +kernel
theorem dL_isDraft_642 : decode cL_isDraft 642 = .ok (.aload 7, 2) := by decide +kernel
theorem dL_isDraft_644 : decode cL_isDraft 644 = .ok (.iload_n 1, 1) := by decide +kernel
theorem dL_isDraft_645 : decode cL_isDraft 645 = .ok (.iaload, 1) := by decide +kernel
theorem dL_isDraft_646 : decode cL_isDraft 646 = .ok (.invokevirtual 43, 3) := by decide +kernel
theorem dL_isDraft_649 : decode cL_isDraft 649 = .ok (.iconst (-1), 1) := by decide +kernel
theorem dL_isDraft_650 : decode cL_isDraft 650 = .ok (.if_icmp .ne 17, 3) := by decide +kernel
theorem dL_isDraft_653 : decode cL_isDraft 653 = .ok (.aload_n 0, 1) := by decide +kernel
theorem dL_isDraft_654 : decode cL_isDraft 654 = .ok (.iload_n 1, 1) := by decide +kernel
theorem dL_isDraft_655 : decode cL_isDraft 655 = .ok (.iconst (-1), 1) := by decide +kernel
theorem dL_isDraft_656 : decode cL_isDraft 656 = .ok (.invokevirtual 43, 3) := by decide +kernel
theorem dL_isDraft_659 : decode cL_isDraft 659 = .ok (.iconst (-1), 1) := by decide +kernel
theorem dL_isDraft_660 : decode cL_isDraft 660 = .ok (.if_icmp .ne 7, 3) := by decide +kernel
theorem dL_isDraft_663 : decode cL_isDraft 663 = .ok (.iconst 1, 1) := by decide +kernel
theorem dL_isDraft_664 : decode cL_isDraft 664 = .ok (.goto 4, 3) := by decide +kernel
theorem dL_isDraft_667 : decode cL_isDraft 667 = .ok (.iconst 0, 1) := by decide +kernel
theorem dL_isDraft_668 : decode cL_isDraft 668 = .ok (.ireturn, 1) := by decide +kernel
set_option maxRecDepth 20000 in
theorem ggL_arePairs_L_low : GoodIn wsL_arePairs wsL_low := goodIn_r _ [5, 6] (by decide +kernel) (by decide +kernel)
set_option maxRecDepth 20000 in
theorem gL_arePairs_L_low : GoodIn wsL_arePairs (va_wsS RL 54 yL_low wsL_low) := goodIn_app (goodIn_of _ (by decide +kernel)) ggL_arePairs_L_low
set_option maxRecDepth 20000 in
theorem ggL_arePairs_L_lay : GoodIn wsL_arePairs wsL_lay := goodIn_r _ [9, 1, 10, 11, 4, 12, 13, 14, 15, 16, 17, 18] (by decide +kernel) (by decide +kernel)
set_option maxRecDepth 20000 in
theorem gL_arePairs_L_lay : GoodIn wsL_arePairs (va_wsS RL 97 yL_lay wsL_lay) := goodIn_app (goodIn_of _ (by decide +kernel)) ggL_arePairs_L_lay
set_option maxRecDepth 20000 in
theorem ggL_arePairs_X7_pair : GoodIn wsL_arePairs wsX7_pair := goodIn_r _ [23, 24, 25, 26, 27, 22, 28, 29, 30, 31, 32, 33, 34, 35, 36, 37, 38, 39, 40, 41, 42, 43, 44, 45, 46, 47, 48, 49, 50, 51, 52, 53, 54, 55, 56, 57, 58, 59, 60, 61, 62, 63, 64, 65, 66, 67, 68, 69, 70, 71, 72, 73, 74, 75, 76, 77, 78, 79, 80, 81, 82, 83, 84, 85, 86, 87, 88, 89, 90, 141, 142, 143, 144, 145, 146, 147, 148, 149, 150, 151, 152, 153, 154, 155] (by decide +kernel) (by decide +kernel)
set_option maxRecDepth 20000 in
theorem gL_arePairs_X7_pair : GoodIn wsL_arePairs (wsV RL 123 RX7 yX7_pair wsX7_pair) := goodIn_app (goodIn_of _ (by decide +kernel)) ggL_arePairs_X7_pair
set_option maxRecDepth 20000 in
theorem ggL_arePairs_L_home : GoodIn wsL_arePairs wsL_home := goodIn_r _ [93] (by decide +kernel) (by decide +kernel)
set_option maxRecDepth 20000 in
theorem gL_arePairs_L_home : GoodIn wsL_arePairs (va_wsS RL 105 yL_home wsL_home) := goodIn_app (goodIn_of _ (by decide +kernel)) ggL_arePairs_L_home
set_option maxRecDepth 20000 in
theorem ggL_arePairs_X7_kernel : GoodIn wsL_arePairs wsX7_kernel := goodIn_r _ [97, 24, 25, 26, 27, 22, 28, 98, 61, 62, 29, 30, 31, 32, 33, 34, 35, 36, 37, 38, 39, 40, 41, 42, 43, 44, 45, 46, 47, 48, 49, 50, 51, 52, 53, 54, 55, 56, 57, 58, 59, 60, 63, 64, 65, 66, 67, 68, 69, 70, 71, 72, 73, 74, 75, 76, 77, 78, 79, 80, 81, 82, 83, 88, 89, 90, 141, 142, 143, 144, 145, 146, 147, 148, 149, 150, 151, 152, 153, 154, 155] (by decide +kernel) (by decide +kernel)
set_option maxRecDepth 20000 in
theorem gL_arePairs_X7_kernel : GoodIn wsL_arePairs (wsV RL 126 RX7 yX7_kernel wsX7_kernel) := goodIn_app (goodIn_of _ (by decide +kernel)) ggL_arePairs_X7_kernel
set_option maxRecDepth 20000 in
theorem ggL_arePairs_X7_orbit : GoodIn wsL_arePairs wsX7_orbit := goodIn_r _ [102, 103, 26, 27, 22, 28, 104, 105, 106, 107, 108, 24, 98, 61, 62, 29, 30, 31, 32, 33, 34, 35, 36, 37, 38, 39, 40, 41, 42, 43, 44, 45, 46, 47, 48, 49, 50, 51, 52, 53, 54, 55, 56, 57, 58, 59, 60, 63, 64, 65, 66, 67, 68, 69, 70, 71, 72, 73, 74, 75, 76, 77, 78, 79, 80, 81, 82, 83, 109, 110, 111, 112, 113, 114, 115, 116, 117, 118, 119, 120, 121, 122, 123, 141, 142, 143, 144, 145, 146, 156, 157, 158, 159, 160, 147, 148, 149, 150, 151, 152, 153, 154, 155] (by decide +kernel) (by decide +kernel)
set_option maxRecDepth 20000 in
theorem gL_arePairs_X7_orbit : GoodIn wsL_arePairs (wsV RL 129 RX7 yX7_orbit wsX7_orbit) := goodIn_app (goodIn_of _ (by decide +kernel)) ggL_arePairs_X7_orbit
set_option maxRecDepth 20000 in
theorem ggL_arePairs_X7_bestDraft : GoodIn wsL_arePairs wsX7_bestDraft := goodIn_r _ [127, 24, 128, 29, 30, 31, 32, 33, 34, 35, 36, 37, 38, 39, 40, 27, 22, 28, 41, 42, 43, 44, 45, 46, 47, 48, 49, 50, 51, 52, 53, 54, 55, 56, 57, 58, 59, 60, 61, 62, 63, 64, 65, 66, 67, 68, 69, 70, 71, 72, 73, 74, 75, 76, 77, 78, 79, 80, 81, 82, 83, 129, 130, 131, 132, 133, 89, 90, 134, 135, 136, 137, 138, 139, 140, 141, 142, 143, 144, 145, 146, 149, 150, 151, 152, 153, 154, 155, 147, 148] (by decide +kernel) (by decide +kernel)
set_option maxRecDepth 20000 in
theorem gL_arePairs_X7_bestDraft : GoodIn wsL_arePairs (wsV RL 132 RX7 yX7_bestDraft wsX7_bestDraft) := goodIn_app (goodIn_of _ (by decide +kernel)) ggL_arePairs_X7_bestDraft
theorem dL_arePairs_0 : decode cL_arePairs 0 = .ok (.iload_n 1, 1) := by decide +kernel
theorem dL_arePairs_1 : decode cL_arePairs 1 = .ok (.bipush 6, 2) := by decide +kernel
theorem dL_arePairs_3 : decode cL_arePairs 3 = .ok (.invokestatic 54, 3) := by decide +kernel
theorem dL_arePairs_6 : decode cL_arePairs 6 = .ok (.istore 7, 2) := by decide +kernel
theorem dL_arePairs_8 : decode cL_arePairs 8 = .ok (.iload_n 1, 1) := by decide +kernel
theorem dL_arePairs_9 : decode cL_arePairs 9 = .ok (.iconst 3, 1) := by decide +kernel
theorem dL_arePairs_10 : decode cL_arePairs 10 = .ok (.ishr, 1) := by decide +kernel
theorem dL_arePairs_11 : decode cL_arePairs 11 = .ok (.bipush 6, 2) := by decide +kernel
theorem dL_arePairs_13 : decode cL_arePairs 13 = .ok (.invokestatic 54, 3) := by decide +kernel
theorem dL_arePairs_16 : decode cL_arePairs 16 = .ok (.istore 8, 2) := by decide +kernel
theorem dL_arePairs_18 : decode cL_arePairs 18 = .ok (.iload_n 1, 1) := by decide +kernel
theorem dL_arePairs_19 : decode cL_arePairs 19 = .ok (.bipush 6, 2) := by decide +kernel
theorem dL_arePairs_21 : decode cL_arePairs 21 = .ok (.ishr, 1) := by decide +kernel
theorem dL_arePairs_22 : decode cL_arePairs 22 = .ok (.bipush 64, 2) := by decide +kernel
theorem dL_arePairs_24 : decode cL_arePairs 24 = .ok (.invokestatic 54, 3) := by decide +kernel
theorem dL_arePairs_27 : decode cL_arePairs 27 = .ok (.istore 9, 2) := by decide +kernel
theorem dL_arePairs_29 : decode cL_arePairs 29 = .ok (.iload_n 1, 1) := by decide +kernel
theorem dL_arePairs_30 : decode cL_arePairs 30 = .ok (.bipush 12, 2) := by decide +kernel
theorem dL_arePairs_32 : decode cL_arePairs 32 = .ok (.ishr, 1) := by decide +kernel
theorem dL_arePairs_33 : decode cL_arePairs 33 = .ok (.bipush 12, 2) := by decide +kernel
theorem dL_arePairs_35 : decode cL_arePairs 35 = .ok (.invokestatic 54, 3) := by decide +kernel
theorem dL_arePairs_38 : decode cL_arePairs 38 = .ok (.istore 10, 2) := by decide +kernel
theorem dL_arePairs_40 : decode cL_arePairs 40 = .ok (.bipush 12, 2) := by decide +kernel
theorem dL_arePairs_42 : decode cL_arePairs 42 = .ok (.newarray .int, 2) := by decide +kernel
theorem dL_arePairs_44 : decode cL_arePairs 44 = .ok (.astore 11, 2) := by decide +kernel
theorem dL_arePairs_46 : decode cL_arePairs 46 = .ok (.bipush 12, 2) := by decide +kernel
theorem dL_arePairs_48 : decode cL_arePairs 48 = .ok (.newarray .int, 2) := by decide +kernel
theorem dL_arePairs_50 : decode cL_arePairs 50 = .ok (.astore 12, 2) := by decide +kernel
theorem dL_arePairs_52 : decode cL_arePairs 52 = .ok (.iload 7, 2) := by decide +kernel
theorem dL_arePairs_54 : decode cL_arePairs 54 = .ok (.aload_n 2, 1) := by decide +kernel
theorem dL_arePairs_55 : decode cL_arePairs 55 = .ok (.aload_n 3, 1) := by decide +kernel
theorem dL_arePairs_56 : decode cL_arePairs 56 = .ok (.aload 5, 2) := by decide +kernel
theorem dL_arePairs_58 : decode cL_arePairs 58 = .ok (.aload 6, 2) := by decide +kernel
theorem dL_arePairs_60 : decode cL_arePairs 60 = .ok (.aload 11, 2) := by decide +kernel
theorem dL_arePairs_62 : decode cL_arePairs 62 = .ok (.invokestatic 97, 3) := by decide +kernel
theorem dL_arePairs_65 : decode cL_arePairs 65 = .ok (.iload 8, 2) := by decide +kernel
theorem dL_arePairs_67 : decode cL_arePairs 67 = .ok (.aload_n 2, 1) := by decide +kernel
theorem dL_arePairs_68 : decode cL_arePairs 68 = .ok (.aload_n 3, 1) := by decide +kernel
theorem dL_arePairs_69 : decode cL_arePairs 69 = .ok (.aload 5, 2) := by decide +kernel
theorem dL_arePairs_71 : decode cL_arePairs 71 = .ok (.aload 6, 2) := by decide +kernel
theorem dL_arePairs_73 : decode cL_arePairs 73 = .ok (.aload 12, 2) := by decide +kernel
theorem dL_arePairs_75 : decode cL_arePairs 75 = .ok (.invokestatic 97, 3) := by decide +kernel
theorem dL_arePairs_78 : decode cL_arePairs 78 = .ok (.iconst 0, 1) := by decide +kernel
theorem dL_arePairs_79 : decode cL_arePairs 79 = .ok (.istore 13, 2) := by decide +kernel
theorem dL_arePairs_81 : decode cL_arePairs 81 = .ok (.iconst 1, 1) := by decide +kernel
theorem dL_arePairs_82 : decode cL_arePairs 82 = .ok (.istore 14, 2) := by decide +kernel
theorem dL_arePairs_84 : decode cL_arePairs 84 = .ok (.iconst 1, 1) := by decide +kernel
theorem dL_arePairs_85 : decode cL_arePairs 85 = .ok (.istore 15, 2) := by decide +kernel
theorem dL_arePairs_87 : decode cL_arePairs 87 = .ok (.iconst 0, 1) := by decide +kernel
theorem dL_arePairs_88 : decode cL_arePairs 88 = .ok (.istore 16, 2) := by decide +kernel
theorem dL_arePairs_90 : decode cL_arePairs 90 = .ok (.iload 16, 2) := by decide +kernel
theorem dL_arePairs_92 : decode cL_arePairs 92 = .ok (.bipush 12, 2) := by decide +kernel
theorem dL_arePairs_94 : decode cL_arePairs 94 = .ok (.if_icmp .ge 91, 3) := by decide +kernel
theorem dL_arePairs_97 : decode cL_arePairs 97 = .ok (.iload 13, 2) := by decide +kernel
theorem dL_arePairs_99 : decode cL_arePairs 99 = .ok (.aload 11, 2) := by decide +kernel
theorem dL_arePairs_101 : decode cL_arePairs 101 = .ok (.iload 16, 2) := by decide +kernel
theorem dL_arePairs_103 : decode cL_arePairs 103 = .ok (.iaload, 1) := by decide +kernel
theorem dL_arePairs_104 : decode cL_arePairs 104 = .ok (.aload 12, 2) := by decide +kernel
theorem dL_arePairs_106 : decode cL_arePairs 106 = .ok (.iload 16, 2) := by decide +kernel
theorem dL_arePairs_108 : decode cL_arePairs 108 = .ok (.iaload, 1) := by decide +kernel
theorem dL_arePairs_109 : decode cL_arePairs 109 = .ok (.if_icmp .ne 7, 3) := by decide +kernel
theorem dL_arePairs_112 : decode cL_arePairs 112 = .ok (.iconst 0, 1) := by decide +kernel
theorem dL_arePairs_113 : decode cL_arePairs 113 = .ok (.goto 7, 3) := by decide +kernel
theorem dL_arePairs_116 : decode cL_arePairs 116 = .ok (.iconst 1, 1) := by decide +kernel
theorem dL_arePairs_117 : decode cL_arePairs 117 = .ok (.iload 16, 2) := by decide +kernel
theorem dL_arePairs_119 : decode cL_arePairs 119 = .ok (.ishl, 1) := by decide +kernel
theorem dL_arePairs_120 : decode cL_arePairs 120 = .ok (.ior, 1) := by decide +kernel
theorem dL_arePairs_121 : decode cL_arePairs 121 = .ok (.istore 13, 2) := by decide +kernel
theorem dL_arePairs_123 : decode cL_arePairs 123 = .ok (.iload 14, 2) := by decide +kernel
theorem dL_arePairs_125 : decode cL_arePairs 125 = .ok (.ifCond .eq 26, 3) := by decide +kernel
theorem dL_arePairs_128 : decode cL_arePairs 128 = .ok (.aload 11, 2) := by decide +kernel
theorem dL_arePairs_130 : decode cL_arePairs 130 = .ok (.aload 12, 2) := by decide +kernel
theorem dL_arePairs_132 : decode cL_arePairs 132 = .ok (.iload 16, 2) := by decide +kernel
theorem dL_arePairs_134 : decode cL_arePairs 134 = .ok (.iaload, 1) := by decide +kernel
theorem dL_arePairs_135 : decode cL_arePairs 135 = .ok (.iaload, 1) := by decide +kernel
theorem dL_arePairs_136 : decode cL_arePairs 136 = .ok (.aload 12, 2) := by decide +kernel
theorem dL_arePairs_138 : decode cL_arePairs 138 = .ok (.aload 11, 2) := by decide +kernel
theorem dL_arePairs_140 : decode cL_arePairs 140 = .ok (.iload 16, 2) := by decide +kernel
theorem dL_arePairs_142 : decode cL_arePairs 142 = .ok (.iaload, 1) := by decide +kernel
theorem dL_arePairs_143 : decode cL_arePairs 143 = .ok (.iaload, 1) := by decide +kernel
theorem dL_arePairs_144 : decode cL_arePairs 144 = .ok (.if_icmp .ne 7, 3) := by decide +kernel
theorem dL_arePairs_147 : decode cL_arePairs 147 = .ok (.iconst 1, 1) := by decide +kernel
theorem dL_arePairs_148 : decode cL_arePairs 148 = .ok (.goto 4, 3) := by decide +kernel
theorem dL_arePairs_151 : decode cL_arePairs 151 = .ok (.iconst 0, 1) := by decide +kernel
theorem dL_arePairs_152 : decode cL_arePairs 152 = .ok (.istore 14, 2) := by decide +kernel
theorem dL_arePairs_154 : decode cL_arePairs 154 = .ok (.iload 15, 2) := by decide +kernel
theorem dL_arePairs_156 : decode cL_arePairs 156 = .ok (.ifCond .eq 20, 3) := by decide +kernel
theorem dL_arePairs_159 : decode cL_arePairs 159 = .ok (.aload 12, 2) := by decide +kernel
theorem dL_arePairs_161 : decode cL_arePairs 161 = .ok (.aload 11, 2) := by decide +kernel
theorem dL_arePairs_163 : decode cL_arePairs 163 = .ok (.iload 16, 2) := by decide +kernel
theorem dL_arePairs_165 : decode cL_arePairs 165 = .ok (.iaload, 1) := by decide +kernel
theorem dL_arePairs_166 : decode cL_arePairs 166 = .ok (.iaload, 1) := by decide +kernel
theorem dL_arePairs_167 : decode cL_arePairs 167 = .ok (.iload 16, 2) := by decide +kernel
theorem dL_arePairs_169 : decode cL_arePairs 169 = .ok (.if_icmp .ne 7, 3) := by decide +kernel
theorem dL_arePairs_172 : decode cL_arePairs 172 = .ok (.iconst 1, 1) := by decide +kernel
theorem dL_arePairs_173 : decode cL_arePairs 173 = .ok (.goto 4, 3) := by decide +kernel
theorem dL_arePairs_176 : decode cL_arePairs 176 = .ok (.iconst 0, 1) := by decide +kernel
theorem dL_arePairs_177 : decode cL_arePairs 177 = .ok (.istore 15, 2) := by decide +kernel
theorem dL_arePairs_179 : decode cL_arePairs 179 = .ok (.iinc 16 1, 3) := by decide +kernel
theorem dL_arePairs_182 : decode cL_arePairs 182 = .ok (.goto (-92), 3) := by decide +kernel
theorem dL_arePairs_185 : decode cL_arePairs 185 = .ok (.aload_n 0, 1) := by decide +kernel
theorem dL_arePairs_186 : decode cL_arePairs 186 = .ok (.iload 7, 2) := by decide +kernel
theorem dL_arePairs_188 : decode cL_arePairs 188 = .ok (.iload 8, 2) := by decide +kernel
theorem dL_arePairs_190 : decode cL_arePairs 190 = .ok (.iconst 0, 1) := by decide +kernel
theorem dL_arePairs_191 : decode cL_arePairs 191 = .ok (.invokevirtual 123, 3) := by decide +kernel
theorem dL_arePairs_194 : decode cL_arePairs 194 = .ok (.iload 13, 2) := by decide +kernel
theorem dL_arePairs_196 : decode cL_arePairs 196 = .ok (.ifCond .ne 7, 3) := by decide +kernel
theorem dL_arePairs_199 : decode cL_arePairs 199 = .ok (.iconst 1, 1) := by decide +kernel
theorem dL_arePairs_200 : decode cL_arePairs 200 = .ok (.goto 4, 3) := by decide +kernel
theorem dL_arePairs_203 : decode cL_arePairs 203 = .ok (.iconst 0, 1) := by decide +kernel
theorem dL_arePairs_204 : decode cL_arePairs 204 = .ok (.if_icmp .ne 65, 3) := by decide +kernel
theorem dL_arePairs_207 : decode cL_arePairs 207 = .ok (.aload_n 0, 1) := by decide +kernel
theorem dL_arePairs_208 : decode cL_arePairs 208 = .ok (.iload 7, 2) := by decide +kernel
theorem dL_arePairs_210 : decode cL_arePairs 210 = .ok (.iload 8, 2) := by decide +kernel
theorem dL_arePairs_212 : decode cL_arePairs 212 = .ok (.iconst 1, 1) := by decide +kernel
theorem dL_arePairs_213 : decode cL_arePairs 213 = .ok (.invokevirtual 123, 3) := by decide +kernel
theorem dL_arePairs_216 : decode cL_arePairs 216 = .ok (.iload 14, 2) := by decide +kernel
theorem dL_arePairs_218 : decode cL_arePairs 218 = .ok (.ifCond .eq 7, 3) := by decide +kernel
theorem dL_arePairs_221 : decode cL_arePairs 221 = .ok (.iconst 1, 1) := by decide +kernel
theorem dL_arePairs_222 : decode cL_arePairs 222 = .ok (.goto 4, 3) := by decide +kernel
theorem dL_arePairs_225 : decode cL_arePairs 225 = .ok (.iconst 0, 1) := by decide +kernel
theorem dL_arePairs_226 : decode cL_arePairs 226 = .ok (.if_icmp .ne 43, 3) := by decide +kernel
theorem dL_arePairs_229 : decode cL_arePairs 229 = .ok (.aload_n 0, 1) := by decide +kernel
theorem dL_arePairs_230 : decode cL_arePairs 230 = .ok (.iload 7, 2) := by decide +kernel
theorem dL_arePairs_232 : decode cL_arePairs 232 = .ok (.iload 8, 2) := by decide +kernel
theorem dL_arePairs_234 : decode cL_arePairs 234 = .ok (.iconst 2, 1) := by decide +kernel
theorem dL_arePairs_235 : decode cL_arePairs 235 = .ok (.invokevirtual 123, 3) := by decide +kernel
theorem dL_arePairs_238 : decode cL_arePairs 238 = .ok (.iload 15, 2) := by decide +kernel
theorem dL_arePairs_240 : decode cL_arePairs 240 = .ok (.ifCond .eq 7, 3) := by decide +kernel
theorem dL_arePairs_243 : decode cL_arePairs 243 = .ok (.iconst 1, 1) := by decide +kernel
theorem dL_arePairs_244 : decode cL_arePairs 244 = .ok (.goto 4, 3) := by decide +kernel
theorem dL_arePairs_247 : decode cL_arePairs 247 = .ok (.iconst 0, 1) := by decide +kernel
theorem dL_arePairs_248 : decode cL_arePairs 248 = .ok (.if_icmp .ne 21, 3) := by decide +kernel
theorem dL_arePairs_251 : decode cL_arePairs 251 = .ok (.aload_n 0, 1) := by decide +kernel
theorem dL_arePairs_252 : decode cL_arePairs 252 = .ok (.iload 7, 2) := by decide +kernel
theorem dL_arePairs_254 : decode cL_arePairs 254 = .ok (.iload 8, 2) := by decide +kernel
theorem dL_arePairs_256 : decode cL_arePairs 256 = .ok (.iconst 3, 1) := by decide +kernel
theorem dL_arePairs_257 : decode cL_arePairs 257 = .ok (.invokevirtual 123, 3) := by decide +kernel
theorem dL_arePairs_260 : decode cL_arePairs 260 = .ok (.iload 13, 2) := by decide +kernel
theorem dL_arePairs_262 : decode cL_arePairs 262 = .ok (.if_icmp .ne 7, 3) := by decide +kernel
theorem dL_arePairs_265 : decode cL_arePairs 265 = .ok (.iconst 1, 1) := by decide +kernel
theorem dL_arePairs_266 : decode cL_arePairs 266 = .ok (.goto 4, 3) := by decide +kernel
theorem dL_arePairs_269 : decode cL_arePairs 269 = .ok (.iconst 0, 1) := by decide +kernel
theorem dL_arePairs_270 : decode cL_arePairs 270 = .ok (.istore 16, 2) := by decide +kernel
theorem dL_arePairs_272 : decode cL_arePairs 272 = .ok (.sipush 4095, 3) := by decide +kernel
theorem dL_arePairs_275 : decode cL_arePairs 275 = .ok (.istore 17, 2) := by decide +kernel
theorem dL_arePairs_277 : decode cL_arePairs 277 = .ok (.iconst 1, 1) := by decide +kernel
theorem dL_arePairs_278 : decode cL_arePairs 278 = .ok (.iload 10, 2) := by decide +kernel
theorem dL_arePairs_280 : decode cL_arePairs 280 = .ok (.ishl, 1) := by decide +kernel
theorem dL_arePairs_281 : decode cL_arePairs 281 = .ok (.istore 18, 2) := by decide +kernel
theorem dL_arePairs_283 : decode cL_arePairs 283 = .ok (.iconst 0, 1) := by decide +kernel
theorem dL_arePairs_284 : decode cL_arePairs 284 = .ok (.istore 19, 2) := by decide +kernel
theorem dL_arePairs_286 : decode cL_arePairs 286 = .ok (.iconst (-1), 1) := by decide +kernel
theorem dL_arePairs_287 : decode cL_arePairs 287 = .ok (.istore 20, 2) := by decide +kernel
theorem dL_arePairs_289 : decode cL_arePairs 289 = .ok (.iconst 0, 1) := by decide +kernel
theorem dL_arePairs_290 : decode cL_arePairs 290 = .ok (.istore 21, 2) := by decide +kernel
theorem dL_arePairs_292 : decode cL_arePairs 292 = .ok (.iload 21, 2) := by decide +kernel
theorem dL_arePairs_294 : decode cL_arePairs 294 = .ok (.bipush 12, 2) := by decide +kernel
theorem dL_arePairs_296 : decode cL_arePairs 296 = .ok (.if_icmp .ge 182, 3) := by decide +kernel
theorem dL_arePairs_299 : decode cL_arePairs 299 = .ok (.iconst 0, 1) := by decide +kernel
theorem dL_arePairs_300 : decode cL_arePairs 300 = .ok (.istore 22, 2) := by decide +kernel
theorem dL_arePairs_302 : decode cL_arePairs 302 = .ok (.iload 22, 2) := by decide +kernel
theorem dL_arePairs_304 : decode cL_arePairs 304 = .ok (.bipush 6, 2) := by decide +kernel
theorem dL_arePairs_306 : decode cL_arePairs 306 = .ok (.if_icmp .ge 166, 3) := by decide +kernel
theorem dL_arePairs_309 : decode cL_arePairs 309 = .ok (.iload 22, 2) := by decide +kernel
theorem dL_arePairs_311 : decode cL_arePairs 311 = .ok (.aload_n 2, 1) := by decide +kernel
theorem dL_arePairs_312 : decode cL_arePairs 312 = .ok (.aload_n 3, 1) := by decide +kernel
theorem dL_arePairs_313 : decode cL_arePairs 313 = .ok (.aload 5, 2) := by decide +kernel
theorem dL_arePairs_315 : decode cL_arePairs 315 = .ok (.aload 6, 2) := by decide +kernel
theorem dL_arePairs_317 : decode cL_arePairs 317 = .ok (.aload 11, 2) := by decide +kernel
theorem dL_arePairs_319 : decode cL_arePairs 319 = .ok (.invokestatic 97, 3) := by decide +kernel
theorem dL_arePairs_322 : decode cL_arePairs 322 = .ok (.iconst 0, 1) := by decide +kernel
theorem dL_arePairs_323 : decode cL_arePairs 323 = .ok (.istore 23, 2) := by decide +kernel
theorem dL_arePairs_325 : decode cL_arePairs 325 = .ok (.iload 23, 2) := by decide +kernel
theorem dL_arePairs_327 : decode cL_arePairs 327 = .ok (.bipush 12, 2) := by decide +kernel
theorem dL_arePairs_329 : decode cL_arePairs 329 = .ok (.if_icmp .ge 96, 3) := by decide +kernel
theorem dL_arePairs_332 : decode cL_arePairs 332 = .ok (.iload 17, 2) := by decide +kernel
theorem dL_arePairs_334 : decode cL_arePairs 334 = .ok (.iload 9, 2) := by decide +kernel
theorem dL_arePairs_336 : decode cL_arePairs 336 = .ok (.iload 22, 2) := by decide +kernel
theorem dL_arePairs_338 : decode cL_arePairs 338 = .ok (.ishr, 1) := by decide +kernel
theorem dL_arePairs_339 : decode cL_arePairs 339 = .ok (.iconst 1, 1) := by decide +kernel
theorem dL_arePairs_340 : decode cL_arePairs 340 = .ok (.iand, 1) := by decide +kernel
theorem dL_arePairs_341 : decode cL_arePairs 341 = .ok (.iconst 1, 1) := by decide +kernel
theorem dL_arePairs_342 : decode cL_arePairs 342 = .ok (.if_icmp .ne 22, 3) := by decide +kernel
theorem dL_arePairs_345 : decode cL_arePairs 345 = .ok (.aload 11, 2) := by decide +kernel
theorem dL_arePairs_347 : decode cL_arePairs 347 = .ok (.iload 23, 2) := by decide +kernel
theorem dL_arePairs_349 : decode cL_arePairs 349 = .ok (.iaload, 1) := by decide +kernel
theorem dL_arePairs_350 : decode cL_arePairs 350 = .ok (.iload 23, 2) := by decide +kernel
theorem dL_arePairs_352 : decode cL_arePairs 352 = .ok (.if_icmp .eq 12, 3) := by decide +kernel
theorem dL_arePairs_355 : decode cL_arePairs 355 = .ok (.iconst 1, 1) := by decide +kernel
theorem dL_arePairs_356 : decode cL_arePairs 356 = .ok (.iload 23, 2) := by decide +kernel
theorem dL_arePairs_358 : decode cL_arePairs 358 = .ok (.ishl, 1) := by decide +kernel
theorem dL_arePairs_359 : decode cL_arePairs 359 = .ok (.iconst (-1), 1) := by decide +kernel
theorem dL_arePairs_360 : decode cL_arePairs 360 = .ok (.ixor, 1) := by decide +kernel
theorem dL_arePairs_361 : decode cL_arePairs 361 = .ok (.goto 4, 3) := by decide +kernel
theorem dL_arePairs_364 : decode cL_arePairs 364 = .ok (.iconst (-1), 1) := by decide +kernel
theorem dL_arePairs_365 : decode cL_arePairs 365 = .ok (.iand, 1) := by decide +kernel
theorem dL_arePairs_366 : decode cL_arePairs 366 = .ok (.istore 17, 2) := by decide +kernel
theorem dL_arePairs_368 : decode cL_arePairs 368 = .ok (.iload 18, 2) := by decide +kernel
theorem dL_arePairs_370 : decode cL_arePairs 370 = .ok (.iload 9, 2) := by decide +kernel
theorem dL_arePairs_372 : decode cL_arePairs 372 = .ok (.iload 22, 2) := by decide +kernel
theorem dL_arePairs_374 : decode cL_arePairs 374 = .ok (.ishr, 1) := by decide +kernel
theorem dL_arePairs_375 : decode cL_arePairs 375 = .ok (.iconst 1, 1) := by decide +kernel
theorem dL_arePairs_376 : decode cL_arePairs 376 = .ok (.iand, 1) := by decide +kernel
theorem dL_arePairs_377 : decode cL_arePairs 377 = .ok (.iconst 1, 1) := by decide +kernel
theorem dL_arePairs_378 : decode cL_arePairs 378 = .ok (.if_icmp .ne 24, 3) := by decide +kernel
theorem dL_arePairs_381 : decode cL_arePairs 381 = .ok (.iload 18, 2) := by decide +kernel
theorem dL_arePairs_383 : decode cL_arePairs 383 = .ok (.iload 23, 2) := by decide +kernel
theorem dL_arePairs_385 : decode cL_arePairs 385 = .ok (.ishr, 1) := by decide +kernel
theorem dL_arePairs_386 : decode cL_arePairs 386 = .ok (.iconst 1, 1) := by decide +kernel
theorem dL_arePairs_387 : decode cL_arePairs 387 = .ok (.iand, 1) := by decide +kernel
theorem dL_arePairs_388 : decode cL_arePairs 388 = .ok (.iconst 1, 1) := by decide +kernel
theorem dL_arePairs_389 : decode cL_arePairs 389 = .ok (.if_icmp .ne 13, 3) := by decide +kernel
theorem dL_arePairs_392 : decode cL_arePairs 392 = .ok (.iconst 1, 1) := by decide +kernel
theorem dL_arePairs_393 : decode cL_arePairs 393 = .ok (.aload 11, 2) := by decide +kernel
theorem dL_arePairs_395 : decode cL_arePairs 395 = .ok (.iload 23, 2) := by decide +kernel
theorem dL_arePairs_397 : decode cL_arePairs 397 = .ok (.iaload, 1) := by decide +kernel
theorem dL_arePairs_398 : decode cL_arePairs 398 = .ok (.ishl, 1) := by decide +kernel
theorem dL_arePairs_399 : decode cL_arePairs 399 = .ok (.goto 4, 3) := by decide +kernel
theorem dL_arePairs_402 : decode cL_arePairs 402 = .ok (.iconst 0, 1) := by decide +kernel
theorem dL_arePairs_403 : decode cL_arePairs 403 = .ok (.ior, 1) := by decide +kernel
theorem dL_arePairs_404 : decode cL_arePairs 404 = .ok (.istore 18, 2) := by decide +kernel
theorem dL_arePairs_406 : decode cL_arePairs 406 = .ok (.aload 12, 2) := by decide +kernel
theorem dL_arePairs_408 : decode cL_arePairs 408 = .ok (.aload 11, 2) := by decide +kernel
theorem dL_arePairs_410 : decode cL_arePairs 410 = .ok (.iload 23, 2) := by decide +kernel
theorem dL_arePairs_412 : decode cL_arePairs 412 = .ok (.iaload, 1) := by decide +kernel
theorem dL_arePairs_413 : decode cL_arePairs 413 = .ok (.aload 4, 2) := by decide +kernel
theorem dL_arePairs_415 : decode cL_arePairs 415 = .ok (.iload 23, 2) := by decide +kernel
theorem dL_arePairs_417 : decode cL_arePairs 417 = .ok (.iaload, 1) := by decide +kernel
theorem dL_arePairs_418 : decode cL_arePairs 418 = .ok (.iastore, 1) := by decide +kernel
theorem dL_arePairs_419 : decode cL_arePairs 419 = .ok (.iinc 23 1, 3) := by decide +kernel
theorem dL_arePairs_422 : decode cL_arePairs 422 = .ok (.goto (-97), 3) := by decide +kernel
theorem dL_arePairs_425 : decode cL_arePairs 425 = .ok (.aload 12, 2) := by decide +kernel
theorem dL_arePairs_427 : decode cL_arePairs 427 = .ok (.invokestatic 105, 3) := by decide +kernel
theorem dL_arePairs_430 : decode cL_arePairs 430 = .ok (.iload 20, 2) := by decide +kernel
theorem dL_arePairs_432 : decode cL_arePairs 432 = .ok (.if_icmp .le 8, 3) := by decide +kernel
theorem dL_arePairs_435 : decode cL_arePairs 435 = .ok (.iload 22, 2) := by decide +kernel
theorem dL_arePairs_437 : decode cL_arePairs 437 = .ok (.goto 5, 3) := by decide +kernel
theorem dL_arePairs_440 : decode cL_arePairs 440 = .ok (.iload 19, 2) := by decide +kernel
theorem dL_arePairs_442 : decode cL_arePairs 442 = .ok (.istore 19, 2) := by decide +kernel
theorem dL_arePairs_444 : decode cL_arePairs 444 = .ok (.aload 12, 2) := by decide +kernel
theorem dL_arePairs_446 : decode cL_arePairs 446 = .ok (.invokestatic 105, 3) := by decide +kernel
theorem dL_arePairs_449 : decode cL_arePairs 449 = .ok (.iload 20, 2) := by decide +kernel
theorem dL_arePairs_451 : decode cL_arePairs 451 = .ok (.if_icmp .le 11, 3) := by decide +kernel
theorem dL_arePairs_454 : decode cL_arePairs 454 = .ok (.aload 12, 2) := by decide +kernel
theorem dL_arePairs_456 : decode cL_arePairs 456 = .ok (.invokestatic 105, 3) := by decide +kernel
theorem dL_arePairs_459 : decode cL_arePairs 459 = .ok (.goto 5, 3) := by decide +kernel
theorem dL_arePairs_462 : decode cL_arePairs 462 = .ok (.iload 20, 2) := by decide +kernel
theorem dL_arePairs_464 : decode cL_arePairs 464 = .ok (.istore 20, 2) := by decide +kernel
theorem dL_arePairs_466 : decode cL_arePairs 466 = .ok (.iinc 22 1, 3) := by decide +kernel
theorem dL_arePairs_469 : decode cL_arePairs 469 = .ok (.goto (-167), 3) := by decide +kernel
theorem dL_arePairs_472 : decode cL_arePairs 472 = .ok (.iinc 21 1, 3) := by decide +kernel
theorem dL_arePairs_475 : decode cL_arePairs 475 = .ok (.goto (-183), 3) := by decide +kernel
theorem dL_arePairs_478 : decode cL_arePairs 478 = .ok (.iload 16, 2) := by decide +kernel
theorem dL_arePairs_480 : decode cL_arePairs 480 = .ok (.ifCond .eq 51, 3) := by decide +kernel
theorem dL_arePairs_483 : decode cL_arePairs 483 = .ok (.aload_n 0, 1) := by decide +kernel
theorem dL_arePairs_484 : decode cL_arePairs 484 = .ok (.iload 9, 2) := by decide +kernel
theorem dL_arePairs_486 : decode cL_arePairs 486 = .ok (.invokevirtual 126, 3) := by decide +kernel
theorem dL_arePairs_489 : decode cL_arePairs 489 = .ok (.iload 17, 2) := by decide +kernel
theorem dL_arePairs_491 : decode cL_arePairs 491 = .ok (.if_icmp .ne 40, 3) := by decide +kernel
theorem dL_arePairs_494 : decode cL_arePairs 494 = .ok (.aload_n 0, 1) := by decide +kernel
theorem dL_arePairs_495 : decode cL_arePairs 495 = .ok (.iload 9, 2) := by decide +kernel
theorem dL_arePairs_497 : decode cL_arePairs 497 = .ok (.iload 10, 2) := by decide +kernel
theorem dL_arePairs_499 : decode cL_arePairs 499 = .ok (.invokevirtual 129, 3) := by decide +kernel
theorem dL_arePairs_502 : decode cL_arePairs 502 = .ok (.iload 18, 2) := by decide +kernel
theorem dL_arePairs_504 : decode cL_arePairs 504 = .ok (.if_icmp .ne 27, 3) := by decide +kernel
theorem dL_arePairs_507 : decode cL_arePairs 507 = .ok (.aload_n 0, 1) := by decide +kernel
theorem dL_arePairs_508 : decode cL_arePairs 508 = .ok (.iconst 0, 1) := by decide +kernel
theorem dL_arePairs_509 : decode cL_arePairs 509 = .ok (.invokevirtual 132, 3) := by decide +kernel
theorem dL_arePairs_512 : decode cL_arePairs 512 = .ok (.iload 19, 2) := by decide +kernel
theorem dL_arePairs_514 : decode cL_arePairs 514 = .ok (.if_icmp .ne 17, 3) := by decide +kernel
theorem dL_arePairs_517 : decode cL_arePairs 517 = .ok (.aload_n 0, 1) := by decide +kernel
theorem dL_arePairs_518 : decode cL_arePairs 518 = .ok (.iconst 1, 1) := by decide +kernel
theorem dL_arePairs_519 : decode cL_arePairs 519 = .ok (.invokevirtual 132, 3) := by decide +kernel
theorem dL_arePairs_522 : decode cL_arePairs 522 = .ok (.iload 20, 2) := by decide +kernel
theorem dL_arePairs_524 : decode cL_arePairs 524 = .ok (.if_icmp .ne 7, 3) := by decide +kernel
theorem dL_arePairs_527 : decode cL_arePairs 527 = .ok (.iconst 1, 1) := by decide +kernel
theorem dL_arePairs_528 : decode cL_arePairs 528 = .ok (.goto 4, 3) := by decide +kernel
theorem dL_arePairs_531 : decode cL_arePairs 531 = .ok (.iconst 0, 1) := by decide +kernel
theorem dL_arePairs_532 : decode cL_arePairs 532 = .ok (.ireturn, 1) := by decide +kernel
set_option maxRecDepth 20000 in
theorem ggL_isSo_X7_place : GoodIn wsL_isSo wsX7_place := goodIn_r _ [5, 6, 7, 8, 9, 10, 4, 11, 12, 13, 14, 15, 16, 17, 18, 19, 20, 21, 22, 23, 24, 25, 26, 27, 28, 29, 30, 31, 32, 33, 34, 35, 36, 185, 186, 187, 188, 189, 190, 191, 192, 193, 194, 195, 196, 197] (by decide +kernel) (by decide +kernel)
set_option maxRecDepth 20000 in
theorem gL_isSo_X7_place : GoodIn wsL_isSo (wsV RL 30 RX7 yX7_place wsX7_place) := goodIn_app (goodIn_of _ (by decide +kernel)) ggL_isSo_X7_place
set_option maxRecDepth 20000 in
theorem ggL_isSo_X7_treadle : GoodIn wsL_isSo wsX7_treadle := goodIn_r _ [40, 6, 41, 9, 10, 4, 11, 42, 43, 44, 19, 45, 32, 33, 34, 13, 14, 15, 35, 36, 185, 186, 187, 188, 189, 190, 191, 192, 193, 194, 195, 196, 197] (by decide +kernel) (by decide +kernel)
set_option maxRecDepth 20000 in
theorem gL_isSo_X7_treadle : GoodIn wsL_isSo (wsV RL 38 RX7 yX7_treadle wsX7_treadle) := goodIn_app (goodIn_of _ (by decide +kernel)) ggL_isSo_X7_treadle
set_option maxRecDepth 20000 in
theorem ggL_isSo_L_raised : GoodIn wsL_isSo wsL_raised := goodIn_r _ [49] (by decide +kernel) (by decide +kernel)
set_option maxRecDepth 20000 in
theorem gL_isSo_L_raised : GoodIn wsL_isSo (va_wsS RL 10 yL_raised wsL_raised) := goodIn_app (goodIn_of _ (by decide +kernel)) ggL_isSo_L_raised
set_option maxRecDepth 20000 in
theorem ggL_isSo_X7_count : GoodIn wsL_isSo wsX7_count := goodIn_r _ [53, 6, 8, 54, 55, 56, 57, 58, 59, 60, 61, 25, 62, 63, 64, 65, 66, 27, 13, 14, 15, 67, 68, 69, 70, 71, 72, 73, 74, 75, 76, 19, 77, 78, 43, 44, 45, 32, 33, 10, 4, 11, 34, 35, 36, 79, 80, 81, 82, 83, 84, 185, 186, 187, 188, 189, 190, 191, 192, 193, 194, 195, 196, 197, 198, 199, 200, 201, 202, 203] (by decide +kernel) (by decide +kernel)
set_option maxRecDepth 20000 in
theorem gL_isSo_X7_count : GoodIn wsL_isSo (wsV RL 46 RX7 yX7_count wsX7_count) := goodIn_app (goodIn_of _ (by decide +kernel)) ggL_isSo_X7_count
set_option maxRecDepth 20000 in
theorem ggL_isSo_L_home : GoodIn wsL_isSo wsL_home := goodIn_r _ [87] (by decide +kernel) (by decide +kernel)
set_option maxRecDepth 20000 in
theorem gL_isSo_L_home : GoodIn wsL_isSo (va_wsS RL 105 yL_home wsL_home) := goodIn_app (goodIn_of _ (by decide +kernel)) ggL_isSo_L_home
set_option maxRecDepth 20000 in
theorem ggL_isSo_L_low : GoodIn wsL_isSo wsL_low := goodIn_r _ [90, 91] (by decide +kernel) (by decide +kernel)
set_option maxRecDepth 20000 in
theorem gL_isSo_L_low : GoodIn wsL_isSo (va_wsS RL 54 yL_low wsL_low) := goodIn_app (goodIn_of _ (by decide +kernel)) ggL_isSo_L_low
set_option maxRecDepth 20000 in
theorem ggL_isSo_L_isDraft : GoodIn wsL_isSo wsL_isDraft := goodIn_cons (List.mem_of_getElem? (i := 94) rfl) rfl (goodIn_app (goodIn_app (goodIn_app (goodIn_app (goodIn_r _ [95, 96, 97, 98, 48, 99, 100, 101, 102, 103, 104, 105, 46, 47, 49, 85, 86, 87, 106, 107, 108, 88, 89, 90] (by decide +kernel) (by decide +kernel)) (goodIn_app (goodIn_r _ [91, 109, 110, 111, 4, 112, 6, 113, 114, 115, 116, 117, 19, 118, 83, 10, 11, 119, 120, 121, 122, 123, 84, 124] (by decide +kernel) (by decide +kernel)) (goodIn_app (goodIn_r _ [125, 126, 127, 128, 129, 130, 131, 132, 133, 134, 78, 43, 44, 45, 32, 33, 34, 13, 14, 15, 35, 36, 135, 136] (by decide +kernel) (by decide +kernel)) (goodIn_app (goodIn_r _ [25, 137, 63, 138, 139, 140, 141, 142, 143, 144, 145, 146, 147, 148, 149, 23, 24, 26, 27, 150, 151, 152, 153, 65] (by decide +kernel) (by decide +kernel)) (goodIn_app (goodIn_r _ [66, 154, 155, 156, 157, 158, 159, 160, 161, 162, 67, 68, 69, 70, 71, 72, 73, 163, 164, 165, 16, 17, 18, 20] (by decide +kernel) (by decide +kernel)) (goodIn_r _ [21, 22, 166, 167, 168, 169, 8, 9, 170, 171, 172, 173, 174, 175, 176, 177, 178, 179, 12, 180, 181, 182, 183, 184] (by decide +kernel) (by decide +kernel))))))) (goodIn_r _ [185, 186, 187, 188, 189, 190] (by decide +kernel) (by decide +kernel))) (goodIn_r _ [202, 203] (by decide +kernel) (by decide +kernel))) (goodIn_r _ [191, 192, 193, 194, 195, 196, 197] (by decide +kernel) (by decide +kernel)))
set_option maxRecDepth 20000 in
theorem gL_isSo_L_isDraft : GoodIn wsL_isSo (va_wsS RL 135 yL_isDraft wsL_isDraft) := goodIn_app (goodIn_of _ (by decide +kernel)) ggL_isSo_L_isDraft
theorem dL_isSo_0 : decode cL_isSo 0 = .ok (.iconst 0, 1) := by decide +kernel
theorem dL_isSo_1 : decode cL_isSo 1 = .ok (.istore 8, 2) := by decide +kernel
theorem dL_isSo_3 : decode cL_isSo 3 = .ok (.iconst 0, 1) := by decide +kernel
theorem dL_isSo_4 : decode cL_isSo 4 = .ok (.istore 9, 2) := by decide +kernel
theorem dL_isSo_6 : decode cL_isSo 6 = .ok (.iconst 0, 1) := by decide +kernel
theorem dL_isSo_7 : decode cL_isSo 7 = .ok (.istore 10, 2) := by decide +kernel
theorem dL_isSo_9 : decode cL_isSo 9 = .ok (.iload 10, 2) := by decide +kernel
theorem dL_isSo_11 : decode cL_isSo 11 = .ok (.bipush 12, 2) := by decide +kernel
theorem dL_isSo_13 : decode cL_isSo 13 = .ok (.if_icmp .ge 126, 3) := by decide +kernel
theorem dL_isSo_16 : decode cL_isSo 16 = .ok (.iconst 0, 1) := by decide +kernel
theorem dL_isSo_17 : decode cL_isSo 17 = .ok (.istore 11, 2) := by decide +kernel
theorem dL_isSo_19 : decode cL_isSo 19 = .ok (.iconst 0, 1) := by decide +kernel
theorem dL_isSo_20 : decode cL_isSo 20 = .ok (.istore 12, 2) := by decide +kernel
theorem dL_isSo_22 : decode cL_isSo 22 = .ok (.iload 12, 2) := by decide +kernel
theorem dL_isSo_24 : decode cL_isSo 24 = .ok (.bipush 6, 2) := by decide +kernel
theorem dL_isSo_26 : decode cL_isSo 26 = .ok (.if_icmp .ge 28, 3) := by decide +kernel
theorem dL_isSo_29 : decode cL_isSo 29 = .ok (.iload 11, 2) := by decide +kernel
theorem dL_isSo_31 : decode cL_isSo 31 = .ok (.aload_n 3, 1) := by decide +kernel
theorem dL_isSo_32 : decode cL_isSo 32 = .ok (.iload 12, 2) := by decide +kernel
theorem dL_isSo_34 : decode cL_isSo 34 = .ok (.iaload, 1) := by decide +kernel
theorem dL_isSo_35 : decode cL_isSo 35 = .ok (.aload_n 2, 1) := by decide +kernel
theorem dL_isSo_36 : decode cL_isSo 36 = .ok (.iload 10, 2) := by decide +kernel
theorem dL_isSo_38 : decode cL_isSo 38 = .ok (.iaload, 1) := by decide +kernel
theorem dL_isSo_39 : decode cL_isSo 39 = .ok (.ishr, 1) := by decide +kernel
theorem dL_isSo_40 : decode cL_isSo 40 = .ok (.iconst 1, 1) := by decide +kernel
theorem dL_isSo_41 : decode cL_isSo 41 = .ok (.iand, 1) := by decide +kernel
theorem dL_isSo_42 : decode cL_isSo 42 = .ok (.iload 12, 2) := by decide +kernel
theorem dL_isSo_44 : decode cL_isSo 44 = .ok (.ishl, 1) := by decide +kernel
theorem dL_isSo_45 : decode cL_isSo 45 = .ok (.ior, 1) := by decide +kernel
theorem dL_isSo_46 : decode cL_isSo 46 = .ok (.istore 11, 2) := by decide +kernel
theorem dL_isSo_48 : decode cL_isSo 48 = .ok (.iinc 12 1, 3) := by decide +kernel
theorem dL_isSo_51 : decode cL_isSo 51 = .ok (.goto (-29), 3) := by decide +kernel
theorem dL_isSo_54 : decode cL_isSo 54 = .ok (.iload 8, 2) := by decide +kernel
theorem dL_isSo_56 : decode cL_isSo 56 = .ok (.iload 11, 2) := by decide +kernel
theorem dL_isSo_58 : decode cL_isSo 58 = .ok (.ifCond .ne 10, 3) := by decide +kernel
theorem dL_isSo_61 : decode cL_isSo 61 = .ok (.iconst 1, 1) := by decide +kernel
theorem dL_isSo_62 : decode cL_isSo 62 = .ok (.iload 10, 2) := by decide +kernel
theorem dL_isSo_64 : decode cL_isSo 64 = .ok (.ishl, 1) := by decide +kernel
theorem dL_isSo_65 : decode cL_isSo 65 = .ok (.goto 4, 3) := by decide +kernel
theorem dL_isSo_68 : decode cL_isSo 68 = .ok (.iconst 0, 1) := by decide +kernel
theorem dL_isSo_69 : decode cL_isSo 69 = .ok (.ior, 1) := by decide +kernel
theorem dL_isSo_70 : decode cL_isSo 70 = .ok (.istore 8, 2) := by decide +kernel
theorem dL_isSo_72 : decode cL_isSo 72 = .ok (.aload_n 0, 1) := by decide +kernel
theorem dL_isSo_73 : decode cL_isSo 73 = .ok (.iload 10, 2) := by decide +kernel
theorem dL_isSo_75 : decode cL_isSo 75 = .ok (.iconst 0, 1) := by decide +kernel
theorem dL_isSo_76 : decode cL_isSo 76 = .ok (.invokevirtual 30, 3) := by decide +kernel
theorem dL_isSo_79 : decode cL_isSo 79 = .ok (.aload_n 2, 1) := by decide +kernel
theorem dL_isSo_80 : decode cL_isSo 80 = .ok (.iload 10, 2) := by decide +kernel
theorem dL_isSo_82 : decode cL_isSo 82 = .ok (.iaload, 1) := by decide +kernel
theorem dL_isSo_83 : decode cL_isSo 83 = .ok (.if_icmp .ne 48, 3) := by decide +kernel
theorem dL_isSo_86 : decode cL_isSo 86 = .ok (.aload_n 0, 1) := by decide +kernel
theorem dL_isSo_87 : decode cL_isSo 87 = .ok (.iload 10, 2) := by decide +kernel
theorem dL_isSo_89 : decode cL_isSo 89 = .ok (.iconst 1, 1) := by decide +kernel
theorem dL_isSo_90 : decode cL_isSo 90 = .ok (.invokevirtual 30, 3) := by decide +kernel
theorem dL_isSo_93 : decode cL_isSo 93 = .ok (.aload 4, 2) := by decide +kernel
theorem dL_isSo_95 : decode cL_isSo 95 = .ok (.iload 10, 2) := by decide +kernel
theorem dL_isSo_97 : decode cL_isSo 97 = .ok (.iaload, 1) := by decide +kernel
theorem dL_isSo_98 : decode cL_isSo 98 = .ok (.if_icmp .ne 33, 3) := by decide +kernel
theorem dL_isSo_101 : decode cL_isSo 101 = .ok (.aload_n 0, 1) := by decide +kernel
theorem dL_isSo_102 : decode cL_isSo 102 = .ok (.iload 10, 2) := by decide +kernel
theorem dL_isSo_104 : decode cL_isSo 104 = .ok (.iconst 2, 1) := by decide +kernel
theorem dL_isSo_105 : decode cL_isSo 105 = .ok (.invokevirtual 30, 3) := by decide +kernel
theorem dL_isSo_108 : decode cL_isSo 108 = .ok (.aload 5, 2) := by decide +kernel
theorem dL_isSo_110 : decode cL_isSo 110 = .ok (.aload 4, 2) := by decide +kernel
theorem dL_isSo_112 : decode cL_isSo 112 = .ok (.iload 10, 2) := by decide +kernel
theorem dL_isSo_114 : decode cL_isSo 114 = .ok (.iaload, 1) := by decide +kernel
theorem dL_isSo_115 : decode cL_isSo 115 = .ok (.iaload, 1) := by decide +kernel
theorem dL_isSo_116 : decode cL_isSo 116 = .ok (.if_icmp .ne 15, 3) := by decide +kernel
theorem dL_isSo_119 : decode cL_isSo 119 = .ok (.aload_n 0, 1) := by decide +kernel
theorem dL_isSo_120 : decode cL_isSo 120 = .ok (.iload 10, 2) := by decide +kernel
theorem dL_isSo_122 : decode cL_isSo 122 = .ok (.iconst 3, 1) := by decide +kernel
theorem dL_isSo_123 : decode cL_isSo 123 = .ok (.invokevirtual 30, 3) := by decide +kernel
theorem dL_isSo_126 : decode cL_isSo 126 = .ok (.iload 11, 2) := by decide +kernel
theorem dL_isSo_128 : decode cL_isSo 128 = .ok (.if_icmp .eq 5, 3) := by decide +kernel
theorem dL_isSo_131 : decode cL_isSo 131 = .ok (.iconst 0, 1) := by decide +kernel
theorem dL_isSo_132 : decode cL_isSo 132 = .ok (.ireturn, 1) := by decide +kernel
theorem dL_isSo_133 : decode cL_isSo 133 = .ok (.iinc 10 1, 3) := by decide +kernel
theorem dL_isSo_136 : decode cL_isSo 136 = .ok (.goto (-127), 3) := by decide +kernel
theorem dL_isSo_139 : decode cL_isSo 139 = .ok (.iconst 0, 1) := by decide +kernel
theorem dL_isSo_140 : decode cL_isSo 140 = .ok (.istore 10, 2) := by decide +kernel
theorem dL_isSo_142 : decode cL_isSo 142 = .ok (.iload 10, 2) := by decide +kernel
theorem dL_isSo_144 : decode cL_isSo 144 = .ok (.bipush 6, 2) := by decide +kernel
theorem dL_isSo_146 : decode cL_isSo 146 = .ok (.if_icmp .ge 63, 3) := by decide +kernel
theorem dL_isSo_149 : decode cL_isSo 149 = .ok (.iload 9, 2) := by decide +kernel
theorem dL_isSo_151 : decode cL_isSo 151 = .ok (.aload 6, 2) := by decide +kernel
theorem dL_isSo_153 : decode cL_isSo 153 = .ok (.iload 10, 2) := by decide +kernel
theorem dL_isSo_155 : decode cL_isSo 155 = .ok (.iaload, 1) := by decide +kernel
theorem dL_isSo_156 : decode cL_isSo 156 = .ok (.ifCond .le 10, 3) := by decide +kernel
theorem dL_isSo_159 : decode cL_isSo 159 = .ok (.iconst 1, 1) := by decide +kernel
theorem dL_isSo_160 : decode cL_isSo 160 = .ok (.iload 10, 2) := by decide +kernel
theorem dL_isSo_162 : decode cL_isSo 162 = .ok (.ishl, 1) := by decide +kernel
theorem dL_isSo_163 : decode cL_isSo 163 = .ok (.goto 4, 3) := by decide +kernel
theorem dL_isSo_166 : decode cL_isSo 166 = .ok (.iconst 0, 1) := by decide +kernel
theorem dL_isSo_167 : decode cL_isSo 167 = .ok (.ior, 1) := by decide +kernel
theorem dL_isSo_168 : decode cL_isSo 168 = .ok (.istore 9, 2) := by decide +kernel
theorem dL_isSo_170 : decode cL_isSo 170 = .ok (.aload_n 0, 1) := by decide +kernel
theorem dL_isSo_171 : decode cL_isSo 171 = .ok (.iload 10, 2) := by decide +kernel
theorem dL_isSo_173 : decode cL_isSo 173 = .ok (.iconst 0, 1) := by decide +kernel
theorem dL_isSo_174 : decode cL_isSo 174 = .ok (.invokevirtual 38, 3) := by decide +kernel
theorem dL_isSo_177 : decode cL_isSo 177 = .ok (.aload_n 3, 1) := by decide +kernel
theorem dL_isSo_178 : decode cL_isSo 178 = .ok (.iload 10, 2) := by decide +kernel
theorem dL_isSo_180 : decode cL_isSo 180 = .ok (.iaload, 1) := by decide +kernel
theorem dL_isSo_181 : decode cL_isSo 181 = .ok (.if_icmp .ne 20, 3) := by decide +kernel
theorem dL_isSo_184 : decode cL_isSo 184 = .ok (.aload_n 0, 1) := by decide +kernel
theorem dL_isSo_185 : decode cL_isSo 185 = .ok (.iload 10, 2) := by decide +kernel
theorem dL_isSo_187 : decode cL_isSo 187 = .ok (.iconst 1, 1) := by decide +kernel
theorem dL_isSo_188 : decode cL_isSo 188 = .ok (.invokevirtual 38, 3) := by decide +kernel
theorem dL_isSo_191 : decode cL_isSo 191 = .ok (.iload 10, 2) := by decide +kernel
theorem dL_isSo_193 : decode cL_isSo 193 = .ok (.aload_n 2, 1) := by decide +kernel
theorem dL_isSo_194 : decode cL_isSo 194 = .ok (.aload_n 3, 1) := by decide +kernel
theorem dL_isSo_195 : decode cL_isSo 195 = .ok (.invokestatic 10, 3) := by decide +kernel
theorem dL_isSo_198 : decode cL_isSo 198 = .ok (.if_icmp .eq 5, 3) := by decide +kernel
theorem dL_isSo_201 : decode cL_isSo 201 = .ok (.iconst 0, 1) := by decide +kernel
theorem dL_isSo_202 : decode cL_isSo 202 = .ok (.ireturn, 1) := by decide +kernel
theorem dL_isSo_203 : decode cL_isSo 203 = .ok (.iinc 10 1, 3) := by decide +kernel
theorem dL_isSo_206 : decode cL_isSo 206 = .ok (.goto (-64), 3) := by decide +kernel
theorem dL_isSo_209 : decode cL_isSo 209 = .ok (.aload_n 0, 1) := by decide +kernel
theorem dL_isSo_210 : decode cL_isSo 210 = .ok (.iconst 0, 1) := by decide +kernel
theorem dL_isSo_211 : decode cL_isSo 211 = .ok (.invokevirtual 46, 3) := by decide +kernel
theorem dL_isSo_214 : decode cL_isSo 214 = .ok (.aload 4, 2) := by decide +kernel
theorem dL_isSo_216 : decode cL_isSo 216 = .ok (.invokestatic 105, 3) := by decide +kernel
theorem dL_isSo_219 : decode cL_isSo 219 = .ok (.if_icmp .ne 79, 3) := by decide +kernel
theorem dL_isSo_222 : decode cL_isSo 222 = .ok (.aload_n 0, 1) := by decide +kernel
theorem dL_isSo_223 : decode cL_isSo 223 = .ok (.iconst 1, 1) := by decide +kernel
theorem dL_isSo_224 : decode cL_isSo 224 = .ok (.invokevirtual 46, 3) := by decide +kernel
theorem dL_isSo_227 : decode cL_isSo 227 = .ok (.aload 6, 2) := by decide +kernel
theorem dL_isSo_229 : decode cL_isSo 229 = .ok (.bipush 6, 2) := by decide +kernel
theorem dL_isSo_231 : decode cL_isSo 231 = .ok (.iaload, 1) := by decide +kernel
theorem dL_isSo_232 : decode cL_isSo 232 = .ok (.if_icmp .ne 66, 3) := by decide +kernel
theorem dL_isSo_235 : decode cL_isSo 235 = .ok (.aload_n 0, 1) := by decide +kernel
theorem dL_isSo_236 : decode cL_isSo 236 = .ok (.iconst 2, 1) := by decide +kernel
theorem dL_isSo_237 : decode cL_isSo 237 = .ok (.invokevirtual 46, 3) := by decide +kernel
theorem dL_isSo_240 : decode cL_isSo 240 = .ok (.aload 6, 2) := by decide +kernel
theorem dL_isSo_242 : decode cL_isSo 242 = .ok (.bipush 7, 2) := by decide +kernel
theorem dL_isSo_244 : decode cL_isSo 244 = .ok (.iaload, 1) := by decide +kernel
theorem dL_isSo_245 : decode cL_isSo 245 = .ok (.if_icmp .ne 53, 3) := by decide +kernel
theorem dL_isSo_248 : decode cL_isSo 248 = .ok (.aload_n 0, 1) := by decide +kernel
theorem dL_isSo_249 : decode cL_isSo 249 = .ok (.iconst 3, 1) := by decide +kernel
theorem dL_isSo_250 : decode cL_isSo 250 = .ok (.invokevirtual 46, 3) := by decide +kernel
theorem dL_isSo_253 : decode cL_isSo 253 = .ok (.iload 8, 2) := by decide +kernel
theorem dL_isSo_255 : decode cL_isSo 255 = .ok (.if_icmp .ne 43, 3) := by decide +kernel
theorem dL_isSo_258 : decode cL_isSo 258 = .ok (.aload_n 0, 1) := by decide +kernel
theorem dL_isSo_259 : decode cL_isSo 259 = .ok (.iconst 4, 1) := by decide +kernel
theorem dL_isSo_260 : decode cL_isSo 260 = .ok (.invokevirtual 46, 3) := by decide +kernel
theorem dL_isSo_263 : decode cL_isSo 263 = .ok (.iload 9, 2) := by decide +kernel
theorem dL_isSo_265 : decode cL_isSo 265 = .ok (.if_icmp .ne 33, 3) := by decide +kernel
theorem dL_isSo_268 : decode cL_isSo 268 = .ok (.aload_n 0, 1) := by decide +kernel
theorem dL_isSo_269 : decode cL_isSo 269 = .ok (.iload_n 1, 1) := by decide +kernel
theorem dL_isSo_270 : decode cL_isSo 270 = .ok (.bipush 6, 2) := by decide +kernel
theorem dL_isSo_272 : decode cL_isSo 272 = .ok (.invokestatic 54, 3) := by decide +kernel
theorem dL_isSo_275 : decode cL_isSo 275 = .ok (.iload_n 1, 1) := by decide +kernel
theorem dL_isSo_276 : decode cL_isSo 276 = .ok (.iconst 3, 1) := by decide +kernel
theorem dL_isSo_277 : decode cL_isSo 277 = .ok (.ishr, 1) := by decide +kernel
theorem dL_isSo_278 : decode cL_isSo 278 = .ok (.aload_n 2, 1) := by decide +kernel
theorem dL_isSo_279 : decode cL_isSo 279 = .ok (.aload_n 3, 1) := by decide +kernel
theorem dL_isSo_280 : decode cL_isSo 280 = .ok (.aload 4, 2) := by decide +kernel
theorem dL_isSo_282 : decode cL_isSo 282 = .ok (.aload 5, 2) := by decide +kernel
theorem dL_isSo_284 : decode cL_isSo 284 = .ok (.aload 6, 2) := by decide +kernel
theorem dL_isSo_286 : decode cL_isSo 286 = .ok (.aload 7, 2) := by decide +kernel
theorem dL_isSo_288 : decode cL_isSo 288 = .ok (.invokestatic 135, 3) := by decide +kernel
theorem dL_isSo_291 : decode cL_isSo 291 = .ok (.ifCond .eq 7, 3) := by decide +kernel
theorem dL_isSo_294 : decode cL_isSo 294 = .ok (.iconst 1, 1) := by decide +kernel
theorem dL_isSo_295 : decode cL_isSo 295 = .ok (.goto 4, 3) := by decide +kernel
theorem dL_isSo_298 : decode cL_isSo 298 = .ok (.iconst 0, 1) := by decide +kernel
theorem dL_isSo_299 : decode cL_isSo 299 = .ok (.ireturn, 1) := by decide +kernel
set_option maxRecDepth 20000 in
theorem ggL_law_X7_init : GoodIn wsL_law wsX7_init := goodIn_r _ [7, 8, 9, 10, 11, 12, 13, 14, 15, 16, 17, 18, 19, 20, 21, 22, 23, 24, 25, 26, 27, 28, 29, 30, 31, 32, 33, 34, 35, 36, 37, 38, 39, 40, 3, 41, 42, 43, 44, 45, 46, 47, 48, 49, 50, 51, 52, 53, 54, 55, 56, 57, 58, 59, 60, 61, 62, 63, 64, 65, 66, 67, 68, 69, 70, 71, 432, 433, 434, 435, 436, 437, 438, 426, 427, 428, 429, 430, 431, 439, 440, 441, 442, 443, 444, 445, 446, 447, 448, 449] (by decide +kernel) (by decide +kernel)
set_option maxRecDepth 20000 in
theorem gL_law_X7_init : GoodIn wsL_law (wsX7_init) := ggL_law_X7_init
set_option maxRecDepth 20000 in
theorem ggL_law_L_cell : GoodIn wsL_law wsL_cell := goodIn_r _ [75, 76, 77] (by decide +kernel) (by decide +kernel)
set_option maxRecDepth 20000 in
theorem gL_law_L_cell : GoodIn wsL_law (va_wsS RL 140 yL_cell wsL_cell) := goodIn_app (goodIn_of _ (by decide +kernel)) ggL_law_L_cell
set_option maxRecDepth 20000 in
theorem ggL_law_L_low : GoodIn wsL_law wsL_low := goodIn_r _ [80, 81] (by decide +kernel) (by decide +kernel)
set_option maxRecDepth 20000 in
theorem gL_law_L_low : GoodIn wsL_law (va_wsS RL 54 yL_low wsL_low) := goodIn_app (goodIn_of _ (by decide +kernel)) ggL_law_L_low
set_option maxRecDepth 20000 in
theorem ggL_law_L_told : GoodIn wsL_law wsL_told := goodIn_r _ [84, 85, 86, 87, 88, 89, 90, 91, 92, 2, 93, 14, 94, 95, 96, 97, 98, 99, 100, 101, 102, 103, 104, 105, 13, 106, 39, 40, 107, 108, 109, 110, 111, 112, 113, 114, 115, 41, 37, 116, 117, 118, 119, 120, 121, 122, 123, 124, 125, 126, 127, 128, 129, 130, 131, 132, 133, 134, 135, 136, 43, 137, 138, 139, 30, 140, 49, 141, 142, 143, 144, 145, 146, 23, 147, 18, 148, 149, 150, 151, 152, 153, 154, 155, 156, 157, 158, 159, 160, 161, 162, 163, 164, 165, 166, 167, 168, 169, 170, 171, 172, 426, 427, 428, 429, 430, 431, 432, 433, 434, 435, 436, 437, 438, 448, 449, 441, 442, 439, 440] (by decide +kernel) (by decide +kernel)
set_option maxRecDepth 20000 in
theorem gL_law_L_told : GoodIn wsL_law (va_wsS RL 145 yL_told wsL_told) := goodIn_app (goodIn_of _ (by decide +kernel)) ggL_law_L_told
set_option maxRecDepth 20000 in
theorem ggL_law_L_call : GoodIn wsL_law wsL_call := goodIn_r _ [175, 176, 177, 178, 2, 179, 18, 14, 94, 96, 97, 98, 180, 181, 182, 17, 183, 56, 55, 54, 12, 13, 184, 185, 186, 187, 188, 33, 34, 35, 9, 10, 36, 37, 38, 39, 40, 3, 41, 42, 43, 44, 45, 29, 30, 46, 47, 48, 49, 50, 189, 190, 191, 192, 193, 194, 195, 196, 197, 198, 199, 200, 201, 99, 100, 101, 102, 202, 203, 204, 205, 206, 207, 208, 209, 210, 123, 124, 125, 126, 127, 116, 117, 118, 211, 157, 158, 159, 160, 161, 162, 212, 213, 74, 214, 215, 216, 217, 218, 23, 147, 78, 79, 80, 81, 219, 220, 221, 222, 223, 224, 22, 225, 226, 227, 228, 229, 230, 231, 232, 62, 61, 233, 234, 235, 236, 31, 132, 133, 134, 135, 136, 237, 238, 239, 240, 241, 242, 243, 244, 245, 246, 247, 248, 249, 250, 251, 252, 253, 254, 255, 256, 257, 258, 259, 260, 261, 138, 139, 140, 262, 263, 264, 265, 266, 267, 268, 269, 270, 271, 272, 273, 274, 275, 276, 277, 278, 95, 145, 146, 279, 280, 281, 282, 172, 283, 284, 285, 286, 287, 288, 167, 289, 290, 109, 291, 152, 292, 293, 294, 295, 296, 297, 298, 299, 107, 108, 110, 111, 300, 301, 302, 303, 304, 149, 150, 151, 153, 154, 155, 156, 305, 306, 307, 308, 309, 426, 427, 428, 429, 430, 431, 432, 433, 434, 435, 436, 437, 438, 439, 440, 448, 449, 441, 442] (by decide +kernel) (by decide +kernel)
set_option maxRecDepth 20000 in
theorem gL_law_L_call : GoodIn wsL_law (va_wsS RL 149 yL_call wsL_call) := goodIn_app (goodIn_of _ (by decide +kernel)) ggL_law_L_call
set_option maxRecDepth 20000 in
theorem ggL_law_X7_undo : GoodIn wsL_law wsX7_undo := goodIn_r _ [313, 18, 148, 14, 314, 315, 316, 17, 317, 56, 55, 97, 2, 98, 189, 190, 191, 13, 192, 37, 39, 40, 41, 193, 194, 195, 196, 43, 44, 45, 197, 198, 199, 30, 200, 49, 201, 50, 426, 427, 428, 429, 430, 431, 439, 440, 432, 433, 434, 435, 436, 437, 438, 448, 449] (by decide +kernel) (by decide +kernel)
set_option maxRecDepth 20000 in
theorem gL_law_X7_undo : GoodIn wsL_law (wsV RL 153 RX7 yX7_undo wsX7_undo) := goodIn_app (goodIn_of _ (by decide +kernel)) ggL_law_X7_undo
set_option maxRecDepth 20000 in
theorem ggL_law_L_due : GoodIn wsL_law wsL_due := goodIn_cons (List.mem_of_getElem? (i := 320) rfl) rfl (goodIn_app (goodIn_r _ [3, 321, 322, 74, 323, 324, 325, 326, 327, 328, 329, 330, 331, 332, 333, 334, 335, 336, 337, 338, 339, 340, 341, 342] (by decide +kernel) (by decide +kernel)) (goodIn_r _ [343, 344, 345, 346, 347] (by decide +kernel) (by decide +kernel)))
set_option maxRecDepth 20000 in
theorem gL_law_L_due : GoodIn wsL_law (va_wsS RL 156 yL_due wsL_due) := goodIn_app (goodIn_of _ (by decide +kernel)) ggL_law_L_due
set_option maxRecDepth 20000 in
theorem ggL_law_L_isSo : GoodIn wsL_law wsL_isSo := goodIn_cons (List.mem_of_getElem? (i := 350) rfl) rfl (goodIn_app (goodIn_app (goodIn_app (goodIn_app (goodIn_app (goodIn_app (goodIn_r _ [90, 91, 92, 2, 93, 14, 94, 95, 96, 97, 98, 99, 100, 101, 102, 103, 104, 105, 13, 106, 39, 40, 107, 108] (by decide +kernel) (by decide +kernel)) (goodIn_app (goodIn_r _ [109, 110, 111, 112, 113, 114, 115, 41, 37, 116, 117, 118, 119, 120, 121, 122, 123, 124, 125, 126, 127, 321, 322, 74] (by decide +kernel) (by decide +kernel)) (goodIn_app (goodIn_r _ [323, 141, 142, 143, 144, 145, 146, 23, 147, 18, 148, 149, 150, 151, 152, 153, 154, 155, 156, 157, 158, 159, 160, 161] (by decide +kernel) (by decide +kernel)) (goodIn_app (goodIn_cons (List.mem_of_getElem? (i := 162) (by decide +kernel)) rfl (goodIn_cons (List.mem_of_getElem? (i := 163) (by decide +kernel)) rfl (goodIn_cons (List.mem_of_getElem? (i := 164) (by decide +kernel)) rfl (goodIn_cons (List.mem_of_getElem? (i := 165) (by decide +kernel)) rfl (goodIn_cons (List.mem_of_getElem? (i := 166) (by decide +kernel)) rfl (goodIn_cons (List.mem_of_getElem? (i := 167) (by decide +kernel)) rfl (goodIn_cons (List.mem_of_getElem? (i := 168) (by decide +kernel)) rfl (goodIn_cons (List.mem_of_getElem? (i := 169) (by decide +kernel)) rfl (goodIn_cons (List.mem_of_getElem? (i := 170) (by decide +kernel)) rfl (goodIn_cons (List.mem_of_getElem? (i := 171) (by decide +kernel)) rfl (goodIn_cons (List.mem_of_getElem? (i := 43) (by decide +kernel)) rfl (goodIn_cons (List.mem_of_getElem? (i := 172) (by decide +kernel)) rfl (goodIn_cons (List.mem_of_getElem? (i := 342) (by decide +kernel)) rfl (goodIn_cons (List.mem_of_getElem? (i := 343) (by decide +kernel)) rfl (goodIn_cons (List.mem_of_getElem? (i := 344) (by decide +kernel)) rfl (goodIn_cons (List.mem_of_getElem? (i := 78) (by decide +kernel)) rfl (goodIn_cons (List.mem_of_getElem? (i := 79) (by decide +kernel)) rfl (goodIn_cons (List.mem_of_getElem? (i := 80) (by decide +kernel)) rfl (goodIn_cons (List.mem_of_getElem? (i := 81) (by decide +kernel)) rfl (goodIn_cons (List.mem_of_getElem? (i := 351) (by decide +kernel)) rfl (goodIn_cons (List.mem_of_getElem? (i := 352) (by decide +kernel)) rfl (goodIn_cons (List.mem_of_getElem? (i := 353) (rfl)) rfl (goodIn_cons (List.mem_of_getElem? (i := 3) (by decide +kernel)) rfl (goodIn_cons (List.mem_of_getElem? (i := 354) (by decide +kernel)) rfl goodIn_nil)))))))))))))))))))))))) (goodIn_app (goodIn_r _ [330, 331, 332, 333, 334, 335, 336, 337, 338, 339, 340, 341, 355, 356, 357, 358, 132, 359, 133, 134, 135, 136, 279, 280] (by decide +kernel) (by decide +kernel)) (goodIn_app (goodIn_r _ [281, 282, 38, 283, 284, 138, 139, 30, 140, 49, 285, 286, 287, 288, 289, 290, 291, 292, 203, 204, 205, 206, 293, 294] (by decide +kernel) (by decide +kernel)) (goodIn_app (goodIn_r _ [295, 296, 297, 298, 299, 360, 361, 362, 363, 364, 365, 366, 367, 368, 369, 370, 371, 372, 373, 374, 375, 376, 377, 378] (by decide +kernel) (by decide +kernel)) (goodIn_r _ [379, 304, 380, 381, 382, 383, 384, 300, 301, 302, 303, 128, 129, 130, 131, 137] (by decide +kernel) (by decide +kernel))))))))) (goodIn_r _ [426, 427, 428, 429, 430, 431] (by decide +kernel) (by decide +kernel))) (goodIn_r _ [432, 433, 434, 435, 436, 437, 438] (by decide +kernel) (by decide +kernel))) (goodIn_r _ [441, 442] (by decide +kernel) (by decide +kernel))) (goodIn_r _ [439, 440] (by decide +kernel) (by decide +kernel))) (goodIn_r _ [448, 449] (by decide +kernel) (by decide +kernel)))
set_option maxRecDepth 20000 in
theorem gL_law_L_isSo : GoodIn wsL_law (va_wsS RL 160 yL_isSo wsL_isSo) := goodIn_app (goodIn_of _ (by decide +kernel)) ggL_law_L_isSo
set_option maxRecDepth 20000 in
theorem ggL_law_L_arePairs : GoodIn wsL_law wsL_arePairs := goodIn_cons (List.mem_of_getElem? (i := 387) rfl) rfl (goodIn_app (goodIn_app (goodIn_app (goodIn_app (goodIn_app (goodIn_r _ [3, 78, 79, 74, 80, 81, 330, 331, 332, 333, 334, 335, 336, 337, 338, 321, 322, 323, 388, 389, 390, 2, 391, 14] (by decide +kernel) (by decide +kernel)) (goodIn_app (goodIn_r _ [359, 96, 97, 98, 279, 280, 281, 13, 282, 38, 172, 283, 134, 135, 136, 43, 284, 138, 139, 30, 140, 49, 285, 286] (by decide +kernel) (by decide +kernel)) (goodIn_app (goodIn_r _ [287, 288, 167, 125, 126, 127, 41, 37, 116, 100, 101, 102, 117, 118, 289, 290, 109, 291, 152, 292, 203, 204, 205, 206] (by decide +kernel) (by decide +kernel)) (goodIn_app (goodIn_r _ [293, 294, 295, 296, 297, 298, 299, 107, 108, 110, 111, 392, 393, 394, 395, 363, 154, 155, 342, 343, 344, 396, 397, 398] (by decide +kernel) (by decide +kernel)) (goodIn_app (goodIn_r _ [399, 400, 401, 402, 403, 404, 27, 405, 406, 407, 408, 409, 410, 411, 412, 26, 413, 68, 67, 414, 415, 416, 417, 418] (by decide +kernel) (by decide +kernel)) (goodIn_r _ [419, 420, 421, 422, 423, 424, 425, 95, 304, 149, 150, 151, 153, 156, 157, 158, 159, 160, 161, 162] (by decide +kernel) (by decide +kernel))))))) (goodIn_r _ [426, 427, 428, 429, 430, 431] (by decide +kernel) (by decide +kernel))) (goodIn_r _ [448, 449] (by decide +kernel) (by decide +kernel))) (goodIn_r _ [432, 433, 434, 435, 436, 437, 438] (by decide +kernel) (by decide +kernel))) (goodIn_r _ [443, 444, 445, 446, 447] (by decide +kernel) (by decide +kernel)))
set_option maxRecDepth 20000 in
theorem gL_law_L_arePairs : GoodIn wsL_law (va_wsS RL 164 yL_arePairs wsL_arePairs) := goodIn_app (goodIn_of _ (by decide +kernel)) ggL_law_L_arePairs
theorem dL_law_0 : decode cL_law 0 = .ok (.new 31, 3) := by decide +kernel
theorem dL_law_3 : decode cL_law 3 = .ok (.dup, 1) := by decide +kernel
theorem dL_law_4 : decode cL_law 4 = .ok (.invokespecial 139, 3) := by decide +kernel
theorem dL_law_7 : decode cL_law 7 = .ok (.astore_n 1, 1) := by decide +kernel
theorem dL_law_8 : decode cL_law 8 = .ok (.bipush 12, 2) := by decide +kernel
theorem dL_law_10 : decode cL_law 10 = .ok (.newarray .int, 2) := by decide +kernel
theorem dL_law_12 : decode cL_law 12 = .ok (.astore_n 2, 1) := by decide +kernel
theorem dL_law_13 : decode cL_law 13 = .ok (.bipush 6, 2) := by decide +kernel
theorem dL_law_15 : decode cL_law 15 = .ok (.newarray .int, 2) := by decide +kernel
theorem dL_law_17 : decode cL_law 17 = .ok (.astore_n 3, 1) := by decide +kernel
theorem dL_law_18 : decode cL_law 18 = .ok (.bipush 12, 2) := by decide +kernel
theorem dL_law_20 : decode cL_law 20 = .ok (.newarray .int, 2) := by decide +kernel
theorem dL_law_22 : decode cL_law 22 = .ok (.astore 4, 2) := by decide +kernel
theorem dL_law_24 : decode cL_law 24 = .ok (.bipush 12, 2) := by decide +kernel
theorem dL_law_26 : decode cL_law 26 = .ok (.newarray .int, 2) := by decide +kernel
theorem dL_law_28 : decode cL_law 28 = .ok (.astore 5, 2) := by decide +kernel
theorem dL_law_30 : decode cL_law 30 = .ok (.bipush 8, 2) := by decide +kernel
theorem dL_law_32 : decode cL_law 32 = .ok (.newarray .int, 2) := by decide +kernel
theorem dL_law_34 : decode cL_law 34 = .ok (.astore 6, 2) := by decide +kernel
theorem dL_law_36 : decode cL_law 36 = .ok (.bipush 18, 2) := by decide +kernel
theorem dL_law_38 : decode cL_law 38 = .ok (.newarray .int, 2) := by decide +kernel
theorem dL_law_40 : decode cL_law 40 = .ok (.astore 7, 2) := by decide +kernel
theorem dL_law_42 : decode cL_law 42 = .ok (.bipush 24, 2) := by decide +kernel
theorem dL_law_44 : decode cL_law 44 = .ok (.newarray .int, 2) := by decide +kernel
theorem dL_law_46 : decode cL_law 46 = .ok (.astore 8, 2) := by decide +kernel
theorem dL_law_48 : decode cL_law 48 = .ok (.iconst 0, 1) := by decide +kernel
theorem dL_law_49 : decode cL_law 49 = .ok (.istore 9, 2) := by decide +kernel
theorem dL_law_51 : decode cL_law 51 = .ok (.iload 9, 2) := by decide +kernel
theorem dL_law_53 : decode cL_law 53 = .ok (.bipush 12, 2) := by decide +kernel
theorem dL_law_55 : decode cL_law 55 = .ok (.if_icmp .ge 25, 3) := by decide +kernel
theorem dL_law_58 : decode cL_law 58 = .ok (.aload_n 2, 1) := by decide +kernel
theorem dL_law_59 : decode cL_law 59 = .ok (.iload 9, 2) := by decide +kernel
theorem dL_law_61 : decode cL_law 61 = .ok (.iload 9, 2) := by decide +kernel
theorem dL_law_63 : decode cL_law 63 = .ok (.bipush 6, 2) := by decide +kernel
theorem dL_law_65 : decode cL_law 65 = .ok (.irem, 1) := by decide +kernel
theorem dL_law_66 : decode cL_law 66 = .ok (.iastore, 1) := by decide +kernel
theorem dL_law_67 : decode cL_law 67 = .ok (.aload 4, 2) := by decide +kernel
theorem dL_law_69 : decode cL_law 69 = .ok (.iload 9, 2) := by decide +kernel
theorem dL_law_71 : decode cL_law 71 = .ok (.iload 9, 2) := by decide +kernel
theorem dL_law_73 : decode cL_law 73 = .ok (.iastore, 1) := by decide +kernel
theorem dL_law_74 : decode cL_law 74 = .ok (.iinc 9 1, 3) := by decide +kernel
theorem dL_law_77 : decode cL_law 77 = .ok (.goto (-26), 3) := by decide +kernel
theorem dL_law_80 : decode cL_law 80 = .ok (.iconst 0, 1) := by decide +kernel
theorem dL_law_81 : decode cL_law 81 = .ok (.istore 9, 2) := by decide +kernel
theorem dL_law_83 : decode cL_law 83 = .ok (.iload 9, 2) := by decide +kernel
theorem dL_law_85 : decode cL_law 85 = .ok (.bipush 6, 2) := by decide +kernel
theorem dL_law_87 : decode cL_law 87 = .ok (.if_icmp .ge 17, 3) := by decide +kernel
theorem dL_law_90 : decode cL_law 90 = .ok (.aload_n 3, 1) := by decide +kernel
theorem dL_law_91 : decode cL_law 91 = .ok (.iload 9, 2) := by decide +kernel
theorem dL_law_93 : decode cL_law 93 = .ok (.iconst 1, 1) := by decide +kernel
theorem dL_law_94 : decode cL_law 94 = .ok (.iload 9, 2) := by decide +kernel
theorem dL_law_96 : decode cL_law 96 = .ok (.ishl, 1) := by decide +kernel
theorem dL_law_97 : decode cL_law 97 = .ok (.iastore, 1) := by decide +kernel
theorem dL_law_98 : decode cL_law 98 = .ok (.iinc 9 1, 3) := by decide +kernel
theorem dL_law_101 : decode cL_law 101 = .ok (.goto (-18), 3) := by decide +kernel
theorem dL_law_104 : decode cL_law 104 = .ok (.iconst 0, 1) := by decide +kernel
theorem dL_law_105 : decode cL_law 105 = .ok (.istore 9, 2) := by decide +kernel
theorem dL_law_107 : decode cL_law 107 = .ok (.iload 9, 2) := by decide +kernel
theorem dL_law_109 : decode cL_law 109 = .ok (.bipush 30, 2) := by decide +kernel
theorem dL_law_111 : decode cL_law 111 = .ok (.if_icmp .ge 473, 3) := by decide +kernel
theorem dL_law_114 : decode cL_law 114 = .ok (.aload_n 0, 1) := by decide +kernel
theorem dL_law_115 : decode cL_law 115 = .ok (.iconst 2, 1) := by decide +kernel
theorem dL_law_116 : decode cL_law 116 = .ok (.iload 9, 2) := by decide +kernel
theorem dL_law_118 : decode cL_law 118 = .ok (.imul, 1) := by decide +kernel
theorem dL_law_119 : decode cL_law 119 = .ok (.invokestatic 140, 3) := by decide +kernel
theorem dL_law_122 : decode cL_law 122 = .ok (.istore 10, 2) := by decide +kernel
theorem dL_law_124 : decode cL_law 124 = .ok (.aload_n 0, 1) := by decide +kernel
theorem dL_law_125 : decode cL_law 125 = .ok (.iconst 2, 1) := by decide +kernel
theorem dL_law_126 : decode cL_law 126 = .ok (.iload 9, 2) := by decide +kernel
theorem dL_law_128 : decode cL_law 128 = .ok (.imul, 1) := by decide +kernel
theorem dL_law_129 : decode cL_law 129 = .ok (.iconst 1, 1) := by decide +kernel
theorem dL_law_130 : decode cL_law 130 = .ok (.iadd, 1) := by decide +kernel
theorem dL_law_131 : decode cL_law 131 = .ok (.invokestatic 140, 3) := by decide +kernel
theorem dL_law_134 : decode cL_law 134 = .ok (.istore 11, 2) := by decide +kernel
theorem dL_law_136 : decode cL_law 136 = .ok (.iload 10, 2) := by decide +kernel
theorem dL_law_138 : decode cL_law 138 = .ok (.bipush 14, 2) := by decide +kernel
theorem dL_law_140 : decode cL_law 140 = .ok (.invokestatic 54, 3) := by decide +kernel
theorem dL_law_143 : decode cL_law 143 = .ok (.istore 12, 2) := by decide +kernel
theorem dL_law_145 : decode cL_law 145 = .ok (.iload 12, 2) := by decide +kernel
theorem dL_law_147 : decode cL_law 147 = .ok (.iconst 2, 1) := by decide +kernel
theorem dL_law_148 : decode cL_law 148 = .ok (.if_icmp .ge 7, 3) := by decide +kernel
theorem dL_law_151 : decode cL_law 151 = .ok (.iconst 0, 1) := by decide +kernel
theorem dL_law_152 : decode cL_law 152 = .ok (.goto 40, 3) := by decide +kernel
theorem dL_law_155 : decode cL_law 155 = .ok (.iload 12, 2) := by decide +kernel
theorem dL_law_157 : decode cL_law 157 = .ok (.iconst 4, 1) := by decide +kernel
theorem dL_law_158 : decode cL_law 158 = .ok (.if_icmp .ge 7, 3) := by decide +kernel
theorem dL_law_161 : decode cL_law 161 = .ok (.iconst 1, 1) := by decide +kernel
theorem dL_law_162 : decode cL_law 162 = .ok (.goto 30, 3) := by decide +kernel
theorem dL_law_165 : decode cL_law 165 = .ok (.iload 12, 2) := by decide +kernel
theorem dL_law_167 : decode cL_law 167 = .ok (.bipush 8, 2) := by decide +kernel
theorem dL_law_169 : decode cL_law 169 = .ok (.if_icmp .ge 7, 3) := by decide +kernel
theorem dL_law_172 : decode cL_law 172 = .ok (.iconst 2, 1) := by decide +kernel
theorem dL_law_173 : decode cL_law 173 = .ok (.goto 19, 3) := by decide +kernel
theorem dL_law_176 : decode cL_law 176 = .ok (.iload 12, 2) := by decide +kernel
theorem dL_law_178 : decode cL_law 178 = .ok (.bipush 12, 2) := by decide +kernel
theorem dL_law_180 : decode cL_law 180 = .ok (.if_icmp .ge 10, 3) := by decide +kernel
theorem dL_law_183 : decode cL_law 183 = .ok (.iload 12, 2) := by decide +kernel
theorem dL_law_185 : decode cL_law 185 = .ok (.iconst 5, 1) := by decide +kernel
theorem dL_law_186 : decode cL_law 186 = .ok (.isub, 1) := by decide +kernel
theorem dL_law_187 : decode cL_law 187 = .ok (.goto 5, 3) := by decide +kernel
theorem dL_law_190 : decode cL_law 190 = .ok (.bipush 7, 2) := by decide +kernel
theorem dL_law_192 : decode cL_law 192 = .ok (.istore 12, 2) := by decide +kernel
theorem dL_law_194 : decode cL_law 194 = .ok (.iload 12, 2) := by decide +kernel
theorem dL_law_196 : decode cL_law 196 = .ok (.ifCond .eq 10, 3) := by decide +kernel
theorem dL_law_199 : decode cL_law 199 = .ok (.iload 12, 2) := by decide +kernel
theorem dL_law_201 : decode cL_law 201 = .ok (.bipush 7, 2) := by decide +kernel
theorem dL_law_203 : decode cL_law 203 = .ok (.if_icmp .ne 13, 3) := by decide +kernel
theorem dL_law_206 : decode cL_law 206 = .ok (.iload 11, 2) := by decide +kernel
theorem dL_law_208 : decode cL_law 208 = .ok (.bipush 12, 2) := by decide +kernel
theorem dL_law_210 : decode cL_law 210 = .ok (.invokestatic 54, 3) := by decide +kernel
theorem dL_law_213 : decode cL_law 213 = .ok (.goto 10, 3) := by decide +kernel
theorem dL_law_216 : decode cL_law 216 = .ok (.iload 11, 2) := by decide +kernel
theorem dL_law_218 : decode cL_law 218 = .ok (.bipush 6, 2) := by decide +kernel
theorem dL_law_220 : decode cL_law 220 = .ok (.invokestatic 54, 3) := by decide +kernel
theorem dL_law_223 : decode cL_law 223 = .ok (.istore 13, 2) := by decide +kernel
theorem dL_law_225 : decode cL_law 225 = .ok (.iload 12, 2) := by decide +kernel
theorem dL_law_227 : decode cL_law 227 = .ok (.iconst 1, 1) := by decide +kernel
theorem dL_law_228 : decode cL_law 228 = .ok (.if_icmp .ne 15, 3) := by decide +kernel
theorem dL_law_231 : decode cL_law 231 = .ok (.iload 11, 2) := by decide +kernel
theorem dL_law_233 : decode cL_law 233 = .ok (.iconst 4, 1) := by decide +kernel
theorem dL_law_234 : decode cL_law 234 = .ok (.ishr, 1) := by decide +kernel
theorem dL_law_235 : decode cL_law 235 = .ok (.bipush 64, 2) := by decide +kernel
theorem dL_law_237 : decode cL_law 237 = .ok (.invokestatic 54, 3) := by decide +kernel
theorem dL_law_240 : decode cL_law 240 = .ok (.goto 85, 3) := by decide +kernel
theorem dL_law_243 : decode cL_law 243 = .ok (.iload 12, 2) := by decide +kernel
theorem dL_law_245 : decode cL_law 245 = .ok (.iconst 2, 1) := by decide +kernel
theorem dL_law_246 : decode cL_law 246 = .ok (.if_icmp .ne 13, 3) := by decide +kernel
theorem dL_law_249 : decode cL_law 249 = .ok (.iload 11, 2) := by decide +kernel
theorem dL_law_251 : decode cL_law 251 = .ok (.iconst 3, 1) := by decide +kernel
theorem dL_law_252 : decode cL_law 252 = .ok (.ishr, 1) := by decide +kernel
theorem dL_law_253 : decode cL_law 253 = .ok (.ldc 144, 2) := by decide +kernel
theorem dL_law_255 : decode cL_law 255 = .ok (.iand, 1) := by decide +kernel
theorem dL_law_256 : decode cL_law 256 = .ok (.goto 69, 3) := by decide +kernel
theorem dL_law_259 : decode cL_law 259 = .ok (.iload 12, 2) := by decide +kernel
theorem dL_law_261 : decode cL_law 261 = .ok (.bipush 6, 2) := by decide +kernel
theorem dL_law_263 : decode cL_law 263 = .ok (.if_icmp .ne 35, 3) := by decide +kernel
theorem dL_law_266 : decode cL_law 266 = .ok (.iconst 1, 1) := by decide +kernel
theorem dL_law_267 : decode cL_law 267 = .ok (.iload 11, 2) := by decide +kernel
theorem dL_law_269 : decode cL_law 269 = .ok (.iconst 4, 1) := by decide +kernel
theorem dL_law_270 : decode cL_law 270 = .ok (.ishr, 1) := by decide +kernel
