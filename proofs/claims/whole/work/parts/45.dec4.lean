theorem d_La_law_459 : decode b_La_law 459 = .ok (.laload, 1) := by decide +kernel
theorem d_La_law_460 : decode b_La_law 460 = .ok (.lload 6, 2) := by decide +kernel
theorem d_La_law_462 : decode b_La_law 462 = .ok (.lcmp, 1) := by decide +kernel
theorem d_La_law_463 : decode b_La_law 463 = .ok (.ifCond .eq 5, 3) := by decide +kernel
theorem d_La_law_466 : decode b_La_law 466 = .ok (.iconst 0, 1) := by decide +kernel
theorem d_La_law_467 : decode b_La_law 467 = .ok (.ireturn, 1) := by decide +kernel
theorem d_La_law_468 : decode b_La_law 468 = .ok (.goto 638, 3) := by decide +kernel
theorem d_La_law_471 : decode b_La_law 471 = .ok (.aload_n 1, 1) := by decide +kernel
theorem d_La_law_472 : decode b_La_law 472 = .ok (.aload_n 0, 1) := by decide +kernel
theorem d_La_law_473 : decode b_La_law 473 = .ok (.iload 4, 2) := by decide +kernel
theorem d_La_law_475 : decode b_La_law 475 = .ok (.iconst 1, 1) := by decide +kernel
theorem d_La_law_476 : decode b_La_law 476 = .ok (.iadd, 1) := by decide +kernel
theorem d_La_law_477 : decode b_La_law 477 = .ok (.iaload, 1) := by decide +kernel
theorem d_La_law_478 : decode b_La_law 478 = .ok (.aload_n 0, 1) := by decide +kernel
theorem d_La_law_479 : decode b_La_law 479 = .ok (.iload 4, 2) := by decide +kernel
theorem d_La_law_481 : decode b_La_law 481 = .ok (.iconst 2, 1) := by decide +kernel
theorem d_La_law_482 : decode b_La_law 482 = .ok (.iadd, 1) := by decide +kernel
theorem d_La_law_483 : decode b_La_law 483 = .ok (.iaload, 1) := by decide +kernel
theorem d_La_law_484 : decode b_La_law 484 = .ok (.i2l, 1) := by decide +kernel
theorem d_La_law_485 : decode b_La_law 485 = .ok (.bipush 32, 2) := by decide +kernel
theorem d_La_law_487 : decode b_La_law 487 = .ok (.lshl, 1) := by decide +kernel
theorem d_La_law_488 : decode b_La_law 488 = .ok (.aload_n 0, 1) := by decide +kernel
theorem d_La_law_489 : decode b_La_law 489 = .ok (.iload 4, 2) := by decide +kernel
theorem d_La_law_491 : decode b_La_law 491 = .ok (.iconst 3, 1) := by decide +kernel
theorem d_La_law_492 : decode b_La_law 492 = .ok (.iadd, 1) := by decide +kernel
theorem d_La_law_493 : decode b_La_law 493 = .ok (.iaload, 1) := by decide +kernel
theorem d_La_law_494 : decode b_La_law 494 = .ok (.i2l, 1) := by decide +kernel
theorem d_La_law_495 : decode b_La_law 495 = .ok (.ldc2_w 92, 3) := by decide +kernel
theorem d_La_law_498 : decode b_La_law 498 = .ok (.land, 1) := by decide +kernel
theorem d_La_law_499 : decode b_La_law 499 = .ok (.lor, 1) := by decide +kernel
theorem d_La_law_500 : decode b_La_law 500 = .ok (.aload_n 0, 1) := by decide +kernel
theorem d_La_law_501 : decode b_La_law 501 = .ok (.iload 4, 2) := by decide +kernel
theorem d_La_law_503 : decode b_La_law 503 = .ok (.iconst 4, 1) := by decide +kernel
theorem d_La_law_504 : decode b_La_law 504 = .ok (.iadd, 1) := by decide +kernel
theorem d_La_law_505 : decode b_La_law 505 = .ok (.iaload, 1) := by decide +kernel
theorem d_La_law_506 : decode b_La_law 506 = .ok (.i2l, 1) := by decide +kernel
theorem d_La_law_507 : decode b_La_law 507 = .ok (.bipush 32, 2) := by decide +kernel
theorem d_La_law_509 : decode b_La_law 509 = .ok (.lshl, 1) := by decide +kernel
theorem d_La_law_510 : decode b_La_law 510 = .ok (.aload_n 0, 1) := by decide +kernel
theorem d_La_law_511 : decode b_La_law 511 = .ok (.iload 4, 2) := by decide +kernel
theorem d_La_law_513 : decode b_La_law 513 = .ok (.iconst 5, 1) := by decide +kernel
theorem d_La_law_514 : decode b_La_law 514 = .ok (.iadd, 1) := by decide +kernel
theorem d_La_law_515 : decode b_La_law 515 = .ok (.iaload, 1) := by decide +kernel
theorem d_La_law_516 : decode b_La_law 516 = .ok (.i2l, 1) := by decide +kernel
theorem d_La_law_517 : decode b_La_law 517 = .ok (.ldc2_w 92, 3) := by decide +kernel
theorem d_La_law_520 : decode b_La_law 520 = .ok (.land, 1) := by decide +kernel
theorem d_La_law_521 : decode b_La_law 521 = .ok (.lor, 1) := by decide +kernel
theorem d_La_law_522 : decode b_La_law 522 = .ok (.aload_n 0, 1) := by decide +kernel
theorem d_La_law_523 : decode b_La_law 523 = .ok (.iload 4, 2) := by decide +kernel
theorem d_La_law_525 : decode b_La_law 525 = .ok (.bipush 6, 2) := by decide +kernel
theorem d_La_law_527 : decode b_La_law 527 = .ok (.iadd, 1) := by decide +kernel
theorem d_La_law_528 : decode b_La_law 528 = .ok (.iaload, 1) := by decide +kernel
theorem d_La_law_529 : decode b_La_law 529 = .ok (.aload_n 3, 1) := by decide +kernel
theorem d_La_law_530 : decode b_La_law 530 = .ok (.invokestatic 94, 3) := by decide +kernel
theorem d_La_law_533 : decode b_La_law 533 = .ok (.istore 5, 2) := by decide +kernel
theorem d_La_law_535 : decode b_La_law 535 = .ok (.aload_n 2, 1) := by decide +kernel
theorem d_La_law_536 : decode b_La_law 536 = .ok (.aload_n 0, 1) := by decide +kernel
theorem d_La_law_537 : decode b_La_law 537 = .ok (.iload 4, 2) := by decide +kernel
theorem d_La_law_539 : decode b_La_law 539 = .ok (.iconst 1, 1) := by decide +kernel
theorem d_La_law_540 : decode b_La_law 540 = .ok (.iadd, 1) := by decide +kernel
