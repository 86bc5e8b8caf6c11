theorem d_La_law_541 : decode b_La_law 541 = .ok (.iaload, 1) := by decide +kernel
theorem d_La_law_542 : decode b_La_law 542 = .ok (.aload_n 0, 1) := by decide +kernel
theorem d_La_law_543 : decode b_La_law 543 = .ok (.iload 4, 2) := by decide +kernel
theorem d_La_law_545 : decode b_La_law 545 = .ok (.iconst 2, 1) := by decide +kernel
theorem d_La_law_546 : decode b_La_law 546 = .ok (.iadd, 1) := by decide +kernel
theorem d_La_law_547 : decode b_La_law 547 = .ok (.iaload, 1) := by decide +kernel
theorem d_La_law_548 : decode b_La_law 548 = .ok (.i2l, 1) := by decide +kernel
theorem d_La_law_549 : decode b_La_law 549 = .ok (.bipush 32, 2) := by decide +kernel
theorem d_La_law_551 : decode b_La_law 551 = .ok (.lshl, 1) := by decide +kernel
theorem d_La_law_552 : decode b_La_law 552 = .ok (.aload_n 0, 1) := by decide +kernel
theorem d_La_law_553 : decode b_La_law 553 = .ok (.iload 4, 2) := by decide +kernel
theorem d_La_law_555 : decode b_La_law 555 = .ok (.iconst 3, 1) := by decide +kernel
theorem d_La_law_556 : decode b_La_law 556 = .ok (.iadd, 1) := by decide +kernel
theorem d_La_law_557 : decode b_La_law 557 = .ok (.iaload, 1) := by decide +kernel
theorem d_La_law_558 : decode b_La_law 558 = .ok (.i2l, 1) := by decide +kernel
theorem d_La_law_559 : decode b_La_law 559 = .ok (.ldc2_w 92, 3) := by decide +kernel
theorem d_La_law_562 : decode b_La_law 562 = .ok (.land, 1) := by decide +kernel
theorem d_La_law_563 : decode b_La_law 563 = .ok (.lor, 1) := by decide +kernel
theorem d_La_law_564 : decode b_La_law 564 = .ok (.aload_n 0, 1) := by decide +kernel
theorem d_La_law_565 : decode b_La_law 565 = .ok (.iload 4, 2) := by decide +kernel
theorem d_La_law_567 : decode b_La_law 567 = .ok (.iconst 4, 1) := by decide +kernel
theorem d_La_law_568 : decode b_La_law 568 = .ok (.iadd, 1) := by decide +kernel
theorem d_La_law_569 : decode b_La_law 569 = .ok (.iaload, 1) := by decide +kernel
theorem d_La_law_570 : decode b_La_law 570 = .ok (.i2l, 1) := by decide +kernel
theorem d_La_law_571 : decode b_La_law 571 = .ok (.bipush 32, 2) := by decide +kernel
theorem d_La_law_573 : decode b_La_law 573 = .ok (.lshl, 1) := by decide +kernel
theorem d_La_law_574 : decode b_La_law 574 = .ok (.aload_n 0, 1) := by decide +kernel
theorem d_La_law_575 : decode b_La_law 575 = .ok (.iload 4, 2) := by decide +kernel
theorem d_La_law_577 : decode b_La_law 577 = .ok (.iconst 5, 1) := by decide +kernel
theorem d_La_law_578 : decode b_La_law 578 = .ok (.iadd, 1) := by decide +kernel
theorem d_La_law_579 : decode b_La_law 579 = .ok (.iaload, 1) := by decide +kernel
theorem d_La_law_580 : decode b_La_law 580 = .ok (.i2l, 1) := by decide +kernel
theorem d_La_law_581 : decode b_La_law 581 = .ok (.ldc2_w 92, 3) := by decide +kernel
theorem d_La_law_584 : decode b_La_law 584 = .ok (.land, 1) := by decide +kernel
theorem d_La_law_585 : decode b_La_law 585 = .ok (.lor, 1) := by decide +kernel
theorem d_La_law_586 : decode b_La_law 586 = .ok (.aload_n 0, 1) := by decide +kernel
theorem d_La_law_587 : decode b_La_law 587 = .ok (.iload 4, 2) := by decide +kernel
theorem d_La_law_589 : decode b_La_law 589 = .ok (.bipush 6, 2) := by decide +kernel
theorem d_La_law_591 : decode b_La_law 591 = .ok (.iadd, 1) := by decide +kernel
theorem d_La_law_592 : decode b_La_law 592 = .ok (.iaload, 1) := by decide +kernel
theorem d_La_law_593 : decode b_La_law 593 = .ok (.invokevirtual 97, 3) := by decide +kernel
theorem d_La_law_596 : decode b_La_law 596 = .ok (.istore 6, 2) := by decide +kernel
theorem d_La_law_598 : decode b_La_law 598 = .ok (.aload_n 2, 1) := by decide +kernel
theorem d_La_law_599 : decode b_La_law 599 = .ok (.invokevirtual 74, 3) := by decide +kernel
theorem d_La_law_602 : decode b_La_law 602 = .ok (.iload 5, 2) := by decide +kernel
theorem d_La_law_604 : decode b_La_law 604 = .ok (.if_icmp .eq 5, 3) := by decide +kernel
theorem d_La_law_607 : decode b_La_law 607 = .ok (.iconst 0, 1) := by decide +kernel
theorem d_La_law_608 : decode b_La_law 608 = .ok (.ireturn, 1) := by decide +kernel
theorem d_La_law_609 : decode b_La_law 609 = .ok (.iload 5, 2) := by decide +kernel
theorem d_La_law_611 : decode b_La_law 611 = .ok (.ifCond .ne 15, 3) := by decide +kernel
theorem d_La_law_614 : decode b_La_law 614 = .ok (.aload_n 3, 1) := by decide +kernel
theorem d_La_law_615 : decode b_La_law 615 = .ok (.iconst 0, 1) := by decide +kernel
theorem d_La_law_616 : decode b_La_law 616 = .ok (.laload, 1) := by decide +kernel
theorem d_La_law_617 : decode b_La_law 617 = .ok (.iload 6, 2) := by decide +kernel
theorem d_La_law_619 : decode b_La_law 619 = .ok (.i2l, 1) := by decide +kernel
theorem d_La_law_620 : decode b_La_law 620 = .ok (.lcmp, 1) := by decide +kernel
theorem d_La_law_621 : decode b_La_law 621 = .ok (.ifCond .eq 5, 3) := by decide +kernel
theorem d_La_law_624 : decode b_La_law 624 = .ok (.iconst 0, 1) := by decide +kernel
theorem d_La_law_625 : decode b_La_law 625 = .ok (.ireturn, 1) := by decide +kernel
theorem d_La_law_626 : decode b_La_law 626 = .ok (.goto 480, 3) := by decide +kernel
