theorem d_La_law_629 : decode b_La_law 629 = .ok (.aload_n 1, 1) := by decide +kernel
theorem d_La_law_630 : decode b_La_law 630 = .ok (.aload_n 0, 1) := by decide +kernel
theorem d_La_law_631 : decode b_La_law 631 = .ok (.iload 4, 2) := by decide +kernel
theorem d_La_law_633 : decode b_La_law 633 = .ok (.iconst 1, 1) := by decide +kernel
theorem d_La_law_634 : decode b_La_law 634 = .ok (.iadd, 1) := by decide +kernel
theorem d_La_law_635 : decode b_La_law 635 = .ok (.iaload, 1) := by decide +kernel
theorem d_La_law_636 : decode b_La_law 636 = .ok (.aload_n 3, 1) := by decide +kernel
theorem d_La_law_637 : decode b_La_law 637 = .ok (.invokestatic 98, 3) := by decide +kernel
theorem d_La_law_640 : decode b_La_law 640 = .ok (.istore 5, 2) := by decide +kernel
theorem d_La_law_642 : decode b_La_law 642 = .ok (.aload_n 2, 1) := by decide +kernel
theorem d_La_law_643 : decode b_La_law 643 = .ok (.aload_n 0, 1) := by decide +kernel
theorem d_La_law_644 : decode b_La_law 644 = .ok (.iload 4, 2) := by decide +kernel
theorem d_La_law_646 : decode b_La_law 646 = .ok (.iconst 1, 1) := by decide +kernel
theorem d_La_law_647 : decode b_La_law 647 = .ok (.iadd, 1) := by decide +kernel
theorem d_La_law_648 : decode b_La_law 648 = .ok (.iaload, 1) := by decide +kernel
theorem d_La_law_649 : decode b_La_law 649 = .ok (.invokevirtual 100, 3) := by decide +kernel
theorem d_La_law_652 : decode b_La_law 652 = .ok (.istore 6, 2) := by decide +kernel
theorem d_La_law_654 : decode b_La_law 654 = .ok (.aload_n 2, 1) := by decide +kernel
theorem d_La_law_655 : decode b_La_law 655 = .ok (.invokevirtual 74, 3) := by decide +kernel
theorem d_La_law_658 : decode b_La_law 658 = .ok (.iload 5, 2) := by decide +kernel
theorem d_La_law_660 : decode b_La_law 660 = .ok (.if_icmp .eq 5, 3) := by decide +kernel
theorem d_La_law_663 : decode b_La_law 663 = .ok (.iconst 0, 1) := by decide +kernel
theorem d_La_law_664 : decode b_La_law 664 = .ok (.ireturn, 1) := by decide +kernel
theorem d_La_law_665 : decode b_La_law 665 = .ok (.iload 5, 2) := by decide +kernel
theorem d_La_law_667 : decode b_La_law 667 = .ok (.ifCond .ne 15, 3) := by decide +kernel
theorem d_La_law_670 : decode b_La_law 670 = .ok (.aload_n 3, 1) := by decide +kernel
theorem d_La_law_671 : decode b_La_law 671 = .ok (.iconst 0, 1) := by decide +kernel
theorem d_La_law_672 : decode b_La_law 672 = .ok (.laload, 1) := by decide +kernel
theorem d_La_law_673 : decode b_La_law 673 = .ok (.iload 6, 2) := by decide +kernel
theorem d_La_law_675 : decode b_La_law 675 = .ok (.i2l, 1) := by decide +kernel
theorem d_La_law_676 : decode b_La_law 676 = .ok (.lcmp, 1) := by decide +kernel
theorem d_La_law_677 : decode b_La_law 677 = .ok (.ifCond .eq 5, 3) := by decide +kernel
theorem d_La_law_680 : decode b_La_law 680 = .ok (.iconst 0, 1) := by decide +kernel
theorem d_La_law_681 : decode b_La_law 681 = .ok (.ireturn, 1) := by decide +kernel
theorem d_La_law_682 : decode b_La_law 682 = .ok (.goto 424, 3) := by decide +kernel
theorem d_La_law_685 : decode b_La_law 685 = .ok (.aload_n 1, 1) := by decide +kernel
theorem d_La_law_686 : decode b_La_law 686 = .ok (.invokevirtual 101, 3) := by decide +kernel
theorem d_La_law_689 : decode b_La_law 689 = .ok (.aload_n 2, 1) := by decide +kernel
theorem d_La_law_690 : decode b_La_law 690 = .ok (.invokevirtual 104, 3) := by decide +kernel
theorem d_La_law_693 : decode b_La_law 693 = .ok (.if_icmp .eq 413, 3) := by decide +kernel
theorem d_La_law_696 : decode b_La_law 696 = .ok (.iconst 0, 1) := by decide +kernel
theorem d_La_law_697 : decode b_La_law 697 = .ok (.ireturn, 1) := by decide +kernel
theorem d_La_law_698 : decode b_La_law 698 = .ok (.aload_n 1, 1) := by decide +kernel
theorem d_La_law_699 : decode b_La_law 699 = .ok (.aload_n 0, 1) := by decide +kernel
theorem d_La_law_700 : decode b_La_law 700 = .ok (.iload 4, 2) := by decide +kernel
theorem d_La_law_702 : decode b_La_law 702 = .ok (.iconst 1, 1) := by decide +kernel
theorem d_La_law_703 : decode b_La_law 703 = .ok (.iadd, 1) := by decide +kernel
theorem d_La_law_704 : decode b_La_law 704 = .ok (.iaload, 1) := by decide +kernel
theorem d_La_law_705 : decode b_La_law 705 = .ok (.aload_n 3, 1) := by decide +kernel
theorem d_La_law_706 : decode b_La_law 706 = .ok (.invokestatic 105, 3) := by decide +kernel
theorem d_La_law_709 : decode b_La_law 709 = .ok (.istore 5, 2) := by decide +kernel
theorem d_La_law_711 : decode b_La_law 711 = .ok (.aload_n 2, 1) := by decide +kernel
theorem d_La_law_712 : decode b_La_law 712 = .ok (.aload_n 0, 1) := by decide +kernel
theorem d_La_law_713 : decode b_La_law 713 = .ok (.iload 4, 2) := by decide +kernel
theorem d_La_law_715 : decode b_La_law 715 = .ok (.iconst 1, 1) := by decide +kernel
theorem d_La_law_716 : decode b_La_law 716 = .ok (.iadd, 1) := by decide +kernel
theorem d_La_law_717 : decode b_La_law 717 = .ok (.iaload, 1) := by decide +kernel
theorem d_La_law_718 : decode b_La_law 718 = .ok (.invokevirtual 107, 3) := by decide +kernel
theorem d_La_law_721 : decode b_La_law 721 = .ok (.istore 6, 2) := by decide +kernel
theorem d_La_law_723 : decode b_La_law 723 = .ok (.aload_n 2, 1) := by decide +kernel
