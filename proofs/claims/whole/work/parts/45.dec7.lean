theorem d_La_law_724 : decode b_La_law 724 = .ok (.invokevirtual 74, 3) := by decide +kernel
theorem d_La_law_727 : decode b_La_law 727 = .ok (.iload 5, 2) := by decide +kernel
theorem d_La_law_729 : decode b_La_law 729 = .ok (.if_icmp .eq 5, 3) := by decide +kernel
theorem d_La_law_732 : decode b_La_law 732 = .ok (.iconst 0, 1) := by decide +kernel
theorem d_La_law_733 : decode b_La_law 733 = .ok (.ireturn, 1) := by decide +kernel
theorem d_La_law_734 : decode b_La_law 734 = .ok (.iload 5, 2) := by decide +kernel
theorem d_La_law_736 : decode b_La_law 736 = .ok (.ifCond .ne 22, 3) := by decide +kernel
theorem d_La_law_739 : decode b_La_law 739 = .ok (.aload_n 3, 1) := by decide +kernel
theorem d_La_law_740 : decode b_La_law 740 = .ok (.iconst 0, 1) := by decide +kernel
theorem d_La_law_741 : decode b_La_law 741 = .ok (.laload, 1) := by decide +kernel
theorem d_La_law_742 : decode b_La_law 742 = .ok (.iload 6, 2) := by decide +kernel
theorem d_La_law_744 : decode b_La_law 744 = .ok (.ifCond .eq 7, 3) := by decide +kernel
theorem d_La_law_747 : decode b_La_law 747 = .ok (.lconst 1, 1) := by decide +kernel
theorem d_La_law_748 : decode b_La_law 748 = .ok (.goto 4, 3) := by decide +kernel
theorem d_La_law_751 : decode b_La_law 751 = .ok (.lconst 0, 1) := by decide +kernel
theorem d_La_law_752 : decode b_La_law 752 = .ok (.lcmp, 1) := by decide +kernel
theorem d_La_law_753 : decode b_La_law 753 = .ok (.ifCond .eq 5, 3) := by decide +kernel
theorem d_La_law_756 : decode b_La_law 756 = .ok (.iconst 0, 1) := by decide +kernel
theorem d_La_law_757 : decode b_La_law 757 = .ok (.ireturn, 1) := by decide +kernel
theorem d_La_law_758 : decode b_La_law 758 = .ok (.goto 348, 3) := by decide +kernel
theorem d_La_law_761 : decode b_La_law 761 = .ok (.aload_n 1, 1) := by decide +kernel
theorem d_La_law_762 : decode b_La_law 762 = .ok (.aload_n 0, 1) := by decide +kernel
theorem d_La_law_763 : decode b_La_law 763 = .ok (.iload 4, 2) := by decide +kernel
theorem d_La_law_765 : decode b_La_law 765 = .ok (.iconst 1, 1) := by decide +kernel
theorem d_La_law_766 : decode b_La_law 766 = .ok (.iadd, 1) := by decide +kernel
theorem d_La_law_767 : decode b_La_law 767 = .ok (.iaload, 1) := by decide +kernel
theorem d_La_law_768 : decode b_La_law 768 = .ok (.aload_n 3, 1) := by decide +kernel
theorem d_La_law_769 : decode b_La_law 769 = .ok (.invokestatic 108, 3) := by decide +kernel
theorem d_La_law_772 : decode b_La_law 772 = .ok (.istore 5, 2) := by decide +kernel
theorem d_La_law_774 : decode b_La_law 774 = .ok (.aload_n 2, 1) := by decide +kernel
theorem d_La_law_775 : decode b_La_law 775 = .ok (.aload_n 0, 1) := by decide +kernel
theorem d_La_law_776 : decode b_La_law 776 = .ok (.iload 4, 2) := by decide +kernel
theorem d_La_law_778 : decode b_La_law 778 = .ok (.iconst 1, 1) := by decide +kernel
theorem d_La_law_779 : decode b_La_law 779 = .ok (.iadd, 1) := by decide +kernel
theorem d_La_law_780 : decode b_La_law 780 = .ok (.iaload, 1) := by decide +kernel
theorem d_La_law_781 : decode b_La_law 781 = .ok (.invokevirtual 110, 3) := by decide +kernel
theorem d_La_law_784 : decode b_La_law 784 = .ok (.istore 6, 2) := by decide +kernel
theorem d_La_law_786 : decode b_La_law 786 = .ok (.aload_n 2, 1) := by decide +kernel
theorem d_La_law_787 : decode b_La_law 787 = .ok (.invokevirtual 74, 3) := by decide +kernel
theorem d_La_law_790 : decode b_La_law 790 = .ok (.iload 5, 2) := by decide +kernel
theorem d_La_law_792 : decode b_La_law 792 = .ok (.if_icmp .eq 5, 3) := by decide +kernel
theorem d_La_law_795 : decode b_La_law 795 = .ok (.iconst 0, 1) := by decide +kernel
theorem d_La_law_796 : decode b_La_law 796 = .ok (.ireturn, 1) := by decide +kernel
theorem d_La_law_797 : decode b_La_law 797 = .ok (.iload 5, 2) := by decide +kernel
theorem d_La_law_799 : decode b_La_law 799 = .ok (.ifCond .ne 15, 3) := by decide +kernel
theorem d_La_law_802 : decode b_La_law 802 = .ok (.aload_n 3, 1) := by decide +kernel
theorem d_La_law_803 : decode b_La_law 803 = .ok (.iconst 0, 1) := by decide +kernel
theorem d_La_law_804 : decode b_La_law 804 = .ok (.laload, 1) := by decide +kernel
theorem d_La_law_805 : decode b_La_law 805 = .ok (.iload 6, 2) := by decide +kernel
theorem d_La_law_807 : decode b_La_law 807 = .ok (.i2l, 1) := by decide +kernel
theorem d_La_law_808 : decode b_La_law 808 = .ok (.lcmp, 1) := by decide +kernel
theorem d_La_law_809 : decode b_La_law 809 = .ok (.ifCond .eq 5, 3) := by decide +kernel
theorem d_La_law_812 : decode b_La_law 812 = .ok (.iconst 0, 1) := by decide +kernel
theorem d_La_law_813 : decode b_La_law 813 = .ok (.ireturn, 1) := by decide +kernel
theorem d_La_law_814 : decode b_La_law 814 = .ok (.goto 292, 3) := by decide +kernel
theorem d_La_law_817 : decode b_La_law 817 = .ok (.aload_n 1, 1) := by decide +kernel
theorem d_La_law_818 : decode b_La_law 818 = .ok (.aload_n 3, 1) := by decide +kernel
theorem d_La_law_819 : decode b_La_law 819 = .ok (.invokestatic 111, 3) := by decide +kernel
theorem d_La_law_822 : decode b_La_law 822 = .ok (.istore 5, 2) := by decide +kernel
theorem d_La_law_824 : decode b_La_law 824 = .ok (.aload_n 2, 1) := by decide +kernel
