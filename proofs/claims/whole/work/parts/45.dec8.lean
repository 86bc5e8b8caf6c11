theorem d_La_law_825 : decode b_La_law 825 = .ok (.invokevirtual 114, 3) := by decide +kernel
theorem d_La_law_828 : decode b_La_law 828 = .ok (.istore 6, 2) := by decide +kernel
theorem d_La_law_830 : decode b_La_law 830 = .ok (.aload_n 2, 1) := by decide +kernel
theorem d_La_law_831 : decode b_La_law 831 = .ok (.invokevirtual 74, 3) := by decide +kernel
theorem d_La_law_834 : decode b_La_law 834 = .ok (.iload 5, 2) := by decide +kernel
theorem d_La_law_836 : decode b_La_law 836 = .ok (.if_icmp .eq 5, 3) := by decide +kernel
theorem d_La_law_839 : decode b_La_law 839 = .ok (.iconst 0, 1) := by decide +kernel
theorem d_La_law_840 : decode b_La_law 840 = .ok (.ireturn, 1) := by decide +kernel
theorem d_La_law_841 : decode b_La_law 841 = .ok (.iload 5, 2) := by decide +kernel
theorem d_La_law_843 : decode b_La_law 843 = .ok (.ifCond .ne 15, 3) := by decide +kernel
theorem d_La_law_846 : decode b_La_law 846 = .ok (.aload_n 3, 1) := by decide +kernel
theorem d_La_law_847 : decode b_La_law 847 = .ok (.iconst 0, 1) := by decide +kernel
theorem d_La_law_848 : decode b_La_law 848 = .ok (.laload, 1) := by decide +kernel
theorem d_La_law_849 : decode b_La_law 849 = .ok (.iload 6, 2) := by decide +kernel
theorem d_La_law_851 : decode b_La_law 851 = .ok (.i2l, 1) := by decide +kernel
theorem d_La_law_852 : decode b_La_law 852 = .ok (.lcmp, 1) := by decide +kernel
theorem d_La_law_853 : decode b_La_law 853 = .ok (.ifCond .eq 5, 3) := by decide +kernel
theorem d_La_law_856 : decode b_La_law 856 = .ok (.iconst 0, 1) := by decide +kernel
theorem d_La_law_857 : decode b_La_law 857 = .ok (.ireturn, 1) := by decide +kernel
theorem d_La_law_858 : decode b_La_law 858 = .ok (.goto 248, 3) := by decide +kernel
theorem d_La_law_861 : decode b_La_law 861 = .ok (.aload_n 1, 1) := by decide +kernel
theorem d_La_law_862 : decode b_La_law 862 = .ok (.invokevirtual 115, 3) := by decide +kernel
theorem d_La_law_865 : decode b_La_law 865 = .ok (.aload_n 2, 1) := by decide +kernel
theorem d_La_law_866 : decode b_La_law 866 = .ok (.invokevirtual 118, 3) := by decide +kernel
theorem d_La_law_869 : decode b_La_law 869 = .ok (.if_icmp .eq 237, 3) := by decide +kernel
theorem d_La_law_872 : decode b_La_law 872 = .ok (.iconst 0, 1) := by decide +kernel
theorem d_La_law_873 : decode b_La_law 873 = .ok (.ireturn, 1) := by decide +kernel
theorem d_La_law_874 : decode b_La_law 874 = .ok (.aload_n 1, 1) := by decide +kernel
theorem d_La_law_875 : decode b_La_law 875 = .ok (.aload_n 0, 1) := by decide +kernel
theorem d_La_law_876 : decode b_La_law 876 = .ok (.iload 4, 2) := by decide +kernel
theorem d_La_law_878 : decode b_La_law 878 = .ok (.iconst 1, 1) := by decide +kernel
theorem d_La_law_879 : decode b_La_law 879 = .ok (.iadd, 1) := by decide +kernel
theorem d_La_law_880 : decode b_La_law 880 = .ok (.iaload, 1) := by decide +kernel
theorem d_La_law_881 : decode b_La_law 881 = .ok (.aload_n 0, 1) := by decide +kernel
theorem d_La_law_882 : decode b_La_law 882 = .ok (.iload 4, 2) := by decide +kernel
theorem d_La_law_884 : decode b_La_law 884 = .ok (.iconst 2, 1) := by decide +kernel
theorem d_La_law_885 : decode b_La_law 885 = .ok (.iadd, 1) := by decide +kernel
theorem d_La_law_886 : decode b_La_law 886 = .ok (.iaload, 1) := by decide +kernel
theorem d_La_law_887 : decode b_La_law 887 = .ok (.aload_n 3, 1) := by decide +kernel
theorem d_La_law_888 : decode b_La_law 888 = .ok (.invokestatic 119, 3) := by decide +kernel
theorem d_La_law_891 : decode b_La_law 891 = .ok (.istore 5, 2) := by decide +kernel
theorem d_La_law_893 : decode b_La_law 893 = .ok (.aload_n 2, 1) := by decide +kernel
theorem d_La_law_894 : decode b_La_law 894 = .ok (.aload_n 0, 1) := by decide +kernel
theorem d_La_law_895 : decode b_La_law 895 = .ok (.iload 4, 2) := by decide +kernel
theorem d_La_law_897 : decode b_La_law 897 = .ok (.iconst 1, 1) := by decide +kernel
theorem d_La_law_898 : decode b_La_law 898 = .ok (.iadd, 1) := by decide +kernel
theorem d_La_law_899 : decode b_La_law 899 = .ok (.iaload, 1) := by decide +kernel
theorem d_La_law_900 : decode b_La_law 900 = .ok (.aload_n 0, 1) := by decide +kernel
theorem d_La_law_901 : decode b_La_law 901 = .ok (.iload 4, 2) := by decide +kernel
theorem d_La_law_903 : decode b_La_law 903 = .ok (.iconst 2, 1) := by decide +kernel
theorem d_La_law_904 : decode b_La_law 904 = .ok (.iadd, 1) := by decide +kernel
theorem d_La_law_905 : decode b_La_law 905 = .ok (.iaload, 1) := by decide +kernel
theorem d_La_law_906 : decode b_La_law 906 = .ok (.invokevirtual 121, 3) := by decide +kernel
theorem d_La_law_909 : decode b_La_law 909 = .ok (.istore 6, 2) := by decide +kernel
theorem d_La_law_911 : decode b_La_law 911 = .ok (.aload_n 2, 1) := by decide +kernel
theorem d_La_law_912 : decode b_La_law 912 = .ok (.invokevirtual 74, 3) := by decide +kernel
theorem d_La_law_915 : decode b_La_law 915 = .ok (.iload 5, 2) := by decide +kernel
theorem d_La_law_917 : decode b_La_law 917 = .ok (.if_icmp .eq 5, 3) := by decide +kernel
theorem d_La_law_920 : decode b_La_law 920 = .ok (.iconst 0, 1) := by decide +kernel
theorem d_La_law_921 : decode b_La_law 921 = .ok (.ireturn, 1) := by decide +kernel
