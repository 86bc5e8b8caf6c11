theorem d_La_law_922 : decode b_La_law 922 = .ok (.iload 5, 2) := by decide +kernel
theorem d_La_law_924 : decode b_La_law 924 = .ok (.ifCond .ne 15, 3) := by decide +kernel
theorem d_La_law_927 : decode b_La_law 927 = .ok (.aload_n 3, 1) := by decide +kernel
theorem d_La_law_928 : decode b_La_law 928 = .ok (.iconst 0, 1) := by decide +kernel
theorem d_La_law_929 : decode b_La_law 929 = .ok (.laload, 1) := by decide +kernel
theorem d_La_law_930 : decode b_La_law 930 = .ok (.iload 6, 2) := by decide +kernel
theorem d_La_law_932 : decode b_La_law 932 = .ok (.i2l, 1) := by decide +kernel
theorem d_La_law_933 : decode b_La_law 933 = .ok (.lcmp, 1) := by decide +kernel
theorem d_La_law_934 : decode b_La_law 934 = .ok (.ifCond .eq 5, 3) := by decide +kernel
theorem d_La_law_937 : decode b_La_law 937 = .ok (.iconst 0, 1) := by decide +kernel
theorem d_La_law_938 : decode b_La_law 938 = .ok (.ireturn, 1) := by decide +kernel
theorem d_La_law_939 : decode b_La_law 939 = .ok (.goto 167, 3) := by decide +kernel
theorem d_La_law_942 : decode b_La_law 942 = .ok (.aload_n 1, 1) := by decide +kernel
theorem d_La_law_943 : decode b_La_law 943 = .ok (.aload_n 0, 1) := by decide +kernel
theorem d_La_law_944 : decode b_La_law 944 = .ok (.iload 4, 2) := by decide +kernel
theorem d_La_law_946 : decode b_La_law 946 = .ok (.iconst 1, 1) := by decide +kernel
theorem d_La_law_947 : decode b_La_law 947 = .ok (.iadd, 1) := by decide +kernel
theorem d_La_law_948 : decode b_La_law 948 = .ok (.iaload, 1) := by decide +kernel
theorem d_La_law_949 : decode b_La_law 949 = .ok (.aload_n 3, 1) := by decide +kernel
theorem d_La_law_950 : decode b_La_law 950 = .ok (.invokestatic 122, 3) := by decide +kernel
theorem d_La_law_953 : decode b_La_law 953 = .ok (.istore 5, 2) := by decide +kernel
theorem d_La_law_955 : decode b_La_law 955 = .ok (.aload_n 2, 1) := by decide +kernel
theorem d_La_law_956 : decode b_La_law 956 = .ok (.aload_n 0, 1) := by decide +kernel
theorem d_La_law_957 : decode b_La_law 957 = .ok (.iload 4, 2) := by decide +kernel
theorem d_La_law_959 : decode b_La_law 959 = .ok (.iconst 1, 1) := by decide +kernel
theorem d_La_law_960 : decode b_La_law 960 = .ok (.iadd, 1) := by decide +kernel
theorem d_La_law_961 : decode b_La_law 961 = .ok (.iaload, 1) := by decide +kernel
theorem d_La_law_962 : decode b_La_law 962 = .ok (.invokevirtual 124, 3) := by decide +kernel
theorem d_La_law_965 : decode b_La_law 965 = .ok (.istore 6, 2) := by decide +kernel
theorem d_La_law_967 : decode b_La_law 967 = .ok (.aload_n 2, 1) := by decide +kernel
theorem d_La_law_968 : decode b_La_law 968 = .ok (.invokevirtual 74, 3) := by decide +kernel
theorem d_La_law_971 : decode b_La_law 971 = .ok (.iload 5, 2) := by decide +kernel
theorem d_La_law_973 : decode b_La_law 973 = .ok (.if_icmp .eq 5, 3) := by decide +kernel
theorem d_La_law_976 : decode b_La_law 976 = .ok (.iconst 0, 1) := by decide +kernel
theorem d_La_law_977 : decode b_La_law 977 = .ok (.ireturn, 1) := by decide +kernel
theorem d_La_law_978 : decode b_La_law 978 = .ok (.iload 5, 2) := by decide +kernel
theorem d_La_law_980 : decode b_La_law 980 = .ok (.ifCond .ne 15, 3) := by decide +kernel
theorem d_La_law_983 : decode b_La_law 983 = .ok (.aload_n 3, 1) := by decide +kernel
theorem d_La_law_984 : decode b_La_law 984 = .ok (.iconst 0, 1) := by decide +kernel
theorem d_La_law_985 : decode b_La_law 985 = .ok (.laload, 1) := by decide +kernel
theorem d_La_law_986 : decode b_La_law 986 = .ok (.iload 6, 2) := by decide +kernel
theorem d_La_law_988 : decode b_La_law 988 = .ok (.i2l, 1) := by decide +kernel
theorem d_La_law_989 : decode b_La_law 989 = .ok (.lcmp, 1) := by decide +kernel
theorem d_La_law_990 : decode b_La_law 990 = .ok (.ifCond .eq 5, 3) := by decide +kernel
theorem d_La_law_993 : decode b_La_law 993 = .ok (.iconst 0, 1) := by decide +kernel
theorem d_La_law_994 : decode b_La_law 994 = .ok (.ireturn, 1) := by decide +kernel
theorem d_La_law_995 : decode b_La_law 995 = .ok (.goto 111, 3) := by decide +kernel
theorem d_La_law_998 : decode b_La_law 998 = .ok (.aload_n 1, 1) := by decide +kernel
theorem d_La_law_999 : decode b_La_law 999 = .ok (.aload_n 0, 1) := by decide +kernel
theorem d_La_law_1000 : decode b_La_law 1000 = .ok (.iload 4, 2) := by decide +kernel
theorem d_La_law_1002 : decode b_La_law 1002 = .ok (.iconst 1, 1) := by decide +kernel
theorem d_La_law_1003 : decode b_La_law 1003 = .ok (.iadd, 1) := by decide +kernel
theorem d_La_law_1004 : decode b_La_law 1004 = .ok (.iaload, 1) := by decide +kernel
theorem d_La_law_1005 : decode b_La_law 1005 = .ok (.invokevirtual 125, 3) := by decide +kernel
theorem d_La_law_1008 : decode b_La_law 1008 = .ok (.aload_n 2, 1) := by decide +kernel
theorem d_La_law_1009 : decode b_La_law 1009 = .ok (.aload_n 0, 1) := by decide +kernel
theorem d_La_law_1010 : decode b_La_law 1010 = .ok (.iload 4, 2) := by decide +kernel
theorem d_La_law_1012 : decode b_La_law 1012 = .ok (.iconst 1, 1) := by decide +kernel
theorem d_La_law_1013 : decode b_La_law 1013 = .ok (.iadd, 1) := by decide +kernel
theorem d_La_law_1014 : decode b_La_law 1014 = .ok (.iaload, 1) := by decide +kernel
