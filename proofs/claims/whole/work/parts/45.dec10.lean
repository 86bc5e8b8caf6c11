theorem d_La_law_1015 : decode b_La_law 1015 = .ok (.invokevirtual 128, 3) := by decide +kernel
theorem d_La_law_1018 : decode b_La_law 1018 = .ok (.if_icmp .eq 88, 3) := by decide +kernel
theorem d_La_law_1021 : decode b_La_law 1021 = .ok (.iconst 0, 1) := by decide +kernel
theorem d_La_law_1022 : decode b_La_law 1022 = .ok (.ireturn, 1) := by decide +kernel
theorem d_La_law_1023 : decode b_La_law 1023 = .ok (.aload_n 1, 1) := by decide +kernel
theorem d_La_law_1024 : decode b_La_law 1024 = .ok (.invokevirtual 129, 3) := by decide +kernel
theorem d_La_law_1027 : decode b_La_law 1027 = .ok (.aload_n 2, 1) := by decide +kernel
theorem d_La_law_1028 : decode b_La_law 1028 = .ok (.invokevirtual 133, 3) := by decide +kernel
theorem d_La_law_1031 : decode b_La_law 1031 = .ok (.lcmp, 1) := by decide +kernel
theorem d_La_law_1032 : decode b_La_law 1032 = .ok (.ifCond .eq 74, 3) := by decide +kernel
theorem d_La_law_1035 : decode b_La_law 1035 = .ok (.iconst 0, 1) := by decide +kernel
theorem d_La_law_1036 : decode b_La_law 1036 = .ok (.ireturn, 1) := by decide +kernel
theorem d_La_law_1037 : decode b_La_law 1037 = .ok (.aload_n 1, 1) := by decide +kernel
theorem d_La_law_1038 : decode b_La_law 1038 = .ok (.aload_n 0, 1) := by decide +kernel
theorem d_La_law_1039 : decode b_La_law 1039 = .ok (.iload 4, 2) := by decide +kernel
theorem d_La_law_1041 : decode b_La_law 1041 = .ok (.iconst 1, 1) := by decide +kernel
theorem d_La_law_1042 : decode b_La_law 1042 = .ok (.iadd, 1) := by decide +kernel
theorem d_La_law_1043 : decode b_La_law 1043 = .ok (.iaload, 1) := by decide +kernel
theorem d_La_law_1044 : decode b_La_law 1044 = .ok (.aload_n 3, 1) := by decide +kernel
theorem d_La_law_1045 : decode b_La_law 1045 = .ok (.invokestatic 134, 3) := by decide +kernel
theorem d_La_law_1048 : decode b_La_law 1048 = .ok (.istore 5, 2) := by decide +kernel
theorem d_La_law_1050 : decode b_La_law 1050 = .ok (.aload_n 2, 1) := by decide +kernel
theorem d_La_law_1051 : decode b_La_law 1051 = .ok (.aload_n 0, 1) := by decide +kernel
theorem d_La_law_1052 : decode b_La_law 1052 = .ok (.iload 4, 2) := by decide +kernel
theorem d_La_law_1054 : decode b_La_law 1054 = .ok (.iconst 1, 1) := by decide +kernel
theorem d_La_law_1055 : decode b_La_law 1055 = .ok (.iadd, 1) := by decide +kernel
theorem d_La_law_1056 : decode b_La_law 1056 = .ok (.iaload, 1) := by decide +kernel
theorem d_La_law_1057 : decode b_La_law 1057 = .ok (.invokevirtual 136, 3) := by decide +kernel
theorem d_La_law_1060 : decode b_La_law 1060 = .ok (.istore 6, 2) := by decide +kernel
theorem d_La_law_1062 : decode b_La_law 1062 = .ok (.aload_n 2, 1) := by decide +kernel
theorem d_La_law_1063 : decode b_La_law 1063 = .ok (.invokevirtual 74, 3) := by decide +kernel
theorem d_La_law_1066 : decode b_La_law 1066 = .ok (.iload 5, 2) := by decide +kernel
theorem d_La_law_1068 : decode b_La_law 1068 = .ok (.if_icmp .eq 5, 3) := by decide +kernel
theorem d_La_law_1071 : decode b_La_law 1071 = .ok (.iconst 0, 1) := by decide +kernel
theorem d_La_law_1072 : decode b_La_law 1072 = .ok (.ireturn, 1) := by decide +kernel
theorem d_La_law_1073 : decode b_La_law 1073 = .ok (.iload 5, 2) := by decide +kernel
theorem d_La_law_1075 : decode b_La_law 1075 = .ok (.ifCond .ne 15, 3) := by decide +kernel
theorem d_La_law_1078 : decode b_La_law 1078 = .ok (.aload_n 3, 1) := by decide +kernel
theorem d_La_law_1079 : decode b_La_law 1079 = .ok (.iconst 0, 1) := by decide +kernel
theorem d_La_law_1080 : decode b_La_law 1080 = .ok (.laload, 1) := by decide +kernel
theorem d_La_law_1081 : decode b_La_law 1081 = .ok (.iload 6, 2) := by decide +kernel
theorem d_La_law_1083 : decode b_La_law 1083 = .ok (.i2l, 1) := by decide +kernel
theorem d_La_law_1084 : decode b_La_law 1084 = .ok (.lcmp, 1) := by decide +kernel
theorem d_La_law_1085 : decode b_La_law 1085 = .ok (.ifCond .eq 5, 3) := by decide +kernel
theorem d_La_law_1088 : decode b_La_law 1088 = .ok (.iconst 0, 1) := by decide +kernel
theorem d_La_law_1089 : decode b_La_law 1089 = .ok (.ireturn, 1) := by decide +kernel
theorem d_La_law_1090 : decode b_La_law 1090 = .ok (.goto 16, 3) := by decide +kernel
theorem d_La_law_1093 : decode b_La_law 1093 = .ok (.aload_n 1, 1) := by decide +kernel
theorem d_La_law_1094 : decode b_La_law 1094 = .ok (.invokevirtual 137, 3) := by decide +kernel
theorem d_La_law_1097 : decode b_La_law 1097 = .ok (.aload_n 2, 1) := by decide +kernel
theorem d_La_law_1098 : decode b_La_law 1098 = .ok (.invokevirtual 140, 3) := by decide +kernel
theorem d_La_law_1101 : decode b_La_law 1101 = .ok (.if_icmp .eq 5, 3) := by decide +kernel
theorem d_La_law_1104 : decode b_La_law 1104 = .ok (.iconst 0, 1) := by decide +kernel
theorem d_La_law_1105 : decode b_La_law 1105 = .ok (.ireturn, 1) := by decide +kernel
theorem d_La_law_1106 : decode b_La_law 1106 = .ok (.iinc 4 7, 3) := by decide +kernel
theorem d_La_law_1109 : decode b_La_law 1109 = .ok (.goto (-1086), 3) := by decide +kernel
theorem d_La_law_1112 : decode b_La_law 1112 = .ok (.iconst 1, 1) := by decide +kernel
theorem d_La_law_1113 : decode b_La_law 1113 = .ok (.ireturn, 1) := by decide +kernel
