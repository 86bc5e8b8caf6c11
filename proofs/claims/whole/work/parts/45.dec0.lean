abbrev b_La_law : ByteArray := code
theorem d_La_law_0 : decode b_La_law 0 = .ok (.new 8, 3) := by decide +kernel
theorem d_La_law_3 : decode b_La_law 3 = .ok (.dup, 1) := by decide +kernel
theorem d_La_law_4 : decode b_La_law 4 = .ok (.invokespecial 64, 3) := by decide +kernel
theorem d_La_law_7 : decode b_La_law 7 = .ok (.astore_n 1, 1) := by decide +kernel
theorem d_La_law_8 : decode b_La_law 8 = .ok (.new 65, 3) := by decide +kernel
theorem d_La_law_11 : decode b_La_law 11 = .ok (.dup, 1) := by decide +kernel
theorem d_La_law_12 : decode b_La_law 12 = .ok (.invokespecial 67, 3) := by decide +kernel
theorem d_La_law_15 : decode b_La_law 15 = .ok (.astore_n 2, 1) := by decide +kernel
theorem d_La_law_16 : decode b_La_law 16 = .ok (.iconst 1, 1) := by decide +kernel
theorem d_La_law_17 : decode b_La_law 17 = .ok (.newarray .long, 2) := by decide +kernel
theorem d_La_law_19 : decode b_La_law 19 = .ok (.astore_n 3, 1) := by decide +kernel
theorem d_La_law_20 : decode b_La_law 20 = .ok (.iconst 0, 1) := by decide +kernel
theorem d_La_law_21 : decode b_La_law 21 = .ok (.istore 4, 2) := by decide +kernel
theorem d_La_law_23 : decode b_La_law 23 = .ok (.iload 4, 2) := by decide +kernel
theorem d_La_law_25 : decode b_La_law 25 = .ok (.aload_n 0, 1) := by decide +kernel
theorem d_La_law_26 : decode b_La_law 26 = .ok (.arraylength, 1) := by decide +kernel
theorem d_La_law_27 : decode b_La_law 27 = .ok (.bipush 7, 2) := by decide +kernel
theorem d_La_law_29 : decode b_La_law 29 = .ok (.isub, 1) := by decide +kernel
theorem d_La_law_30 : decode b_La_law 30 = .ok (.if_icmp .gt 1082, 3) := by decide +kernel
theorem d_La_law_33 : decode b_La_law 33 = .ok (.aload_n 0, 1) := by decide +kernel
theorem d_La_law_34 : decode b_La_law 34 = .ok (.iload 4, 2) := by decide +kernel
theorem d_La_law_36 : decode b_La_law 36 = .ok (.iaload, 1) := by decide +kernel
theorem d_La_law_37 : decode b_La_law 37 = .ok (.bipush 31, 2) := by decide +kernel
theorem d_La_law_39 : decode b_La_law 39 = .ok (.iand, 1) := by decide +kernel
theorem d_La_law_40 : decode b_La_law 40 = .ok (.tableswitch 1066 0 17 #[88, 156, 236, 292, 376, 431, 589, 645, 658, 721, 777, 821, 834, 902, 958, 983, 997, 1053], 88) := by decide +kernel
theorem d_La_law_128 : decode b_La_law 128 = .ok (.aload_n 1, 1) := by decide +kernel
theorem d_La_law_129 : decode b_La_law 129 = .ok (.aload_n 0, 1) := by decide +kernel
theorem d_La_law_130 : decode b_La_law 130 = .ok (.iload 4, 2) := by decide +kernel
theorem d_La_law_132 : decode b_La_law 132 = .ok (.iconst 1, 1) := by decide +kernel
theorem d_La_law_133 : decode b_La_law 133 = .ok (.iadd, 1) := by decide +kernel
theorem d_La_law_134 : decode b_La_law 134 = .ok (.iaload, 1) := by decide +kernel
theorem d_La_law_135 : decode b_La_law 135 = .ok (.aload_n 0, 1) := by decide +kernel
theorem d_La_law_136 : decode b_La_law 136 = .ok (.iload 4, 2) := by decide +kernel
theorem d_La_law_138 : decode b_La_law 138 = .ok (.iconst 2, 1) := by decide +kernel
theorem d_La_law_139 : decode b_La_law 139 = .ok (.iadd, 1) := by decide +kernel
theorem d_La_law_140 : decode b_La_law 140 = .ok (.iaload, 1) := by decide +kernel
theorem d_La_law_141 : decode b_La_law 141 = .ok (.aload_n 3, 1) := by decide +kernel
theorem d_La_law_142 : decode b_La_law 142 = .ok (.invokestatic 68, 3) := by decide +kernel
theorem d_La_law_145 : decode b_La_law 145 = .ok (.istore 5, 2) := by decide +kernel
theorem d_La_law_147 : decode b_La_law 147 = .ok (.aload_n 2, 1) := by decide +kernel
theorem d_La_law_148 : decode b_La_law 148 = .ok (.aload_n 0, 1) := by decide +kernel
theorem d_La_law_149 : decode b_La_law 149 = .ok (.iload 4, 2) := by decide +kernel
theorem d_La_law_151 : decode b_La_law 151 = .ok (.iconst 1, 1) := by decide +kernel
theorem d_La_law_152 : decode b_La_law 152 = .ok (.iadd, 1) := by decide +kernel
theorem d_La_law_153 : decode b_La_law 153 = .ok (.iaload, 1) := by decide +kernel
theorem d_La_law_154 : decode b_La_law 154 = .ok (.aload_n 0, 1) := by decide +kernel
theorem d_La_law_155 : decode b_La_law 155 = .ok (.iload 4, 2) := by decide +kernel
theorem d_La_law_157 : decode b_La_law 157 = .ok (.iconst 2, 1) := by decide +kernel
theorem d_La_law_158 : decode b_La_law 158 = .ok (.iadd, 1) := by decide +kernel
theorem d_La_law_159 : decode b_La_law 159 = .ok (.iaload, 1) := by decide +kernel
theorem d_La_law_160 : decode b_La_law 160 = .ok (.invokevirtual 73, 3) := by decide +kernel
theorem d_La_law_163 : decode b_La_law 163 = .ok (.istore 6, 2) := by decide +kernel
theorem d_La_law_165 : decode b_La_law 165 = .ok (.aload_n 2, 1) := by decide +kernel
theorem d_La_law_166 : decode b_La_law 166 = .ok (.invokevirtual 74, 3) := by decide +kernel
theorem d_La_law_169 : decode b_La_law 169 = .ok (.iload 5, 2) := by decide +kernel
theorem d_La_law_171 : decode b_La_law 171 = .ok (.if_icmp .eq 5, 3) := by decide +kernel
theorem d_La_law_174 : decode b_La_law 174 = .ok (.iconst 0, 1) := by decide +kernel
theorem d_La_law_175 : decode b_La_law 175 = .ok (.ireturn, 1) := by decide +kernel
theorem d_La_law_176 : decode b_La_law 176 = .ok (.iload 5, 2) := by decide +kernel
theorem d_La_law_178 : decode b_La_law 178 = .ok (.ifCond .ne 15, 3) := by decide +kernel
