theorem d_Mo_tellJoining_0 : decode b_Mo_tellJoining 0 = .ok (.iconst 0, 1) := by decide +kernel
theorem d_Mo_tellJoining_1 : decode b_Mo_tellJoining 1 = .ok (.istore_n 1, 1) := by decide +kernel
theorem d_Mo_tellJoining_2 : decode b_Mo_tellJoining 2 = .ok (.aload_n 0, 1) := by decide +kernel
theorem d_Mo_tellJoining_3 : decode b_Mo_tellJoining 3 = .ok (.iconst 0, 1) := by decide +kernel
theorem d_Mo_tellJoining_4 : decode b_Mo_tellJoining 4 = .ok (.putfield 107, 3) := by decide +kernel
theorem d_Mo_tellJoining_7 : decode b_Mo_tellJoining 7 = .ok (.iconst 0, 1) := by decide +kernel
theorem d_Mo_tellJoining_8 : decode b_Mo_tellJoining 8 = .ok (.istore_n 2, 1) := by decide +kernel
theorem d_Mo_tellJoining_9 : decode b_Mo_tellJoining 9 = .ok (.iload_n 2, 1) := by decide +kernel
theorem d_Mo_tellJoining_10 : decode b_Mo_tellJoining 10 = .ok (.aload_n 0, 1) := by decide +kernel
theorem d_Mo_tellJoining_11 : decode b_Mo_tellJoining 11 = .ok (.getfield 54, 3) := by decide +kernel
theorem d_Mo_tellJoining_14 : decode b_Mo_tellJoining 14 = .ok (.if_icmp .ge 70, 3) := by decide +kernel
theorem d_Mo_tellJoining_17 : decode b_Mo_tellJoining 17 = .ok (.aload_n 0, 1) := by decide +kernel
theorem d_Mo_tellJoining_18 : decode b_Mo_tellJoining 18 = .ok (.getfield 41, 3) := by decide +kernel
theorem d_Mo_tellJoining_21 : decode b_Mo_tellJoining 21 = .ok (.iload_n 2, 1) := by decide +kernel
theorem d_Mo_tellJoining_22 : decode b_Mo_tellJoining 22 = .ok (.aload_n 0, 1) := by decide +kernel
theorem d_Mo_tellJoining_23 : decode b_Mo_tellJoining 23 = .ok (.getfield 7, 3) := by decide +kernel
theorem d_Mo_tellJoining_26 : decode b_Mo_tellJoining 26 = .ok (.iload_n 2, 1) := by decide +kernel
theorem d_Mo_tellJoining_27 : decode b_Mo_tellJoining 27 = .ok (.iaload, 1) := by decide +kernel
theorem d_Mo_tellJoining_28 : decode b_Mo_tellJoining 28 = .ok (.iastore, 1) := by decide +kernel
theorem d_Mo_tellJoining_29 : decode b_Mo_tellJoining 29 = .ok (.iload_n 2, 1) := by decide +kernel
theorem d_Mo_tellJoining_30 : decode b_Mo_tellJoining 30 = .ok (.iconst 1, 1) := by decide +kernel
theorem d_Mo_tellJoining_31 : decode b_Mo_tellJoining 31 = .ok (.iadd, 1) := by decide +kernel
theorem d_Mo_tellJoining_32 : decode b_Mo_tellJoining 32 = .ok (.aload_n 0, 1) := by decide +kernel
theorem d_Mo_tellJoining_33 : decode b_Mo_tellJoining 33 = .ok (.getfield 54, 3) := by decide +kernel
theorem d_Mo_tellJoining_36 : decode b_Mo_tellJoining 36 = .ok (.if_icmp .eq 20, 3) := by decide +kernel
theorem d_Mo_tellJoining_39 : decode b_Mo_tellJoining 39 = .ok (.aload_n 0, 1) := by decide +kernel
theorem d_Mo_tellJoining_40 : decode b_Mo_tellJoining 40 = .ok (.getfield 7, 3) := by decide +kernel
theorem d_Mo_tellJoining_43 : decode b_Mo_tellJoining 43 = .ok (.iload_n 2, 1) := by decide +kernel
theorem d_Mo_tellJoining_44 : decode b_Mo_tellJoining 44 = .ok (.iaload, 1) := by decide +kernel
theorem d_Mo_tellJoining_45 : decode b_Mo_tellJoining 45 = .ok (.aload_n 0, 1) := by decide +kernel
theorem d_Mo_tellJoining_46 : decode b_Mo_tellJoining 46 = .ok (.getfield 7, 3) := by decide +kernel
theorem d_Mo_tellJoining_49 : decode b_Mo_tellJoining 49 = .ok (.iload_n 2, 1) := by decide +kernel
theorem d_Mo_tellJoining_50 : decode b_Mo_tellJoining 50 = .ok (.iconst 1, 1) := by decide +kernel
theorem d_Mo_tellJoining_51 : decode b_Mo_tellJoining 51 = .ok (.iadd, 1) := by decide +kernel
theorem d_Mo_tellJoining_52 : decode b_Mo_tellJoining 52 = .ok (.iaload, 1) := by decide +kernel
theorem d_Mo_tellJoining_53 : decode b_Mo_tellJoining 53 = .ok (.if_icmp .le 25, 3) := by decide +kernel
theorem d_Mo_tellJoining_56 : decode b_Mo_tellJoining 56 = .ok (.aload_n 0, 1) := by decide +kernel
theorem d_Mo_tellJoining_57 : decode b_Mo_tellJoining 57 = .ok (.getfield 47, 3) := by decide +kernel
theorem d_Mo_tellJoining_60 : decode b_Mo_tellJoining 60 = .ok (.aload_n 0, 1) := by decide +kernel
theorem d_Mo_tellJoining_61 : decode b_Mo_tellJoining 61 = .ok (.getfield 107, 3) := by decide +kernel
theorem d_Mo_tellJoining_64 : decode b_Mo_tellJoining 64 = .ok (.iload_n 2, 1) := by decide +kernel
theorem d_Mo_tellJoining_65 : decode b_Mo_tellJoining 65 = .ok (.iconst 1, 1) := by decide +kernel
theorem d_Mo_tellJoining_66 : decode b_Mo_tellJoining 66 = .ok (.iadd, 1) := by decide +kernel
theorem d_Mo_tellJoining_67 : decode b_Mo_tellJoining 67 = .ok (.iastore, 1) := by decide +kernel
theorem d_Mo_tellJoining_68 : decode b_Mo_tellJoining 68 = .ok (.aload_n 0, 1) := by decide +kernel
theorem d_Mo_tellJoining_69 : decode b_Mo_tellJoining 69 = .ok (.dup, 1) := by decide +kernel
theorem d_Mo_tellJoining_70 : decode b_Mo_tellJoining 70 = .ok (.getfield 107, 3) := by decide +kernel
theorem d_Mo_tellJoining_73 : decode b_Mo_tellJoining 73 = .ok (.iconst 1, 1) := by decide +kernel
theorem d_Mo_tellJoining_74 : decode b_Mo_tellJoining 74 = .ok (.iadd, 1) := by decide +kernel
theorem d_Mo_tellJoining_75 : decode b_Mo_tellJoining 75 = .ok (.putfield 107, 3) := by decide +kernel
theorem d_Mo_tellJoining_78 : decode b_Mo_tellJoining 78 = .ok (.iinc 2 1, 3) := by decide +kernel
theorem d_Mo_tellJoining_81 : decode b_Mo_tellJoining 81 = .ok (.goto (-72), 3) := by decide +kernel
theorem d_Mo_tellJoining_84 : decode b_Mo_tellJoining 84 = .ok (.aload_n 0, 1) := by decide +kernel
theorem d_Mo_tellJoining_85 : decode b_Mo_tellJoining 85 = .ok (.getfield 107, 3) := by decide +kernel
theorem d_Mo_tellJoining_88 : decode b_Mo_tellJoining 88 = .ok (.iconst 1, 1) := by decide +kernel
theorem d_Mo_tellJoining_89 : decode b_Mo_tellJoining 89 = .ok (.if_icmp .le 114, 3) := by decide +kernel
theorem d_Mo_tellJoining_92 : decode b_Mo_tellJoining 92 = .ok (.iconst 0, 1) := by decide +kernel
theorem d_Mo_tellJoining_93 : decode b_Mo_tellJoining 93 = .ok (.istore_n 2, 1) := by decide +kernel
theorem d_Mo_tellJoining_94 : decode b_Mo_tellJoining 94 = .ok (.iconst 0, 1) := by decide +kernel
theorem d_Mo_tellJoining_95 : decode b_Mo_tellJoining 95 = .ok (.istore_n 3, 1) := by decide +kernel
theorem d_Mo_tellJoining_96 : decode b_Mo_tellJoining 96 = .ok (.iconst 0, 1) := by decide +kernel
theorem d_Mo_tellJoining_97 : decode b_Mo_tellJoining 97 = .ok (.istore 4, 2) := by decide +kernel
theorem d_Mo_tellJoining_99 : decode b_Mo_tellJoining 99 = .ok (.iload 4, 2) := by decide +kernel
theorem d_Mo_tellJoining_101 : decode b_Mo_tellJoining 101 = .ok (.aload_n 0, 1) := by decide +kernel
theorem d_Mo_tellJoining_102 : decode b_Mo_tellJoining 102 = .ok (.getfield 107, 3) := by decide +kernel
theorem d_Mo_tellJoining_105 : decode b_Mo_tellJoining 105 = .ok (.if_icmp .ge 90, 3) := by decide +kernel
theorem d_Mo_tellJoining_108 : decode b_Mo_tellJoining 108 = .ok (.iload 4, 2) := by decide +kernel
theorem d_Mo_tellJoining_110 : decode b_Mo_tellJoining 110 = .ok (.iconst 1, 1) := by decide +kernel
theorem d_Mo_tellJoining_111 : decode b_Mo_tellJoining 111 = .ok (.iadd, 1) := by decide +kernel
theorem d_Mo_tellJoining_112 : decode b_Mo_tellJoining 112 = .ok (.aload_n 0, 1) := by decide +kernel
theorem d_Mo_tellJoining_113 : decode b_Mo_tellJoining 113 = .ok (.getfield 107, 3) := by decide +kernel
theorem d_Mo_tellJoining_116 : decode b_Mo_tellJoining 116 = .ok (.if_icmp .ge 15, 3) := by decide +kernel
theorem d_Mo_tellJoining_119 : decode b_Mo_tellJoining 119 = .ok (.aload_n 0, 1) := by decide +kernel
theorem d_Mo_tellJoining_120 : decode b_Mo_tellJoining 120 = .ok (.getfield 47, 3) := by decide +kernel
theorem d_Mo_tellJoining_123 : decode b_Mo_tellJoining 123 = .ok (.iload 4, 2) := by decide +kernel
theorem d_Mo_tellJoining_125 : decode b_Mo_tellJoining 125 = .ok (.iconst 1, 1) := by decide +kernel
theorem d_Mo_tellJoining_126 : decode b_Mo_tellJoining 126 = .ok (.iadd, 1) := by decide +kernel
theorem d_Mo_tellJoining_127 : decode b_Mo_tellJoining 127 = .ok (.iaload, 1) := by decide +kernel
theorem d_Mo_tellJoining_128 : decode b_Mo_tellJoining 128 = .ok (.goto 10, 3) := by decide +kernel
theorem d_Mo_tellJoining_131 : decode b_Mo_tellJoining 131 = .ok (.aload_n 0, 1) := by decide +kernel
theorem d_Mo_tellJoining_132 : decode b_Mo_tellJoining 132 = .ok (.getfield 47, 3) := by decide +kernel
theorem d_Mo_tellJoining_135 : decode b_Mo_tellJoining 135 = .ok (.iload 4, 2) := by decide +kernel
theorem d_Mo_tellJoining_137 : decode b_Mo_tellJoining 137 = .ok (.iaload, 1) := by decide +kernel
theorem d_Mo_tellJoining_138 : decode b_Mo_tellJoining 138 = .ok (.istore 5, 2) := by decide +kernel
theorem d_Mo_tellJoining_140 : decode b_Mo_tellJoining 140 = .ok (.iload 4, 2) := by decide +kernel
theorem d_Mo_tellJoining_142 : decode b_Mo_tellJoining 142 = .ok (.iconst 1, 1) := by decide +kernel
theorem d_Mo_tellJoining_143 : decode b_Mo_tellJoining 143 = .ok (.iadd, 1) := by decide +kernel
theorem d_Mo_tellJoining_144 : decode b_Mo_tellJoining 144 = .ok (.aload_n 0, 1) := by decide +kernel
theorem d_Mo_tellJoining_145 : decode b_Mo_tellJoining 145 = .ok (.getfield 107, 3) := by decide +kernel
theorem d_Mo_tellJoining_148 : decode b_Mo_tellJoining 148 = .ok (.if_icmp .ge 22, 3) := by decide +kernel
theorem d_Mo_tellJoining_151 : decode b_Mo_tellJoining 151 = .ok (.iload_n 1, 1) := by decide +kernel
theorem d_Mo_tellJoining_152 : decode b_Mo_tellJoining 152 = .ok (.aload_n 0, 1) := by decide +kernel
theorem d_Mo_tellJoining_153 : decode b_Mo_tellJoining 153 = .ok (.iload_n 3, 1) := by decide +kernel
theorem d_Mo_tellJoining_154 : decode b_Mo_tellJoining 154 = .ok (.aload_n 0, 1) := by decide +kernel
theorem d_Mo_tellJoining_155 : decode b_Mo_tellJoining 155 = .ok (.getfield 47, 3) := by decide +kernel
theorem d_Mo_tellJoining_158 : decode b_Mo_tellJoining 158 = .ok (.iload 4, 2) := by decide +kernel
theorem d_Mo_tellJoining_160 : decode b_Mo_tellJoining 160 = .ok (.iaload, 1) := by decide +kernel
theorem d_Mo_tellJoining_161 : decode b_Mo_tellJoining 161 = .ok (.iload 5, 2) := by decide +kernel
theorem d_Mo_tellJoining_163 : decode b_Mo_tellJoining 163 = .ok (.invokevirtual 110, 3) := by decide +kernel
theorem d_Mo_tellJoining_166 : decode b_Mo_tellJoining 166 = .ok (.iadd, 1) := by decide +kernel
theorem d_Mo_tellJoining_167 : decode b_Mo_tellJoining 167 = .ok (.goto 4, 3) := by decide +kernel
theorem d_Mo_tellJoining_170 : decode b_Mo_tellJoining 170 = .ok (.iload_n 1, 1) := by decide +kernel
theorem d_Mo_tellJoining_171 : decode b_Mo_tellJoining 171 = .ok (.istore_n 1, 1) := by decide +kernel
theorem d_Mo_tellJoining_172 : decode b_Mo_tellJoining 172 = .ok (.iload 5, 2) := by decide +kernel
theorem d_Mo_tellJoining_174 : decode b_Mo_tellJoining 174 = .ok (.istore_n 3, 1) := by decide +kernel
theorem d_Mo_tellJoining_175 : decode b_Mo_tellJoining 175 = .ok (.aload_n 0, 1) := by decide +kernel
theorem d_Mo_tellJoining_176 : decode b_Mo_tellJoining 176 = .ok (.getfield 47, 3) := by decide +kernel
theorem d_Mo_tellJoining_179 : decode b_Mo_tellJoining 179 = .ok (.iload_n 2, 1) := by decide +kernel
theorem d_Mo_tellJoining_180 : decode b_Mo_tellJoining 180 = .ok (.iload 5, 2) := by decide +kernel
theorem d_Mo_tellJoining_182 : decode b_Mo_tellJoining 182 = .ok (.iastore, 1) := by decide +kernel
theorem d_Mo_tellJoining_183 : decode b_Mo_tellJoining 183 = .ok (.iinc 2 1, 3) := by decide +kernel
theorem d_Mo_tellJoining_186 : decode b_Mo_tellJoining 186 = .ok (.iload 4, 2) := by decide +kernel
theorem d_Mo_tellJoining_188 : decode b_Mo_tellJoining 188 = .ok (.iconst 2, 1) := by decide +kernel
theorem d_Mo_tellJoining_189 : decode b_Mo_tellJoining 189 = .ok (.iadd, 1) := by decide +kernel
theorem d_Mo_tellJoining_190 : decode b_Mo_tellJoining 190 = .ok (.istore 4, 2) := by decide +kernel
theorem d_Mo_tellJoining_192 : decode b_Mo_tellJoining 192 = .ok (.goto (-93), 3) := by decide +kernel
theorem d_Mo_tellJoining_195 : decode b_Mo_tellJoining 195 = .ok (.aload_n 0, 1) := by decide +kernel
theorem d_Mo_tellJoining_196 : decode b_Mo_tellJoining 196 = .ok (.iload_n 2, 1) := by decide +kernel
theorem d_Mo_tellJoining_197 : decode b_Mo_tellJoining 197 = .ok (.putfield 107, 3) := by decide +kernel
theorem d_Mo_tellJoining_200 : decode b_Mo_tellJoining 200 = .ok (.goto (-116), 3) := by decide +kernel
theorem d_Mo_tellJoining_203 : decode b_Mo_tellJoining 203 = .ok (.iload_n 1, 1) := by decide +kernel
theorem d_Mo_tellJoining_204 : decode b_Mo_tellJoining 204 = .ok (.ireturn, 1) := by decide +kernel
abbrev ws_Mo_tellJoining : List Cond := .code y_Mo_tellJoining b_Mo_tellJoining 6 (some .int) :: ALLG
abbrev rm_Mo_tellJoining : Room := { frames := 2, cells := 0, slots := 0, locals := 52 }
set_option maxHeartbeats 4000000 in
set_option maxRecDepth 100000 in
theorem c_Mo_tellJoining (l : Launch) (DD : va_G) (sz : Nat) (am : Nat) (th : Nat) (n : Nat) (hk : Nat) (ck : ClassId) (k : Nat → Int32) (ht : Nat) (n1 : Nat) (hk1 : Nat) (ht1 : Nat) (pb : Bool) (rn : Nat) (hfg : Nat) (hle : Nat) (hmo : Nat) (hwy : Nat) (tn : Nat) (htf : Nat) (ctf : ClassId) (tf : Nat → Int32) (cm : Int64) (hod : Nat) (hwk : Nat) (cwk : ClassId) (wk : Nat → Int32) (hot : Nat) (cot : ClassId) (ot : Nat → Int32) (ru : Nat) (hen : Nat) (cen : ClassId) (en : Nat → Nat) (hn : n ≤ 150) (htn : tn + n ≤ 150) : Met l y_Mo_tellJoining ws_Mo_tellJoining rm_Mo_tellJoining (va_Pc [.ref am] (fun U => U.heap.size = sz ∧ va_P DD vwCl [(am, .inr (9, [.int (nI th), .int (nI n), .ref hk, .ref ht, .int (nI n1), .ref hk1, .ref ht1, .int (zb pb), .int (nI rn), .ref hfg, .ref hle, .ref hmo, .ref hwy, .int (nI tn), .ref htf, .long cm, .ref hod, .ref hwk, .ref hot, .int (nI ru), .ref hen])), (hk, .inl (ck, 150, .inl k)), (htf, .inl (ctf, 900, .inl tf)), (hwk, .inl (cwk, 150, .inl wk)), (hot, .inl (cot, 150, .inl ot)), (hen, .inl (cen, 150, .inl (nF en)))] U.heap ∧ va_K DD vwCl [(ck, .int), (ctf, .int), (cwk, .int), (cot, .int), (cen, .int)] U ∧ va_D (fun _ => True) [(am, .inr (9, [.int (nI th), .int (nI n), .ref hk, .ref ht, .int (nI n1), .ref hk1, .ref ht1, .int (zb pb), .int (nI rn), .ref hfg, .ref hle, .ref hmo, .ref hwy, .int (nI tn), .ref htf, .long cm, .ref hod, .ref hwk, .ref hot, .int (nI ru), .ref hen])), (hk, .inl (ck, 150, .inl k)), (htf, .inl (ctf, 900, .inl tf)), (hwk, .inl (cwk, 150, .inl wk)), (hot, .inl (cot, 150, .inl ot)), (hen, .inl (cen, 150, .inl (nF en)))])) (va_Qi (fun (r9 : Int32) (u9 : Unit) => match u9 with | _ => r9 = nI ((toF k n wk ot tn tf en).2.2.2.2.1)) (fun (u9 : Unit) (t9 : State) => match u9 with | _ => va_P DD vwCl [(am, .inr (9, [.int (nI th), .int (nI n), .ref hk, .ref ht, .int (nI n1), .ref hk1, .ref ht1, .int (zb pb), .int (nI rn), .ref hfg, .ref hle, .ref hmo, .ref hwy, .int (nI ((toF k n wk ot tn tf en).2.2.1)), .ref htf, .long cm, .ref hod, .ref hwk, .ref hot, .int (nI ((toF k n wk ot tn tf en).2.2.2.2.2.2)), .ref hen])), (hk, .inl (ck, 150, .inl k)), (htf, .inl (ctf, 900, .inl ((toF k n wk ot tn tf en).2.2.2.1))), (hwk, .inl (cwk, 150, .inl ((toF k n wk ot tn tf en).1))), (hot, .inl (cot, 150, .inl ((toF k n wk ot tn tf en).2.1))), (hen, .inl (cen, 150, .inl (nF ((toF k n wk ot tn tf en).2.2.2.2.2.1))))] t9.heap ∧ va_K DD vwCl [(ck, .int), (ctf, .int), (cwk, .int), (cot, .int), (cen, .int)] t9 ∧ va_D (va_A [(am, .inr (9, [.int (nI th), .int (nI n), .ref hk, .ref ht, .int (nI n1), .ref hk1, .ref ht1, .int (zb pb), .int (nI rn), .ref hfg, .ref hle, .ref hmo, .ref hwy, .int (nI tn), .ref htf, .long cm, .ref hod, .ref hwk, .ref hot, .int (nI ru), .ref hen])), (hk, .inl (ck, 150, .inl k)), (htf, .inl (ctf, 900, .inl tf)), (hwk, .inl (cwk, 150, .inl wk)), (hot, .inl (cot, 150, .inl ot)), (hen, .inl (cen, 150, .inl (nF en)))] sz) [(am, .inr (9, [.int (nI th), .int (nI n), .ref hk, .ref ht, .int (nI n1), .ref hk1, .ref ht1, .int (zb pb), .int (nI rn), .ref hfg, .ref hle, .ref hmo, .ref hwy, .int (nI ((toF k n wk ot tn tf en).2.2.1)), .ref htf, .long cm, .ref hod, .ref hwk, .ref hot, .int (nI ((toF k n wk ot tn tf en).2.2.2.2.2.2)), .ref hen])), (hk, .inl (ck, 150, .inl k)), (htf, .inl (ctf, 900, .inl ((toF k n wk ot tn tf en).2.2.2.1))), (hwk, .inl (cwk, 150, .inl ((toF k n wk ot tn tf en).1))), (hot, .inl (cot, 150, .inl ((toF k n wk ot tn tf en).2.1))), (hen, .inl (cen, 150, .inl (nF ((toF k n wk ot tn tf en).2.2.2.2.2.1))))]) (va_A [(am, .inr (9, [.int (nI th), .int (nI n), .ref hk, .ref ht, .int (nI n1), .ref hk1, .ref ht1, .int (zb pb), .int (nI rn), .ref hfg, .ref hle, .ref hmo, .ref hwy, .int (nI tn), .ref htf, .long cm, .ref hod, .ref hwk, .ref hot, .int (nI ru), .ref hen])), (hk, .inl (ck, 150, .inl k)), (htf, .inl (ctf, 900, .inl tf)), (hwk, .inl (cwk, 150, .inl wk)), (hot, .inl (cot, 150, .inl ot)), (hen, .inl (cen, 150, .inl (nF en)))] sz)) 0 0 (va_A [(am, .inr (9, [.int (nI th), .int (nI n), .ref hk, .ref ht, .int (nI n1), .ref hk1, .ref ht1, .int (zb pb), .int (nI rn), .ref hfg, .ref hle, .ref hmo, .ref hwy, .int (nI tn), .ref htf, .long cm, .ref hod, .ref hwk, .ref hot, .int (nI ru), .ref hen])), (hk, .inl (ck, 150, .inl k)), (htf, .inl (ctf, 900, .inl tf)), (hwk, .inl (cwk, 150, .inl wk)), (hot, .inl (cot, 150, .inl ot)), (hen, .inl (cen, 150, .inl (nF en)))] sz) := by
  refine Met.ofW (cc := b_Mo_tellJoining) (maxL := 6) (ret := (some .int)) (by decide) rfl ?_
  intro p e s m args below meth c s₁ B hml hv
  obtain ⟨ha, hsz, hP, hK, hD0⟩ := hv
  have hx := B.exec
  have hb := B.bytes
  have hr := B.returns
  have hts := atoms_spec (ws := ws_Mo_tellJoining) B.pre
  have hg : ∀ w ∈ ALLG, w.before args s = true := fun w h => hts w (List.mem_cons_of_mem _ h)
  have hown : s.vm.findClass R_Mo = some m.cls := findClass_of_methodNamed B.named
  have hlocks := B.notSynchronized
  subst hsz
  have hD := hD0.self (sz := s.heap.size)
  generalize hAe : va_A [(am, .inr (9, [.int (nI th), .int (nI n), .ref hk, .ref ht, .int (nI n1), .ref hk1, .ref ht1, .int (zb pb), .int (nI rn), .ref hfg, .ref hle, .ref hmo, .ref hwy, .int (nI tn), .ref htf, .long cm, .ref hod, .ref hwk, .ref hot, .int (nI ru), .ref hen])), (hk, .inl (ck, 150, .inl k)), (htf, .inl (ctf, 900, .inl tf)), (hwk, .inl (cwk, 150, .inl wk)), (hot, .inl (cot, 150, .inl ot)), (hen, .inl (cen, 150, .inl (nF en)))] s.heap.size = A at hD ⊢
  have hA : ∀ q : Nat, s.heap.size ≤ q → A q := fun q h => by rw [← hAe]; exact Or.inr h
  have hS : va_S A s.heap s.heap [] := va_S.rf
  have hP : va_P DD vwCl [(am, .inr (9, [.int (nI th), .int (nI n), .ref hk, .ref ht, .int (nI n1), .ref hk1, .ref ht1, .int (zb pb), .int (nI rn), .ref hfg, .ref hle, .ref hmo, .ref hwy, .int (nI tn), .ref htf, .long cm, .ref hod, .ref hwk, .ref hot, .int (nI ru), .ref hen])), (hk, .inl (ck, 150, .inl k)), (htf, .inl (ctf, 900, .inl tf)), (hwk, .inl (cwk, 150, .inl wk)), (hot, .inl (cot, 150, .inl ot)), (hen, .inl (cen, 150, .inl (nF en)))] s.heap := hP
  have hl := lv_entry ([.ref am]) (n := 6) (Nat.le_of_ble_eq_true rfl)
  rw [ha, lg_entry_eq, ← ha]
  generalize (lg_sl ([.ref am]) ++ List.replicate (6 - (lg_sl ([.ref am])).length) Slot.unset).toArray = ls at hl ⊢
  have hl : lv_has ls 6 [(0, .ref am)] := hl
  have K84 : ∀ (kk : Nat) (fu : Nat) (q0 : Nat) (wkx : Nat → Int32) (otx : Nat → Int32) (enx : Nat → Nat) (rux : Nat) (tnx : Nat) (tfx : Nat → Int32), (hfu : rux ≤ fu) → (hr2 : rux ≤ 150) → (htx : tnx + rux ≤ 150) → (hmon : ∀ x, x + 1 < rux → enx x ≤ enx (x + 1)) → (hlx : ∀ x, x < rux → enx x ≤ 150) → (hX : (toF k n wk ot tn tf en) = toL fu (wkx, otx, tnx, tfx, q0, enx, rux)) → rux < kk → ∀ (H : Heap) (locs : List Loc), va_P DD vwCl [(am, .inr (9, [.int (nI th), .int (nI n), .ref hk, .ref ht, .int (nI n1), .ref hk1, .ref ht1, .int (zb pb), .int (nI rn), .ref hfg, .ref hle, .ref hmo, .ref hwy, .int (nI tnx), .ref htf, .long cm, .ref hod, .ref hwk, .ref hot, .int (nI rux), .ref hen])), (hk, .inl (ck, 150, .inl k)), (htf, .inl (ctf, 900, .inl tfx)), (hwk, .inl (cwk, 150, .inl wkx)), (hot, .inl (cot, 150, .inl otx)), (hen, .inl (cen, 150, .inl (nF enx)))] H → va_D A [(am, .inr (9, [.int (nI th), .int (nI n), .ref hk, .ref ht, .int (nI n1), .ref hk1, .ref ht1, .int (zb pb), .int (nI rn), .ref hfg, .ref hle, .ref hmo, .ref hwy, .int (nI tnx), .ref htf, .long cm, .ref hod, .ref hwk, .ref hot, .int (nI rux), .ref hen])), (hk, .inl (ck, 150, .inl k)), (htf, .inl (ctf, 900, .inl tfx)), (hwk, .inl (cwk, 150, .inl wkx)), (hot, .inl (cot, 150, .inl otx)), (hen, .inl (cen, 150, .inl (nF enx)))] → va_S A s.heap H locs → ∀ (ls : Array Slot), lv_has ls 6 [(0, .ref am), (1, .int (nI q0))] → W p l e (headSpec ws_Mo_tellJoining rm_Mo_tellJoining).room s m args below meth c H locs 0 0 (MQ below (va_Qi (fun (r9 : Int32) (u9 : Unit) => match u9 with | _ => r9 = nI ((toF k n wk ot tn tf en).2.2.2.2.1)) (fun (u9 : Unit) (t9 : State) => match u9 with | _ => va_P DD vwCl [(am, .inr (9, [.int (nI th), .int (nI n), .ref hk, .ref ht, .int (nI n1), .ref hk1, .ref ht1, .int (zb pb), .int (nI rn), .ref hfg, .ref hle, .ref hmo, .ref hwy, .int (nI ((toF k n wk ot tn tf en).2.2.1)), .ref htf, .long cm, .ref hod, .ref hwk, .ref hot, .int (nI ((toF k n wk ot tn tf en).2.2.2.2.2.2)), .ref hen])), (hk, .inl (ck, 150, .inl k)), (htf, .inl (ctf, 900, .inl ((toF k n wk ot tn tf en).2.2.2.1))), (hwk, .inl (cwk, 150, .inl ((toF k n wk ot tn tf en).1))), (hot, .inl (cot, 150, .inl ((toF k n wk ot tn tf en).2.1))), (hen, .inl (cen, 150, .inl (nF ((toF k n wk ot tn tf en).2.2.2.2.2.1))))] t9.heap ∧ va_K DD vwCl [(ck, .int), (ctf, .int), (cwk, .int), (cot, .int), (cen, .int)] t9 ∧ va_D A [(am, .inr (9, [.int (nI th), .int (nI n), .ref hk, .ref ht, .int (nI n1), .ref hk1, .ref ht1, .int (zb pb), .int (nI rn), .ref hfg, .ref hle, .ref hmo, .ref hwy, .int (nI ((toF k n wk ot tn tf en).2.2.1)), .ref htf, .long cm, .ref hod, .ref hwk, .ref hot, .int (nI ((toF k n wk ot tn tf en).2.2.2.2.2.2)), .ref hen])), (hk, .inl (ck, 150, .inl k)), (htf, .inl (ctf, 900, .inl ((toF k n wk ot tn tf en).2.2.2.1))), (hwk, .inl (cwk, 150, .inl ((toF k n wk ot tn tf en).1))), (hot, .inl (cot, 150, .inl ((toF k n wk ot tn tf en).2.1))), (hen, .inl (cen, 150, .inl (nF ((toF k n wk ot tn tf en).2.2.2.2.2.1))))]) A) args s 0 0 A) (F0 m 84 ls []) := by
    intro kk
    induction kk with
    | zero => intros; omega
    | succ kk ih84 =>
      intro fu q0 wkx otx enx rux tnx tfx hfu hr2 htx hmon hlx hX hkk H locs hP hD hS ls hl
      have K99 : ∀ (kk : Nat) (x : Nat) (rr : Nat) (fr : Nat) (q : Nat), (hr1 : 1 < rux) → (hrr : rr = 2 * x) → (hxr : 2 * x ≤ rux + 1) → (hfr : fr = tjB enx rux x) → (hq : q = (tjS enx rux (wkx, otx, tnx, tfx, q0) x).2.2.2.2) → rux + 1 - rr < kk → ∀ (H : Heap) (locs : List Loc), va_P DD vwCl [(am, .inr (9, [.int (nI th), .int (nI n), .ref hk, .ref ht, .int (nI n1), .ref hk1, .ref ht1, .int (zb pb), .int (nI rn), .ref hfg, .ref hle, .ref hmo, .ref hwy, .int (nI ((tjS enx rux (wkx, otx, tnx, tfx, q0) x).2.2.1)), .ref htf, .long cm, .ref hod, .ref hwk, .ref hot, .int (nI rux), .ref hen])), (hk, .inl (ck, 150, .inl k)), (htf, .inl (ctf, 900, .inl ((tjS enx rux (wkx, otx, tnx, tfx, q0) x).2.2.2.1))), (hwk, .inl (cwk, 150, .inl ((tjS enx rux (wkx, otx, tnx, tfx, q0) x).1))), (hot, .inl (cot, 150, .inl ((tjS enx rux (wkx, otx, tnx, tfx, q0) x).2.1))), (hen, .inl (cen, 150, .inl (nF (tjE enx rux x))))] H → va_D A [(am, .inr (9, [.int (nI th), .int (nI n), .ref hk, .ref ht, .int (nI n1), .ref hk1, .ref ht1, .int (zb pb), .int (nI rn), .ref hfg, .ref hle, .ref hmo, .ref hwy, .int (nI ((tjS enx rux (wkx, otx, tnx, tfx, q0) x).2.2.1)), .ref htf, .long cm, .ref hod, .ref hwk, .ref hot, .int (nI rux), .ref hen])), (hk, .inl (ck, 150, .inl k)), (htf, .inl (ctf, 900, .inl ((tjS enx rux (wkx, otx, tnx, tfx, q0) x).2.2.2.1))), (hwk, .inl (cwk, 150, .inl ((tjS enx rux (wkx, otx, tnx, tfx, q0) x).1))), (hot, .inl (cot, 150, .inl ((tjS enx rux (wkx, otx, tnx, tfx, q0) x).2.1))), (hen, .inl (cen, 150, .inl (nF (tjE enx rux x))))] → va_S A s.heap H locs → ∀ (ls : Array Slot), lv_has ls 6 [(0, .ref am), (1, .int (nI q)), (2, .int (nI x)), (3, .int (nI fr)), (4, .int (nI rr))] → W p l e (headSpec ws_Mo_tellJoining rm_Mo_tellJoining).room s m args below meth c H locs 0 0 (MQ below (va_Qi (fun (r9 : Int32) (u9 : Unit) => match u9 with | _ => r9 = nI ((toF k n wk ot tn tf en).2.2.2.2.1)) (fun (u9 : Unit) (t9 : State) => match u9 with | _ => va_P DD vwCl [(am, .inr (9, [.int (nI th), .int (nI n), .ref hk, .ref ht, .int (nI n1), .ref hk1, .ref ht1, .int (zb pb), .int (nI rn), .ref hfg, .ref hle, .ref hmo, .ref hwy, .int (nI ((toF k n wk ot tn tf en).2.2.1)), .ref htf, .long cm, .ref hod, .ref hwk, .ref hot, .int (nI ((toF k n wk ot tn tf en).2.2.2.2.2.2)), .ref hen])), (hk, .inl (ck, 150, .inl k)), (htf, .inl (ctf, 900, .inl ((toF k n wk ot tn tf en).2.2.2.1))), (hwk, .inl (cwk, 150, .inl ((toF k n wk ot tn tf en).1))), (hot, .inl (cot, 150, .inl ((toF k n wk ot tn tf en).2.1))), (hen, .inl (cen, 150, .inl (nF ((toF k n wk ot tn tf en).2.2.2.2.2.1))))] t9.heap ∧ va_K DD vwCl [(ck, .int), (ctf, .int), (cwk, .int), (cot, .int), (cen, .int)] t9 ∧ va_D A [(am, .inr (9, [.int (nI th), .int (nI n), .ref hk, .ref ht, .int (nI n1), .ref hk1, .ref ht1, .int (zb pb), .int (nI rn), .ref hfg, .ref hle, .ref hmo, .ref hwy, .int (nI ((toF k n wk ot tn tf en).2.2.1)), .ref htf, .long cm, .ref hod, .ref hwk, .ref hot, .int (nI ((toF k n wk ot tn tf en).2.2.2.2.2.2)), .ref hen])), (hk, .inl (ck, 150, .inl k)), (htf, .inl (ctf, 900, .inl ((toF k n wk ot tn tf en).2.2.2.1))), (hwk, .inl (cwk, 150, .inl ((toF k n wk ot tn tf en).1))), (hot, .inl (cot, 150, .inl ((toF k n wk ot tn tf en).2.1))), (hen, .inl (cen, 150, .inl (nF ((toF k n wk ot tn tf en).2.2.2.2.2.1))))]) A) args s 0 0 A) (F0 m 99 ls []) := by
        intro kk
        induction kk with
        | zero => intros; omega
        | succ kk ih99 =>
          intro x rr fr q hr1 hrr hxr hfr hq hkk H locs hP hD hS ls hl
          have hTN := tjS_tn enx rux (wkx, otx, tnx, tfx, q0) x
          have h9 : (tjS enx rux (wkx, otx, tnx, tfx, q0) x).2.2.1 ≤ tnx + x := hTN.1
          have h8 : (tjS enx rux (wkx, otx, tnx, tfx, q0) x).2.2.1 ≤ tnx + rux / 2 := hTN.2
          refine lv_iload hx hb d_Mo_tellJoining_99 (lv_at hl 4 rfl) ?_
          refine lv_aload_n hx hb d_Mo_tellJoining_101 rfl (lv_at hl 0 rfl) ?_
          refine va_get (D := DD) (ci := 9) (v := .int (nI rux)) (C := R_Mo) (T := T_Mo) (N := 21) hx hb hg in_Mo hown hK hP 0 rfl rfl 19 (by decide) (hg _ mw_698) (fun _ h9 => h9) rfl d_Mo_tellJoining_102 ?_
          refine z_icmp_ge (tgt := 195) hx hb d_Mo_tellJoining_105 (by decide) (by omega) (by omega) (fun c_105 => ?_) (fun c_105 => ?_)
          · have hxe : x = (rux + 1) / 2 := by omega
            refine lv_aload_n hx hb d_Mo_tellJoining_195 rfl (lv_at hl 0 rfl) ?_
            refine lv_iload_n hx hb d_Mo_tellJoining_196 rfl (lv_at hl 2 rfl) ?_
            refine va_put (D := DD) (ci := 9) (v := .int (nI x)) (ty := .int) (C := R_Mo) (T := T_Mo) (N := 21) hx hb hg in_Mo t_Mo to_Mo n_Mo hown hK hP hD hS 0 rfl rfl 19 (by decide) (hg _ mw_698) (fun _ h9 => h9) rfl (by decide +kernel) rfl rfl (Nat.le_of_ble_eq_true rfl) d_Mo_tellJoining_197 (fun H locs hP hD hS => ?_)
            have hP : va_P DD vwCl [(am, .inr (9, [.int (nI th), .int (nI n), .ref hk, .ref ht, .int (nI n1), .ref hk1, .ref ht1, .int (zb pb), .int (nI rn), .ref hfg, .ref hle, .ref hmo, .ref hwy, .int (nI ((tjS enx rux (wkx, otx, tnx, tfx, q0) x).2.2.1)), .ref htf, .long cm, .ref hod, .ref hwk, .ref hot, .int (nI x), .ref hen])), (hk, .inl (ck, 150, .inl k)), (htf, .inl (ctf, 900, .inl ((tjS enx rux (wkx, otx, tnx, tfx, q0) x).2.2.2.1))), (hwk, .inl (cwk, 150, .inl ((tjS enx rux (wkx, otx, tnx, tfx, q0) x).1))), (hot, .inl (cot, 150, .inl ((tjS enx rux (wkx, otx, tnx, tfx, q0) x).2.1))), (hen, .inl (cen, 150, .inl (nF (tjE enx rux x))))] H := hP
            have hD : va_D A [(am, .inr (9, [.int (nI th), .int (nI n), .ref hk, .ref ht, .int (nI n1), .ref hk1, .ref ht1, .int (zb pb), .int (nI rn), .ref hfg, .ref hle, .ref hmo, .ref hwy, .int (nI ((tjS enx rux (wkx, otx, tnx, tfx, q0) x).2.2.1)), .ref htf, .long cm, .ref hod, .ref hwk, .ref hot, .int (nI x), .ref hen])), (hk, .inl (ck, 150, .inl k)), (htf, .inl (ctf, 900, .inl ((tjS enx rux (wkx, otx, tnx, tfx, q0) x).2.2.2.1))), (hwk, .inl (cwk, 150, .inl ((tjS enx rux (wkx, otx, tnx, tfx, q0) x).1))), (hot, .inl (cot, 150, .inl ((tjS enx rux (wkx, otx, tnx, tfx, q0) x).2.1))), (hen, .inl (cen, 150, .inl (nF (tjE enx rux x))))] := hD
            refine lv_goto (tgt := 84) hx hb d_Mo_tellJoining_200 (by decide) ?_
            exact ih84 (fu - 1) q ((tjS enx rux (wkx, otx, tnx, tfx, q0) x).1) ((tjS enx rux (wkx, otx, tnx, tfx, q0) x).2.1) (tjE enx rux x) x ((tjS enx rux (wkx, otx, tnx, tfx, q0) x).2.2.1) ((tjS enx rux (wkx, otx, tnx, tfx, q0) x).2.2.2.1) (by omega) (by omega) (by omega) (by rw [hxe]; exact tjE_mon hmon) (by rw [hxe]; exact tjE_le hlx) (by rw [hq]; have h9 := toL_s hX hfu hr1; rw [toR, ← hxe] at h9; exact h9) (by omega) _ _ hP hD hS ls (lv_sub hl [0, 1] rfl)
          · refine lv_iload hx hb d_Mo_tellJoining_108 (lv_at hl 4 rfl) ?_
            refine lv_iconst (v := nI 1) hx hb d_Mo_tellJoining_110 (by decide) ?_
            refine z_iadd hx hb d_Mo_tellJoining_111 ?_
            refine lv_aload_n hx hb d_Mo_tellJoining_112 rfl (lv_at hl 0 rfl) ?_
            refine va_get (D := DD) (ci := 9) (v := .int (nI rux)) (C := R_Mo) (T := T_Mo) (N := 21) hx hb hg in_Mo hown hK hP 0 rfl rfl 19 (by decide) (hg _ mw_698) (fun _ h9 => h9) rfl d_Mo_tellJoining_113 ?_
            refine z_icmp_ge (tgt := 131) hx hb d_Mo_tellJoining_116 (by decide) (by omega) (by omega) (fun c_116 => ?_) (fun c_116 => ?_)
            · refine lv_aload_n hx hb d_Mo_tellJoining_131 rfl (lv_at hl 0 rfl) ?_
              refine va_get (D := DD) (ci := 9) (v := .ref hen) (C := R_Mo) (T := T_Mo) (N := 21) hx hb hg in_Mo hown hK hP 0 rfl rfl 20 (by decide) (hg _ mw_699) (fun _ h9 => h9) rfl d_Mo_tellJoining_132 ?_
              refine lv_iload hx hb d_Mo_tellJoining_135 (lv_at hl 4 rfl) ?_
              refine z_ialdN hx hb hK hP 5 4 rfl rfl (by omega) (by decide) d_Mo_tellJoining_137 ?_
              rw [show nI ((tjE enx rux x) rr) = nI (enx rr) from tjE_r (by omega)]
              refine lv_istore (lv' := [(5, .int (nI (enx rr))), (0, .ref am), (1, .int (nI q)), (2, .int (nI x)), (3, .int (nI fr)), (4, .int (nI rr))]) hx hb d_Mo_tellJoining_138 hl (by decide) rfl (fun ls hl => ?_)
              refine lv_iload hx hb d_Mo_tellJoining_140 (lv_at hl 5 rfl) ?_
              refine lv_iconst (v := nI 1) hx hb d_Mo_tellJoining_142 (by decide) ?_
              refine z_iadd hx hb d_Mo_tellJoining_143 ?_
              refine lv_aload_n hx hb d_Mo_tellJoining_144 rfl (lv_at hl 1 rfl) ?_
              refine va_get (D := DD) (ci := 9) (v := .int (nI rux)) (C := R_Mo) (T := T_Mo) (N := 21) hx hb hg in_Mo hown hK hP 0 rfl rfl 19 (by decide) (hg _ mw_698) (fun _ h9 => h9) rfl d_Mo_tellJoining_145 ?_
              refine z_icmp_ge (tgt := 170) hx hb d_Mo_tellJoining_148 (by decide) (by omega) (by omega) (fun c_148 => ?_) (fun c_148 => ?_)
              · refine lv_iload_n hx hb d_Mo_tellJoining_170 rfl (lv_at hl 2 rfl) ?_
                refine lv_istore_n (lv' := [(1, .int (nI q)), (5, .int (nI (enx rr))), (0, .ref am), (2, .int (nI x)), (3, .int (nI fr)), (4, .int (nI rr))]) hx hb d_Mo_tellJoining_171 rfl hl (by decide) rfl (fun ls hl => ?_)
                refine lv_iload hx hb d_Mo_tellJoining_172 (lv_at hl 1 rfl) ?_
                refine lv_istore_n (lv' := [(3, .int (nI (enx rr))), (1, .int (nI q)), (5, .int (nI (enx rr))), (0, .ref am), (2, .int (nI x)), (4, .int (nI rr))]) hx hb d_Mo_tellJoining_174 rfl hl (by decide) rfl (fun ls hl => ?_)
                refine lv_aload_n hx hb d_Mo_tellJoining_175 rfl (lv_at hl 3 rfl) ?_
                refine va_get (D := DD) (ci := 9) (v := .ref hen) (C := R_Mo) (T := T_Mo) (N := 21) hx hb hg in_Mo hown hK hP 0 rfl rfl 20 (by decide) (hg _ mw_699) (fun _ h9 => h9) rfl d_Mo_tellJoining_176 ?_
                refine lv_iload_n hx hb d_Mo_tellJoining_179 rfl (lv_at hl 4 rfl) ?_
                refine lv_iload hx hb d_Mo_tellJoining_180 (lv_at hl 2 rfl) ?_
                refine z_iastN hx hb hK hP hD hS 5 4 rfl rfl (by omega) (by decide) d_Mo_tellJoining_182 (fun H locs hP hD hS => ?_)
                have hP : va_P DD vwCl [(am, .inr (9, [.int (nI th), .int (nI n), .ref hk, .ref ht, .int (nI n1), .ref hk1, .ref ht1, .int (zb pb), .int (nI rn), .ref hfg, .ref hle, .ref hmo, .ref hwy, .int (nI ((tjS enx rux (wkx, otx, tnx, tfx, q0) x).2.2.1)), .ref htf, .long cm, .ref hod, .ref hwk, .ref hot, .int (nI rux), .ref hen])), (hk, .inl (ck, 150, .inl k)), (htf, .inl (ctf, 900, .inl ((tjS enx rux (wkx, otx, tnx, tfx, q0) x).2.2.2.1))), (hwk, .inl (cwk, 150, .inl ((tjS enx rux (wkx, otx, tnx, tfx, q0) x).1))), (hot, .inl (cot, 150, .inl ((tjS enx rux (wkx, otx, tnx, tfx, q0) x).2.1))), (hen, .inl (cen, 150, .inl (nF (va_up (tjE enx rux x) x (enx rr)))))] H := hP
                have hD : va_D A [(am, .inr (9, [.int (nI th), .int (nI n), .ref hk, .ref ht, .int (nI n1), .ref hk1, .ref ht1, .int (zb pb), .int (nI rn), .ref hfg, .ref hle, .ref hmo, .ref hwy, .int (nI ((tjS enx rux (wkx, otx, tnx, tfx, q0) x).2.2.1)), .ref htf, .long cm, .ref hod, .ref hwk, .ref hot, .int (nI rux), .ref hen])), (hk, .inl (ck, 150, .inl k)), (htf, .inl (ctf, 900, .inl ((tjS enx rux (wkx, otx, tnx, tfx, q0) x).2.2.2.1))), (hwk, .inl (cwk, 150, .inl ((tjS enx rux (wkx, otx, tnx, tfx, q0) x).1))), (hot, .inl (cot, 150, .inl ((tjS enx rux (wkx, otx, tnx, tfx, q0) x).2.1))), (hen, .inl (cen, 150, .inl (nF (va_up (tjE enx rux x) x (enx rr)))))] := hD
                rw [show va_up (tjE enx rux x) x (enx rr) = tjE enx rux (x + 1) from tjE_s enx (by rw [tjV, if_neg (by omega), hrr])] at hP hD
                rw [show (tjS enx rux (wkx, otx, tnx, tfx, q0) x).1 = (tjS enx rux (wkx, otx, tnx, tfx, q0) (x + 1)).1 from by rw [tjS_f (by omega)]] at hP hD
                rw [show (tjS enx rux (wkx, otx, tnx, tfx, q0) x).2.1 = (tjS enx rux (wkx, otx, tnx, tfx, q0) (x + 1)).2.1 from by rw [tjS_f (by omega)]] at hP hD
                rw [show (tjS enx rux (wkx, otx, tnx, tfx, q0) x).2.2.2.1 = (tjS enx rux (wkx, otx, tnx, tfx, q0) (x + 1)).2.2.2.1 from by rw [tjS_f (by omega)]] at hP hD
                rw [show nI ((tjS enx rux (wkx, otx, tnx, tfx, q0) x).2.2.1) = nI (tjS enx rux (wkx, otx, tnx, tfx, q0) (x + 1)).2.2.1 from by rw [tjS_f (by omega)]] at hP hD
                refine lv_iinc (v := nI (x + 1)) (lv' := [(2, .int (nI (x + 1))), (3, .int (nI (enx rr))), (1, .int (nI q)), (5, .int (nI (enx rr))), (0, .ref am), (4, .int (nI rr))]) hx hb d_Mo_tellJoining_183 hl (k := 4) rfl (by exact nI_add x 1) (by decide) rfl (fun ls hl => ?_)
                refine lv_iload hx hb d_Mo_tellJoining_186 (lv_at hl 5 rfl) ?_
                refine lv_iconst (v := nI 2) hx hb d_Mo_tellJoining_188 (by decide) ?_
                refine z_iadd hx hb d_Mo_tellJoining_189 ?_
                refine lv_istore (lv' := [(4, .int (nI (rr + 2))), (2, .int (nI (x + 1))), (3, .int (nI (enx rr))), (1, .int (nI q)), (5, .int (nI (enx rr))), (0, .ref am)]) hx hb d_Mo_tellJoining_190 hl (by decide) rfl (fun ls hl => ?_)
                refine lv_goto (tgt := 99) hx hb d_Mo_tellJoining_192 (by decide) ?_
                exact ih99 (x + 1) (rr + 2) (enx rr) q (by omega) (by omega) (by omega) (by first | (rw [tjB, if_neg (by omega), Nat.add_sub_cancel, tjV, if_pos (by omega), hrr]; done) | (rw [tjB, if_neg (by omega), Nat.add_sub_cancel, tjV, if_neg (by omega), hrr]; done)) (by first | (rw [tjS_t (by omega), hq, hfr, hrr]; done) | (rw [tjS_f (by omega), hq]; done)) (by omega) _ _ hP hD hS ls (lv_sub hl [5, 3, 1, 2, 0] rfl)
              · exact absurd c_148 (by omega)
            · refine lv_aload_n hx hb d_Mo_tellJoining_119 rfl (lv_at hl 0 rfl) ?_
              refine va_get (D := DD) (ci := 9) (v := .ref hen) (C := R_Mo) (T := T_Mo) (N := 21) hx hb hg in_Mo hown hK hP 0 rfl rfl 20 (by decide) (hg _ mw_699) (fun _ h9 => h9) rfl d_Mo_tellJoining_120 ?_
              refine lv_iload hx hb d_Mo_tellJoining_123 (lv_at hl 4 rfl) ?_
              refine lv_iconst (v := nI 1) hx hb d_Mo_tellJoining_125 (by decide) ?_
              refine z_iadd hx hb d_Mo_tellJoining_126 ?_
              refine z_ialdN hx hb hK hP 5 4 rfl rfl (by omega) (by decide) d_Mo_tellJoining_127 ?_
              rw [show nI ((tjE enx rux x) (rr + 1)) = nI (enx (rr + 1)) from tjE_r (by omega)]
              refine lv_goto (tgt := 138) hx hb d_Mo_tellJoining_128 (by decide) ?_
              refine lv_istore (lv' := [(5, .int (nI (enx (rr + 1)))), (0, .ref am), (1, .int (nI q)), (2, .int (nI x)), (3, .int (nI fr)), (4, .int (nI rr))]) hx hb d_Mo_tellJoining_138 hl (by decide) rfl (fun ls hl => ?_)
              refine lv_iload hx hb d_Mo_tellJoining_140 (lv_at hl 5 rfl) ?_
              refine lv_iconst (v := nI 1) hx hb d_Mo_tellJoining_142 (by decide) ?_
              refine z_iadd hx hb d_Mo_tellJoining_143 ?_
              refine lv_aload_n hx hb d_Mo_tellJoining_144 rfl (lv_at hl 1 rfl) ?_
              refine va_get (D := DD) (ci := 9) (v := .int (nI rux)) (C := R_Mo) (T := T_Mo) (N := 21) hx hb hg in_Mo hown hK hP 0 rfl rfl 19 (by decide) (hg _ mw_698) (fun _ h9 => h9) rfl d_Mo_tellJoining_145 ?_
              refine z_icmp_ge (tgt := 170) hx hb d_Mo_tellJoining_148 (by decide) (by omega) (by omega) (fun c_148 => ?_) (fun c_148 => ?_)
              · exact absurd c_148 (by omega)
              · refine lv_iload_n hx hb d_Mo_tellJoining_151 rfl (lv_at hl 2 rfl) ?_
                refine lv_aload_n hx hb d_Mo_tellJoining_152 rfl (lv_at hl 1 rfl) ?_
                refine lv_iload_n hx hb d_Mo_tellJoining_153 rfl (lv_at hl 4 rfl) ?_
                refine lv_aload_n hx hb d_Mo_tellJoining_154 rfl (lv_at hl 1 rfl) ?_
                refine va_get (D := DD) (ci := 9) (v := .ref hen) (C := R_Mo) (T := T_Mo) (N := 21) hx hb hg in_Mo hown hK hP 0 rfl rfl 20 (by decide) (hg _ mw_699) (fun _ h9 => h9) rfl d_Mo_tellJoining_155 ?_
                refine lv_iload hx hb d_Mo_tellJoining_158 (lv_at hl 5 rfl) ?_
                refine z_ialdN hx hb hK hP 5 4 rfl rfl (by omega) (by decide) d_Mo_tellJoining_160 ?_
                rw [show nI ((tjE enx rux x) rr) = nI (enx rr) from tjE_r (by omega)]
                refine lv_iload hx hb d_Mo_tellJoining_161 (lv_at hl 0 rfl) ?_
                have hPc := hP.sub (ws' := [(am, .inr (9, [.int (nI th), .int (nI n), .ref hk, .ref ht, .int (nI n1), .ref hk1, .ref ht1, .int (zb pb), .int (nI rn), .ref hfg, .ref hle, .ref hmo, .ref hwy, .int (nI ((tjS enx rux (wkx, otx, tnx, tfx, q0) x).2.2.1)), .ref htf, .long cm, .ref hod, .ref hwk, .ref hot, .int (nI rux), .ref hen])), (htf, .inl (ctf, 900, .inl ((tjS enx rux (wkx, otx, tnx, tfx, q0) x).2.2.2.1))), (hwk, .inl (cwk, 150, .inl ((tjS enx rux (wkx, otx, tnx, tfx, q0) x).1))), (hot, .inl (cot, 150, .inl ((tjS enx rux (wkx, otx, tnx, tfx, q0) x).2.1)))]) [0, 2, 3, 4] rfl
                have hKc := hK.sub (tys' := [(ctf, .int), (cwk, .int), (cot, .int)]) [1, 2, 3] rfl
                have hDc := hD.sub (ws' := [(am, .inr (9, [.int (nI th), .int (nI n), .ref hk, .ref ht, .int (nI n1), .ref hk1, .ref ht1, .int (zb pb), .int (nI rn), .ref hfg, .ref hle, .ref hmo, .ref hwy, .int (nI ((tjS enx rux (wkx, otx, tnx, tfx, q0) x).2.2.1)), .ref htf, .long cm, .ref hod, .ref hwk, .ref hot, .int (nI rux), .ref hen])), (htf, .inl (ctf, 900, .inl ((tjS enx rux (wkx, otx, tnx, tfx, q0) x).2.2.2.1))), (hwk, .inl (cwk, 150, .inl ((tjS enx rux (wkx, otx, tnx, tfx, q0) x).1))), (hot, .inl (cot, 150, .inl ((tjS enx rux (wkx, otx, tnx, tfx, q0) x).2.1)))]) [0, 2, 3, 4] (by decide) rfl
                have hFc := va_free (wc := [(am, .inr (9, [.int (nI th), .int (nI n), .ref hk, .ref ht, .int (nI n1), .ref hk1, .ref ht1, .int (zb pb), .int (nI rn), .ref hfg, .ref hle, .ref hmo, .ref hwy, .int (nI ((tjS enx rux (wkx, otx, tnx, tfx, q0) x).2.2.1)), .ref htf, .long cm, .ref hod, .ref hwk, .ref hot, .int (nI rux), .ref hen])), (htf, .inl (ctf, 900, .inl ((tjS enx rux (wkx, otx, tnx, tfx, q0) x).2.2.2.1))), (hwk, .inl (cwk, 150, .inl ((tjS enx rux (wkx, otx, tnx, tfx, q0) x).1))), (hot, .inl (cot, 150, .inl ((tjS enx rux (wkx, otx, tnx, tfx, q0) x).2.1)))]) hD hS hA [0, 2, 3, 4] rfl
                refine va_calli (va_runV (As := [.int (nI fr), .int (nI (enx rr)), .int (nI (enx (rr + 1)))]) (rest := [.int (nI q)]) ⟨hx, hb, hml, hown, hg⟩ (c_Mo_joinTwo l DD H.size am th n hk ht n1 hk1 ht1 pb rn hfg hle hmo hwy ((tjS enx rux (wkx, otx, tnx, tfx, q0) x).2.2.1) htf ctf ((tjS enx rux (wkx, otx, tnx, tfx, q0) x).2.2.2.1) cm hod hwk cwk ((tjS enx rux (wkx, otx, tnx, tfx, q0) x).1) hot cot ((tjS enx rux (wkx, otx, tnx, tfx, q0) x).2.1) rux hen fr (enx rr) (enx (rr + 1)) (by rw [hfr, hrr]; exact tjB_le hmon (by omega)) (by exact hmon rr (by omega)) (by exact hlx (rr + 1) (by omega)) (by omega)) (cwV 3 hg (gi_V mw_843 mw_845 ms_Mo_joinTwo mw_11 mw_846) rfl rfl rfl (by decide +kernel) ⟨Nat.le_of_ble_eq_true rfl, Nat.le_of_ble_eq_true rfl⟩) ⟨z_blindQ, va_recv hKc hPc (ci := 9) (q0 := 0) rfl rfl, z_preQ hPc hKc hDc⟩ rfl rfl hl.1 rfl (lv_room (Nat.le_of_ble_eq_true rfl)) d_Mo_tellJoining_163 ⟨Nat.zero_le _, Nat.zero_le _⟩) hS (fun q _ h => hFc q h) hFc (fun r_163 u9 t9 H9 locs ht9 hvm9 hw9 hB9 hz9 hk9 hS => ?_)
                obtain ⟨hP1, hK1, hD1⟩ := hB9
                rw [ht9] at hP1
                try dsimp only at hw9
                obtain ⟨hP, hD⟩ := va_join (wr := [(hk, .inl (ck, 150, .inl k)), (hen, .inl (cen, 150, .inl (nF (tjE enx rux x))))]) (w1 := [(am, .inr (9, [.int (nI th), .int (nI n), .ref hk, .ref ht, .int (nI n1), .ref hk1, .ref ht1, .int (zb pb), .int (nI rn), .ref hfg, .ref hle, .ref hmo, .ref hwy, .int (nI (((tjS enx rux (wkx, otx, tnx, tfx, q0) x).2.2.1) + 1)), .ref htf, .long cm, .ref hod, .ref hwk, .ref hot, .int (nI rux), .ref hen])), (htf, .inl (ctf, 900, .inl (tadd ((tjS enx rux (wkx, otx, tnx, tfx, q0) x).2.2.2.1) ((tjS enx rux (wkx, otx, tnx, tfx, q0) x).2.2.1) (nI 2) (nI fr) (nI (enx (rr + 1)))))), (hwk, .inl (cwk, 150, .inl (jmW ((tjS enx rux (wkx, otx, tnx, tfx, q0) x).1) fr (enx rr) (enx (rr + 1)) ((tjS enx rux (wkx, otx, tnx, tfx, q0) x).2.1)))), (hot, .inl (cot, 150, .inl ((jmR ((tjS enx rux (wkx, otx, tnx, tfx, q0) x).1) fr (enx rr) (enx (rr + 1)) ((tjS enx rux (wkx, otx, tnx, tfx, q0) x).2.1)).2)))]) hP hD [0, 2, 3, 4] [1, 5] rfl rfl (by decide) (by decide) hk9 hFc hP1 hD1
                generalize H9 = H at hP hS ⊢
                have hP : va_P DD vwCl [(hk, .inl (ck, 150, .inl k)), (hen, .inl (cen, 150, .inl (nF (tjE enx rux x)))), (am, .inr (9, [.int (nI th), .int (nI n), .ref hk, .ref ht, .int (nI n1), .ref hk1, .ref ht1, .int (zb pb), .int (nI rn), .ref hfg, .ref hle, .ref hmo, .ref hwy, .int (nI (((tjS enx rux (wkx, otx, tnx, tfx, q0) x).2.2.1) + 1)), .ref htf, .long cm, .ref hod, .ref hwk, .ref hot, .int (nI rux), .ref hen])), (htf, .inl (ctf, 900, .inl (tadd ((tjS enx rux (wkx, otx, tnx, tfx, q0) x).2.2.2.1) ((tjS enx rux (wkx, otx, tnx, tfx, q0) x).2.2.1) (nI 2) (nI fr) (nI (enx (rr + 1)))))), (hwk, .inl (cwk, 150, .inl (jmW ((tjS enx rux (wkx, otx, tnx, tfx, q0) x).1) fr (enx rr) (enx (rr + 1)) ((tjS enx rux (wkx, otx, tnx, tfx, q0) x).2.1)))), (hot, .inl (cot, 150, .inl ((jmR ((tjS enx rux (wkx, otx, tnx, tfx, q0) x).1) fr (enx rr) (enx (rr + 1)) ((tjS enx rux (wkx, otx, tnx, tfx, q0) x).2.1)).2)))] H := hP
                have hD : va_D A [(hk, .inl (ck, 150, .inl k)), (hen, .inl (cen, 150, .inl (nF (tjE enx rux x)))), (am, .inr (9, [.int (nI th), .int (nI n), .ref hk, .ref ht, .int (nI n1), .ref hk1, .ref ht1, .int (zb pb), .int (nI rn), .ref hfg, .ref hle, .ref hmo, .ref hwy, .int (nI (((tjS enx rux (wkx, otx, tnx, tfx, q0) x).2.2.1) + 1)), .ref htf, .long cm, .ref hod, .ref hwk, .ref hot, .int (nI rux), .ref hen])), (htf, .inl (ctf, 900, .inl (tadd ((tjS enx rux (wkx, otx, tnx, tfx, q0) x).2.2.2.1) ((tjS enx rux (wkx, otx, tnx, tfx, q0) x).2.2.1) (nI 2) (nI fr) (nI (enx (rr + 1)))))), (hwk, .inl (cwk, 150, .inl (jmW ((tjS enx rux (wkx, otx, tnx, tfx, q0) x).1) fr (enx rr) (enx (rr + 1)) ((tjS enx rux (wkx, otx, tnx, tfx, q0) x).2.1)))), (hot, .inl (cot, 150, .inl ((jmR ((tjS enx rux (wkx, otx, tnx, tfx, q0) x).1) fr (enx rr) (enx (rr + 1)) ((tjS enx rux (wkx, otx, tnx, tfx, q0) x).2.1)).2)))] := hD
                subst hw9
                refine z_iadd hx hb d_Mo_tellJoining_166 ?_
                refine lv_goto (tgt := 171) hx hb d_Mo_tellJoining_167 (by decide) ?_
                refine lv_istore_n (lv' := [(1, .int (nI (q + ((jmR ((tjS enx rux (wkx, otx, tnx, tfx, q0) x).1) fr (enx rr) (enx (rr + 1)) ((tjS enx rux (wkx, otx, tnx, tfx, q0) x).2.1)).1)))), (5, .int (nI (enx (rr + 1)))), (0, .ref am), (2, .int (nI x)), (3, .int (nI fr)), (4, .int (nI rr))]) hx hb d_Mo_tellJoining_171 rfl hl (by decide) rfl (fun ls hl => ?_)
                refine lv_iload hx hb d_Mo_tellJoining_172 (lv_at hl 1 rfl) ?_
                refine lv_istore_n (lv' := [(3, .int (nI (enx (rr + 1)))), (1, .int (nI (q + ((jmR ((tjS enx rux (wkx, otx, tnx, tfx, q0) x).1) fr (enx rr) (enx (rr + 1)) ((tjS enx rux (wkx, otx, tnx, tfx, q0) x).2.1)).1)))), (5, .int (nI (enx (rr + 1)))), (0, .ref am), (2, .int (nI x)), (4, .int (nI rr))]) hx hb d_Mo_tellJoining_174 rfl hl (by decide) rfl (fun ls hl => ?_)
                refine lv_aload_n hx hb d_Mo_tellJoining_175 rfl (lv_at hl 3 rfl) ?_
                refine va_get (D := DD) (ci := 9) (v := .ref hen) (C := R_Mo) (T := T_Mo) (N := 21) hx hb hg in_Mo hown hK hP 2 rfl rfl 20 (by decide) (hg _ mw_699) (fun _ h9 => h9) rfl d_Mo_tellJoining_176 ?_
                refine lv_iload_n hx hb d_Mo_tellJoining_179 rfl (lv_at hl 4 rfl) ?_
                refine lv_iload hx hb d_Mo_tellJoining_180 (lv_at hl 2 rfl) ?_
                refine z_iastN hx hb hK hP hD hS 1 4 rfl rfl (by omega) (by decide) d_Mo_tellJoining_182 (fun H locs hP hD hS => ?_)
                have hP : va_P DD vwCl [(hk, .inl (ck, 150, .inl k)), (hen, .inl (cen, 150, .inl (nF (va_up (tjE enx rux x) x (enx (rr + 1)))))), (am, .inr (9, [.int (nI th), .int (nI n), .ref hk, .ref ht, .int (nI n1), .ref hk1, .ref ht1, .int (zb pb), .int (nI rn), .ref hfg, .ref hle, .ref hmo, .ref hwy, .int (nI (((tjS enx rux (wkx, otx, tnx, tfx, q0) x).2.2.1) + 1)), .ref htf, .long cm, .ref hod, .ref hwk, .ref hot, .int (nI rux), .ref hen])), (htf, .inl (ctf, 900, .inl (tadd ((tjS enx rux (wkx, otx, tnx, tfx, q0) x).2.2.2.1) ((tjS enx rux (wkx, otx, tnx, tfx, q0) x).2.2.1) (nI 2) (nI fr) (nI (enx (rr + 1)))))), (hwk, .inl (cwk, 150, .inl (jmW ((tjS enx rux (wkx, otx, tnx, tfx, q0) x).1) fr (enx rr) (enx (rr + 1)) ((tjS enx rux (wkx, otx, tnx, tfx, q0) x).2.1)))), (hot, .inl (cot, 150, .inl ((jmR ((tjS enx rux (wkx, otx, tnx, tfx, q0) x).1) fr (enx rr) (enx (rr + 1)) ((tjS enx rux (wkx, otx, tnx, tfx, q0) x).2.1)).2)))] H := hP
                have hD : va_D A [(hk, .inl (ck, 150, .inl k)), (hen, .inl (cen, 150, .inl (nF (va_up (tjE enx rux x) x (enx (rr + 1)))))), (am, .inr (9, [.int (nI th), .int (nI n), .ref hk, .ref ht, .int (nI n1), .ref hk1, .ref ht1, .int (zb pb), .int (nI rn), .ref hfg, .ref hle, .ref hmo, .ref hwy, .int (nI (((tjS enx rux (wkx, otx, tnx, tfx, q0) x).2.2.1) + 1)), .ref htf, .long cm, .ref hod, .ref hwk, .ref hot, .int (nI rux), .ref hen])), (htf, .inl (ctf, 900, .inl (tadd ((tjS enx rux (wkx, otx, tnx, tfx, q0) x).2.2.2.1) ((tjS enx rux (wkx, otx, tnx, tfx, q0) x).2.2.1) (nI 2) (nI fr) (nI (enx (rr + 1)))))), (hwk, .inl (cwk, 150, .inl (jmW ((tjS enx rux (wkx, otx, tnx, tfx, q0) x).1) fr (enx rr) (enx (rr + 1)) ((tjS enx rux (wkx, otx, tnx, tfx, q0) x).2.1)))), (hot, .inl (cot, 150, .inl ((jmR ((tjS enx rux (wkx, otx, tnx, tfx, q0) x).1) fr (enx rr) (enx (rr + 1)) ((tjS enx rux (wkx, otx, tnx, tfx, q0) x).2.1)).2)))] := hD
                rw [show va_up (tjE enx rux x) x (enx (rr + 1)) = tjE enx rux (x + 1) from tjE_s enx (by rw [tjV, if_pos (by omega), hrr])] at hP hD
                rw [show jmW ((tjS enx rux (wkx, otx, tnx, tfx, q0) x).1) fr (enx rr) (enx (rr + 1)) ((tjS enx rux (wkx, otx, tnx, tfx, q0) x).2.1) = (tjS enx rux (wkx, otx, tnx, tfx, q0) (x + 1)).1 from by rw [tjS_t (by omega), hfr, hrr]] at hP hD
                rw [show (jmR ((tjS enx rux (wkx, otx, tnx, tfx, q0) x).1) fr (enx rr) (enx (rr + 1)) ((tjS enx rux (wkx, otx, tnx, tfx, q0) x).2.1)).2 = (tjS enx rux (wkx, otx, tnx, tfx, q0) (x + 1)).2.1 from by rw [tjS_t (by omega), hfr, hrr]] at hP hD
                rw [show tadd ((tjS enx rux (wkx, otx, tnx, tfx, q0) x).2.2.2.1) ((tjS enx rux (wkx, otx, tnx, tfx, q0) x).2.2.1) (nI 2) (nI fr) (nI (enx (rr + 1))) = (tjS enx rux (wkx, otx, tnx, tfx, q0) (x + 1)).2.2.2.1 from by rw [tjS_t (by omega), hfr, hrr]] at hP hD
                rw [show nI (((tjS enx rux (wkx, otx, tnx, tfx, q0) x).2.2.1) + 1) = nI (tjS enx rux (wkx, otx, tnx, tfx, q0) (x + 1)).2.2.1 from by rw [tjS_t (by omega)]] at hP hD
                refine lv_iinc (v := nI (x + 1)) (lv' := [(2, .int (nI (x + 1))), (3, .int (nI (enx (rr + 1)))), (1, .int (nI (q + ((jmR ((tjS enx rux (wkx, otx, tnx, tfx, q0) x).1) fr (enx rr) (enx (rr + 1)) ((tjS enx rux (wkx, otx, tnx, tfx, q0) x).2.1)).1)))), (5, .int (nI (enx (rr + 1)))), (0, .ref am), (4, .int (nI rr))]) hx hb d_Mo_tellJoining_183 hl (k := 4) rfl (by exact nI_add x 1) (by decide) rfl (fun ls hl => ?_)
                refine lv_iload hx hb d_Mo_tellJoining_186 (lv_at hl 5 rfl) ?_
                refine lv_iconst (v := nI 2) hx hb d_Mo_tellJoining_188 (by decide) ?_
                refine z_iadd hx hb d_Mo_tellJoining_189 ?_
                refine lv_istore (lv' := [(4, .int (nI (rr + 2))), (2, .int (nI (x + 1))), (3, .int (nI (enx (rr + 1)))), (1, .int (nI (q + ((jmR ((tjS enx rux (wkx, otx, tnx, tfx, q0) x).1) fr (enx rr) (enx (rr + 1)) ((tjS enx rux (wkx, otx, tnx, tfx, q0) x).2.1)).1)))), (5, .int (nI (enx (rr + 1)))), (0, .ref am)]) hx hb d_Mo_tellJoining_190 hl (by decide) rfl (fun ls hl => ?_)
                refine lv_goto (tgt := 99) hx hb d_Mo_tellJoining_192 (by decide) ?_
                exact ih99 (x + 1) (rr + 2) (enx (rr + 1)) (q + ((jmR ((tjS enx rux (wkx, otx, tnx, tfx, q0) x).1) fr (enx rr) (enx (rr + 1)) ((tjS enx rux (wkx, otx, tnx, tfx, q0) x).2.1)).1)) (by omega) (by omega) (by omega) (by first | (rw [tjB, if_neg (by omega), Nat.add_sub_cancel, tjV, if_pos (by omega), hrr]; done) | (rw [tjB, if_neg (by omega), Nat.add_sub_cancel, tjV, if_neg (by omega), hrr]; done)) (by first | (rw [tjS_t (by omega), hq, hfr, hrr]; done) | (rw [tjS_f (by omega), hq]; done)) (by omega) _ _ (hP.sub [2, 0, 3, 4, 5, 1] rfl) (hD.sub [2, 0, 3, 4, 5, 1] (by decide) rfl) hS ls (lv_sub hl [5, 3, 1, 2, 0] rfl)
      refine lv_aload_n hx hb d_Mo_tellJoining_84 rfl (lv_at hl 0 rfl) ?_
      refine va_get (D := DD) (ci := 9) (v := .int (nI rux)) (C := R_Mo) (T := T_Mo) (N := 21) hx hb hg in_Mo hown hK hP 0 rfl rfl 19 (by decide) (hg _ mw_698) (fun _ h9 => h9) rfl d_Mo_tellJoining_85 ?_
      refine lv_iconst (v := nI 1) hx hb d_Mo_tellJoining_88 (by decide) ?_
      refine z_icmp_le (tgt := 203) hx hb d_Mo_tellJoining_89 (by decide) (by omega) (by omega) (fun c_89 => ?_) (fun c_89 => ?_)
      · have hX := toL_x hX c_89
        rw [show wkx = (toF k n wk ot tn tf en).1 from by rw [hX]] at hP hD
        rw [show otx = (toF k n wk ot tn tf en).2.1 from by rw [hX]] at hP hD
        rw [show tfx = (toF k n wk ot tn tf en).2.2.2.1 from by rw [hX]] at hP hD
        rw [show enx = (toF k n wk ot tn tf en).2.2.2.2.2.1 from by rw [hX]] at hP hD
        rw [show nI tnx = nI (toF k n wk ot tn tf en).2.2.1 from by rw [hX]] at hP hD
        rw [show nI rux = nI (toF k n wk ot tn tf en).2.2.2.2.2.2 from by rw [hX]] at hP hD
        refine lv_iload_n hx hb d_Mo_tellJoining_203 rfl (lv_at hl 1 rfl) ?_
        have hP9 := hP.sub (ws' := [(am, .inr (9, [.int (nI th), .int (nI n), .ref hk, .ref ht, .int (nI n1), .ref hk1, .ref ht1, .int (zb pb), .int (nI rn), .ref hfg, .ref hle, .ref hmo, .ref hwy, .int (nI (toF k n wk ot tn tf en).2.2.1), .ref htf, .long cm, .ref hod, .ref hwk, .ref hot, .int (nI (toF k n wk ot tn tf en).2.2.2.2.2.2), .ref hen])), (hk, .inl (ck, 150, .inl k)), (htf, .inl (ctf, 900, .inl ((toF k n wk ot tn tf en).2.2.2.1))), (hwk, .inl (cwk, 150, .inl ((toF k n wk ot tn tf en).1))), (hot, .inl (cot, 150, .inl ((toF k n wk ot tn tf en).2.1))), (hen, .inl (cen, 150, .inl (nF ((toF k n wk ot tn tf en).2.2.2.2.2.1))))]) [0, 1, 2, 3, 4, 5] rfl
        have hD9 := hD.sub (ws' := [(am, .inr (9, [.int (nI th), .int (nI n), .ref hk, .ref ht, .int (nI n1), .ref hk1, .ref ht1, .int (zb pb), .int (nI rn), .ref hfg, .ref hle, .ref hmo, .ref hwy, .int (nI (toF k n wk ot tn tf en).2.2.1), .ref htf, .long cm, .ref hod, .ref hwk, .ref hot, .int (nI (toF k n wk ot tn tf en).2.2.2.2.2.2), .ref hen])), (hk, .inl (ck, 150, .inl k)), (htf, .inl (ctf, 900, .inl ((toF k n wk ot tn tf en).2.2.2.1))), (hwk, .inl (cwk, 150, .inl ((toF k n wk ot tn tf en).1))), (hot, .inl (cot, 150, .inl ((toF k n wk ot tn tf en).2.1))), (hen, .inl (cen, 150, .inl (nF ((toF k n wk ot tn tf en).2.2.2.2.2.1))))]) [0, 1, 2, 3, 4, 5] (by decide) rfl
        exact W.iret (v := nI q0) hx hb hr (fun t9 ht9 hW9 => ⟨⟨_, (), rfl, (by exact congrArg nI (by rw [hX])), by rw [ht9]; exact hP9, va_K.moved hW9.alike hK, hD9⟩, hS.F ht9⟩) hS.2.2 d_Mo_tellJoining_204
      · rw [show enx = tjE enx rux 0 from tjE_0 enx rux] at hP hD
        rw [show wkx = (tjS enx rux (wkx, otx, tnx, tfx, q0) 0).1 from rfl] at hP hD
        rw [show otx = (tjS enx rux (wkx, otx, tnx, tfx, q0) 0).2.1 from rfl] at hP hD
        rw [show tfx = (tjS enx rux (wkx, otx, tnx, tfx, q0) 0).2.2.2.1 from rfl] at hP hD
        rw [show nI tnx = nI (tjS enx rux (wkx, otx, tnx, tfx, q0) 0).2.2.1 from rfl] at hP hD
        refine lv_iconst (v := nI 0) hx hb d_Mo_tellJoining_92 (by decide) ?_
        refine lv_istore_n (lv' := [(2, .int (nI 0)), (0, .ref am), (1, .int (nI q0))]) hx hb d_Mo_tellJoining_93 rfl hl (by decide) rfl (fun ls hl => ?_)
        refine lv_iconst (v := nI 0) hx hb d_Mo_tellJoining_94 (by decide) ?_
        refine lv_istore_n (lv' := [(3, .int (nI 0)), (2, .int (nI 0)), (0, .ref am), (1, .int (nI q0))]) hx hb d_Mo_tellJoining_95 rfl hl (by decide) rfl (fun ls hl => ?_)
        refine lv_iconst (v := nI 0) hx hb d_Mo_tellJoining_96 (by decide) ?_
        refine lv_istore (lv' := [(4, .int (nI 0)), (3, .int (nI 0)), (2, .int (nI 0)), (0, .ref am), (1, .int (nI q0))]) hx hb d_Mo_tellJoining_97 hl (by decide) rfl (fun ls hl => ?_)
        exact K99 _ 0 0 0 q0 (by exact c_89) (by omega) (by omega) (by rfl) (by rfl) (Nat.lt_succ_self _) _ _ hP hD hS ls (lv_sub hl [3, 4, 2, 1, 0] rfl)
  have K9 : ∀ (kk : Nat) (i : Nat), (hi : i ≤ n) → n - i < kk → ∀ (H : Heap) (locs : List Loc), va_P DD vwCl [(am, .inr (9, [.int (nI th), .int (nI n), .ref hk, .ref ht, .int (nI n1), .ref hk1, .ref ht1, .int (zb pb), .int (nI rn), .ref hfg, .ref hle, .ref hmo, .ref hwy, .int (nI tn), .ref htf, .long cm, .ref hod, .ref hwk, .ref hot, .int (nI (cnt (enB k n) i)), .ref hen])), (hk, .inl (ck, 150, .inl k)), (htf, .inl (ctf, 900, .inl tf)), (hwk, .inl (cwk, 150, .inl (cpF k wk i))), (hot, .inl (cot, 150, .inl ot)), (hen, .inl (cen, 150, .inl (nF (teE k n en i))))] H → va_D A [(am, .inr (9, [.int (nI th), .int (nI n), .ref hk, .ref ht, .int (nI n1), .ref hk1, .ref ht1, .int (zb pb), .int (nI rn), .ref hfg, .ref hle, .ref hmo, .ref hwy, .int (nI tn), .ref htf, .long cm, .ref hod, .ref hwk, .ref hot, .int (nI (cnt (enB k n) i)), .ref hen])), (hk, .inl (ck, 150, .inl k)), (htf, .inl (ctf, 900, .inl tf)), (hwk, .inl (cwk, 150, .inl (cpF k wk i))), (hot, .inl (cot, 150, .inl ot)), (hen, .inl (cen, 150, .inl (nF (teE k n en i))))] → va_S A s.heap H locs → ∀ (ls : Array Slot), lv_has ls 6 [(0, .ref am), (1, .int (nI 0)), (2, .int (nI i))] → W p l e (headSpec ws_Mo_tellJoining rm_Mo_tellJoining).room s m args below meth c H locs 0 0 (MQ below (va_Qi (fun (r9 : Int32) (u9 : Unit) => match u9 with | _ => r9 = nI ((toF k n wk ot tn tf en).2.2.2.2.1)) (fun (u9 : Unit) (t9 : State) => match u9 with | _ => va_P DD vwCl [(am, .inr (9, [.int (nI th), .int (nI n), .ref hk, .ref ht, .int (nI n1), .ref hk1, .ref ht1, .int (zb pb), .int (nI rn), .ref hfg, .ref hle, .ref hmo, .ref hwy, .int (nI ((toF k n wk ot tn tf en).2.2.1)), .ref htf, .long cm, .ref hod, .ref hwk, .ref hot, .int (nI ((toF k n wk ot tn tf en).2.2.2.2.2.2)), .ref hen])), (hk, .inl (ck, 150, .inl k)), (htf, .inl (ctf, 900, .inl ((toF k n wk ot tn tf en).2.2.2.1))), (hwk, .inl (cwk, 150, .inl ((toF k n wk ot tn tf en).1))), (hot, .inl (cot, 150, .inl ((toF k n wk ot tn tf en).2.1))), (hen, .inl (cen, 150, .inl (nF ((toF k n wk ot tn tf en).2.2.2.2.2.1))))] t9.heap ∧ va_K DD vwCl [(ck, .int), (ctf, .int), (cwk, .int), (cot, .int), (cen, .int)] t9 ∧ va_D A [(am, .inr (9, [.int (nI th), .int (nI n), .ref hk, .ref ht, .int (nI n1), .ref hk1, .ref ht1, .int (zb pb), .int (nI rn), .ref hfg, .ref hle, .ref hmo, .ref hwy, .int (nI ((toF k n wk ot tn tf en).2.2.1)), .ref htf, .long cm, .ref hod, .ref hwk, .ref hot, .int (nI ((toF k n wk ot tn tf en).2.2.2.2.2.2)), .ref hen])), (hk, .inl (ck, 150, .inl k)), (htf, .inl (ctf, 900, .inl ((toF k n wk ot tn tf en).2.2.2.1))), (hwk, .inl (cwk, 150, .inl ((toF k n wk ot tn tf en).1))), (hot, .inl (cot, 150, .inl ((toF k n wk ot tn tf en).2.1))), (hen, .inl (cen, 150, .inl (nF ((toF k n wk ot tn tf en).2.2.2.2.2.1))))]) A) args s 0 0 A) (F0 m 9 ls []) := by
    intro kk
    induction kk with
    | zero => intros; omega
    | succ kk ih9 =>
      intro i hi hkk H locs hP hD hS ls hl
      have hcl := cnt_le (enB k n) i
      refine lv_iload_n hx hb d_Mo_tellJoining_9 rfl (lv_at hl 2 rfl) ?_
      refine lv_aload_n hx hb d_Mo_tellJoining_10 rfl (lv_at hl 0 rfl) ?_
      refine va_get (D := DD) (ci := 9) (v := .int (nI n)) (C := R_Mo) (T := T_Mo) (N := 21) hx hb hg in_Mo hown hK hP 0 rfl rfl 1 (by decide) (hg _ mw_680) (fun _ h9 => h9) rfl d_Mo_tellJoining_11 ?_
      refine z_icmp_ge (tgt := 84) hx hb d_Mo_tellJoining_14 (by decide) (by omega) (by omega) (fun c_14 => ?_) (fun c_14 => ?_)
      · exact K84 _ 150 0 (cpF k wk i) ot (teE k n en i) (cnt (enB k n) i) tn tf (by omega) (by omega) (by omega) (by exact (teE_ok k n en i).2) (by exact fun x hx => Nat.le_trans ((teE_ok k n en i).1 x hx) (by omega)) (by rw [Nat.le_antisymm hi c_14]; rfl) (Nat.lt_succ_self _) _ _ hP hD hS ls (lv_sub hl [0, 1] rfl)
      · refine lv_aload_n hx hb d_Mo_tellJoining_17 rfl (lv_at hl 0 rfl) ?_
        refine va_get (D := DD) (ci := 9) (v := .ref hwk) (C := R_Mo) (T := T_Mo) (N := 21) hx hb hg in_Mo hown hK hP 0 rfl rfl 17 (by decide) (hg _ mw_696) (fun _ h9 => h9) rfl d_Mo_tellJoining_18 ?_
        refine lv_iload_n hx hb d_Mo_tellJoining_21 rfl (lv_at hl 2 rfl) ?_
        refine lv_aload_n hx hb d_Mo_tellJoining_22 rfl (lv_at hl 0 rfl) ?_
        refine va_get (D := DD) (ci := 9) (v := .ref hk) (C := R_Mo) (T := T_Mo) (N := 21) hx hb hg in_Mo hown hK hP 0 rfl rfl 2 (by decide) (hg _ mw_681) (fun _ h9 => h9) rfl d_Mo_tellJoining_23 ?_
        refine lv_iload_n hx hb d_Mo_tellJoining_26 rfl (lv_at hl 2 rfl) ?_
        refine z_iald hx hb hK hP 1 0 rfl rfl (by omega) (by decide) d_Mo_tellJoining_27 ?_
        refine z_iast hx hb hK hP hD hS 3 2 rfl rfl (by omega) (by decide) d_Mo_tellJoining_28 (fun H locs hP hD hS => ?_)
        have hP : va_P DD vwCl [(am, .inr (9, [.int (nI th), .int (nI n), .ref hk, .ref ht, .int (nI n1), .ref hk1, .ref ht1, .int (zb pb), .int (nI rn), .ref hfg, .ref hle, .ref hmo, .ref hwy, .int (nI tn), .ref htf, .long cm, .ref hod, .ref hwk, .ref hot, .int (nI (cnt (enB k n) i)), .ref hen])), (hk, .inl (ck, 150, .inl k)), (htf, .inl (ctf, 900, .inl tf)), (hwk, .inl (cwk, 150, .inl (upd (cpF k wk i) i (k i)))), (hot, .inl (cot, 150, .inl ot)), (hen, .inl (cen, 150, .inl (nF (teE k n en i))))] H := hP
        have hD : va_D A [(am, .inr (9, [.int (nI th), .int (nI n), .ref hk, .ref ht, .int (nI n1), .ref hk1, .ref ht1, .int (zb pb), .int (nI rn), .ref hfg, .ref hle, .ref hmo, .ref hwy, .int (nI tn), .ref htf, .long cm, .ref hod, .ref hwk, .ref hot, .int (nI (cnt (enB k n) i)), .ref hen])), (hk, .inl (ck, 150, .inl k)), (htf, .inl (ctf, 900, .inl tf)), (hwk, .inl (cwk, 150, .inl (upd (cpF k wk i) i (k i)))), (hot, .inl (cot, 150, .inl ot)), (hen, .inl (cen, 150, .inl (nF (teE k n en i))))] := hD
        rw [show upd (cpF k wk i) i (k i) = cpF k wk (i + 1) from cpF_s k wk i] at hP hD
        refine lv_iload_n hx hb d_Mo_tellJoining_29 rfl (lv_at hl 2 rfl) ?_
        refine lv_iconst (v := nI 1) hx hb d_Mo_tellJoining_30 (by decide) ?_
        refine z_iadd hx hb d_Mo_tellJoining_31 ?_
        refine lv_aload_n hx hb d_Mo_tellJoining_32 rfl (lv_at hl 0 rfl) ?_
        refine va_get (D := DD) (ci := 9) (v := .int (nI n)) (C := R_Mo) (T := T_Mo) (N := 21) hx hb hg in_Mo hown hK hP 0 rfl rfl 1 (by decide) (hg _ mw_680) (fun _ h9 => h9) rfl d_Mo_tellJoining_33 ?_
        refine z_icmp_eq (tgt := 56) hx hb d_Mo_tellJoining_36 (by decide) (by omega) (by omega) (fun c_36 => ?_) (fun c_36 => ?_)
        · refine lv_aload_n hx hb d_Mo_tellJoining_56 rfl (lv_at hl 0 rfl) ?_
          refine va_get (D := DD) (ci := 9) (v := .ref hen) (C := R_Mo) (T := T_Mo) (N := 21) hx hb hg in_Mo hown hK hP 0 rfl rfl 20 (by decide) (hg _ mw_699) (fun _ h9 => h9) rfl d_Mo_tellJoining_57 ?_
          refine lv_aload_n hx hb d_Mo_tellJoining_60 rfl (lv_at hl 0 rfl) ?_
          refine va_get (D := DD) (ci := 9) (v := .int (nI (cnt (enB k n) i))) (C := R_Mo) (T := T_Mo) (N := 21) hx hb hg in_Mo hown hK hP 0 rfl rfl 19 (by decide) (hg _ mw_698) (fun _ h9 => h9) rfl d_Mo_tellJoining_61 ?_
          refine lv_iload_n hx hb d_Mo_tellJoining_64 rfl (lv_at hl 2 rfl) ?_
          refine lv_iconst (v := nI 1) hx hb d_Mo_tellJoining_65 (by decide) ?_
          refine z_iadd hx hb d_Mo_tellJoining_66 ?_
          refine z_iastN hx hb hK hP hD hS 5 4 rfl rfl (by omega) (by decide) d_Mo_tellJoining_67 (fun H locs hP hD hS => ?_)
          have hP : va_P DD vwCl [(am, .inr (9, [.int (nI th), .int (nI n), .ref hk, .ref ht, .int (nI n1), .ref hk1, .ref ht1, .int (zb pb), .int (nI rn), .ref hfg, .ref hle, .ref hmo, .ref hwy, .int (nI tn), .ref htf, .long cm, .ref hod, .ref hwk, .ref hot, .int (nI (cnt (enB k n) i)), .ref hen])), (hk, .inl (ck, 150, .inl k)), (htf, .inl (ctf, 900, .inl tf)), (hwk, .inl (cwk, 150, .inl (cpF k wk (i + 1)))), (hot, .inl (cot, 150, .inl ot)), (hen, .inl (cen, 150, .inl (nF (va_up (teE k n en i) (cnt (enB k n) i) (i + 1)))))] H := hP
          have hD : va_D A [(am, .inr (9, [.int (nI th), .int (nI n), .ref hk, .ref ht, .int (nI n1), .ref hk1, .ref ht1, .int (zb pb), .int (nI rn), .ref hfg, .ref hle, .ref hmo, .ref hwy, .int (nI tn), .ref htf, .long cm, .ref hod, .ref hwk, .ref hot, .int (nI (cnt (enB k n) i)), .ref hen])), (hk, .inl (ck, 150, .inl k)), (htf, .inl (ctf, 900, .inl tf)), (hwk, .inl (cwk, 150, .inl (cpF k wk (i + 1)))), (hot, .inl (cot, 150, .inl ot)), (hen, .inl (cen, 150, .inl (nF (va_up (teE k n en i) (cnt (enB k n) i) (i + 1)))))] := hD
          refine lv_aload_n hx hb d_Mo_tellJoining_68 rfl (lv_at hl 0 rfl) ?_
          refine lv_dup hx hb d_Mo_tellJoining_69 rfl ?_
          refine va_get (D := DD) (ci := 9) (v := .int (nI (cnt (enB k n) i))) (C := R_Mo) (T := T_Mo) (N := 21) hx hb hg in_Mo hown hK hP 0 rfl rfl 19 (by decide) (hg _ mw_698) (fun _ h9 => h9) rfl d_Mo_tellJoining_70 ?_
          refine lv_iconst (v := nI 1) hx hb d_Mo_tellJoining_73 (by decide) ?_
          refine z_iadd hx hb d_Mo_tellJoining_74 ?_
          refine va_put (D := DD) (ci := 9) (v := .int (nI ((cnt (enB k n) i) + 1))) (ty := .int) (C := R_Mo) (T := T_Mo) (N := 21) hx hb hg in_Mo t_Mo to_Mo n_Mo hown hK hP hD hS 0 rfl rfl 19 (by decide) (hg _ mw_698) (fun _ h9 => h9) rfl (by decide +kernel) rfl rfl (Nat.le_of_ble_eq_true rfl) d_Mo_tellJoining_75 (fun H locs hP hD hS => ?_)
          have hP : va_P DD vwCl [(am, .inr (9, [.int (nI th), .int (nI n), .ref hk, .ref ht, .int (nI n1), .ref hk1, .ref ht1, .int (zb pb), .int (nI rn), .ref hfg, .ref hle, .ref hmo, .ref hwy, .int (nI tn), .ref htf, .long cm, .ref hod, .ref hwk, .ref hot, .int (nI ((cnt (enB k n) i) + 1)), .ref hen])), (hk, .inl (ck, 150, .inl k)), (htf, .inl (ctf, 900, .inl tf)), (hwk, .inl (cwk, 150, .inl (cpF k wk (i + 1)))), (hot, .inl (cot, 150, .inl ot)), (hen, .inl (cen, 150, .inl (nF (va_up (teE k n en i) (cnt (enB k n) i) (i + 1)))))] H := hP
          have hD : va_D A [(am, .inr (9, [.int (nI th), .int (nI n), .ref hk, .ref ht, .int (nI n1), .ref hk1, .ref ht1, .int (zb pb), .int (nI rn), .ref hfg, .ref hle, .ref hmo, .ref hwy, .int (nI tn), .ref htf, .long cm, .ref hod, .ref hwk, .ref hot, .int (nI ((cnt (enB k n) i) + 1)), .ref hen])), (hk, .inl (ck, 150, .inl k)), (htf, .inl (ctf, 900, .inl tf)), (hwk, .inl (cwk, 150, .inl (cpF k wk (i + 1)))), (hot, .inl (cot, 150, .inl ot)), (hen, .inl (cen, 150, .inl (nF (va_up (teE k n en i) (cnt (enB k n) i) (i + 1)))))] := hD
          rw [show va_up (teE k n en i) (cnt (enB k n) i) (i + 1) = teE k n en (i + 1) from by first | exact teE_t (enB_t1 c_36) | exact teE_t (enB_t2 c_53)] at hP hD
          rw [show nI ((cnt (enB k n) i) + 1) = nI (cnt (enB k n) (i + 1)) from congrArg nI (by first | exact cnt_t rfl (enB_t1 c_36) | exact cnt_t rfl (enB_t2 c_53))] at hP hD
          refine lv_iinc (v := nI (i + 1)) (lv' := [(2, .int (nI (i + 1))), (0, .ref am), (1, .int (nI 0))]) hx hb d_Mo_tellJoining_78 hl (k := 2) rfl (by exact nI_add i 1) (by decide) rfl (fun ls hl => ?_)
          refine lv_goto (tgt := 9) hx hb d_Mo_tellJoining_81 (by decide) ?_
          exact ih9 (i + 1) (by omega) (by omega) _ _ hP hD hS ls (lv_sub hl [1, 2, 0] rfl)
        · refine lv_aload_n hx hb d_Mo_tellJoining_39 rfl (lv_at hl 0 rfl) ?_
          refine va_get (D := DD) (ci := 9) (v := .ref hk) (C := R_Mo) (T := T_Mo) (N := 21) hx hb hg in_Mo hown hK hP 0 rfl rfl 2 (by decide) (hg _ mw_681) (fun _ h9 => h9) rfl d_Mo_tellJoining_40 ?_
          refine lv_iload_n hx hb d_Mo_tellJoining_43 rfl (lv_at hl 2 rfl) ?_
          refine z_iald hx hb hK hP 1 0 rfl rfl (by omega) (by decide) d_Mo_tellJoining_44 ?_
          refine lv_aload_n hx hb d_Mo_tellJoining_45 rfl (lv_at hl 0 rfl) ?_
          refine va_get (D := DD) (ci := 9) (v := .ref hk) (C := R_Mo) (T := T_Mo) (N := 21) hx hb hg in_Mo hown hK hP 0 rfl rfl 2 (by decide) (hg _ mw_681) (fun _ h9 => h9) rfl d_Mo_tellJoining_46 ?_
          refine lv_iload_n hx hb d_Mo_tellJoining_49 rfl (lv_at hl 2 rfl) ?_
          refine lv_iconst (v := nI 1) hx hb d_Mo_tellJoining_50 (by decide) ?_
          refine z_iadd hx hb d_Mo_tellJoining_51 ?_
          refine z_iald hx hb hK hP 1 0 rfl rfl (by omega) (by decide) d_Mo_tellJoining_52 ?_
          refine lv_icmp_le (tgt := 78) hx hb d_Mo_tellJoining_53 (by decide) (fun c_53 => ?_) (fun c_53 => ?_)
          · rw [show teE k n en i = teE k n en (i + 1) from teE_f (enB_f c_36 c_53)] at hP hD
            rw [show nI (cnt (enB k n) i) = nI (cnt (enB k n) (i + 1)) from congrArg nI (cnt_f rfl (enB_f c_36 c_53))] at hP hD
            refine lv_iinc (v := nI (i + 1)) (lv' := [(2, .int (nI (i + 1))), (0, .ref am), (1, .int (nI 0))]) hx hb d_Mo_tellJoining_78 hl (k := 2) rfl (by exact nI_add i 1) (by decide) rfl (fun ls hl => ?_)
            refine lv_goto (tgt := 9) hx hb d_Mo_tellJoining_81 (by decide) ?_
            exact ih9 (i + 1) (by omega) (by omega) _ _ hP hD hS ls (lv_sub hl [1, 2, 0] rfl)
          · refine lv_aload_n hx hb d_Mo_tellJoining_56 rfl (lv_at hl 0 rfl) ?_
            refine va_get (D := DD) (ci := 9) (v := .ref hen) (C := R_Mo) (T := T_Mo) (N := 21) hx hb hg in_Mo hown hK hP 0 rfl rfl 20 (by decide) (hg _ mw_699) (fun _ h9 => h9) rfl d_Mo_tellJoining_57 ?_
            refine lv_aload_n hx hb d_Mo_tellJoining_60 rfl (lv_at hl 0 rfl) ?_
            refine va_get (D := DD) (ci := 9) (v := .int (nI (cnt (enB k n) i))) (C := R_Mo) (T := T_Mo) (N := 21) hx hb hg in_Mo hown hK hP 0 rfl rfl 19 (by decide) (hg _ mw_698) (fun _ h9 => h9) rfl d_Mo_tellJoining_61 ?_
            refine lv_iload_n hx hb d_Mo_tellJoining_64 rfl (lv_at hl 2 rfl) ?_
            refine lv_iconst (v := nI 1) hx hb d_Mo_tellJoining_65 (by decide) ?_
            refine z_iadd hx hb d_Mo_tellJoining_66 ?_
            refine z_iastN hx hb hK hP hD hS 5 4 rfl rfl (by omega) (by decide) d_Mo_tellJoining_67 (fun H locs hP hD hS => ?_)
            have hP : va_P DD vwCl [(am, .inr (9, [.int (nI th), .int (nI n), .ref hk, .ref ht, .int (nI n1), .ref hk1, .ref ht1, .int (zb pb), .int (nI rn), .ref hfg, .ref hle, .ref hmo, .ref hwy, .int (nI tn), .ref htf, .long cm, .ref hod, .ref hwk, .ref hot, .int (nI (cnt (enB k n) i)), .ref hen])), (hk, .inl (ck, 150, .inl k)), (htf, .inl (ctf, 900, .inl tf)), (hwk, .inl (cwk, 150, .inl (cpF k wk (i + 1)))), (hot, .inl (cot, 150, .inl ot)), (hen, .inl (cen, 150, .inl (nF (va_up (teE k n en i) (cnt (enB k n) i) (i + 1)))))] H := hP
            have hD : va_D A [(am, .inr (9, [.int (nI th), .int (nI n), .ref hk, .ref ht, .int (nI n1), .ref hk1, .ref ht1, .int (zb pb), .int (nI rn), .ref hfg, .ref hle, .ref hmo, .ref hwy, .int (nI tn), .ref htf, .long cm, .ref hod, .ref hwk, .ref hot, .int (nI (cnt (enB k n) i)), .ref hen])), (hk, .inl (ck, 150, .inl k)), (htf, .inl (ctf, 900, .inl tf)), (hwk, .inl (cwk, 150, .inl (cpF k wk (i + 1)))), (hot, .inl (cot, 150, .inl ot)), (hen, .inl (cen, 150, .inl (nF (va_up (teE k n en i) (cnt (enB k n) i) (i + 1)))))] := hD
            refine lv_aload_n hx hb d_Mo_tellJoining_68 rfl (lv_at hl 0 rfl) ?_
            refine lv_dup hx hb d_Mo_tellJoining_69 rfl ?_
            refine va_get (D := DD) (ci := 9) (v := .int (nI (cnt (enB k n) i))) (C := R_Mo) (T := T_Mo) (N := 21) hx hb hg in_Mo hown hK hP 0 rfl rfl 19 (by decide) (hg _ mw_698) (fun _ h9 => h9) rfl d_Mo_tellJoining_70 ?_
            refine lv_iconst (v := nI 1) hx hb d_Mo_tellJoining_73 (by decide) ?_
            refine z_iadd hx hb d_Mo_tellJoining_74 ?_
            refine va_put (D := DD) (ci := 9) (v := .int (nI ((cnt (enB k n) i) + 1))) (ty := .int) (C := R_Mo) (T := T_Mo) (N := 21) hx hb hg in_Mo t_Mo to_Mo n_Mo hown hK hP hD hS 0 rfl rfl 19 (by decide) (hg _ mw_698) (fun _ h9 => h9) rfl (by decide +kernel) rfl rfl (Nat.le_of_ble_eq_true rfl) d_Mo_tellJoining_75 (fun H locs hP hD hS => ?_)
            have hP : va_P DD vwCl [(am, .inr (9, [.int (nI th), .int (nI n), .ref hk, .ref ht, .int (nI n1), .ref hk1, .ref ht1, .int (zb pb), .int (nI rn), .ref hfg, .ref hle, .ref hmo, .ref hwy, .int (nI tn), .ref htf, .long cm, .ref hod, .ref hwk, .ref hot, .int (nI ((cnt (enB k n) i) + 1)), .ref hen])), (hk, .inl (ck, 150, .inl k)), (htf, .inl (ctf, 900, .inl tf)), (hwk, .inl (cwk, 150, .inl (cpF k wk (i + 1)))), (hot, .inl (cot, 150, .inl ot)), (hen, .inl (cen, 150, .inl (nF (va_up (teE k n en i) (cnt (enB k n) i) (i + 1)))))] H := hP
            have hD : va_D A [(am, .inr (9, [.int (nI th), .int (nI n), .ref hk, .ref ht, .int (nI n1), .ref hk1, .ref ht1, .int (zb pb), .int (nI rn), .ref hfg, .ref hle, .ref hmo, .ref hwy, .int (nI tn), .ref htf, .long cm, .ref hod, .ref hwk, .ref hot, .int (nI ((cnt (enB k n) i) + 1)), .ref hen])), (hk, .inl (ck, 150, .inl k)), (htf, .inl (ctf, 900, .inl tf)), (hwk, .inl (cwk, 150, .inl (cpF k wk (i + 1)))), (hot, .inl (cot, 150, .inl ot)), (hen, .inl (cen, 150, .inl (nF (va_up (teE k n en i) (cnt (enB k n) i) (i + 1)))))] := hD
            rw [show va_up (teE k n en i) (cnt (enB k n) i) (i + 1) = teE k n en (i + 1) from by first | exact teE_t (enB_t1 c_36) | exact teE_t (enB_t2 c_53)] at hP hD
            rw [show nI ((cnt (enB k n) i) + 1) = nI (cnt (enB k n) (i + 1)) from congrArg nI (by first | exact cnt_t rfl (enB_t1 c_36) | exact cnt_t rfl (enB_t2 c_53))] at hP hD
            refine lv_iinc (v := nI (i + 1)) (lv' := [(2, .int (nI (i + 1))), (0, .ref am), (1, .int (nI 0))]) hx hb d_Mo_tellJoining_78 hl (k := 2) rfl (by exact nI_add i 1) (by decide) rfl (fun ls hl => ?_)
            refine lv_goto (tgt := 9) hx hb d_Mo_tellJoining_81 (by decide) ?_
            exact ih9 (i + 1) (by omega) (by omega) _ _ hP hD hS ls (lv_sub hl [1, 2, 0] rfl)
  refine lv_iconst (v := nI 0) hx hb d_Mo_tellJoining_0 (by decide) ?_
  refine lv_istore_n (lv' := [(1, .int (nI 0)), (0, .ref am)]) hx hb d_Mo_tellJoining_1 rfl hl (by decide) rfl (fun ls hl => ?_)
  rw [show wk = cpF k wk 0 from cpF_0 k wk] at hP hD
  rw [show en = teE k n en 0 from rfl] at hP hD
  refine lv_aload_n hx hb d_Mo_tellJoining_2 rfl (lv_at hl 1 rfl) ?_
  refine lv_iconst (v := nI 0) hx hb d_Mo_tellJoining_3 (by decide) ?_
  refine va_put (D := DD) (ci := 9) (v := .int (nI 0)) (ty := .int) (C := R_Mo) (T := T_Mo) (N := 21) hx hb hg in_Mo t_Mo to_Mo n_Mo hown hK hP hD hS 0 rfl rfl 19 (by decide) (hg _ mw_698) (fun _ h9 => h9) rfl (by decide +kernel) rfl rfl (Nat.le_of_ble_eq_true rfl) d_Mo_tellJoining_4 (fun H locs hP hD hS => ?_)
  have hP : va_P DD vwCl [(am, .inr (9, [.int (nI th), .int (nI n), .ref hk, .ref ht, .int (nI n1), .ref hk1, .ref ht1, .int (zb pb), .int (nI rn), .ref hfg, .ref hle, .ref hmo, .ref hwy, .int (nI tn), .ref htf, .long cm, .ref hod, .ref hwk, .ref hot, .int (nI 0), .ref hen])), (hk, .inl (ck, 150, .inl k)), (htf, .inl (ctf, 900, .inl tf)), (hwk, .inl (cwk, 150, .inl (cpF k wk 0))), (hot, .inl (cot, 150, .inl ot)), (hen, .inl (cen, 150, .inl (nF (teE k n en 0))))] H := hP
  have hD : va_D A [(am, .inr (9, [.int (nI th), .int (nI n), .ref hk, .ref ht, .int (nI n1), .ref hk1, .ref ht1, .int (zb pb), .int (nI rn), .ref hfg, .ref hle, .ref hmo, .ref hwy, .int (nI tn), .ref htf, .long cm, .ref hod, .ref hwk, .ref hot, .int (nI 0), .ref hen])), (hk, .inl (ck, 150, .inl k)), (htf, .inl (ctf, 900, .inl tf)), (hwk, .inl (cwk, 150, .inl (cpF k wk 0))), (hot, .inl (cot, 150, .inl ot)), (hen, .inl (cen, 150, .inl (nF (teE k n en 0))))] := hD
  rw [show nI 0 = nI (cnt (enB k n) 0) from rfl] at hP hD
  refine lv_iconst (v := nI 0) hx hb d_Mo_tellJoining_7 (by decide) ?_
  refine lv_istore_n (lv' := [(2, .int (nI 0)), (1, .int (nI 0)), (0, .ref am)]) hx hb d_Mo_tellJoining_8 rfl hl (by decide) rfl (fun ls hl => ?_)
  exact K9 _ 0 (by omega) (Nat.lt_succ_self _) _ _ hP hD hS ls (lv_sub hl [2, 1, 0] rfl)
