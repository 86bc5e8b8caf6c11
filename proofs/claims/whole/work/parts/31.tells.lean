theorem d_Mo_joinTwo_0 : decode b_Mo_joinTwo 0 = .ok (.iconst 0, 1) := by decide +kernel
theorem d_Mo_joinTwo_1 : decode b_Mo_joinTwo 1 = .ok (.istore 4, 2) := by decide +kernel
theorem d_Mo_joinTwo_3 : decode b_Mo_joinTwo 3 = .ok (.iload_n 1, 1) := by decide +kernel
theorem d_Mo_joinTwo_4 : decode b_Mo_joinTwo 4 = .ok (.istore 5, 2) := by decide +kernel
theorem d_Mo_joinTwo_6 : decode b_Mo_joinTwo 6 = .ok (.iload_n 2, 1) := by decide +kernel
theorem d_Mo_joinTwo_7 : decode b_Mo_joinTwo 7 = .ok (.istore 6, 2) := by decide +kernel
theorem d_Mo_joinTwo_9 : decode b_Mo_joinTwo 9 = .ok (.iload_n 1, 1) := by decide +kernel
theorem d_Mo_joinTwo_10 : decode b_Mo_joinTwo 10 = .ok (.istore 7, 2) := by decide +kernel
theorem d_Mo_joinTwo_12 : decode b_Mo_joinTwo 12 = .ok (.iload 7, 2) := by decide +kernel
theorem d_Mo_joinTwo_14 : decode b_Mo_joinTwo 14 = .ok (.iload_n 3, 1) := by decide +kernel
theorem d_Mo_joinTwo_15 : decode b_Mo_joinTwo 15 = .ok (.if_icmp .ge 148, 3) := by decide +kernel
theorem d_Mo_joinTwo_18 : decode b_Mo_joinTwo 18 = .ok (.iload 5, 2) := by decide +kernel
theorem d_Mo_joinTwo_20 : decode b_Mo_joinTwo 20 = .ok (.iload_n 2, 1) := by decide +kernel
theorem d_Mo_joinTwo_21 : decode b_Mo_joinTwo 21 = .ok (.if_icmp .ge 13, 3) := by decide +kernel
theorem d_Mo_joinTwo_24 : decode b_Mo_joinTwo 24 = .ok (.iload 6, 2) := by decide +kernel
theorem d_Mo_joinTwo_26 : decode b_Mo_joinTwo 26 = .ok (.iload_n 3, 1) := by decide +kernel
theorem d_Mo_joinTwo_27 : decode b_Mo_joinTwo 27 = .ok (.if_icmp .ge 7, 3) := by decide +kernel
theorem d_Mo_joinTwo_30 : decode b_Mo_joinTwo 30 = .ok (.iconst 1, 1) := by decide +kernel
theorem d_Mo_joinTwo_31 : decode b_Mo_joinTwo 31 = .ok (.goto 4, 3) := by decide +kernel
theorem d_Mo_joinTwo_34 : decode b_Mo_joinTwo 34 = .ok (.iconst 0, 1) := by decide +kernel
theorem d_Mo_joinTwo_35 : decode b_Mo_joinTwo 35 = .ok (.istore 8, 2) := by decide +kernel
theorem d_Mo_joinTwo_37 : decode b_Mo_joinTwo 37 = .ok (.iload 8, 2) := by decide +kernel
theorem d_Mo_joinTwo_39 : decode b_Mo_joinTwo 39 = .ok (.ifCond .eq 10, 3) := by decide +kernel
theorem d_Mo_joinTwo_42 : decode b_Mo_joinTwo 42 = .ok (.iload 4, 2) := by decide +kernel
theorem d_Mo_joinTwo_44 : decode b_Mo_joinTwo 44 = .ok (.iconst 1, 1) := by decide +kernel
theorem d_Mo_joinTwo_45 : decode b_Mo_joinTwo 45 = .ok (.iadd, 1) := by decide +kernel
theorem d_Mo_joinTwo_46 : decode b_Mo_joinTwo 46 = .ok (.goto 5, 3) := by decide +kernel
theorem d_Mo_joinTwo_49 : decode b_Mo_joinTwo 49 = .ok (.iload 4, 2) := by decide +kernel
theorem d_Mo_joinTwo_51 : decode b_Mo_joinTwo 51 = .ok (.istore 4, 2) := by decide +kernel
theorem d_Mo_joinTwo_53 : decode b_Mo_joinTwo 53 = .ok (.iload 8, 2) := by decide +kernel
theorem d_Mo_joinTwo_55 : decode b_Mo_joinTwo 55 = .ok (.ifCond .eq 28, 3) := by decide +kernel
theorem d_Mo_joinTwo_58 : decode b_Mo_joinTwo 58 = .ok (.aload_n 0, 1) := by decide +kernel
theorem d_Mo_joinTwo_59 : decode b_Mo_joinTwo 59 = .ok (.getfield 41, 3) := by decide +kernel
theorem d_Mo_joinTwo_62 : decode b_Mo_joinTwo 62 = .ok (.iload 5, 2) := by decide +kernel
theorem d_Mo_joinTwo_64 : decode b_Mo_joinTwo 64 = .ok (.iaload, 1) := by decide +kernel
theorem d_Mo_joinTwo_65 : decode b_Mo_joinTwo 65 = .ok (.aload_n 0, 1) := by decide +kernel
theorem d_Mo_joinTwo_66 : decode b_Mo_joinTwo 66 = .ok (.getfield 41, 3) := by decide +kernel
theorem d_Mo_joinTwo_69 : decode b_Mo_joinTwo 69 = .ok (.iload 6, 2) := by decide +kernel
theorem d_Mo_joinTwo_71 : decode b_Mo_joinTwo 71 = .ok (.iaload, 1) := by decide +kernel
theorem d_Mo_joinTwo_72 : decode b_Mo_joinTwo 72 = .ok (.if_icmp .gt 7, 3) := by decide +kernel
theorem d_Mo_joinTwo_75 : decode b_Mo_joinTwo 75 = .ok (.iconst 1, 1) := by decide +kernel
theorem d_Mo_joinTwo_76 : decode b_Mo_joinTwo 76 = .ok (.goto 18, 3) := by decide +kernel
theorem d_Mo_joinTwo_79 : decode b_Mo_joinTwo 79 = .ok (.iconst 0, 1) := by decide +kernel
theorem d_Mo_joinTwo_80 : decode b_Mo_joinTwo 80 = .ok (.goto 14, 3) := by decide +kernel
theorem d_Mo_joinTwo_83 : decode b_Mo_joinTwo 83 = .ok (.iload 5, 2) := by decide +kernel
theorem d_Mo_joinTwo_85 : decode b_Mo_joinTwo 85 = .ok (.iload_n 2, 1) := by decide +kernel
theorem d_Mo_joinTwo_86 : decode b_Mo_joinTwo 86 = .ok (.if_icmp .ge 7, 3) := by decide +kernel
theorem d_Mo_joinTwo_89 : decode b_Mo_joinTwo 89 = .ok (.iconst 1, 1) := by decide +kernel
theorem d_Mo_joinTwo_90 : decode b_Mo_joinTwo 90 = .ok (.goto 4, 3) := by decide +kernel
theorem d_Mo_joinTwo_93 : decode b_Mo_joinTwo 93 = .ok (.iconst 0, 1) := by decide +kernel
theorem d_Mo_joinTwo_94 : decode b_Mo_joinTwo 94 = .ok (.istore 9, 2) := by decide +kernel
theorem d_Mo_joinTwo_96 : decode b_Mo_joinTwo 96 = .ok (.aload_n 0, 1) := by decide +kernel
theorem d_Mo_joinTwo_97 : decode b_Mo_joinTwo 97 = .ok (.getfield 44, 3) := by decide +kernel
theorem d_Mo_joinTwo_100 : decode b_Mo_joinTwo 100 = .ok (.iload 7, 2) := by decide +kernel
theorem d_Mo_joinTwo_102 : decode b_Mo_joinTwo 102 = .ok (.iload 9, 2) := by decide +kernel
theorem d_Mo_joinTwo_104 : decode b_Mo_joinTwo 104 = .ok (.ifCond .eq 13, 3) := by decide +kernel
theorem d_Mo_joinTwo_107 : decode b_Mo_joinTwo 107 = .ok (.aload_n 0, 1) := by decide +kernel
theorem d_Mo_joinTwo_108 : decode b_Mo_joinTwo 108 = .ok (.getfield 41, 3) := by decide +kernel
theorem d_Mo_joinTwo_111 : decode b_Mo_joinTwo 111 = .ok (.iload 5, 2) := by decide +kernel
theorem d_Mo_joinTwo_113 : decode b_Mo_joinTwo 113 = .ok (.iaload, 1) := by decide +kernel
theorem d_Mo_joinTwo_114 : decode b_Mo_joinTwo 114 = .ok (.goto 10, 3) := by decide +kernel
theorem d_Mo_joinTwo_117 : decode b_Mo_joinTwo 117 = .ok (.aload_n 0, 1) := by decide +kernel
theorem d_Mo_joinTwo_118 : decode b_Mo_joinTwo 118 = .ok (.getfield 41, 3) := by decide +kernel
theorem d_Mo_joinTwo_121 : decode b_Mo_joinTwo 121 = .ok (.iload 6, 2) := by decide +kernel
theorem d_Mo_joinTwo_123 : decode b_Mo_joinTwo 123 = .ok (.iaload, 1) := by decide +kernel
theorem d_Mo_joinTwo_124 : decode b_Mo_joinTwo 124 = .ok (.iastore, 1) := by decide +kernel
theorem d_Mo_joinTwo_125 : decode b_Mo_joinTwo 125 = .ok (.iload 9, 2) := by decide +kernel
theorem d_Mo_joinTwo_127 : decode b_Mo_joinTwo 127 = .ok (.ifCond .eq 10, 3) := by decide +kernel
theorem d_Mo_joinTwo_130 : decode b_Mo_joinTwo 130 = .ok (.iload 5, 2) := by decide +kernel
theorem d_Mo_joinTwo_132 : decode b_Mo_joinTwo 132 = .ok (.iconst 1, 1) := by decide +kernel
theorem d_Mo_joinTwo_133 : decode b_Mo_joinTwo 133 = .ok (.iadd, 1) := by decide +kernel
theorem d_Mo_joinTwo_134 : decode b_Mo_joinTwo 134 = .ok (.goto 5, 3) := by decide +kernel
theorem d_Mo_joinTwo_137 : decode b_Mo_joinTwo 137 = .ok (.iload 5, 2) := by decide +kernel
theorem d_Mo_joinTwo_139 : decode b_Mo_joinTwo 139 = .ok (.istore 5, 2) := by decide +kernel
theorem d_Mo_joinTwo_141 : decode b_Mo_joinTwo 141 = .ok (.iload 9, 2) := by decide +kernel
theorem d_Mo_joinTwo_143 : decode b_Mo_joinTwo 143 = .ok (.ifCond .eq 8, 3) := by decide +kernel
theorem d_Mo_joinTwo_146 : decode b_Mo_joinTwo 146 = .ok (.iload 6, 2) := by decide +kernel
theorem d_Mo_joinTwo_148 : decode b_Mo_joinTwo 148 = .ok (.goto 7, 3) := by decide +kernel
theorem d_Mo_joinTwo_151 : decode b_Mo_joinTwo 151 = .ok (.iload 6, 2) := by decide +kernel
theorem d_Mo_joinTwo_153 : decode b_Mo_joinTwo 153 = .ok (.iconst 1, 1) := by decide +kernel
theorem d_Mo_joinTwo_154 : decode b_Mo_joinTwo 154 = .ok (.iadd, 1) := by decide +kernel
theorem d_Mo_joinTwo_155 : decode b_Mo_joinTwo 155 = .ok (.istore 6, 2) := by decide +kernel
theorem d_Mo_joinTwo_157 : decode b_Mo_joinTwo 157 = .ok (.iinc 7 1, 3) := by decide +kernel
theorem d_Mo_joinTwo_160 : decode b_Mo_joinTwo 160 = .ok (.goto (-148), 3) := by decide +kernel
theorem d_Mo_joinTwo_163 : decode b_Mo_joinTwo 163 = .ok (.iload_n 1, 1) := by decide +kernel
theorem d_Mo_joinTwo_164 : decode b_Mo_joinTwo 164 = .ok (.istore 7, 2) := by decide +kernel
theorem d_Mo_joinTwo_166 : decode b_Mo_joinTwo 166 = .ok (.iload 7, 2) := by decide +kernel
theorem d_Mo_joinTwo_168 : decode b_Mo_joinTwo 168 = .ok (.iload_n 3, 1) := by decide +kernel
theorem d_Mo_joinTwo_169 : decode b_Mo_joinTwo 169 = .ok (.if_icmp .ge 23, 3) := by decide +kernel
theorem d_Mo_joinTwo_172 : decode b_Mo_joinTwo 172 = .ok (.aload_n 0, 1) := by decide +kernel
theorem d_Mo_joinTwo_173 : decode b_Mo_joinTwo 173 = .ok (.getfield 41, 3) := by decide +kernel
theorem d_Mo_joinTwo_176 : decode b_Mo_joinTwo 176 = .ok (.iload 7, 2) := by decide +kernel
theorem d_Mo_joinTwo_178 : decode b_Mo_joinTwo 178 = .ok (.aload_n 0, 1) := by decide +kernel
theorem d_Mo_joinTwo_179 : decode b_Mo_joinTwo 179 = .ok (.getfield 44, 3) := by decide +kernel
theorem d_Mo_joinTwo_182 : decode b_Mo_joinTwo 182 = .ok (.iload 7, 2) := by decide +kernel
theorem d_Mo_joinTwo_184 : decode b_Mo_joinTwo 184 = .ok (.iaload, 1) := by decide +kernel
theorem d_Mo_joinTwo_185 : decode b_Mo_joinTwo 185 = .ok (.iastore, 1) := by decide +kernel
theorem d_Mo_joinTwo_186 : decode b_Mo_joinTwo 186 = .ok (.iinc 7 1, 3) := by decide +kernel
theorem d_Mo_joinTwo_189 : decode b_Mo_joinTwo 189 = .ok (.goto (-23), 3) := by decide +kernel
theorem d_Mo_joinTwo_192 : decode b_Mo_joinTwo 192 = .ok (.aload_n 0, 1) := by decide +kernel
theorem d_Mo_joinTwo_193 : decode b_Mo_joinTwo 193 = .ok (.iconst 2, 1) := by decide +kernel
theorem d_Mo_joinTwo_194 : decode b_Mo_joinTwo 194 = .ok (.iload_n 1, 1) := by decide +kernel
theorem d_Mo_joinTwo_195 : decode b_Mo_joinTwo 195 = .ok (.iload_n 3, 1) := by decide +kernel
theorem d_Mo_joinTwo_196 : decode b_Mo_joinTwo 196 = .ok (.invokevirtual 104, 3) := by decide +kernel
theorem d_Mo_joinTwo_199 : decode b_Mo_joinTwo 199 = .ok (.iload 4, 2) := by decide +kernel
theorem d_Mo_joinTwo_201 : decode b_Mo_joinTwo 201 = .ok (.ireturn, 1) := by decide +kernel
abbrev ws_Mo_joinTwo : List Cond := .code y_Mo_joinTwo b_Mo_joinTwo 10 (some .int) :: ALLG
abbrev rm_Mo_joinTwo : Room := { frames := 1, cells := 0, slots := 0, locals := 23 }
set_option maxHeartbeats 4000000 in
set_option maxRecDepth 100000 in
theorem c_Mo_joinTwo (l : Launch) (DD : va_G) (sz : Nat) (am : Nat) (th : Nat) (n : Nat) (hk : Nat) (ht : Nat) (n1 : Nat) (hk1 : Nat) (ht1 : Nat) (pb : Bool) (rn : Nat) (hfg : Nat) (hle : Nat) (hmo : Nat) (hwy : Nat) (tn : Nat) (htf : Nat) (ctf : ClassId) (tf : Nat → Int32) (cm : Int64) (hod : Nat) (hwk : Nat) (cwk : ClassId) (wk : Nat → Int32) (hot : Nat) (cot : ClassId) (ot : Nat → Int32) (ru : Nat) (hen : Nat) (b : Nat) (mm : Nat) (ee : Nat) (hbm : b ≤ mm) (hme : mm ≤ ee) (hee : ee ≤ 150) (htn : tn < 300) : Met l y_Mo_joinTwo ws_Mo_joinTwo rm_Mo_joinTwo (va_Pc [.ref am, .int (nI b), .int (nI mm), .int (nI ee)] (fun U => U.heap.size = sz ∧ va_P DD vwCl [(am, .inr (9, [.int (nI th), .int (nI n), .ref hk, .ref ht, .int (nI n1), .ref hk1, .ref ht1, .int (zb pb), .int (nI rn), .ref hfg, .ref hle, .ref hmo, .ref hwy, .int (nI tn), .ref htf, .long cm, .ref hod, .ref hwk, .ref hot, .int (nI ru), .ref hen])), (htf, .inl (ctf, 900, .inl tf)), (hwk, .inl (cwk, 150, .inl wk)), (hot, .inl (cot, 150, .inl ot))] U.heap ∧ va_K DD vwCl [(ctf, .int), (cwk, .int), (cot, .int)] U ∧ va_D (fun _ => True) [(am, .inr (9, [.int (nI th), .int (nI n), .ref hk, .ref ht, .int (nI n1), .ref hk1, .ref ht1, .int (zb pb), .int (nI rn), .ref hfg, .ref hle, .ref hmo, .ref hwy, .int (nI tn), .ref htf, .long cm, .ref hod, .ref hwk, .ref hot, .int (nI ru), .ref hen])), (htf, .inl (ctf, 900, .inl tf)), (hwk, .inl (cwk, 150, .inl wk)), (hot, .inl (cot, 150, .inl ot))])) (va_Qi (fun (r9 : Int32) (u9 : Unit) => match u9 with | _ => r9 = nI ((jmR wk b mm ee ot).1)) (fun (u9 : Unit) (t9 : State) => match u9 with | _ => va_P DD vwCl [(am, .inr (9, [.int (nI th), .int (nI n), .ref hk, .ref ht, .int (nI n1), .ref hk1, .ref ht1, .int (zb pb), .int (nI rn), .ref hfg, .ref hle, .ref hmo, .ref hwy, .int (nI (tn + 1)), .ref htf, .long cm, .ref hod, .ref hwk, .ref hot, .int (nI ru), .ref hen])), (htf, .inl (ctf, 900, .inl (tadd tf tn (nI 2) (nI b) (nI ee)))), (hwk, .inl (cwk, 150, .inl (jmW wk b mm ee ot))), (hot, .inl (cot, 150, .inl ((jmR wk b mm ee ot).2)))] t9.heap ∧ va_K DD vwCl [(ctf, .int), (cwk, .int), (cot, .int)] t9 ∧ va_D (va_A [(am, .inr (9, [.int (nI th), .int (nI n), .ref hk, .ref ht, .int (nI n1), .ref hk1, .ref ht1, .int (zb pb), .int (nI rn), .ref hfg, .ref hle, .ref hmo, .ref hwy, .int (nI tn), .ref htf, .long cm, .ref hod, .ref hwk, .ref hot, .int (nI ru), .ref hen])), (htf, .inl (ctf, 900, .inl tf)), (hwk, .inl (cwk, 150, .inl wk)), (hot, .inl (cot, 150, .inl ot))] sz) [(am, .inr (9, [.int (nI th), .int (nI n), .ref hk, .ref ht, .int (nI n1), .ref hk1, .ref ht1, .int (zb pb), .int (nI rn), .ref hfg, .ref hle, .ref hmo, .ref hwy, .int (nI (tn + 1)), .ref htf, .long cm, .ref hod, .ref hwk, .ref hot, .int (nI ru), .ref hen])), (htf, .inl (ctf, 900, .inl (tadd tf tn (nI 2) (nI b) (nI ee)))), (hwk, .inl (cwk, 150, .inl (jmW wk b mm ee ot))), (hot, .inl (cot, 150, .inl ((jmR wk b mm ee ot).2)))]) (va_A [(am, .inr (9, [.int (nI th), .int (nI n), .ref hk, .ref ht, .int (nI n1), .ref hk1, .ref ht1, .int (zb pb), .int (nI rn), .ref hfg, .ref hle, .ref hmo, .ref hwy, .int (nI tn), .ref htf, .long cm, .ref hod, .ref hwk, .ref hot, .int (nI ru), .ref hen])), (htf, .inl (ctf, 900, .inl tf)), (hwk, .inl (cwk, 150, .inl wk)), (hot, .inl (cot, 150, .inl ot))] sz)) 0 0 (va_A [(am, .inr (9, [.int (nI th), .int (nI n), .ref hk, .ref ht, .int (nI n1), .ref hk1, .ref ht1, .int (zb pb), .int (nI rn), .ref hfg, .ref hle, .ref hmo, .ref hwy, .int (nI tn), .ref htf, .long cm, .ref hod, .ref hwk, .ref hot, .int (nI ru), .ref hen])), (htf, .inl (ctf, 900, .inl tf)), (hwk, .inl (cwk, 150, .inl wk)), (hot, .inl (cot, 150, .inl ot))] sz) := by
  refine Met.ofW (cc := b_Mo_joinTwo) (maxL := 10) (ret := (some .int)) (by decide) rfl ?_
  intro p e s m args below meth c s₁ B hml hv
  obtain ⟨ha, hsz, hP, hK, hD0⟩ := hv
  have hx := B.exec
  have hb := B.bytes
  have hr := B.returns
  have hts := atoms_spec (ws := ws_Mo_joinTwo) B.pre
  have hg : ∀ w ∈ ALLG, w.before args s = true := fun w h => hts w (List.mem_cons_of_mem _ h)
  have hown : s.vm.findClass R_Mo = some m.cls := findClass_of_methodNamed B.named
  have hlocks := B.notSynchronized
  subst hsz
  have hD := hD0.self (sz := s.heap.size)
  generalize hAe : va_A [(am, .inr (9, [.int (nI th), .int (nI n), .ref hk, .ref ht, .int (nI n1), .ref hk1, .ref ht1, .int (zb pb), .int (nI rn), .ref hfg, .ref hle, .ref hmo, .ref hwy, .int (nI tn), .ref htf, .long cm, .ref hod, .ref hwk, .ref hot, .int (nI ru), .ref hen])), (htf, .inl (ctf, 900, .inl tf)), (hwk, .inl (cwk, 150, .inl wk)), (hot, .inl (cot, 150, .inl ot))] s.heap.size = A at hD ⊢
  have hA : ∀ q : Nat, s.heap.size ≤ q → A q := fun q h => by rw [← hAe]; exact Or.inr h
  have hS : va_S A s.heap s.heap [] := va_S.rf
  have hP : va_P DD vwCl [(am, .inr (9, [.int (nI th), .int (nI n), .ref hk, .ref ht, .int (nI n1), .ref hk1, .ref ht1, .int (zb pb), .int (nI rn), .ref hfg, .ref hle, .ref hmo, .ref hwy, .int (nI tn), .ref htf, .long cm, .ref hod, .ref hwk, .ref hot, .int (nI ru), .ref hen])), (htf, .inl (ctf, 900, .inl tf)), (hwk, .inl (cwk, 150, .inl wk)), (hot, .inl (cot, 150, .inl ot))] s.heap := hP
  have hl := lv_entry ([.ref am, .int (nI b), .int (nI mm), .int (nI ee)]) (n := 10) (Nat.le_of_ble_eq_true rfl)
  rw [ha, lg_entry_eq, ← ha]
  generalize (lg_sl ([.ref am, .int (nI b), .int (nI mm), .int (nI ee)]) ++ List.replicate (10 - (lg_sl ([.ref am, .int (nI b), .int (nI mm), .int (nI ee)])).length) Slot.unset).toArray = ls at hl ⊢
  have hl : lv_has ls 10 [(0, .ref am), (1, .int (nI b)), (2, .int (nI mm)), (3, .int (nI ee))] := hl
  have K166 : ∀ (kk : Nat) (i : Nat) (q : Nat), (hbi : b ≤ i) → (hi : i ≤ ee) → (hqX : q = (jmR wk b mm ee ot).1) → ee - i < kk → ∀ (H : Heap) (locs : List Loc), va_P DD vwCl [(am, .inr (9, [.int (nI th), .int (nI n), .ref hk, .ref ht, .int (nI n1), .ref hk1, .ref ht1, .int (zb pb), .int (nI rn), .ref hfg, .ref hle, .ref hmo, .ref hwy, .int (nI tn), .ref htf, .long cm, .ref hod, .ref hwk, .ref hot, .int (nI ru), .ref hen])), (htf, .inl (ctf, 900, .inl tf)), (hwk, .inl (cwk, 150, .inl (cpR ((jmR wk b mm ee ot).2) wk b i))), (hot, .inl (cot, 150, .inl ((jmR wk b mm ee ot).2)))] H → va_D A [(am, .inr (9, [.int (nI th), .int (nI n), .ref hk, .ref ht, .int (nI n1), .ref hk1, .ref ht1, .int (zb pb), .int (nI rn), .ref hfg, .ref hle, .ref hmo, .ref hwy, .int (nI tn), .ref htf, .long cm, .ref hod, .ref hwk, .ref hot, .int (nI ru), .ref hen])), (htf, .inl (ctf, 900, .inl tf)), (hwk, .inl (cwk, 150, .inl (cpR ((jmR wk b mm ee ot).2) wk b i))), (hot, .inl (cot, 150, .inl ((jmR wk b mm ee ot).2)))] → va_S A s.heap H locs → ∀ (ls : Array Slot), lv_has ls 10 [(0, .ref am), (1, .int (nI b)), (2, .int (nI mm)), (3, .int (nI ee)), (4, .int (nI q)), (7, .int (nI i))] → W p l e (headSpec ws_Mo_joinTwo rm_Mo_joinTwo).room s m args below meth c H locs 0 0 (MQ below (va_Qi (fun (r9 : Int32) (u9 : Unit) => match u9 with | _ => r9 = nI ((jmR wk b mm ee ot).1)) (fun (u9 : Unit) (t9 : State) => match u9 with | _ => va_P DD vwCl [(am, .inr (9, [.int (nI th), .int (nI n), .ref hk, .ref ht, .int (nI n1), .ref hk1, .ref ht1, .int (zb pb), .int (nI rn), .ref hfg, .ref hle, .ref hmo, .ref hwy, .int (nI (tn + 1)), .ref htf, .long cm, .ref hod, .ref hwk, .ref hot, .int (nI ru), .ref hen])), (htf, .inl (ctf, 900, .inl (tadd tf tn (nI 2) (nI b) (nI ee)))), (hwk, .inl (cwk, 150, .inl (jmW wk b mm ee ot))), (hot, .inl (cot, 150, .inl ((jmR wk b mm ee ot).2)))] t9.heap ∧ va_K DD vwCl [(ctf, .int), (cwk, .int), (cot, .int)] t9 ∧ va_D A [(am, .inr (9, [.int (nI th), .int (nI n), .ref hk, .ref ht, .int (nI n1), .ref hk1, .ref ht1, .int (zb pb), .int (nI rn), .ref hfg, .ref hle, .ref hmo, .ref hwy, .int (nI (tn + 1)), .ref htf, .long cm, .ref hod, .ref hwk, .ref hot, .int (nI ru), .ref hen])), (htf, .inl (ctf, 900, .inl (tadd tf tn (nI 2) (nI b) (nI ee)))), (hwk, .inl (cwk, 150, .inl (jmW wk b mm ee ot))), (hot, .inl (cot, 150, .inl ((jmR wk b mm ee ot).2)))]) A) args s 0 0 A) (F0 m 166 ls []) := by
    intro kk
    induction kk with
    | zero => intros; omega
    | succ kk ih166 =>
      intro i q hbi hi hqX hkk H locs hP hD hS ls hl
      refine lv_iload hx hb d_Mo_joinTwo_166 (lv_at hl 5 rfl) ?_
      refine lv_iload_n hx hb d_Mo_joinTwo_168 rfl (lv_at hl 3 rfl) ?_
      refine z_icmp_ge (tgt := 192) hx hb d_Mo_joinTwo_169 (by decide) (by omega) (by omega) (fun c_169 => ?_) (fun c_169 => ?_)
      · rw [show cpR ((jmR wk b mm ee ot).2) wk b i = jmW wk b mm ee ot from by rw [Nat.le_antisymm hi c_169]; rfl] at hP hD
        refine lv_aload_n hx hb d_Mo_joinTwo_192 rfl (lv_at hl 0 rfl) ?_
        refine lv_iconst (v := nI 2) hx hb d_Mo_joinTwo_193 (by decide) ?_
        refine lv_iload_n hx hb d_Mo_joinTwo_194 rfl (lv_at hl 1 rfl) ?_
        refine lv_iload_n hx hb d_Mo_joinTwo_195 rfl (lv_at hl 3 rfl) ?_
        have hPc := hP.sub (ws' := [(am, .inr (9, [.int (nI th), .int (nI n), .ref hk, .ref ht, .int (nI n1), .ref hk1, .ref ht1, .int (zb pb), .int (nI rn), .ref hfg, .ref hle, .ref hmo, .ref hwy, .int (nI tn), .ref htf, .long cm, .ref hod, .ref hwk, .ref hot, .int (nI ru), .ref hen])), (htf, .inl (ctf, 900, .inl tf))]) [0, 1] rfl
        have hKc := hK.sub (tys' := [(ctf, .int)]) [0] rfl
        have hDc := hD.sub (ws' := [(am, .inr (9, [.int (nI th), .int (nI n), .ref hk, .ref ht, .int (nI n1), .ref hk1, .ref ht1, .int (zb pb), .int (nI rn), .ref hfg, .ref hle, .ref hmo, .ref hwy, .int (nI tn), .ref htf, .long cm, .ref hod, .ref hwk, .ref hot, .int (nI ru), .ref hen])), (htf, .inl (ctf, 900, .inl tf))]) [0, 1] (by decide) rfl
        have hFc := va_free (wc := [(am, .inr (9, [.int (nI th), .int (nI n), .ref hk, .ref ht, .int (nI n1), .ref hk1, .ref ht1, .int (zb pb), .int (nI rn), .ref hfg, .ref hle, .ref hmo, .ref hwy, .int (nI tn), .ref htf, .long cm, .ref hod, .ref hwk, .ref hot, .int (nI ru), .ref hen])), (htf, .inl (ctf, 900, .inl tf))]) hD hS hA [0, 1] rfl
        refine va_callv (va_runV (As := [.int (nI 2), .int (nI b), .int (nI ee)]) (rest := []) ⟨hx, hb, hml, hown, hg⟩ (c_Mo_tell l DD H.size am th n hk ht n1 hk1 ht1 pb rn hfg hle hmo hwy tn htf ctf tf cm hod hwk hot ru hen (nI 2) (nI b) (nI ee) (by omega)) (cwV 3 hg (gi_V mw_831 mw_833 ms_Mo_tell mw_11 mw_834) rfl rfl rfl (by decide +kernel) ⟨Nat.le_of_ble_eq_true rfl, Nat.le_of_ble_eq_true rfl⟩) ⟨z_blindQ, va_recv hKc hPc (ci := 9) (q0 := 0) rfl rfl, z_preQ hPc hKc hDc⟩ rfl rfl hl.1 rfl (lv_room (Nat.le_of_ble_eq_true rfl)) d_Mo_joinTwo_196 ⟨Nat.zero_le _, Nat.zero_le _⟩) hS (fun q _ h => hFc q h) hFc (fun u9 t9 H9 locs ht9 hvm9 hw9 hB9 hz9 hk9 hS => ?_)
        obtain ⟨hP1, hK1, hD1⟩ := hB9
        rw [ht9] at hP1
        try dsimp only at hw9
        obtain ⟨hP, hD⟩ := va_join (wr := [(hwk, .inl (cwk, 150, .inl (jmW wk b mm ee ot))), (hot, .inl (cot, 150, .inl ((jmR wk b mm ee ot).2)))]) (w1 := [(am, .inr (9, [.int (nI th), .int (nI n), .ref hk, .ref ht, .int (nI n1), .ref hk1, .ref ht1, .int (zb pb), .int (nI rn), .ref hfg, .ref hle, .ref hmo, .ref hwy, .int (nI (tn + 1)), .ref htf, .long cm, .ref hod, .ref hwk, .ref hot, .int (nI ru), .ref hen])), (htf, .inl (ctf, 900, .inl (tadd tf tn (nI 2) (nI b) (nI ee))))]) hP hD [0, 1] [2, 3] rfl rfl (by decide) (by decide) hk9 hFc hP1 hD1
        generalize H9 = H at hP hS ⊢
        have hP : va_P DD vwCl [(hwk, .inl (cwk, 150, .inl (jmW wk b mm ee ot))), (hot, .inl (cot, 150, .inl ((jmR wk b mm ee ot).2))), (am, .inr (9, [.int (nI th), .int (nI n), .ref hk, .ref ht, .int (nI n1), .ref hk1, .ref ht1, .int (zb pb), .int (nI rn), .ref hfg, .ref hle, .ref hmo, .ref hwy, .int (nI (tn + 1)), .ref htf, .long cm, .ref hod, .ref hwk, .ref hot, .int (nI ru), .ref hen])), (htf, .inl (ctf, 900, .inl (tadd tf tn (nI 2) (nI b) (nI ee))))] H := hP
        have hD : va_D A [(hwk, .inl (cwk, 150, .inl (jmW wk b mm ee ot))), (hot, .inl (cot, 150, .inl ((jmR wk b mm ee ot).2))), (am, .inr (9, [.int (nI th), .int (nI n), .ref hk, .ref ht, .int (nI n1), .ref hk1, .ref ht1, .int (zb pb), .int (nI rn), .ref hfg, .ref hle, .ref hmo, .ref hwy, .int (nI (tn + 1)), .ref htf, .long cm, .ref hod, .ref hwk, .ref hot, .int (nI ru), .ref hen])), (htf, .inl (ctf, 900, .inl (tadd tf tn (nI 2) (nI b) (nI ee))))] := hD
        refine lv_iload hx hb d_Mo_joinTwo_199 (lv_at hl 4 rfl) ?_
        have hP9 := hP.sub (ws' := [(am, .inr (9, [.int (nI th), .int (nI n), .ref hk, .ref ht, .int (nI n1), .ref hk1, .ref ht1, .int (zb pb), .int (nI rn), .ref hfg, .ref hle, .ref hmo, .ref hwy, .int (nI (tn + 1)), .ref htf, .long cm, .ref hod, .ref hwk, .ref hot, .int (nI ru), .ref hen])), (htf, .inl (ctf, 900, .inl (tadd tf tn (nI 2) (nI b) (nI ee)))), (hwk, .inl (cwk, 150, .inl (jmW wk b mm ee ot))), (hot, .inl (cot, 150, .inl ((jmR wk b mm ee ot).2)))]) [2, 3, 0, 1] rfl
        have hD9 := hD.sub (ws' := [(am, .inr (9, [.int (nI th), .int (nI n), .ref hk, .ref ht, .int (nI n1), .ref hk1, .ref ht1, .int (zb pb), .int (nI rn), .ref hfg, .ref hle, .ref hmo, .ref hwy, .int (nI (tn + 1)), .ref htf, .long cm, .ref hod, .ref hwk, .ref hot, .int (nI ru), .ref hen])), (htf, .inl (ctf, 900, .inl (tadd tf tn (nI 2) (nI b) (nI ee)))), (hwk, .inl (cwk, 150, .inl (jmW wk b mm ee ot))), (hot, .inl (cot, 150, .inl ((jmR wk b mm ee ot).2)))]) [2, 3, 0, 1] (by decide) rfl
        exact W.iret (v := nI q) hx hb hr (fun t9 ht9 hW9 => ⟨⟨_, (), rfl, (by exact congrArg nI hqX), by rw [ht9]; exact hP9, va_K.moved hW9.alike hK, hD9⟩, hS.F ht9⟩) hS.2.2 d_Mo_joinTwo_201
      · refine lv_aload_n hx hb d_Mo_joinTwo_172 rfl (lv_at hl 0 rfl) ?_
        refine va_get (D := DD) (ci := 9) (v := .ref hwk) (C := R_Mo) (T := T_Mo) (N := 21) hx hb hg in_Mo hown hK hP 0 rfl rfl 17 (by decide) (hg _ mw_696) (fun _ h9 => h9) rfl d_Mo_joinTwo_173 ?_
        refine lv_iload hx hb d_Mo_joinTwo_176 (lv_at hl 5 rfl) ?_
        refine lv_aload_n hx hb d_Mo_joinTwo_178 rfl (lv_at hl 0 rfl) ?_
        refine va_get (D := DD) (ci := 9) (v := .ref hot) (C := R_Mo) (T := T_Mo) (N := 21) hx hb hg in_Mo hown hK hP 0 rfl rfl 18 (by decide) (hg _ mw_697) (fun _ h9 => h9) rfl d_Mo_joinTwo_179 ?_
        refine lv_iload hx hb d_Mo_joinTwo_182 (lv_at hl 5 rfl) ?_
        refine z_iald hx hb hK hP 3 2 rfl rfl (by omega) (by decide) d_Mo_joinTwo_184 ?_
        refine z_iast hx hb hK hP hD hS 2 1 rfl rfl (by omega) (by decide) d_Mo_joinTwo_185 (fun H locs hP hD hS => ?_)
        have hP : va_P DD vwCl [(am, .inr (9, [.int (nI th), .int (nI n), .ref hk, .ref ht, .int (nI n1), .ref hk1, .ref ht1, .int (zb pb), .int (nI rn), .ref hfg, .ref hle, .ref hmo, .ref hwy, .int (nI tn), .ref htf, .long cm, .ref hod, .ref hwk, .ref hot, .int (nI ru), .ref hen])), (htf, .inl (ctf, 900, .inl tf)), (hwk, .inl (cwk, 150, .inl (upd (cpR ((jmR wk b mm ee ot).2) wk b i) i (((jmR wk b mm ee ot).2) i)))), (hot, .inl (cot, 150, .inl ((jmR wk b mm ee ot).2)))] H := hP
        have hD : va_D A [(am, .inr (9, [.int (nI th), .int (nI n), .ref hk, .ref ht, .int (nI n1), .ref hk1, .ref ht1, .int (zb pb), .int (nI rn), .ref hfg, .ref hle, .ref hmo, .ref hwy, .int (nI tn), .ref htf, .long cm, .ref hod, .ref hwk, .ref hot, .int (nI ru), .ref hen])), (htf, .inl (ctf, 900, .inl tf)), (hwk, .inl (cwk, 150, .inl (upd (cpR ((jmR wk b mm ee ot).2) wk b i) i (((jmR wk b mm ee ot).2) i)))), (hot, .inl (cot, 150, .inl ((jmR wk b mm ee ot).2)))] := hD
        rw [show upd (cpR ((jmR wk b mm ee ot).2) wk b i) i (((jmR wk b mm ee ot).2) i) = cpR ((jmR wk b mm ee ot).2) wk b (i + 1) from cpR_s _ wk hbi] at hP hD
        refine lv_iinc (v := nI (i + 1)) (lv' := [(7, .int (nI (i + 1))), (0, .ref am), (1, .int (nI b)), (2, .int (nI mm)), (3, .int (nI ee)), (4, .int (nI q))]) hx hb d_Mo_joinTwo_186 hl (k := 5) rfl (by exact nI_add i 1) (by decide) rfl (fun ls hl => ?_)
        refine lv_goto (tgt := 166) hx hb d_Mo_joinTwo_189 (by decide) ?_
        exact ih166 (i + 1) q (by omega) (by omega) (by exact hqX) (by omega) _ _ hP hD hS ls (lv_sub hl [1, 2, 3, 4, 5, 0] rfl)
  have K12 : ∀ (kk : Nat) (fu : Nat) (a : Nat) (d : Nat) (q : Nat) (kx : Nat) (ox : Nat → Int32), (h1 : b ≤ a) → (h2 : a ≤ mm) → (h3 : mm ≤ d) → (h4 : d ≤ ee) → (hkx : kx = a + d - mm) → (hf : (mm - a) + (ee - d) = fu) → (hX : (jmR wk b mm ee ot) = jM wk mm ee fu a d q ox) → fu < kk → ∀ (H : Heap) (locs : List Loc), va_P DD vwCl [(am, .inr (9, [.int (nI th), .int (nI n), .ref hk, .ref ht, .int (nI n1), .ref hk1, .ref ht1, .int (zb pb), .int (nI rn), .ref hfg, .ref hle, .ref hmo, .ref hwy, .int (nI tn), .ref htf, .long cm, .ref hod, .ref hwk, .ref hot, .int (nI ru), .ref hen])), (htf, .inl (ctf, 900, .inl tf)), (hwk, .inl (cwk, 150, .inl wk)), (hot, .inl (cot, 150, .inl ox))] H → va_D A [(am, .inr (9, [.int (nI th), .int (nI n), .ref hk, .ref ht, .int (nI n1), .ref hk1, .ref ht1, .int (zb pb), .int (nI rn), .ref hfg, .ref hle, .ref hmo, .ref hwy, .int (nI tn), .ref htf, .long cm, .ref hod, .ref hwk, .ref hot, .int (nI ru), .ref hen])), (htf, .inl (ctf, 900, .inl tf)), (hwk, .inl (cwk, 150, .inl wk)), (hot, .inl (cot, 150, .inl ox))] → va_S A s.heap H locs → ∀ (ls : Array Slot), lv_has ls 10 [(0, .ref am), (1, .int (nI b)), (2, .int (nI mm)), (3, .int (nI ee)), (4, .int (nI q)), (5, .int (nI a)), (6, .int (nI d)), (7, .int (nI kx))] → W p l e (headSpec ws_Mo_joinTwo rm_Mo_joinTwo).room s m args below meth c H locs 0 0 (MQ below (va_Qi (fun (r9 : Int32) (u9 : Unit) => match u9 with | _ => r9 = nI ((jmR wk b mm ee ot).1)) (fun (u9 : Unit) (t9 : State) => match u9 with | _ => va_P DD vwCl [(am, .inr (9, [.int (nI th), .int (nI n), .ref hk, .ref ht, .int (nI n1), .ref hk1, .ref ht1, .int (zb pb), .int (nI rn), .ref hfg, .ref hle, .ref hmo, .ref hwy, .int (nI (tn + 1)), .ref htf, .long cm, .ref hod, .ref hwk, .ref hot, .int (nI ru), .ref hen])), (htf, .inl (ctf, 900, .inl (tadd tf tn (nI 2) (nI b) (nI ee)))), (hwk, .inl (cwk, 150, .inl (jmW wk b mm ee ot))), (hot, .inl (cot, 150, .inl ((jmR wk b mm ee ot).2)))] t9.heap ∧ va_K DD vwCl [(ctf, .int), (cwk, .int), (cot, .int)] t9 ∧ va_D A [(am, .inr (9, [.int (nI th), .int (nI n), .ref hk, .ref ht, .int (nI n1), .ref hk1, .ref ht1, .int (zb pb), .int (nI rn), .ref hfg, .ref hle, .ref hmo, .ref hwy, .int (nI (tn + 1)), .ref htf, .long cm, .ref hod, .ref hwk, .ref hot, .int (nI ru), .ref hen])), (htf, .inl (ctf, 900, .inl (tadd tf tn (nI 2) (nI b) (nI ee)))), (hwk, .inl (cwk, 150, .inl (jmW wk b mm ee ot))), (hot, .inl (cot, 150, .inl ((jmR wk b mm ee ot).2)))]) A) args s 0 0 A) (F0 m 12 ls []) := by
    intro kk
    induction kk with
    | zero => intros; omega
    | succ kk ih12 =>
      intro fu a d q kx ox h1 h2 h3 h4 hkx hf hX hkk H locs hP hD hS ls hl
      refine lv_iload hx hb d_Mo_joinTwo_12 (lv_at hl 7 rfl) ?_
      refine lv_iload_n hx hb d_Mo_joinTwo_14 rfl (lv_at hl 3 rfl) ?_
      refine z_icmp_ge (tgt := 163) hx hb d_Mo_joinTwo_15 (by decide) (by omega) (by omega) (fun c_15 => ?_) (fun c_15 => ?_)
      · have hX3 := jM_x hX (by omega)
        rw [show wk = cpR ((jmR wk b mm ee ot).2) wk b b from cpR_0 _ wk b] at hP hD
        rw [show ox = (jmR wk b mm ee ot).2 from by rw [hX3]] at hP hD
        refine lv_iload_n hx hb d_Mo_joinTwo_163 rfl (lv_at hl 1 rfl) ?_
        refine lv_istore (lv' := [(7, .int (nI b)), (0, .ref am), (1, .int (nI b)), (2, .int (nI mm)), (3, .int (nI ee)), (4, .int (nI q)), (5, .int (nI a)), (6, .int (nI d))]) hx hb d_Mo_joinTwo_164 hl (by decide) rfl (fun ls hl => ?_)
        exact K166 _ b q (by omega) (by omega) (by rw [hX3]) (Nat.lt_succ_self _) _ _ hP hD hS ls (lv_sub hl [1, 2, 3, 4, 5, 0] rfl)
      · refine lv_iload hx hb d_Mo_joinTwo_18 (lv_at hl 5 rfl) ?_
        refine lv_iload_n hx hb d_Mo_joinTwo_20 rfl (lv_at hl 2 rfl) ?_
        refine z_icmp_ge (tgt := 34) hx hb d_Mo_joinTwo_21 (by decide) (by omega) (by omega) (fun c_21 => ?_) (fun c_21 => ?_)
        · refine lv_iconst (v := nI 0) hx hb d_Mo_joinTwo_34 (by decide) ?_
          refine lv_istore (lv' := [(8, .int (nI 0)), (0, .ref am), (1, .int (nI b)), (2, .int (nI mm)), (3, .int (nI ee)), (4, .int (nI q)), (5, .int (nI a)), (6, .int (nI d)), (7, .int (nI kx))]) hx hb d_Mo_joinTwo_35 hl (by decide) rfl (fun ls hl => ?_)
          refine lv_iload hx hb d_Mo_joinTwo_37 (lv_at hl 0 rfl) ?_
          refine z_if_eq (tgt := 49) hx hb d_Mo_joinTwo_39 (by decide) (by omega) (fun c_39 => ?_) (fun c_39 => ?_)
          · refine lv_iload hx hb d_Mo_joinTwo_49 (lv_at hl 5 rfl) ?_
            refine lv_istore (lv' := [(4, .int (nI q)), (8, .int (nI 0)), (0, .ref am), (1, .int (nI b)), (2, .int (nI mm)), (3, .int (nI ee)), (5, .int (nI a)), (6, .int (nI d)), (7, .int (nI kx))]) hx hb d_Mo_joinTwo_51 hl (by decide) rfl (fun ls hl => ?_)
            refine lv_iload hx hb d_Mo_joinTwo_53 (lv_at hl 1 rfl) ?_
            refine z_if_eq (tgt := 83) hx hb d_Mo_joinTwo_55 (by decide) (by omega) (fun c_55 => ?_) (fun c_55 => ?_)
            · refine lv_iload hx hb d_Mo_joinTwo_83 (lv_at hl 6 rfl) ?_
              refine lv_iload_n hx hb d_Mo_joinTwo_85 rfl (lv_at hl 4 rfl) ?_
              refine z_icmp_ge (tgt := 93) hx hb d_Mo_joinTwo_86 (by decide) (by omega) (by omega) (fun c_86 => ?_) (fun c_86 => ?_)
              · refine lv_iconst (v := nI 0) hx hb d_Mo_joinTwo_93 (by decide) ?_
                refine lv_istore (lv' := [(9, .int (nI 0)), (4, .int (nI q)), (8, .int (nI 0)), (0, .ref am), (1, .int (nI b)), (2, .int (nI mm)), (3, .int (nI ee)), (5, .int (nI a)), (6, .int (nI d)), (7, .int (nI kx))]) hx hb d_Mo_joinTwo_94 hl (by decide) rfl (fun ls hl => ?_)
                refine lv_aload_n hx hb d_Mo_joinTwo_96 rfl (lv_at hl 3 rfl) ?_
                refine va_get (D := DD) (ci := 9) (v := .ref hot) (C := R_Mo) (T := T_Mo) (N := 21) hx hb hg in_Mo hown hK hP 0 rfl rfl 18 (by decide) (hg _ mw_697) (fun _ h9 => h9) rfl d_Mo_joinTwo_97 ?_
                refine lv_iload hx hb d_Mo_joinTwo_100 (lv_at hl 9 rfl) ?_
                refine lv_iload hx hb d_Mo_joinTwo_102 (lv_at hl 0 rfl) ?_
                refine z_if_eq (tgt := 117) hx hb d_Mo_joinTwo_104 (by decide) (by omega) (fun c_104 => ?_) (fun c_104 => ?_)
                · refine lv_aload_n hx hb d_Mo_joinTwo_117 rfl (lv_at hl 3 rfl) ?_
                  refine va_get (D := DD) (ci := 9) (v := .ref hwk) (C := R_Mo) (T := T_Mo) (N := 21) hx hb hg in_Mo hown hK hP 0 rfl rfl 17 (by decide) (hg _ mw_696) (fun _ h9 => h9) rfl d_Mo_joinTwo_118 ?_
                  refine lv_iload hx hb d_Mo_joinTwo_121 (lv_at hl 8 rfl) ?_
                  refine z_iald hx hb hK hP 2 1 rfl rfl (by omega) (by decide) d_Mo_joinTwo_123 ?_
                  refine z_iast hx hb hK hP hD hS 3 2 rfl rfl (by omega) (by decide) d_Mo_joinTwo_124 (fun H locs hP hD hS => ?_)
                  have hP : va_P DD vwCl [(am, .inr (9, [.int (nI th), .int (nI n), .ref hk, .ref ht, .int (nI n1), .ref hk1, .ref ht1, .int (zb pb), .int (nI rn), .ref hfg, .ref hle, .ref hmo, .ref hwy, .int (nI tn), .ref htf, .long cm, .ref hod, .ref hwk, .ref hot, .int (nI ru), .ref hen])), (htf, .inl (ctf, 900, .inl tf)), (hwk, .inl (cwk, 150, .inl wk)), (hot, .inl (cot, 150, .inl (upd ox kx (wk d))))] H := hP
                  have hD : va_D A [(am, .inr (9, [.int (nI th), .int (nI n), .ref hk, .ref ht, .int (nI n1), .ref hk1, .ref ht1, .int (zb pb), .int (nI rn), .ref hfg, .ref hle, .ref hmo, .ref hwy, .int (nI tn), .ref htf, .long cm, .ref hod, .ref hwk, .ref hot, .int (nI ru), .ref hen])), (htf, .inl (ctf, 900, .inl tf)), (hwk, .inl (cwk, 150, .inl wk)), (hot, .inl (cot, 150, .inl (upd ox kx (wk d))))] := hD
                  refine lv_iload hx hb d_Mo_joinTwo_125 (lv_at hl 0 rfl) ?_
                  refine z_if_eq (tgt := 137) hx hb d_Mo_joinTwo_127 (by decide) (by omega) (fun c_127 => ?_) (fun c_127 => ?_)
                  · refine lv_iload hx hb d_Mo_joinTwo_137 (lv_at hl 7 rfl) ?_
                    refine lv_istore (lv' := [(5, .int (nI a)), (9, .int (nI 0)), (4, .int (nI q)), (8, .int (nI 0)), (0, .ref am), (1, .int (nI b)), (2, .int (nI mm)), (3, .int (nI ee)), (6, .int (nI d)), (7, .int (nI kx))]) hx hb d_Mo_joinTwo_139 hl (by decide) rfl (fun ls hl => ?_)
                    refine lv_iload hx hb d_Mo_joinTwo_141 (lv_at hl 1 rfl) ?_
                    refine z_if_eq (tgt := 151) hx hb d_Mo_joinTwo_143 (by decide) (by omega) (fun c_143 => ?_) (fun c_143 => ?_)
                    · refine lv_iload hx hb d_Mo_joinTwo_151 (lv_at hl 8 rfl) ?_
                      refine lv_iconst (v := nI 1) hx hb d_Mo_joinTwo_153 (by decide) ?_
                      refine z_iadd hx hb d_Mo_joinTwo_154 ?_
                      refine lv_istore (lv' := [(6, .int (nI (d + 1))), (5, .int (nI a)), (9, .int (nI 0)), (4, .int (nI q)), (8, .int (nI 0)), (0, .ref am), (1, .int (nI b)), (2, .int (nI mm)), (3, .int (nI ee)), (7, .int (nI kx))]) hx hb d_Mo_joinTwo_155 hl (by decide) rfl (fun ls hl => ?_)
                      refine lv_iinc (v := nI (kx + 1)) (lv' := [(7, .int (nI (kx + 1))), (6, .int (nI (d + 1))), (5, .int (nI a)), (9, .int (nI 0)), (4, .int (nI q)), (8, .int (nI 0)), (0, .ref am), (1, .int (nI b)), (2, .int (nI mm)), (3, .int (nI ee))]) hx hb d_Mo_joinTwo_157 hl (k := 9) rfl (by exact nI_add kx 1) (by decide) rfl (fun ls hl => ?_)
                      refine lv_goto (tgt := 12) hx hb d_Mo_joinTwo_160 (by decide) ?_
                      exact ih12 (fu - 1) a (d + 1) q (kx + 1) (upd ox kx (wk d)) (by omega) (by omega) (by omega) (by omega) (by omega) (by omega) (by first | exact jM_1 hX hf hkx c_21 c_27 c_72 | exact jM_2 hX hf hkx c_21 c_27 c_72 | exact jM_3 hX hf hkx c_21 c_27 | exact jM_4 hX hf hkx c_21 (by omega) | exact absurd c_86 (by omega)) (by omega) _ _ hP hD hS ls (lv_sub hl [6, 7, 8, 9, 4, 2, 1, 0] rfl)
                    · exact absurd c_143 (by decide)
                  · exact absurd c_127 (by decide)
                · exact absurd c_104 (by decide)
              · refine lv_iconst (v := nI 1) hx hb d_Mo_joinTwo_89 (by decide) ?_
                refine lv_goto (tgt := 94) hx hb d_Mo_joinTwo_90 (by decide) ?_
                refine lv_istore (lv' := [(9, .int (nI 1)), (4, .int (nI q)), (8, .int (nI 0)), (0, .ref am), (1, .int (nI b)), (2, .int (nI mm)), (3, .int (nI ee)), (5, .int (nI a)), (6, .int (nI d)), (7, .int (nI kx))]) hx hb d_Mo_joinTwo_94 hl (by decide) rfl (fun ls hl => ?_)
                refine lv_aload_n hx hb d_Mo_joinTwo_96 rfl (lv_at hl 3 rfl) ?_
                refine va_get (D := DD) (ci := 9) (v := .ref hot) (C := R_Mo) (T := T_Mo) (N := 21) hx hb hg in_Mo hown hK hP 0 rfl rfl 18 (by decide) (hg _ mw_697) (fun _ h9 => h9) rfl d_Mo_joinTwo_97 ?_
                refine lv_iload hx hb d_Mo_joinTwo_100 (lv_at hl 9 rfl) ?_
                refine lv_iload hx hb d_Mo_joinTwo_102 (lv_at hl 0 rfl) ?_
                refine z_if_eq (tgt := 117) hx hb d_Mo_joinTwo_104 (by decide) (by omega) (fun c_104 => ?_) (fun c_104 => ?_)
                · exact absurd c_104 (by decide)
                · refine lv_aload_n hx hb d_Mo_joinTwo_107 rfl (lv_at hl 3 rfl) ?_
                  refine va_get (D := DD) (ci := 9) (v := .ref hwk) (C := R_Mo) (T := T_Mo) (N := 21) hx hb hg in_Mo hown hK hP 0 rfl rfl 17 (by decide) (hg _ mw_696) (fun _ h9 => h9) rfl d_Mo_joinTwo_108 ?_
                  refine lv_iload hx hb d_Mo_joinTwo_111 (lv_at hl 7 rfl) ?_
                  refine z_iald hx hb hK hP 2 1 rfl rfl (by omega) (by decide) d_Mo_joinTwo_113 ?_
                  refine lv_goto (tgt := 124) hx hb d_Mo_joinTwo_114 (by decide) ?_
                  refine z_iast hx hb hK hP hD hS 3 2 rfl rfl (by omega) (by decide) d_Mo_joinTwo_124 (fun H locs hP hD hS => ?_)
                  have hP : va_P DD vwCl [(am, .inr (9, [.int (nI th), .int (nI n), .ref hk, .ref ht, .int (nI n1), .ref hk1, .ref ht1, .int (zb pb), .int (nI rn), .ref hfg, .ref hle, .ref hmo, .ref hwy, .int (nI tn), .ref htf, .long cm, .ref hod, .ref hwk, .ref hot, .int (nI ru), .ref hen])), (htf, .inl (ctf, 900, .inl tf)), (hwk, .inl (cwk, 150, .inl wk)), (hot, .inl (cot, 150, .inl (upd ox kx (wk a))))] H := hP
                  have hD : va_D A [(am, .inr (9, [.int (nI th), .int (nI n), .ref hk, .ref ht, .int (nI n1), .ref hk1, .ref ht1, .int (zb pb), .int (nI rn), .ref hfg, .ref hle, .ref hmo, .ref hwy, .int (nI tn), .ref htf, .long cm, .ref hod, .ref hwk, .ref hot, .int (nI ru), .ref hen])), (htf, .inl (ctf, 900, .inl tf)), (hwk, .inl (cwk, 150, .inl wk)), (hot, .inl (cot, 150, .inl (upd ox kx (wk a))))] := hD
                  refine lv_iload hx hb d_Mo_joinTwo_125 (lv_at hl 0 rfl) ?_
                  refine z_if_eq (tgt := 137) hx hb d_Mo_joinTwo_127 (by decide) (by omega) (fun c_127 => ?_) (fun c_127 => ?_)
                  · exact absurd c_127 (by decide)
                  · refine lv_iload hx hb d_Mo_joinTwo_130 (lv_at hl 7 rfl) ?_
                    refine lv_iconst (v := nI 1) hx hb d_Mo_joinTwo_132 (by decide) ?_
                    refine z_iadd hx hb d_Mo_joinTwo_133 ?_
                    refine lv_goto (tgt := 139) hx hb d_Mo_joinTwo_134 (by decide) ?_
                    refine lv_istore (lv' := [(5, .int (nI (a + 1))), (9, .int (nI 1)), (4, .int (nI q)), (8, .int (nI 0)), (0, .ref am), (1, .int (nI b)), (2, .int (nI mm)), (3, .int (nI ee)), (6, .int (nI d)), (7, .int (nI kx))]) hx hb d_Mo_joinTwo_139 hl (by decide) rfl (fun ls hl => ?_)
                    refine lv_iload hx hb d_Mo_joinTwo_141 (lv_at hl 1 rfl) ?_
                    refine z_if_eq (tgt := 151) hx hb d_Mo_joinTwo_143 (by decide) (by omega) (fun c_143 => ?_) (fun c_143 => ?_)
                    · exact absurd c_143 (by decide)
                    · refine lv_iload hx hb d_Mo_joinTwo_146 (lv_at hl 8 rfl) ?_
                      refine lv_goto (tgt := 155) hx hb d_Mo_joinTwo_148 (by decide) ?_
                      refine lv_istore (lv' := [(6, .int (nI d)), (5, .int (nI (a + 1))), (9, .int (nI 1)), (4, .int (nI q)), (8, .int (nI 0)), (0, .ref am), (1, .int (nI b)), (2, .int (nI mm)), (3, .int (nI ee)), (7, .int (nI kx))]) hx hb d_Mo_joinTwo_155 hl (by decide) rfl (fun ls hl => ?_)
                      refine lv_iinc (v := nI (kx + 1)) (lv' := [(7, .int (nI (kx + 1))), (6, .int (nI d)), (5, .int (nI (a + 1))), (9, .int (nI 1)), (4, .int (nI q)), (8, .int (nI 0)), (0, .ref am), (1, .int (nI b)), (2, .int (nI mm)), (3, .int (nI ee))]) hx hb d_Mo_joinTwo_157 hl (k := 9) rfl (by exact nI_add kx 1) (by decide) rfl (fun ls hl => ?_)
                      refine lv_goto (tgt := 12) hx hb d_Mo_joinTwo_160 (by decide) ?_
                      exact ih12 (fu - 1) (a + 1) d q (kx + 1) (upd ox kx (wk a)) (by omega) (by omega) (by omega) (by omega) (by omega) (by omega) (by first | exact jM_1 hX hf hkx c_21 c_27 c_72 | exact jM_2 hX hf hkx c_21 c_27 c_72 | exact jM_3 hX hf hkx c_21 c_27 | exact jM_4 hX hf hkx c_21 (by omega) | exact absurd c_86 (by omega)) (by omega) _ _ hP hD hS ls (lv_sub hl [6, 7, 8, 9, 4, 2, 1, 0] rfl)
            · exact absurd c_55 (by decide)
          · exact absurd c_39 (by decide)
        · refine lv_iload hx hb d_Mo_joinTwo_24 (lv_at hl 6 rfl) ?_
          refine lv_iload_n hx hb d_Mo_joinTwo_26 rfl (lv_at hl 3 rfl) ?_
          refine z_icmp_ge (tgt := 34) hx hb d_Mo_joinTwo_27 (by decide) (by omega) (by omega) (fun c_27 => ?_) (fun c_27 => ?_)
          · refine lv_iconst (v := nI 0) hx hb d_Mo_joinTwo_34 (by decide) ?_
            refine lv_istore (lv' := [(8, .int (nI 0)), (0, .ref am), (1, .int (nI b)), (2, .int (nI mm)), (3, .int (nI ee)), (4, .int (nI q)), (5, .int (nI a)), (6, .int (nI d)), (7, .int (nI kx))]) hx hb d_Mo_joinTwo_35 hl (by decide) rfl (fun ls hl => ?_)
            refine lv_iload hx hb d_Mo_joinTwo_37 (lv_at hl 0 rfl) ?_
            refine z_if_eq (tgt := 49) hx hb d_Mo_joinTwo_39 (by decide) (by omega) (fun c_39 => ?_) (fun c_39 => ?_)
            · refine lv_iload hx hb d_Mo_joinTwo_49 (lv_at hl 5 rfl) ?_
              refine lv_istore (lv' := [(4, .int (nI q)), (8, .int (nI 0)), (0, .ref am), (1, .int (nI b)), (2, .int (nI mm)), (3, .int (nI ee)), (5, .int (nI a)), (6, .int (nI d)), (7, .int (nI kx))]) hx hb d_Mo_joinTwo_51 hl (by decide) rfl (fun ls hl => ?_)
              refine lv_iload hx hb d_Mo_joinTwo_53 (lv_at hl 1 rfl) ?_
              refine z_if_eq (tgt := 83) hx hb d_Mo_joinTwo_55 (by decide) (by omega) (fun c_55 => ?_) (fun c_55 => ?_)
              · refine lv_iload hx hb d_Mo_joinTwo_83 (lv_at hl 6 rfl) ?_
                refine lv_iload_n hx hb d_Mo_joinTwo_85 rfl (lv_at hl 4 rfl) ?_
                refine z_icmp_ge (tgt := 93) hx hb d_Mo_joinTwo_86 (by decide) (by omega) (by omega) (fun c_86 => ?_) (fun c_86 => ?_)
                · refine lv_iconst (v := nI 0) hx hb d_Mo_joinTwo_93 (by decide) ?_
                  refine lv_istore (lv' := [(9, .int (nI 0)), (4, .int (nI q)), (8, .int (nI 0)), (0, .ref am), (1, .int (nI b)), (2, .int (nI mm)), (3, .int (nI ee)), (5, .int (nI a)), (6, .int (nI d)), (7, .int (nI kx))]) hx hb d_Mo_joinTwo_94 hl (by decide) rfl (fun ls hl => ?_)
                  refine lv_aload_n hx hb d_Mo_joinTwo_96 rfl (lv_at hl 3 rfl) ?_
                  refine va_get (D := DD) (ci := 9) (v := .ref hot) (C := R_Mo) (T := T_Mo) (N := 21) hx hb hg in_Mo hown hK hP 0 rfl rfl 18 (by decide) (hg _ mw_697) (fun _ h9 => h9) rfl d_Mo_joinTwo_97 ?_
                  refine lv_iload hx hb d_Mo_joinTwo_100 (lv_at hl 9 rfl) ?_
                  refine lv_iload hx hb d_Mo_joinTwo_102 (lv_at hl 0 rfl) ?_
                  refine z_if_eq (tgt := 117) hx hb d_Mo_joinTwo_104 (by decide) (by omega) (fun c_104 => ?_) (fun c_104 => ?_)
                  · refine lv_aload_n hx hb d_Mo_joinTwo_117 rfl (lv_at hl 3 rfl) ?_
                    refine va_get (D := DD) (ci := 9) (v := .ref hwk) (C := R_Mo) (T := T_Mo) (N := 21) hx hb hg in_Mo hown hK hP 0 rfl rfl 17 (by decide) (hg _ mw_696) (fun _ h9 => h9) rfl d_Mo_joinTwo_118 ?_
                    refine lv_iload hx hb d_Mo_joinTwo_121 (lv_at hl 8 rfl) ?_
                    refine z_iald hx hb hK hP 2 1 rfl rfl (by omega) (by decide) d_Mo_joinTwo_123 ?_
                    refine z_iast hx hb hK hP hD hS 3 2 rfl rfl (by omega) (by decide) d_Mo_joinTwo_124 (fun H locs hP hD hS => ?_)
                    have hP : va_P DD vwCl [(am, .inr (9, [.int (nI th), .int (nI n), .ref hk, .ref ht, .int (nI n1), .ref hk1, .ref ht1, .int (zb pb), .int (nI rn), .ref hfg, .ref hle, .ref hmo, .ref hwy, .int (nI tn), .ref htf, .long cm, .ref hod, .ref hwk, .ref hot, .int (nI ru), .ref hen])), (htf, .inl (ctf, 900, .inl tf)), (hwk, .inl (cwk, 150, .inl wk)), (hot, .inl (cot, 150, .inl (upd ox kx (wk d))))] H := hP
                    have hD : va_D A [(am, .inr (9, [.int (nI th), .int (nI n), .ref hk, .ref ht, .int (nI n1), .ref hk1, .ref ht1, .int (zb pb), .int (nI rn), .ref hfg, .ref hle, .ref hmo, .ref hwy, .int (nI tn), .ref htf, .long cm, .ref hod, .ref hwk, .ref hot, .int (nI ru), .ref hen])), (htf, .inl (ctf, 900, .inl tf)), (hwk, .inl (cwk, 150, .inl wk)), (hot, .inl (cot, 150, .inl (upd ox kx (wk d))))] := hD
                    refine lv_iload hx hb d_Mo_joinTwo_125 (lv_at hl 0 rfl) ?_
                    refine z_if_eq (tgt := 137) hx hb d_Mo_joinTwo_127 (by decide) (by omega) (fun c_127 => ?_) (fun c_127 => ?_)
                    · refine lv_iload hx hb d_Mo_joinTwo_137 (lv_at hl 7 rfl) ?_
                      refine lv_istore (lv' := [(5, .int (nI a)), (9, .int (nI 0)), (4, .int (nI q)), (8, .int (nI 0)), (0, .ref am), (1, .int (nI b)), (2, .int (nI mm)), (3, .int (nI ee)), (6, .int (nI d)), (7, .int (nI kx))]) hx hb d_Mo_joinTwo_139 hl (by decide) rfl (fun ls hl => ?_)
                      refine lv_iload hx hb d_Mo_joinTwo_141 (lv_at hl 1 rfl) ?_
                      refine z_if_eq (tgt := 151) hx hb d_Mo_joinTwo_143 (by decide) (by omega) (fun c_143 => ?_) (fun c_143 => ?_)
                      · refine lv_iload hx hb d_Mo_joinTwo_151 (lv_at hl 8 rfl) ?_
                        refine lv_iconst (v := nI 1) hx hb d_Mo_joinTwo_153 (by decide) ?_
                        refine z_iadd hx hb d_Mo_joinTwo_154 ?_
                        refine lv_istore (lv' := [(6, .int (nI (d + 1))), (5, .int (nI a)), (9, .int (nI 0)), (4, .int (nI q)), (8, .int (nI 0)), (0, .ref am), (1, .int (nI b)), (2, .int (nI mm)), (3, .int (nI ee)), (7, .int (nI kx))]) hx hb d_Mo_joinTwo_155 hl (by decide) rfl (fun ls hl => ?_)
                        refine lv_iinc (v := nI (kx + 1)) (lv' := [(7, .int (nI (kx + 1))), (6, .int (nI (d + 1))), (5, .int (nI a)), (9, .int (nI 0)), (4, .int (nI q)), (8, .int (nI 0)), (0, .ref am), (1, .int (nI b)), (2, .int (nI mm)), (3, .int (nI ee))]) hx hb d_Mo_joinTwo_157 hl (k := 9) rfl (by exact nI_add kx 1) (by decide) rfl (fun ls hl => ?_)
                        refine lv_goto (tgt := 12) hx hb d_Mo_joinTwo_160 (by decide) ?_
                        exact ih12 (fu - 1) a (d + 1) q (kx + 1) (upd ox kx (wk d)) (by omega) (by omega) (by omega) (by omega) (by omega) (by omega) (by first | exact jM_1 hX hf hkx c_21 c_27 c_72 | exact jM_2 hX hf hkx c_21 c_27 c_72 | exact jM_3 hX hf hkx c_21 c_27 | exact jM_4 hX hf hkx c_21 (by omega) | exact absurd c_86 (by omega)) (by omega) _ _ hP hD hS ls (lv_sub hl [6, 7, 8, 9, 4, 2, 1, 0] rfl)
                      · exact absurd c_143 (by decide)
                    · exact absurd c_127 (by decide)
                  · exact absurd c_104 (by decide)
                · refine lv_iconst (v := nI 1) hx hb d_Mo_joinTwo_89 (by decide) ?_
                  refine lv_goto (tgt := 94) hx hb d_Mo_joinTwo_90 (by decide) ?_
                  refine lv_istore (lv' := [(9, .int (nI 1)), (4, .int (nI q)), (8, .int (nI 0)), (0, .ref am), (1, .int (nI b)), (2, .int (nI mm)), (3, .int (nI ee)), (5, .int (nI a)), (6, .int (nI d)), (7, .int (nI kx))]) hx hb d_Mo_joinTwo_94 hl (by decide) rfl (fun ls hl => ?_)
                  refine lv_aload_n hx hb d_Mo_joinTwo_96 rfl (lv_at hl 3 rfl) ?_
                  refine va_get (D := DD) (ci := 9) (v := .ref hot) (C := R_Mo) (T := T_Mo) (N := 21) hx hb hg in_Mo hown hK hP 0 rfl rfl 18 (by decide) (hg _ mw_697) (fun _ h9 => h9) rfl d_Mo_joinTwo_97 ?_
                  refine lv_iload hx hb d_Mo_joinTwo_100 (lv_at hl 9 rfl) ?_
                  refine lv_iload hx hb d_Mo_joinTwo_102 (lv_at hl 0 rfl) ?_
                  refine z_if_eq (tgt := 117) hx hb d_Mo_joinTwo_104 (by decide) (by omega) (fun c_104 => ?_) (fun c_104 => ?_)
                  · exact absurd c_104 (by decide)
                  · refine lv_aload_n hx hb d_Mo_joinTwo_107 rfl (lv_at hl 3 rfl) ?_
                    refine va_get (D := DD) (ci := 9) (v := .ref hwk) (C := R_Mo) (T := T_Mo) (N := 21) hx hb hg in_Mo hown hK hP 0 rfl rfl 17 (by decide) (hg _ mw_696) (fun _ h9 => h9) rfl d_Mo_joinTwo_108 ?_
                    refine lv_iload hx hb d_Mo_joinTwo_111 (lv_at hl 7 rfl) ?_
                    refine z_iald hx hb hK hP 2 1 rfl rfl (by omega) (by decide) d_Mo_joinTwo_113 ?_
                    refine lv_goto (tgt := 124) hx hb d_Mo_joinTwo_114 (by decide) ?_
                    refine z_iast hx hb hK hP hD hS 3 2 rfl rfl (by omega) (by decide) d_Mo_joinTwo_124 (fun H locs hP hD hS => ?_)
                    have hP : va_P DD vwCl [(am, .inr (9, [.int (nI th), .int (nI n), .ref hk, .ref ht, .int (nI n1), .ref hk1, .ref ht1, .int (zb pb), .int (nI rn), .ref hfg, .ref hle, .ref hmo, .ref hwy, .int (nI tn), .ref htf, .long cm, .ref hod, .ref hwk, .ref hot, .int (nI ru), .ref hen])), (htf, .inl (ctf, 900, .inl tf)), (hwk, .inl (cwk, 150, .inl wk)), (hot, .inl (cot, 150, .inl (upd ox kx (wk a))))] H := hP
                    have hD : va_D A [(am, .inr (9, [.int (nI th), .int (nI n), .ref hk, .ref ht, .int (nI n1), .ref hk1, .ref ht1, .int (zb pb), .int (nI rn), .ref hfg, .ref hle, .ref hmo, .ref hwy, .int (nI tn), .ref htf, .long cm, .ref hod, .ref hwk, .ref hot, .int (nI ru), .ref hen])), (htf, .inl (ctf, 900, .inl tf)), (hwk, .inl (cwk, 150, .inl wk)), (hot, .inl (cot, 150, .inl (upd ox kx (wk a))))] := hD
                    refine lv_iload hx hb d_Mo_joinTwo_125 (lv_at hl 0 rfl) ?_
                    refine z_if_eq (tgt := 137) hx hb d_Mo_joinTwo_127 (by decide) (by omega) (fun c_127 => ?_) (fun c_127 => ?_)
                    · exact absurd c_127 (by decide)
                    · refine lv_iload hx hb d_Mo_joinTwo_130 (lv_at hl 7 rfl) ?_
                      refine lv_iconst (v := nI 1) hx hb d_Mo_joinTwo_132 (by decide) ?_
                      refine z_iadd hx hb d_Mo_joinTwo_133 ?_
                      refine lv_goto (tgt := 139) hx hb d_Mo_joinTwo_134 (by decide) ?_
                      refine lv_istore (lv' := [(5, .int (nI (a + 1))), (9, .int (nI 1)), (4, .int (nI q)), (8, .int (nI 0)), (0, .ref am), (1, .int (nI b)), (2, .int (nI mm)), (3, .int (nI ee)), (6, .int (nI d)), (7, .int (nI kx))]) hx hb d_Mo_joinTwo_139 hl (by decide) rfl (fun ls hl => ?_)
                      refine lv_iload hx hb d_Mo_joinTwo_141 (lv_at hl 1 rfl) ?_
                      refine z_if_eq (tgt := 151) hx hb d_Mo_joinTwo_143 (by decide) (by omega) (fun c_143 => ?_) (fun c_143 => ?_)
                      · exact absurd c_143 (by decide)
                      · refine lv_iload hx hb d_Mo_joinTwo_146 (lv_at hl 8 rfl) ?_
                        refine lv_goto (tgt := 155) hx hb d_Mo_joinTwo_148 (by decide) ?_
                        refine lv_istore (lv' := [(6, .int (nI d)), (5, .int (nI (a + 1))), (9, .int (nI 1)), (4, .int (nI q)), (8, .int (nI 0)), (0, .ref am), (1, .int (nI b)), (2, .int (nI mm)), (3, .int (nI ee)), (7, .int (nI kx))]) hx hb d_Mo_joinTwo_155 hl (by decide) rfl (fun ls hl => ?_)
                        refine lv_iinc (v := nI (kx + 1)) (lv' := [(7, .int (nI (kx + 1))), (6, .int (nI d)), (5, .int (nI (a + 1))), (9, .int (nI 1)), (4, .int (nI q)), (8, .int (nI 0)), (0, .ref am), (1, .int (nI b)), (2, .int (nI mm)), (3, .int (nI ee))]) hx hb d_Mo_joinTwo_157 hl (k := 9) rfl (by exact nI_add kx 1) (by decide) rfl (fun ls hl => ?_)
                        refine lv_goto (tgt := 12) hx hb d_Mo_joinTwo_160 (by decide) ?_
                        exact ih12 (fu - 1) (a + 1) d q (kx + 1) (upd ox kx (wk a)) (by omega) (by omega) (by omega) (by omega) (by omega) (by omega) (by first | exact jM_1 hX hf hkx c_21 c_27 c_72 | exact jM_2 hX hf hkx c_21 c_27 c_72 | exact jM_3 hX hf hkx c_21 c_27 | exact jM_4 hX hf hkx c_21 (by omega) | exact absurd c_86 (by omega)) (by omega) _ _ hP hD hS ls (lv_sub hl [6, 7, 8, 9, 4, 2, 1, 0] rfl)
              · exact absurd c_55 (by decide)
            · exact absurd c_39 (by decide)
          · refine lv_iconst (v := nI 1) hx hb d_Mo_joinTwo_30 (by decide) ?_
            refine lv_goto (tgt := 35) hx hb d_Mo_joinTwo_31 (by decide) ?_
            refine lv_istore (lv' := [(8, .int (nI 1)), (0, .ref am), (1, .int (nI b)), (2, .int (nI mm)), (3, .int (nI ee)), (4, .int (nI q)), (5, .int (nI a)), (6, .int (nI d)), (7, .int (nI kx))]) hx hb d_Mo_joinTwo_35 hl (by decide) rfl (fun ls hl => ?_)
            refine lv_iload hx hb d_Mo_joinTwo_37 (lv_at hl 0 rfl) ?_
            refine z_if_eq (tgt := 49) hx hb d_Mo_joinTwo_39 (by decide) (by omega) (fun c_39 => ?_) (fun c_39 => ?_)
            · exact absurd c_39 (by decide)
            · refine lv_iload hx hb d_Mo_joinTwo_42 (lv_at hl 5 rfl) ?_
              refine lv_iconst (v := nI 1) hx hb d_Mo_joinTwo_44 (by decide) ?_
              refine z_iadd hx hb d_Mo_joinTwo_45 ?_
              refine lv_goto (tgt := 51) hx hb d_Mo_joinTwo_46 (by decide) ?_
              refine lv_istore (lv' := [(4, .int (nI (q + 1))), (8, .int (nI 1)), (0, .ref am), (1, .int (nI b)), (2, .int (nI mm)), (3, .int (nI ee)), (5, .int (nI a)), (6, .int (nI d)), (7, .int (nI kx))]) hx hb d_Mo_joinTwo_51 hl (by decide) rfl (fun ls hl => ?_)
              refine lv_iload hx hb d_Mo_joinTwo_53 (lv_at hl 1 rfl) ?_
              refine z_if_eq (tgt := 83) hx hb d_Mo_joinTwo_55 (by decide) (by omega) (fun c_55 => ?_) (fun c_55 => ?_)
              · exact absurd c_55 (by decide)
              · refine lv_aload_n hx hb d_Mo_joinTwo_58 rfl (lv_at hl 2 rfl) ?_
                refine va_get (D := DD) (ci := 9) (v := .ref hwk) (C := R_Mo) (T := T_Mo) (N := 21) hx hb hg in_Mo hown hK hP 0 rfl rfl 17 (by decide) (hg _ mw_696) (fun _ h9 => h9) rfl d_Mo_joinTwo_59 ?_
                refine lv_iload hx hb d_Mo_joinTwo_62 (lv_at hl 6 rfl) ?_
                refine z_iald hx hb hK hP 2 1 rfl rfl (by omega) (by decide) d_Mo_joinTwo_64 ?_
                refine lv_aload_n hx hb d_Mo_joinTwo_65 rfl (lv_at hl 2 rfl) ?_
                refine va_get (D := DD) (ci := 9) (v := .ref hwk) (C := R_Mo) (T := T_Mo) (N := 21) hx hb hg in_Mo hown hK hP 0 rfl rfl 17 (by decide) (hg _ mw_696) (fun _ h9 => h9) rfl d_Mo_joinTwo_66 ?_
                refine lv_iload hx hb d_Mo_joinTwo_69 (lv_at hl 7 rfl) ?_
                refine z_iald hx hb hK hP 2 1 rfl rfl (by omega) (by decide) d_Mo_joinTwo_71 ?_
                refine lv_icmp_gt (tgt := 79) hx hb d_Mo_joinTwo_72 (by decide) (fun c_72 => ?_) (fun c_72 => ?_)
                · refine lv_iconst (v := nI 0) hx hb d_Mo_joinTwo_79 (by decide) ?_
                  refine lv_goto (tgt := 94) hx hb d_Mo_joinTwo_80 (by decide) ?_
                  refine lv_istore (lv' := [(9, .int (nI 0)), (4, .int (nI (q + 1))), (8, .int (nI 1)), (0, .ref am), (1, .int (nI b)), (2, .int (nI mm)), (3, .int (nI ee)), (5, .int (nI a)), (6, .int (nI d)), (7, .int (nI kx))]) hx hb d_Mo_joinTwo_94 hl (by decide) rfl (fun ls hl => ?_)
                  refine lv_aload_n hx hb d_Mo_joinTwo_96 rfl (lv_at hl 3 rfl) ?_
                  refine va_get (D := DD) (ci := 9) (v := .ref hot) (C := R_Mo) (T := T_Mo) (N := 21) hx hb hg in_Mo hown hK hP 0 rfl rfl 18 (by decide) (hg _ mw_697) (fun _ h9 => h9) rfl d_Mo_joinTwo_97 ?_
                  refine lv_iload hx hb d_Mo_joinTwo_100 (lv_at hl 9 rfl) ?_
                  refine lv_iload hx hb d_Mo_joinTwo_102 (lv_at hl 0 rfl) ?_
                  refine z_if_eq (tgt := 117) hx hb d_Mo_joinTwo_104 (by decide) (by omega) (fun c_104 => ?_) (fun c_104 => ?_)
                  · refine lv_aload_n hx hb d_Mo_joinTwo_117 rfl (lv_at hl 3 rfl) ?_
                    refine va_get (D := DD) (ci := 9) (v := .ref hwk) (C := R_Mo) (T := T_Mo) (N := 21) hx hb hg in_Mo hown hK hP 0 rfl rfl 17 (by decide) (hg _ mw_696) (fun _ h9 => h9) rfl d_Mo_joinTwo_118 ?_
                    refine lv_iload hx hb d_Mo_joinTwo_121 (lv_at hl 8 rfl) ?_
                    refine z_iald hx hb hK hP 2 1 rfl rfl (by omega) (by decide) d_Mo_joinTwo_123 ?_
                    refine z_iast hx hb hK hP hD hS 3 2 rfl rfl (by omega) (by decide) d_Mo_joinTwo_124 (fun H locs hP hD hS => ?_)
                    have hP : va_P DD vwCl [(am, .inr (9, [.int (nI th), .int (nI n), .ref hk, .ref ht, .int (nI n1), .ref hk1, .ref ht1, .int (zb pb), .int (nI rn), .ref hfg, .ref hle, .ref hmo, .ref hwy, .int (nI tn), .ref htf, .long cm, .ref hod, .ref hwk, .ref hot, .int (nI ru), .ref hen])), (htf, .inl (ctf, 900, .inl tf)), (hwk, .inl (cwk, 150, .inl wk)), (hot, .inl (cot, 150, .inl (upd ox kx (wk d))))] H := hP
                    have hD : va_D A [(am, .inr (9, [.int (nI th), .int (nI n), .ref hk, .ref ht, .int (nI n1), .ref hk1, .ref ht1, .int (zb pb), .int (nI rn), .ref hfg, .ref hle, .ref hmo, .ref hwy, .int (nI tn), .ref htf, .long cm, .ref hod, .ref hwk, .ref hot, .int (nI ru), .ref hen])), (htf, .inl (ctf, 900, .inl tf)), (hwk, .inl (cwk, 150, .inl wk)), (hot, .inl (cot, 150, .inl (upd ox kx (wk d))))] := hD
                    refine lv_iload hx hb d_Mo_joinTwo_125 (lv_at hl 0 rfl) ?_
                    refine z_if_eq (tgt := 137) hx hb d_Mo_joinTwo_127 (by decide) (by omega) (fun c_127 => ?_) (fun c_127 => ?_)
                    · refine lv_iload hx hb d_Mo_joinTwo_137 (lv_at hl 7 rfl) ?_
                      refine lv_istore (lv' := [(5, .int (nI a)), (9, .int (nI 0)), (4, .int (nI (q + 1))), (8, .int (nI 1)), (0, .ref am), (1, .int (nI b)), (2, .int (nI mm)), (3, .int (nI ee)), (6, .int (nI d)), (7, .int (nI kx))]) hx hb d_Mo_joinTwo_139 hl (by decide) rfl (fun ls hl => ?_)
                      refine lv_iload hx hb d_Mo_joinTwo_141 (lv_at hl 1 rfl) ?_
                      refine z_if_eq (tgt := 151) hx hb d_Mo_joinTwo_143 (by decide) (by omega) (fun c_143 => ?_) (fun c_143 => ?_)
                      · refine lv_iload hx hb d_Mo_joinTwo_151 (lv_at hl 8 rfl) ?_
                        refine lv_iconst (v := nI 1) hx hb d_Mo_joinTwo_153 (by decide) ?_
                        refine z_iadd hx hb d_Mo_joinTwo_154 ?_
                        refine lv_istore (lv' := [(6, .int (nI (d + 1))), (5, .int (nI a)), (9, .int (nI 0)), (4, .int (nI (q + 1))), (8, .int (nI 1)), (0, .ref am), (1, .int (nI b)), (2, .int (nI mm)), (3, .int (nI ee)), (7, .int (nI kx))]) hx hb d_Mo_joinTwo_155 hl (by decide) rfl (fun ls hl => ?_)
                        refine lv_iinc (v := nI (kx + 1)) (lv' := [(7, .int (nI (kx + 1))), (6, .int (nI (d + 1))), (5, .int (nI a)), (9, .int (nI 0)), (4, .int (nI (q + 1))), (8, .int (nI 1)), (0, .ref am), (1, .int (nI b)), (2, .int (nI mm)), (3, .int (nI ee))]) hx hb d_Mo_joinTwo_157 hl (k := 9) rfl (by exact nI_add kx 1) (by decide) rfl (fun ls hl => ?_)
                        refine lv_goto (tgt := 12) hx hb d_Mo_joinTwo_160 (by decide) ?_
                        exact ih12 (fu - 1) a (d + 1) (q + 1) (kx + 1) (upd ox kx (wk d)) (by omega) (by omega) (by omega) (by omega) (by omega) (by omega) (by first | exact jM_1 hX hf hkx c_21 c_27 c_72 | exact jM_2 hX hf hkx c_21 c_27 c_72 | exact jM_3 hX hf hkx c_21 c_27 | exact jM_4 hX hf hkx c_21 (by omega) | exact absurd c_86 (by omega)) (by omega) _ _ hP hD hS ls (lv_sub hl [6, 7, 8, 9, 4, 2, 1, 0] rfl)
                      · exact absurd c_143 (by decide)
                    · exact absurd c_127 (by decide)
                  · exact absurd c_104 (by decide)
                · refine lv_iconst (v := nI 1) hx hb d_Mo_joinTwo_75 (by decide) ?_
                  refine lv_goto (tgt := 94) hx hb d_Mo_joinTwo_76 (by decide) ?_
                  refine lv_istore (lv' := [(9, .int (nI 1)), (4, .int (nI (q + 1))), (8, .int (nI 1)), (0, .ref am), (1, .int (nI b)), (2, .int (nI mm)), (3, .int (nI ee)), (5, .int (nI a)), (6, .int (nI d)), (7, .int (nI kx))]) hx hb d_Mo_joinTwo_94 hl (by decide) rfl (fun ls hl => ?_)
                  refine lv_aload_n hx hb d_Mo_joinTwo_96 rfl (lv_at hl 3 rfl) ?_
                  refine va_get (D := DD) (ci := 9) (v := .ref hot) (C := R_Mo) (T := T_Mo) (N := 21) hx hb hg in_Mo hown hK hP 0 rfl rfl 18 (by decide) (hg _ mw_697) (fun _ h9 => h9) rfl d_Mo_joinTwo_97 ?_
                  refine lv_iload hx hb d_Mo_joinTwo_100 (lv_at hl 9 rfl) ?_
                  refine lv_iload hx hb d_Mo_joinTwo_102 (lv_at hl 0 rfl) ?_
                  refine z_if_eq (tgt := 117) hx hb d_Mo_joinTwo_104 (by decide) (by omega) (fun c_104 => ?_) (fun c_104 => ?_)
                  · exact absurd c_104 (by decide)
                  · refine lv_aload_n hx hb d_Mo_joinTwo_107 rfl (lv_at hl 3 rfl) ?_
                    refine va_get (D := DD) (ci := 9) (v := .ref hwk) (C := R_Mo) (T := T_Mo) (N := 21) hx hb hg in_Mo hown hK hP 0 rfl rfl 17 (by decide) (hg _ mw_696) (fun _ h9 => h9) rfl d_Mo_joinTwo_108 ?_
                    refine lv_iload hx hb d_Mo_joinTwo_111 (lv_at hl 7 rfl) ?_
                    refine z_iald hx hb hK hP 2 1 rfl rfl (by omega) (by decide) d_Mo_joinTwo_113 ?_
                    refine lv_goto (tgt := 124) hx hb d_Mo_joinTwo_114 (by decide) ?_
                    refine z_iast hx hb hK hP hD hS 3 2 rfl rfl (by omega) (by decide) d_Mo_joinTwo_124 (fun H locs hP hD hS => ?_)
                    have hP : va_P DD vwCl [(am, .inr (9, [.int (nI th), .int (nI n), .ref hk, .ref ht, .int (nI n1), .ref hk1, .ref ht1, .int (zb pb), .int (nI rn), .ref hfg, .ref hle, .ref hmo, .ref hwy, .int (nI tn), .ref htf, .long cm, .ref hod, .ref hwk, .ref hot, .int (nI ru), .ref hen])), (htf, .inl (ctf, 900, .inl tf)), (hwk, .inl (cwk, 150, .inl wk)), (hot, .inl (cot, 150, .inl (upd ox kx (wk a))))] H := hP
                    have hD : va_D A [(am, .inr (9, [.int (nI th), .int (nI n), .ref hk, .ref ht, .int (nI n1), .ref hk1, .ref ht1, .int (zb pb), .int (nI rn), .ref hfg, .ref hle, .ref hmo, .ref hwy, .int (nI tn), .ref htf, .long cm, .ref hod, .ref hwk, .ref hot, .int (nI ru), .ref hen])), (htf, .inl (ctf, 900, .inl tf)), (hwk, .inl (cwk, 150, .inl wk)), (hot, .inl (cot, 150, .inl (upd ox kx (wk a))))] := hD
                    refine lv_iload hx hb d_Mo_joinTwo_125 (lv_at hl 0 rfl) ?_
                    refine z_if_eq (tgt := 137) hx hb d_Mo_joinTwo_127 (by decide) (by omega) (fun c_127 => ?_) (fun c_127 => ?_)
                    · exact absurd c_127 (by decide)
                    · refine lv_iload hx hb d_Mo_joinTwo_130 (lv_at hl 7 rfl) ?_
                      refine lv_iconst (v := nI 1) hx hb d_Mo_joinTwo_132 (by decide) ?_
                      refine z_iadd hx hb d_Mo_joinTwo_133 ?_
                      refine lv_goto (tgt := 139) hx hb d_Mo_joinTwo_134 (by decide) ?_
                      refine lv_istore (lv' := [(5, .int (nI (a + 1))), (9, .int (nI 1)), (4, .int (nI (q + 1))), (8, .int (nI 1)), (0, .ref am), (1, .int (nI b)), (2, .int (nI mm)), (3, .int (nI ee)), (6, .int (nI d)), (7, .int (nI kx))]) hx hb d_Mo_joinTwo_139 hl (by decide) rfl (fun ls hl => ?_)
                      refine lv_iload hx hb d_Mo_joinTwo_141 (lv_at hl 1 rfl) ?_
                      refine z_if_eq (tgt := 151) hx hb d_Mo_joinTwo_143 (by decide) (by omega) (fun c_143 => ?_) (fun c_143 => ?_)
                      · exact absurd c_143 (by decide)
                      · refine lv_iload hx hb d_Mo_joinTwo_146 (lv_at hl 8 rfl) ?_
                        refine lv_goto (tgt := 155) hx hb d_Mo_joinTwo_148 (by decide) ?_
                        refine lv_istore (lv' := [(6, .int (nI d)), (5, .int (nI (a + 1))), (9, .int (nI 1)), (4, .int (nI (q + 1))), (8, .int (nI 1)), (0, .ref am), (1, .int (nI b)), (2, .int (nI mm)), (3, .int (nI ee)), (7, .int (nI kx))]) hx hb d_Mo_joinTwo_155 hl (by decide) rfl (fun ls hl => ?_)
                        refine lv_iinc (v := nI (kx + 1)) (lv' := [(7, .int (nI (kx + 1))), (6, .int (nI d)), (5, .int (nI (a + 1))), (9, .int (nI 1)), (4, .int (nI (q + 1))), (8, .int (nI 1)), (0, .ref am), (1, .int (nI b)), (2, .int (nI mm)), (3, .int (nI ee))]) hx hb d_Mo_joinTwo_157 hl (k := 9) rfl (by exact nI_add kx 1) (by decide) rfl (fun ls hl => ?_)
                        refine lv_goto (tgt := 12) hx hb d_Mo_joinTwo_160 (by decide) ?_
                        exact ih12 (fu - 1) (a + 1) d (q + 1) (kx + 1) (upd ox kx (wk a)) (by omega) (by omega) (by omega) (by omega) (by omega) (by omega) (by first | exact jM_1 hX hf hkx c_21 c_27 c_72 | exact jM_2 hX hf hkx c_21 c_27 c_72 | exact jM_3 hX hf hkx c_21 c_27 | exact jM_4 hX hf hkx c_21 (by omega) | exact absurd c_86 (by omega)) (by omega) _ _ hP hD hS ls (lv_sub hl [6, 7, 8, 9, 4, 2, 1, 0] rfl)
  refine lv_iconst (v := nI 0) hx hb d_Mo_joinTwo_0 (by decide) ?_
  refine lv_istore (lv' := [(4, .int (nI 0)), (0, .ref am), (1, .int (nI b)), (2, .int (nI mm)), (3, .int (nI ee))]) hx hb d_Mo_joinTwo_1 hl (by decide) rfl (fun ls hl => ?_)
  refine lv_iload_n hx hb d_Mo_joinTwo_3 rfl (lv_at hl 2 rfl) ?_
  refine lv_istore (lv' := [(5, .int (nI b)), (4, .int (nI 0)), (0, .ref am), (1, .int (nI b)), (2, .int (nI mm)), (3, .int (nI ee))]) hx hb d_Mo_joinTwo_4 hl (by decide) rfl (fun ls hl => ?_)
  refine lv_iload_n hx hb d_Mo_joinTwo_6 rfl (lv_at hl 4 rfl) ?_
  refine lv_istore (lv' := [(6, .int (nI mm)), (5, .int (nI b)), (4, .int (nI 0)), (0, .ref am), (1, .int (nI b)), (2, .int (nI mm)), (3, .int (nI ee))]) hx hb d_Mo_joinTwo_7 hl (by decide) rfl (fun ls hl => ?_)
  refine lv_iload_n hx hb d_Mo_joinTwo_9 rfl (lv_at hl 4 rfl) ?_
  refine lv_istore (lv' := [(7, .int (nI b)), (6, .int (nI mm)), (5, .int (nI b)), (4, .int (nI 0)), (0, .ref am), (1, .int (nI b)), (2, .int (nI mm)), (3, .int (nI ee))]) hx hb d_Mo_joinTwo_10 hl (by decide) rfl (fun ls hl => ?_)
  exact K12 _ (ee - b) b mm 0 b ot (by omega) (by omega) (by omega) (by omega) (by omega) (by omega) (by rfl) (Nat.lt_succ_self _) _ _ hP hD hS ls (lv_sub hl [4, 5, 6, 7, 3, 2, 1, 0] rfl)
theorem d_Mo_tellCounting_0 : decode b_Mo_tellCounting 0 = .ok (.aload_n 0, 1) := by decide +kernel
theorem d_Mo_tellCounting_1 : decode b_Mo_tellCounting 1 = .ok (.invokevirtual 114, 3) := by decide +kernel
theorem d_Mo_tellCounting_4 : decode b_Mo_tellCounting 4 = .ok (.iconst 0, 1) := by decide +kernel
theorem d_Mo_tellCounting_5 : decode b_Mo_tellCounting 5 = .ok (.istore_n 1, 1) := by decide +kernel
theorem d_Mo_tellCounting_6 : decode b_Mo_tellCounting 6 = .ok (.iload_n 1, 1) := by decide +kernel
theorem d_Mo_tellCounting_7 : decode b_Mo_tellCounting 7 = .ok (.aload_n 0, 1) := by decide +kernel
theorem d_Mo_tellCounting_8 : decode b_Mo_tellCounting 8 = .ok (.getfield 54, 3) := by decide +kernel
theorem d_Mo_tellCounting_11 : decode b_Mo_tellCounting 11 = .ok (.if_icmp .ge 113, 3) := by decide +kernel
theorem d_Mo_tellCounting_14 : decode b_Mo_tellCounting 14 = .ok (.aload_n 0, 1) := by decide +kernel
theorem d_Mo_tellCounting_15 : decode b_Mo_tellCounting 15 = .ok (.getfield 44, 3) := by decide +kernel
theorem d_Mo_tellCounting_18 : decode b_Mo_tellCounting 18 = .ok (.iload_n 1, 1) := by decide +kernel
theorem d_Mo_tellCounting_19 : decode b_Mo_tellCounting 19 = .ok (.iaload, 1) := by decide +kernel
theorem d_Mo_tellCounting_20 : decode b_Mo_tellCounting 20 = .ok (.istore_n 2, 1) := by decide +kernel
theorem d_Mo_tellCounting_21 : decode b_Mo_tellCounting 21 = .ok (.iconst 0, 1) := by decide +kernel
theorem d_Mo_tellCounting_22 : decode b_Mo_tellCounting 22 = .ok (.istore_n 3, 1) := by decide +kernel
theorem d_Mo_tellCounting_23 : decode b_Mo_tellCounting 23 = .ok (.iconst 0, 1) := by decide +kernel
theorem d_Mo_tellCounting_24 : decode b_Mo_tellCounting 24 = .ok (.istore 4, 2) := by decide +kernel
theorem d_Mo_tellCounting_26 : decode b_Mo_tellCounting 26 = .ok (.iconst 0, 1) := by decide +kernel
theorem d_Mo_tellCounting_27 : decode b_Mo_tellCounting 27 = .ok (.istore 5, 2) := by decide +kernel
theorem d_Mo_tellCounting_29 : decode b_Mo_tellCounting 29 = .ok (.iload 5, 2) := by decide +kernel
theorem d_Mo_tellCounting_31 : decode b_Mo_tellCounting 31 = .ok (.aload_n 0, 1) := by decide +kernel
theorem d_Mo_tellCounting_32 : decode b_Mo_tellCounting 32 = .ok (.getfield 54, 3) := by decide +kernel
theorem d_Mo_tellCounting_35 : decode b_Mo_tellCounting 35 = .ok (.if_icmp .ge 60, 3) := by decide +kernel
theorem d_Mo_tellCounting_38 : decode b_Mo_tellCounting 38 = .ok (.aload_n 0, 1) := by decide +kernel
theorem d_Mo_tellCounting_39 : decode b_Mo_tellCounting 39 = .ok (.getfield 7, 3) := by decide +kernel
theorem d_Mo_tellCounting_42 : decode b_Mo_tellCounting 42 = .ok (.iload 5, 2) := by decide +kernel
theorem d_Mo_tellCounting_44 : decode b_Mo_tellCounting 44 = .ok (.iaload, 1) := by decide +kernel
theorem d_Mo_tellCounting_45 : decode b_Mo_tellCounting 45 = .ok (.aload_n 0, 1) := by decide +kernel
theorem d_Mo_tellCounting_46 : decode b_Mo_tellCounting 46 = .ok (.getfield 7, 3) := by decide +kernel
theorem d_Mo_tellCounting_49 : decode b_Mo_tellCounting 49 = .ok (.iload_n 2, 1) := by decide +kernel
theorem d_Mo_tellCounting_50 : decode b_Mo_tellCounting 50 = .ok (.iaload, 1) := by decide +kernel
theorem d_Mo_tellCounting_51 : decode b_Mo_tellCounting 51 = .ok (.if_icmp .ne 9, 3) := by decide +kernel
theorem d_Mo_tellCounting_54 : decode b_Mo_tellCounting 54 = .ok (.iload_n 3, 1) := by decide +kernel
theorem d_Mo_tellCounting_55 : decode b_Mo_tellCounting 55 = .ok (.iconst 1, 1) := by decide +kernel
theorem d_Mo_tellCounting_56 : decode b_Mo_tellCounting 56 = .ok (.iadd, 1) := by decide +kernel
theorem d_Mo_tellCounting_57 : decode b_Mo_tellCounting 57 = .ok (.goto 4, 3) := by decide +kernel
theorem d_Mo_tellCounting_60 : decode b_Mo_tellCounting 60 = .ok (.iload_n 3, 1) := by decide +kernel
theorem d_Mo_tellCounting_61 : decode b_Mo_tellCounting 61 = .ok (.istore_n 3, 1) := by decide +kernel
theorem d_Mo_tellCounting_62 : decode b_Mo_tellCounting 62 = .ok (.aload_n 0, 1) := by decide +kernel
theorem d_Mo_tellCounting_63 : decode b_Mo_tellCounting 63 = .ok (.getfield 7, 3) := by decide +kernel
theorem d_Mo_tellCounting_66 : decode b_Mo_tellCounting 66 = .ok (.iload 5, 2) := by decide +kernel
theorem d_Mo_tellCounting_68 : decode b_Mo_tellCounting 68 = .ok (.iaload, 1) := by decide +kernel
theorem d_Mo_tellCounting_69 : decode b_Mo_tellCounting 69 = .ok (.aload_n 0, 1) := by decide +kernel
theorem d_Mo_tellCounting_70 : decode b_Mo_tellCounting 70 = .ok (.getfield 7, 3) := by decide +kernel
theorem d_Mo_tellCounting_73 : decode b_Mo_tellCounting 73 = .ok (.iload_n 2, 1) := by decide +kernel
theorem d_Mo_tellCounting_74 : decode b_Mo_tellCounting 74 = .ok (.iaload, 1) := by decide +kernel
theorem d_Mo_tellCounting_75 : decode b_Mo_tellCounting 75 = .ok (.if_icmp .ge 10, 3) := by decide +kernel
theorem d_Mo_tellCounting_78 : decode b_Mo_tellCounting 78 = .ok (.iload 4, 2) := by decide +kernel
theorem d_Mo_tellCounting_80 : decode b_Mo_tellCounting 80 = .ok (.iconst 1, 1) := by decide +kernel
theorem d_Mo_tellCounting_81 : decode b_Mo_tellCounting 81 = .ok (.iadd, 1) := by decide +kernel
theorem d_Mo_tellCounting_82 : decode b_Mo_tellCounting 82 = .ok (.goto 5, 3) := by decide +kernel
theorem d_Mo_tellCounting_85 : decode b_Mo_tellCounting 85 = .ok (.iload 4, 2) := by decide +kernel
theorem d_Mo_tellCounting_87 : decode b_Mo_tellCounting 87 = .ok (.istore 4, 2) := by decide +kernel
theorem d_Mo_tellCounting_89 : decode b_Mo_tellCounting 89 = .ok (.iinc 5 1, 3) := by decide +kernel
theorem d_Mo_tellCounting_92 : decode b_Mo_tellCounting 92 = .ok (.goto (-63), 3) := by decide +kernel
theorem d_Mo_tellCounting_95 : decode b_Mo_tellCounting 95 = .ok (.iload 4, 2) := by decide +kernel
theorem d_Mo_tellCounting_97 : decode b_Mo_tellCounting 97 = .ok (.iload_n 1, 1) := by decide +kernel
theorem d_Mo_tellCounting_98 : decode b_Mo_tellCounting 98 = .ok (.if_icmp .ne 20, 3) := by decide +kernel
theorem d_Mo_tellCounting_101 : decode b_Mo_tellCounting 101 = .ok (.iload_n 3, 1) := by decide +kernel
theorem d_Mo_tellCounting_102 : decode b_Mo_tellCounting 102 = .ok (.iconst 1, 1) := by decide +kernel
theorem d_Mo_tellCounting_103 : decode b_Mo_tellCounting 103 = .ok (.if_icmp .le 15, 3) := by decide +kernel
theorem d_Mo_tellCounting_106 : decode b_Mo_tellCounting 106 = .ok (.aload_n 0, 1) := by decide +kernel
theorem d_Mo_tellCounting_107 : decode b_Mo_tellCounting 107 = .ok (.iconst 3, 1) := by decide +kernel
theorem d_Mo_tellCounting_108 : decode b_Mo_tellCounting 108 = .ok (.aload_n 0, 1) := by decide +kernel
theorem d_Mo_tellCounting_109 : decode b_Mo_tellCounting 109 = .ok (.getfield 7, 3) := by decide +kernel
theorem d_Mo_tellCounting_112 : decode b_Mo_tellCounting 112 = .ok (.iload_n 2, 1) := by decide +kernel
theorem d_Mo_tellCounting_113 : decode b_Mo_tellCounting 113 = .ok (.iaload, 1) := by decide +kernel
theorem d_Mo_tellCounting_114 : decode b_Mo_tellCounting 114 = .ok (.iload_n 3, 1) := by decide +kernel
theorem d_Mo_tellCounting_115 : decode b_Mo_tellCounting 115 = .ok (.invokevirtual 104, 3) := by decide +kernel
theorem d_Mo_tellCounting_118 : decode b_Mo_tellCounting 118 = .ok (.iinc 1 1, 3) := by decide +kernel
theorem d_Mo_tellCounting_121 : decode b_Mo_tellCounting 121 = .ok (.goto (-115), 3) := by decide +kernel
theorem d_Mo_tellCounting_124 : decode b_Mo_tellCounting 124 = .ok (.return_, 1) := by decide +kernel
abbrev ws_Mo_tellCounting : List Cond := .code y_Mo_tellCounting b_Mo_tellCounting 6 none :: ALLG
abbrev rm_Mo_tellCounting : Room := { frames := 1, cells := 0, slots := 0, locals := 23 }
set_option maxHeartbeats 4000000 in
set_option maxRecDepth 100000 in
theorem c_Mo_tellCounting (l : Launch) (DD : va_G) (sz : Nat) (am : Nat) (th : Nat) (n : Nat) (hk : Nat) (ck : ClassId) (k : Nat → Int32) (ht : Nat) (n1 : Nat) (hk1 : Nat) (ht1 : Nat) (pb : Bool) (rn : Nat) (hfg : Nat) (hle : Nat) (hmo : Nat) (hwy : Nat) (tn : Nat) (htf : Nat) (ctf : ClassId) (tf : Nat → Int32) (cm : Int64) (hod : Nat) (hwk : Nat) (hot : Nat) (cot : ClassId) (ot : Nat → Int32) (ru : Nat) (hen : Nat) (hn : n ≤ 150) (htn : tn + n ≤ 150) : Met l y_Mo_tellCounting ws_Mo_tellCounting rm_Mo_tellCounting (va_Pc [.ref am] (fun U => U.heap.size = sz ∧ va_P DD vwCl [(am, .inr (9, [.int (nI th), .int (nI n), .ref hk, .ref ht, .int (nI n1), .ref hk1, .ref ht1, .int (zb pb), .int (nI rn), .ref hfg, .ref hle, .ref hmo, .ref hwy, .int (nI tn), .ref htf, .long cm, .ref hod, .ref hwk, .ref hot, .int (nI ru), .ref hen])), (hk, .inl (ck, 150, .inl k)), (htf, .inl (ctf, 900, .inl tf)), (hot, .inl (cot, 150, .inl ot))] U.heap ∧ va_K DD vwCl [(ck, .int), (ctf, .int), (cot, .int)] U ∧ va_D (fun _ => True) [(am, .inr (9, [.int (nI th), .int (nI n), .ref hk, .ref ht, .int (nI n1), .ref hk1, .ref ht1, .int (zb pb), .int (nI rn), .ref hfg, .ref hle, .ref hmo, .ref hwy, .int (nI tn), .ref htf, .long cm, .ref hod, .ref hwk, .ref hot, .int (nI ru), .ref hen])), (hk, .inl (ck, 150, .inl k)), (htf, .inl (ctf, 900, .inl tf)), (hot, .inl (cot, 150, .inl ot))])) (va_Qv (fun (u9 : Unit) => match u9 with | _ => True) (fun (u9 : Unit) (t9 : State) => match u9 with | _ => va_P DD vwCl [(am, .inr (9, [.int (nI th), .int (nI n), .ref hk, .ref ht, .int (nI n1), .ref hk1, .ref ht1, .int (zb pb), .int (nI rn), .ref hfg, .ref hle, .ref hmo, .ref hwy, .int (nI (tcN k n tn n)), .ref htf, .long cm, .ref hod, .ref hwk, .ref hot, .int (nI ru), .ref hen])), (hk, .inl (ck, 150, .inl k)), (htf, .inl (ctf, 900, .inl (tcF k n tn tf n))), (hot, .inl (cot, 150, .inl (foF k n ot n)))] t9.heap ∧ va_K DD vwCl [(ck, .int), (ctf, .int), (cot, .int)] t9 ∧ va_D (va_A [(am, .inr (9, [.int (nI th), .int (nI n), .ref hk, .ref ht, .int (nI n1), .ref hk1, .ref ht1, .int (zb pb), .int (nI rn), .ref hfg, .ref hle, .ref hmo, .ref hwy, .int (nI tn), .ref htf, .long cm, .ref hod, .ref hwk, .ref hot, .int (nI ru), .ref hen])), (hk, .inl (ck, 150, .inl k)), (htf, .inl (ctf, 900, .inl tf)), (hot, .inl (cot, 150, .inl ot))] sz) [(am, .inr (9, [.int (nI th), .int (nI n), .ref hk, .ref ht, .int (nI n1), .ref hk1, .ref ht1, .int (zb pb), .int (nI rn), .ref hfg, .ref hle, .ref hmo, .ref hwy, .int (nI (tcN k n tn n)), .ref htf, .long cm, .ref hod, .ref hwk, .ref hot, .int (nI ru), .ref hen])), (hk, .inl (ck, 150, .inl k)), (htf, .inl (ctf, 900, .inl (tcF k n tn tf n))), (hot, .inl (cot, 150, .inl (foF k n ot n)))]) (va_A [(am, .inr (9, [.int (nI th), .int (nI n), .ref hk, .ref ht, .int (nI n1), .ref hk1, .ref ht1, .int (zb pb), .int (nI rn), .ref hfg, .ref hle, .ref hmo, .ref hwy, .int (nI tn), .ref htf, .long cm, .ref hod, .ref hwk, .ref hot, .int (nI ru), .ref hen])), (hk, .inl (ck, 150, .inl k)), (htf, .inl (ctf, 900, .inl tf)), (hot, .inl (cot, 150, .inl ot))] sz)) 0 0 (va_A [(am, .inr (9, [.int (nI th), .int (nI n), .ref hk, .ref ht, .int (nI n1), .ref hk1, .ref ht1, .int (zb pb), .int (nI rn), .ref hfg, .ref hle, .ref hmo, .ref hwy, .int (nI tn), .ref htf, .long cm, .ref hod, .ref hwk, .ref hot, .int (nI ru), .ref hen])), (hk, .inl (ck, 150, .inl k)), (htf, .inl (ctf, 900, .inl tf)), (hot, .inl (cot, 150, .inl ot))] sz) := by
  refine Met.ofW (cc := b_Mo_tellCounting) (maxL := 6) (ret := none) (by decide) rfl ?_
  intro p e s m args below meth c s₁ B hml hv
  obtain ⟨ha, hsz, hP, hK, hD0⟩ := hv
  have hx := B.exec
  have hb := B.bytes
  have hr := B.returns
  have hts := atoms_spec (ws := ws_Mo_tellCounting) B.pre
  have hg : ∀ w ∈ ALLG, w.before args s = true := fun w h => hts w (List.mem_cons_of_mem _ h)
  have hown : s.vm.findClass R_Mo = some m.cls := findClass_of_methodNamed B.named
  have hlocks := B.notSynchronized
  subst hsz
  have hD := hD0.self (sz := s.heap.size)
  generalize hAe : va_A [(am, .inr (9, [.int (nI th), .int (nI n), .ref hk, .ref ht, .int (nI n1), .ref hk1, .ref ht1, .int (zb pb), .int (nI rn), .ref hfg, .ref hle, .ref hmo, .ref hwy, .int (nI tn), .ref htf, .long cm, .ref hod, .ref hwk, .ref hot, .int (nI ru), .ref hen])), (hk, .inl (ck, 150, .inl k)), (htf, .inl (ctf, 900, .inl tf)), (hot, .inl (cot, 150, .inl ot))] s.heap.size = A at hD ⊢
  have hA : ∀ q : Nat, s.heap.size ≤ q → A q := fun q h => by rw [← hAe]; exact Or.inr h
  have hS : va_S A s.heap s.heap [] := va_S.rf
  have hP : va_P DD vwCl [(am, .inr (9, [.int (nI th), .int (nI n), .ref hk, .ref ht, .int (nI n1), .ref hk1, .ref ht1, .int (zb pb), .int (nI rn), .ref hfg, .ref hle, .ref hmo, .ref hwy, .int (nI tn), .ref htf, .long cm, .ref hod, .ref hwk, .ref hot, .int (nI ru), .ref hen])), (hk, .inl (ck, 150, .inl k)), (htf, .inl (ctf, 900, .inl tf)), (hot, .inl (cot, 150, .inl ot))] s.heap := hP
  have hl := lv_entry ([.ref am]) (n := 6) (Nat.le_of_ble_eq_true rfl)
  rw [ha, lg_entry_eq, ← ha]
  generalize (lg_sl ([.ref am]) ++ List.replicate (6 - (lg_sl ([.ref am])).length) Slot.unset).toArray = ls at hl ⊢
  have hl : lv_has ls 6 [(0, .ref am)] := hl
  have K6 : ∀ (kk : Nat) (i : Nat), (hi : i ≤ n) → n - i < kk → ∀ (H : Heap) (locs : List Loc), va_P DD vwCl [(am, .inr (9, [.int (nI th), .int (nI n), .ref hk, .ref ht, .int (nI n1), .ref hk1, .ref ht1, .int (zb pb), .int (nI rn), .ref hfg, .ref hle, .ref hmo, .ref hwy, .int (nI (tcN k n tn i)), .ref htf, .long cm, .ref hod, .ref hwk, .ref hot, .int (nI ru), .ref hen])), (hk, .inl (ck, 150, .inl k)), (htf, .inl (ctf, 900, .inl (tcF k n tn tf i))), (hot, .inl (cot, 150, .inl (foF k n ot n)))] H → va_D A [(am, .inr (9, [.int (nI th), .int (nI n), .ref hk, .ref ht, .int (nI n1), .ref hk1, .ref ht1, .int (zb pb), .int (nI rn), .ref hfg, .ref hle, .ref hmo, .ref hwy, .int (nI (tcN k n tn i)), .ref htf, .long cm, .ref hod, .ref hwk, .ref hot, .int (nI ru), .ref hen])), (hk, .inl (ck, 150, .inl k)), (htf, .inl (ctf, 900, .inl (tcF k n tn tf i))), (hot, .inl (cot, 150, .inl (foF k n ot n)))] → va_S A s.heap H locs → ∀ (ls : Array Slot), lv_has ls 6 [(0, .ref am), (1, .int (nI i))] → W p l e (headSpec ws_Mo_tellCounting rm_Mo_tellCounting).room s m args below meth c H locs 0 0 (MQ below (va_Qv (fun (u9 : Unit) => match u9 with | _ => True) (fun (u9 : Unit) (t9 : State) => match u9 with | _ => va_P DD vwCl [(am, .inr (9, [.int (nI th), .int (nI n), .ref hk, .ref ht, .int (nI n1), .ref hk1, .ref ht1, .int (zb pb), .int (nI rn), .ref hfg, .ref hle, .ref hmo, .ref hwy, .int (nI (tcN k n tn n)), .ref htf, .long cm, .ref hod, .ref hwk, .ref hot, .int (nI ru), .ref hen])), (hk, .inl (ck, 150, .inl k)), (htf, .inl (ctf, 900, .inl (tcF k n tn tf n))), (hot, .inl (cot, 150, .inl (foF k n ot n)))] t9.heap ∧ va_K DD vwCl [(ck, .int), (ctf, .int), (cot, .int)] t9 ∧ va_D A [(am, .inr (9, [.int (nI th), .int (nI n), .ref hk, .ref ht, .int (nI n1), .ref hk1, .ref ht1, .int (zb pb), .int (nI rn), .ref hfg, .ref hle, .ref hmo, .ref hwy, .int (nI (tcN k n tn n)), .ref htf, .long cm, .ref hod, .ref hwk, .ref hot, .int (nI ru), .ref hen])), (hk, .inl (ck, 150, .inl k)), (htf, .inl (ctf, 900, .inl (tcF k n tn tf n))), (hot, .inl (cot, 150, .inl (foF k n ot n)))]) A) args s 0 0 A) (F0 m 6 ls []) := by
    intro kk
    induction kk with
    | zero => intros; omega
    | succ kk ih6 =>
      intro i hi hkk H locs hP hD hS ls hl
      have K29 : ∀ (kk : Nat) (j : Nat) (mn : Nat) (bf : Nat), (hlt : i < n) → (hodn : odF (kI k) n i < n) → (hj : j ≤ n) → (hmn : mn = cnt (eqB k (k (odF (kI k) n i))) j) → (hbf : bf = cnt (ltB k (k (odF (kI k) n i))) j) → n - j < kk → ∀ (ls : Array Slot), lv_has ls 6 [(0, .ref am), (1, .int (nI i)), (2, .int (nI (odF (kI k) n i))), (3, .int (nI mn)), (4, .int (nI bf)), (5, .int (nI j))] → W p l e (headSpec ws_Mo_tellCounting rm_Mo_tellCounting).room s m args below meth c H locs 0 0 (MQ below (va_Qv (fun (u9 : Unit) => match u9 with | _ => True) (fun (u9 : Unit) (t9 : State) => match u9 with | _ => va_P DD vwCl [(am, .inr (9, [.int (nI th), .int (nI n), .ref hk, .ref ht, .int (nI n1), .ref hk1, .ref ht1, .int (zb pb), .int (nI rn), .ref hfg, .ref hle, .ref hmo, .ref hwy, .int (nI (tcN k n tn n)), .ref htf, .long cm, .ref hod, .ref hwk, .ref hot, .int (nI ru), .ref hen])), (hk, .inl (ck, 150, .inl k)), (htf, .inl (ctf, 900, .inl (tcF k n tn tf n))), (hot, .inl (cot, 150, .inl (foF k n ot n)))] t9.heap ∧ va_K DD vwCl [(ck, .int), (ctf, .int), (cot, .int)] t9 ∧ va_D A [(am, .inr (9, [.int (nI th), .int (nI n), .ref hk, .ref ht, .int (nI n1), .ref hk1, .ref ht1, .int (zb pb), .int (nI rn), .ref hfg, .ref hle, .ref hmo, .ref hwy, .int (nI (tcN k n tn n)), .ref htf, .long cm, .ref hod, .ref hwk, .ref hot, .int (nI ru), .ref hen])), (hk, .inl (ck, 150, .inl k)), (htf, .inl (ctf, 900, .inl (tcF k n tn tf n))), (hot, .inl (cot, 150, .inl (foF k n ot n)))]) A) args s 0 0 A) (F0 m 29 ls []) := by
        intro kk
        induction kk with
        | zero => intros; omega
        | succ kk ih29 =>
          intro j mn bf hlt hodn hj hmn hbf hkk ls hl
          refine lv_iload hx hb d_Mo_tellCounting_29 (lv_at hl 5 rfl) ?_
          refine lv_aload_n hx hb d_Mo_tellCounting_31 rfl (lv_at hl 0 rfl) ?_
          refine va_get (D := DD) (ci := 9) (v := .int (nI n)) (C := R_Mo) (T := T_Mo) (N := 21) hx hb hg in_Mo hown hK hP 0 rfl rfl 1 (by decide) (hg _ mw_680) (fun _ h9 => h9) rfl d_Mo_tellCounting_32 ?_
          refine z_icmp_ge (tgt := 95) hx hb d_Mo_tellCounting_35 (by decide) (by omega) (by omega) (fun c_35 => ?_) (fun c_35 => ?_)
          · have hl1 := cnt_le (eqB k (k (odF (kI k) n i))) n
            have hl2 := cnt_le (ltB k (k (odF (kI k) n i))) n
            have hjn : j = n := Nat.le_antisymm hj c_35
            rw [hjn] at hmn hbf
            have htl := tcN_le k n tn i
            refine lv_iload hx hb d_Mo_tellCounting_95 (lv_at hl 4 rfl) ?_
            refine lv_iload_n hx hb d_Mo_tellCounting_97 rfl (lv_at hl 1 rfl) ?_
            refine z_icmp_ne (tgt := 118) hx hb d_Mo_tellCounting_98 (by decide) (by omega) (by omega) (fun c_98 => ?_) (fun c_98 => ?_)
            · rw [show tcF k n tn tf i = tcF k n tn tf (i + 1) from by rw [tcF, if_neg (by first | rw [tcB_f2 (by rw [← hmn]; exact c_103)]; decide | rw [tcB_f1 (by rw [← hbf]; exact c_98)]; decide)]] at hP hD
              rw [show nI (tcN k n tn i) = nI (tcN k n tn (i + 1)) from by rw [tcN, if_neg (by first | rw [tcB_f2 (by rw [← hmn]; exact c_103)]; decide | rw [tcB_f1 (by rw [← hbf]; exact c_98)]; decide)]] at hP hD
              refine lv_iinc (v := nI (i + 1)) (lv' := [(1, .int (nI (i + 1))), (0, .ref am), (2, .int (nI (odF (kI k) n i))), (3, .int (nI mn)), (4, .int (nI bf)), (5, .int (nI j))]) hx hb d_Mo_tellCounting_118 hl (k := 1) rfl (by exact nI_add i 1) (by decide) rfl (fun ls hl => ?_)
              refine lv_goto (tgt := 6) hx hb d_Mo_tellCounting_121 (by decide) ?_
              exact ih6 (i + 1) (by omega) (by omega) _ _ hP hD hS ls (lv_sub hl [1, 0] rfl)
            · refine lv_iload_n hx hb d_Mo_tellCounting_101 rfl (lv_at hl 3 rfl) ?_
              refine lv_iconst (v := nI 1) hx hb d_Mo_tellCounting_102 (by decide) ?_
              refine z_icmp_le (tgt := 118) hx hb d_Mo_tellCounting_103 (by decide) (by omega) (by omega) (fun c_103 => ?_) (fun c_103 => ?_)
              · rw [show tcF k n tn tf i = tcF k n tn tf (i + 1) from by rw [tcF, if_neg (by first | rw [tcB_f2 (by rw [← hmn]; exact c_103)]; decide | rw [tcB_f1 (by rw [← hbf]; exact c_98)]; decide)]] at hP hD
                rw [show nI (tcN k n tn i) = nI (tcN k n tn (i + 1)) from by rw [tcN, if_neg (by first | rw [tcB_f2 (by rw [← hmn]; exact c_103)]; decide | rw [tcB_f1 (by rw [← hbf]; exact c_98)]; decide)]] at hP hD
                refine lv_iinc (v := nI (i + 1)) (lv' := [(1, .int (nI (i + 1))), (0, .ref am), (2, .int (nI (odF (kI k) n i))), (3, .int (nI mn)), (4, .int (nI bf)), (5, .int (nI j))]) hx hb d_Mo_tellCounting_118 hl (k := 1) rfl (by exact nI_add i 1) (by decide) rfl (fun ls hl => ?_)
                refine lv_goto (tgt := 6) hx hb d_Mo_tellCounting_121 (by decide) ?_
                exact ih6 (i + 1) (by omega) (by omega) _ _ hP hD hS ls (lv_sub hl [1, 0] rfl)
              · refine lv_aload_n hx hb d_Mo_tellCounting_106 rfl (lv_at hl 0 rfl) ?_
                refine lv_iconst (v := nI 3) hx hb d_Mo_tellCounting_107 (by decide) ?_
                refine lv_aload_n hx hb d_Mo_tellCounting_108 rfl (lv_at hl 0 rfl) ?_
                refine va_get (D := DD) (ci := 9) (v := .ref hk) (C := R_Mo) (T := T_Mo) (N := 21) hx hb hg in_Mo hown hK hP 0 rfl rfl 2 (by decide) (hg _ mw_681) (fun _ h9 => h9) rfl d_Mo_tellCounting_109 ?_
                refine lv_iload_n hx hb d_Mo_tellCounting_112 rfl (lv_at hl 2 rfl) ?_
                refine z_iald hx hb hK hP 1 0 rfl rfl (by omega) (by decide) d_Mo_tellCounting_113 ?_
                refine lv_iload_n hx hb d_Mo_tellCounting_114 rfl (lv_at hl 3 rfl) ?_
                have hPc := hP.sub (ws' := [(am, .inr (9, [.int (nI th), .int (nI n), .ref hk, .ref ht, .int (nI n1), .ref hk1, .ref ht1, .int (zb pb), .int (nI rn), .ref hfg, .ref hle, .ref hmo, .ref hwy, .int (nI (tcN k n tn i)), .ref htf, .long cm, .ref hod, .ref hwk, .ref hot, .int (nI ru), .ref hen])), (htf, .inl (ctf, 900, .inl (tcF k n tn tf i)))]) [0, 2] rfl
                have hKc := hK.sub (tys' := [(ctf, .int)]) [1] rfl
                have hDc := hD.sub (ws' := [(am, .inr (9, [.int (nI th), .int (nI n), .ref hk, .ref ht, .int (nI n1), .ref hk1, .ref ht1, .int (zb pb), .int (nI rn), .ref hfg, .ref hle, .ref hmo, .ref hwy, .int (nI (tcN k n tn i)), .ref htf, .long cm, .ref hod, .ref hwk, .ref hot, .int (nI ru), .ref hen])), (htf, .inl (ctf, 900, .inl (tcF k n tn tf i)))]) [0, 2] (by decide) rfl
                have hFc := va_free (wc := [(am, .inr (9, [.int (nI th), .int (nI n), .ref hk, .ref ht, .int (nI n1), .ref hk1, .ref ht1, .int (zb pb), .int (nI rn), .ref hfg, .ref hle, .ref hmo, .ref hwy, .int (nI (tcN k n tn i)), .ref htf, .long cm, .ref hod, .ref hwk, .ref hot, .int (nI ru), .ref hen])), (htf, .inl (ctf, 900, .inl (tcF k n tn tf i)))]) hD hS hA [0, 2] rfl
                refine va_callv (va_runV (As := [.int (nI 3), .int (k (odF (kI k) n i)), .int (nI mn)]) (rest := []) ⟨hx, hb, hml, hown, hg⟩ (c_Mo_tell l DD H.size am th n hk ht n1 hk1 ht1 pb rn hfg hle hmo hwy (tcN k n tn i) htf ctf (tcF k n tn tf i) cm hod hwk hot ru hen (nI 3) (k (odF (kI k) n i)) (nI mn) (by omega)) (cwV 3 hg (gi_V mw_831 mw_833 ms_Mo_tell mw_11 mw_834) rfl rfl rfl (by decide +kernel) ⟨Nat.le_of_ble_eq_true rfl, Nat.le_of_ble_eq_true rfl⟩) ⟨z_blindQ, va_recv hKc hPc (ci := 9) (q0 := 0) rfl rfl, z_preQ hPc hKc hDc⟩ rfl rfl hl.1 rfl (lv_room (Nat.le_of_ble_eq_true rfl)) d_Mo_tellCounting_115 ⟨Nat.zero_le _, Nat.zero_le _⟩) hS (fun q _ h => hFc q h) hFc (fun u9 t9 H9 locs ht9 hvm9 hw9 hB9 hz9 hk9 hS => ?_)
                obtain ⟨hP1, hK1, hD1⟩ := hB9
                rw [ht9] at hP1
                try dsimp only at hw9
                obtain ⟨hP, hD⟩ := va_join (wr := [(hk, .inl (ck, 150, .inl k)), (hot, .inl (cot, 150, .inl (foF k n ot n)))]) (w1 := [(am, .inr (9, [.int (nI th), .int (nI n), .ref hk, .ref ht, .int (nI n1), .ref hk1, .ref ht1, .int (zb pb), .int (nI rn), .ref hfg, .ref hle, .ref hmo, .ref hwy, .int (nI ((tcN k n tn i) + 1)), .ref htf, .long cm, .ref hod, .ref hwk, .ref hot, .int (nI ru), .ref hen])), (htf, .inl (ctf, 900, .inl (tadd (tcF k n tn tf i) (tcN k n tn i) (nI 3) (k (odF (kI k) n i)) (nI mn))))]) hP hD [0, 2] [1, 3] rfl rfl (by decide) (by decide) hk9 hFc hP1 hD1
                generalize H9 = H at hP hS ⊢
                have hP : va_P DD vwCl [(hk, .inl (ck, 150, .inl k)), (hot, .inl (cot, 150, .inl (foF k n ot n))), (am, .inr (9, [.int (nI th), .int (nI n), .ref hk, .ref ht, .int (nI n1), .ref hk1, .ref ht1, .int (zb pb), .int (nI rn), .ref hfg, .ref hle, .ref hmo, .ref hwy, .int (nI ((tcN k n tn i) + 1)), .ref htf, .long cm, .ref hod, .ref hwk, .ref hot, .int (nI ru), .ref hen])), (htf, .inl (ctf, 900, .inl (tadd (tcF k n tn tf i) (tcN k n tn i) (nI 3) (k (odF (kI k) n i)) (nI mn))))] H := hP
                have hD : va_D A [(hk, .inl (ck, 150, .inl k)), (hot, .inl (cot, 150, .inl (foF k n ot n))), (am, .inr (9, [.int (nI th), .int (nI n), .ref hk, .ref ht, .int (nI n1), .ref hk1, .ref ht1, .int (zb pb), .int (nI rn), .ref hfg, .ref hle, .ref hmo, .ref hwy, .int (nI ((tcN k n tn i) + 1)), .ref htf, .long cm, .ref hod, .ref hwk, .ref hot, .int (nI ru), .ref hen])), (htf, .inl (ctf, 900, .inl (tadd (tcF k n tn tf i) (tcN k n tn i) (nI 3) (k (odF (kI k) n i)) (nI mn))))] := hD
                rw [show tadd (tcF k n tn tf i) (tcN k n tn i) (nI 3) (k (odF (kI k) n i)) (nI mn) = tcF k n tn tf (i + 1) from by rw [tcF, if_pos (tcB_t (by rw [← hbf]; exact c_98) (by rw [← hmn]; exact c_103)), hmn]] at hP hD
                rw [show nI ((tcN k n tn i) + 1) = nI (tcN k n tn (i + 1)) from by rw [tcN, if_pos (tcB_t (by rw [← hbf]; exact c_98) (by rw [← hmn]; exact c_103))]] at hP hD
                refine lv_iinc (v := nI (i + 1)) (lv' := [(1, .int (nI (i + 1))), (0, .ref am), (2, .int (nI (odF (kI k) n i))), (3, .int (nI mn)), (4, .int (nI bf)), (5, .int (nI j))]) hx hb d_Mo_tellCounting_118 hl (k := 1) rfl (by exact nI_add i 1) (by decide) rfl (fun ls hl => ?_)
                refine lv_goto (tgt := 6) hx hb d_Mo_tellCounting_121 (by decide) ?_
                exact ih6 (i + 1) (by omega) (by omega) _ _ (hP.sub [2, 0, 3, 1] rfl) (hD.sub [2, 0, 3, 1] (by decide) rfl) hS ls (lv_sub hl [1, 0] rfl)
          · refine lv_aload_n hx hb d_Mo_tellCounting_38 rfl (lv_at hl 0 rfl) ?_
            refine va_get (D := DD) (ci := 9) (v := .ref hk) (C := R_Mo) (T := T_Mo) (N := 21) hx hb hg in_Mo hown hK hP 0 rfl rfl 2 (by decide) (hg _ mw_681) (fun _ h9 => h9) rfl d_Mo_tellCounting_39 ?_
            refine lv_iload hx hb d_Mo_tellCounting_42 (lv_at hl 5 rfl) ?_
            refine z_iald hx hb hK hP 1 0 rfl rfl (by omega) (by decide) d_Mo_tellCounting_44 ?_
            refine lv_aload_n hx hb d_Mo_tellCounting_45 rfl (lv_at hl 0 rfl) ?_
            refine va_get (D := DD) (ci := 9) (v := .ref hk) (C := R_Mo) (T := T_Mo) (N := 21) hx hb hg in_Mo hown hK hP 0 rfl rfl 2 (by decide) (hg _ mw_681) (fun _ h9 => h9) rfl d_Mo_tellCounting_46 ?_
            refine lv_iload_n hx hb d_Mo_tellCounting_49 rfl (lv_at hl 2 rfl) ?_
            refine z_iald hx hb hK hP 1 0 rfl rfl (by omega) (by decide) d_Mo_tellCounting_50 ?_
            refine lv_icmp_ne (tgt := 60) hx hb d_Mo_tellCounting_51 (by decide) (fun c_51 => ?_) (fun c_51 => ?_)
            · refine lv_iload_n hx hb d_Mo_tellCounting_60 rfl (lv_at hl 3 rfl) ?_
              refine lv_istore_n (lv' := [(3, .int (nI mn)), (0, .ref am), (1, .int (nI i)), (2, .int (nI (odF (kI k) n i))), (4, .int (nI bf)), (5, .int (nI j))]) hx hb d_Mo_tellCounting_61 rfl hl (by decide) rfl (fun ls hl => ?_)
              refine lv_aload_n hx hb d_Mo_tellCounting_62 rfl (lv_at hl 1 rfl) ?_
              refine va_get (D := DD) (ci := 9) (v := .ref hk) (C := R_Mo) (T := T_Mo) (N := 21) hx hb hg in_Mo hown hK hP 0 rfl rfl 2 (by decide) (hg _ mw_681) (fun _ h9 => h9) rfl d_Mo_tellCounting_63 ?_
              refine lv_iload hx hb d_Mo_tellCounting_66 (lv_at hl 5 rfl) ?_
              refine z_iald hx hb hK hP 1 0 rfl rfl (by omega) (by decide) d_Mo_tellCounting_68 ?_
              refine lv_aload_n hx hb d_Mo_tellCounting_69 rfl (lv_at hl 1 rfl) ?_
              refine va_get (D := DD) (ci := 9) (v := .ref hk) (C := R_Mo) (T := T_Mo) (N := 21) hx hb hg in_Mo hown hK hP 0 rfl rfl 2 (by decide) (hg _ mw_681) (fun _ h9 => h9) rfl d_Mo_tellCounting_70 ?_
              refine lv_iload_n hx hb d_Mo_tellCounting_73 rfl (lv_at hl 3 rfl) ?_
              refine z_iald hx hb hK hP 1 0 rfl rfl (by omega) (by decide) d_Mo_tellCounting_74 ?_
              refine lv_icmp_ge (tgt := 85) hx hb d_Mo_tellCounting_75 (by decide) (fun c_75 => ?_) (fun c_75 => ?_)
              · refine lv_iload hx hb d_Mo_tellCounting_85 (lv_at hl 4 rfl) ?_
                refine lv_istore (lv' := [(4, .int (nI bf)), (3, .int (nI mn)), (0, .ref am), (1, .int (nI i)), (2, .int (nI (odF (kI k) n i))), (5, .int (nI j))]) hx hb d_Mo_tellCounting_87 hl (by decide) rfl (fun ls hl => ?_)
                refine lv_iinc (v := nI (j + 1)) (lv' := [(5, .int (nI (j + 1))), (4, .int (nI bf)), (3, .int (nI mn)), (0, .ref am), (1, .int (nI i)), (2, .int (nI (odF (kI k) n i)))]) hx hb d_Mo_tellCounting_89 hl (k := 5) rfl (by exact nI_add j 1) (by decide) rfl (fun ls hl => ?_)
                refine lv_goto (tgt := 29) hx hb d_Mo_tellCounting_92 (by decide) ?_
                exact ih29 (j + 1) mn bf (by omega) (by exact hodn) (by omega) (by first | exact eq_t' hmn c_51 | exact eq_f' hmn c_51) (by first | exact lt_t hbf c_75 | exact lt_f hbf c_75) (by omega) ls (lv_sub hl [3, 4, 5, 2, 1, 0] rfl)
              · refine lv_iload hx hb d_Mo_tellCounting_78 (lv_at hl 4 rfl) ?_
                refine lv_iconst (v := nI 1) hx hb d_Mo_tellCounting_80 (by decide) ?_
                refine z_iadd hx hb d_Mo_tellCounting_81 ?_
                refine lv_goto (tgt := 87) hx hb d_Mo_tellCounting_82 (by decide) ?_
                refine lv_istore (lv' := [(4, .int (nI (bf + 1))), (3, .int (nI mn)), (0, .ref am), (1, .int (nI i)), (2, .int (nI (odF (kI k) n i))), (5, .int (nI j))]) hx hb d_Mo_tellCounting_87 hl (by decide) rfl (fun ls hl => ?_)
                refine lv_iinc (v := nI (j + 1)) (lv' := [(5, .int (nI (j + 1))), (4, .int (nI (bf + 1))), (3, .int (nI mn)), (0, .ref am), (1, .int (nI i)), (2, .int (nI (odF (kI k) n i)))]) hx hb d_Mo_tellCounting_89 hl (k := 5) rfl (by exact nI_add j 1) (by decide) rfl (fun ls hl => ?_)
                refine lv_goto (tgt := 29) hx hb d_Mo_tellCounting_92 (by decide) ?_
                exact ih29 (j + 1) mn (bf + 1) (by omega) (by exact hodn) (by omega) (by first | exact eq_t' hmn c_51 | exact eq_f' hmn c_51) (by first | exact lt_t hbf c_75 | exact lt_f hbf c_75) (by omega) ls (lv_sub hl [3, 4, 5, 2, 1, 0] rfl)
            · refine lv_iload_n hx hb d_Mo_tellCounting_54 rfl (lv_at hl 3 rfl) ?_
              refine lv_iconst (v := nI 1) hx hb d_Mo_tellCounting_55 (by decide) ?_
              refine z_iadd hx hb d_Mo_tellCounting_56 ?_
              refine lv_goto (tgt := 61) hx hb d_Mo_tellCounting_57 (by decide) ?_
              refine lv_istore_n (lv' := [(3, .int (nI (mn + 1))), (0, .ref am), (1, .int (nI i)), (2, .int (nI (odF (kI k) n i))), (4, .int (nI bf)), (5, .int (nI j))]) hx hb d_Mo_tellCounting_61 rfl hl (by decide) rfl (fun ls hl => ?_)
              refine lv_aload_n hx hb d_Mo_tellCounting_62 rfl (lv_at hl 1 rfl) ?_
              refine va_get (D := DD) (ci := 9) (v := .ref hk) (C := R_Mo) (T := T_Mo) (N := 21) hx hb hg in_Mo hown hK hP 0 rfl rfl 2 (by decide) (hg _ mw_681) (fun _ h9 => h9) rfl d_Mo_tellCounting_63 ?_
              refine lv_iload hx hb d_Mo_tellCounting_66 (lv_at hl 5 rfl) ?_
              refine z_iald hx hb hK hP 1 0 rfl rfl (by omega) (by decide) d_Mo_tellCounting_68 ?_
              refine lv_aload_n hx hb d_Mo_tellCounting_69 rfl (lv_at hl 1 rfl) ?_
              refine va_get (D := DD) (ci := 9) (v := .ref hk) (C := R_Mo) (T := T_Mo) (N := 21) hx hb hg in_Mo hown hK hP 0 rfl rfl 2 (by decide) (hg _ mw_681) (fun _ h9 => h9) rfl d_Mo_tellCounting_70 ?_
              refine lv_iload_n hx hb d_Mo_tellCounting_73 rfl (lv_at hl 3 rfl) ?_
              refine z_iald hx hb hK hP 1 0 rfl rfl (by omega) (by decide) d_Mo_tellCounting_74 ?_
              refine lv_icmp_ge (tgt := 85) hx hb d_Mo_tellCounting_75 (by decide) (fun c_75 => ?_) (fun c_75 => ?_)
              · refine lv_iload hx hb d_Mo_tellCounting_85 (lv_at hl 4 rfl) ?_
                refine lv_istore (lv' := [(4, .int (nI bf)), (3, .int (nI (mn + 1))), (0, .ref am), (1, .int (nI i)), (2, .int (nI (odF (kI k) n i))), (5, .int (nI j))]) hx hb d_Mo_tellCounting_87 hl (by decide) rfl (fun ls hl => ?_)
                refine lv_iinc (v := nI (j + 1)) (lv' := [(5, .int (nI (j + 1))), (4, .int (nI bf)), (3, .int (nI (mn + 1))), (0, .ref am), (1, .int (nI i)), (2, .int (nI (odF (kI k) n i)))]) hx hb d_Mo_tellCounting_89 hl (k := 5) rfl (by exact nI_add j 1) (by decide) rfl (fun ls hl => ?_)
                refine lv_goto (tgt := 29) hx hb d_Mo_tellCounting_92 (by decide) ?_
                exact ih29 (j + 1) (mn + 1) bf (by omega) (by exact hodn) (by omega) (by first | exact eq_t' hmn c_51 | exact eq_f' hmn c_51) (by first | exact lt_t hbf c_75 | exact lt_f hbf c_75) (by omega) ls (lv_sub hl [3, 4, 5, 2, 1, 0] rfl)
              · refine lv_iload hx hb d_Mo_tellCounting_78 (lv_at hl 4 rfl) ?_
                refine lv_iconst (v := nI 1) hx hb d_Mo_tellCounting_80 (by decide) ?_
                refine z_iadd hx hb d_Mo_tellCounting_81 ?_
                refine lv_goto (tgt := 87) hx hb d_Mo_tellCounting_82 (by decide) ?_
                refine lv_istore (lv' := [(4, .int (nI (bf + 1))), (3, .int (nI (mn + 1))), (0, .ref am), (1, .int (nI i)), (2, .int (nI (odF (kI k) n i))), (5, .int (nI j))]) hx hb d_Mo_tellCounting_87 hl (by decide) rfl (fun ls hl => ?_)
                refine lv_iinc (v := nI (j + 1)) (lv' := [(5, .int (nI (j + 1))), (4, .int (nI (bf + 1))), (3, .int (nI (mn + 1))), (0, .ref am), (1, .int (nI i)), (2, .int (nI (odF (kI k) n i)))]) hx hb d_Mo_tellCounting_89 hl (k := 5) rfl (by exact nI_add j 1) (by decide) rfl (fun ls hl => ?_)
                refine lv_goto (tgt := 29) hx hb d_Mo_tellCounting_92 (by decide) ?_
                exact ih29 (j + 1) (mn + 1) (bf + 1) (by omega) (by exact hodn) (by omega) (by first | exact eq_t' hmn c_51 | exact eq_f' hmn c_51) (by first | exact lt_t hbf c_75 | exact lt_f hbf c_75) (by omega) ls (lv_sub hl [3, 4, 5, 2, 1, 0] rfl)
      refine lv_iload_n hx hb d_Mo_tellCounting_6 rfl (lv_at hl 1 rfl) ?_
      refine lv_aload_n hx hb d_Mo_tellCounting_7 rfl (lv_at hl 0 rfl) ?_
      refine va_get (D := DD) (ci := 9) (v := .int (nI n)) (C := R_Mo) (T := T_Mo) (N := 21) hx hb hg in_Mo hown hK hP 0 rfl rfl 1 (by decide) (hg _ mw_680) (fun _ h9 => h9) rfl d_Mo_tellCounting_8 ?_
      refine z_icmp_ge (tgt := 124) hx hb d_Mo_tellCounting_11 (by decide) (by omega) (by omega) (fun c_11 => ?_) (fun c_11 => ?_)
      · rw [show tcF k n tn tf i = tcF k n tn tf n from by rw [Nat.le_antisymm hi c_11]] at hP hD
        rw [show nI (tcN k n tn i) = nI (tcN k n tn n) from by rw [Nat.le_antisymm hi c_11]] at hP hD
        have hP9 := hP.sub (ws' := [(am, .inr (9, [.int (nI th), .int (nI n), .ref hk, .ref ht, .int (nI n1), .ref hk1, .ref ht1, .int (zb pb), .int (nI rn), .ref hfg, .ref hle, .ref hmo, .ref hwy, .int (nI (tcN k n tn n)), .ref htf, .long cm, .ref hod, .ref hwk, .ref hot, .int (nI ru), .ref hen])), (hk, .inl (ck, 150, .inl k)), (htf, .inl (ctf, 900, .inl (tcF k n tn tf n))), (hot, .inl (cot, 150, .inl (foF k n ot n)))]) [0, 1, 2, 3] rfl
        have hD9 := hD.sub (ws' := [(am, .inr (9, [.int (nI th), .int (nI n), .ref hk, .ref ht, .int (nI n1), .ref hk1, .ref ht1, .int (zb pb), .int (nI rn), .ref hfg, .ref hle, .ref hmo, .ref hwy, .int (nI (tcN k n tn n)), .ref htf, .long cm, .ref hod, .ref hwk, .ref hot, .int (nI ru), .ref hen])), (hk, .inl (ck, 150, .inl k)), (htf, .inl (ctf, 900, .inl (tcF k n tn tf n))), (hot, .inl (cot, 150, .inl (foF k n ot n)))]) [0, 1, 2, 3] (by decide) rfl
        exact W.vret hx hb hr (fun t9 ht9 hW9 => ⟨⟨(), rfl, trivial, by rw [ht9]; exact hP9, va_K.moved hW9.alike hK, hD9⟩, hS.F ht9⟩) hS.2.2 d_Mo_tellCounting_124
      · refine lv_aload_n hx hb d_Mo_tellCounting_14 rfl (lv_at hl 0 rfl) ?_
        refine va_get (D := DD) (ci := 9) (v := .ref hot) (C := R_Mo) (T := T_Mo) (N := 21) hx hb hg in_Mo hown hK hP 0 rfl rfl 18 (by decide) (hg _ mw_697) (fun _ h9 => h9) rfl d_Mo_tellCounting_15 ?_
        refine lv_iload_n hx hb d_Mo_tellCounting_18 rfl (lv_at hl 1 rfl) ?_
        refine z_iald hx hb hK hP 3 2 rfl rfl (by omega) (by decide) d_Mo_tellCounting_19 ?_
        rw [show (foF k n ot n) i = nI (odF (kI k) n i) from foF_od ot c_11]
        refine lv_istore_n (lv' := [(2, .int (nI (odF (kI k) n i))), (0, .ref am), (1, .int (nI i))]) hx hb d_Mo_tellCounting_20 rfl hl (by decide) rfl (fun ls hl => ?_)
        refine lv_iconst (v := nI 0) hx hb d_Mo_tellCounting_21 (by decide) ?_
        refine lv_istore_n (lv' := [(3, .int (nI 0)), (2, .int (nI (odF (kI k) n i))), (0, .ref am), (1, .int (nI i))]) hx hb d_Mo_tellCounting_22 rfl hl (by decide) rfl (fun ls hl => ?_)
        refine lv_iconst (v := nI 0) hx hb d_Mo_tellCounting_23 (by decide) ?_
        refine lv_istore (lv' := [(4, .int (nI 0)), (3, .int (nI 0)), (2, .int (nI (odF (kI k) n i))), (0, .ref am), (1, .int (nI i))]) hx hb d_Mo_tellCounting_24 hl (by decide) rfl (fun ls hl => ?_)
        refine lv_iconst (v := nI 0) hx hb d_Mo_tellCounting_26 (by decide) ?_
        refine lv_istore (lv' := [(5, .int (nI 0)), (4, .int (nI 0)), (3, .int (nI 0)), (2, .int (nI (odF (kI k) n i))), (0, .ref am), (1, .int (nI i))]) hx hb d_Mo_tellCounting_27 hl (by decide) rfl (fun ls hl => ?_)
        exact K29 _ 0 0 0 (by omega) (by exact (od_ok c_11).1) (by omega) (by rfl) (by rfl) (Nat.lt_succ_self _) ls (lv_sub hl [4, 5, 3, 2, 1, 0] rfl)
  refine lv_aload_n hx hb d_Mo_tellCounting_0 rfl (lv_at hl 0 rfl) ?_
  have hPc := hP.sub (ws' := [(am, .inr (9, [.int (nI th), .int (nI n), .ref hk, .ref ht, .int (nI n1), .ref hk1, .ref ht1, .int (zb pb), .int (nI rn), .ref hfg, .ref hle, .ref hmo, .ref hwy, .int (nI tn), .ref htf, .long cm, .ref hod, .ref hwk, .ref hot, .int (nI ru), .ref hen])), (hk, .inl (ck, 150, .inl k)), (hot, .inl (cot, 150, .inl ot))]) [0, 1, 3] rfl
  have hKc := hK.sub (tys' := [(ck, .int), (cot, .int)]) [0, 2] rfl
  have hDc := hD.sub (ws' := [(am, .inr (9, [.int (nI th), .int (nI n), .ref hk, .ref ht, .int (nI n1), .ref hk1, .ref ht1, .int (zb pb), .int (nI rn), .ref hfg, .ref hle, .ref hmo, .ref hwy, .int (nI tn), .ref htf, .long cm, .ref hod, .ref hwk, .ref hot, .int (nI ru), .ref hen])), (hk, .inl (ck, 150, .inl k)), (hot, .inl (cot, 150, .inl ot))]) [0, 1, 3] (by decide) rfl
  have hFc := va_free (wc := [(am, .inr (9, [.int (nI th), .int (nI n), .ref hk, .ref ht, .int (nI n1), .ref hk1, .ref ht1, .int (zb pb), .int (nI rn), .ref hfg, .ref hle, .ref hmo, .ref hwy, .int (nI tn), .ref htf, .long cm, .ref hod, .ref hwk, .ref hot, .int (nI ru), .ref hen])), (hk, .inl (ck, 150, .inl k)), (hot, .inl (cot, 150, .inl ot))]) hD hS hA [0, 1, 3] rfl
  refine va_callv (va_runV (As := []) (rest := []) ⟨hx, hb, hml, hown, hg⟩ (c_Mo_findOrder l DD s.heap.size am th n hk ck k ht n1 hk1 ht1 pb rn hfg hle hmo hwy tn htf cm hod hwk hot cot ot ru hen (by omega)) (cwV 0 hg (gi_V mw_851 mw_853 ms_Mo_findOrder mw_11 mw_854) rfl rfl rfl (by decide +kernel) ⟨Nat.le_of_ble_eq_true rfl, Nat.le_of_ble_eq_true rfl⟩) ⟨z_blindQ, va_recv hKc hPc (ci := 9) (q0 := 0) rfl rfl, z_preQ hPc hKc hDc⟩ rfl rfl hl.1 rfl (lv_room (Nat.le_of_ble_eq_true rfl)) d_Mo_tellCounting_1 ⟨Nat.zero_le _, Nat.zero_le _⟩) hS (fun q _ h => hFc q h) hFc (fun u9 t9 H9 locs ht9 hvm9 hw9 hB9 hz9 hk9 hS => ?_)
  obtain ⟨hP1, hK1, hD1⟩ := hB9
  rw [ht9] at hP1
  try dsimp only at hw9
  obtain ⟨hP, hD⟩ := va_join (wr := [(htf, .inl (ctf, 900, .inl tf))]) (w1 := [(am, .inr (9, [.int (nI th), .int (nI n), .ref hk, .ref ht, .int (nI n1), .ref hk1, .ref ht1, .int (zb pb), .int (nI rn), .ref hfg, .ref hle, .ref hmo, .ref hwy, .int (nI tn), .ref htf, .long cm, .ref hod, .ref hwk, .ref hot, .int (nI ru), .ref hen])), (hk, .inl (ck, 150, .inl k)), (hot, .inl (cot, 150, .inl (foF k n ot n)))]) hP hD [0, 1, 3] [2] rfl rfl (by decide) (by decide) hk9 hFc hP1 hD1
  generalize H9 = H at hP hS ⊢
  have hP : va_P DD vwCl [(htf, .inl (ctf, 900, .inl tf)), (am, .inr (9, [.int (nI th), .int (nI n), .ref hk, .ref ht, .int (nI n1), .ref hk1, .ref ht1, .int (zb pb), .int (nI rn), .ref hfg, .ref hle, .ref hmo, .ref hwy, .int (nI tn), .ref htf, .long cm, .ref hod, .ref hwk, .ref hot, .int (nI ru), .ref hen])), (hk, .inl (ck, 150, .inl k)), (hot, .inl (cot, 150, .inl (foF k n ot n)))] H := hP
  have hD : va_D A [(htf, .inl (ctf, 900, .inl tf)), (am, .inr (9, [.int (nI th), .int (nI n), .ref hk, .ref ht, .int (nI n1), .ref hk1, .ref ht1, .int (zb pb), .int (nI rn), .ref hfg, .ref hle, .ref hmo, .ref hwy, .int (nI tn), .ref htf, .long cm, .ref hod, .ref hwk, .ref hot, .int (nI ru), .ref hen])), (hk, .inl (ck, 150, .inl k)), (hot, .inl (cot, 150, .inl (foF k n ot n)))] := hD
  rw [show tf = tcF k n tn tf 0 from rfl] at hP hD
  rw [show nI tn = nI (tcN k n tn 0) from rfl] at hP hD
  refine lv_iconst (v := nI 0) hx hb d_Mo_tellCounting_4 (by decide) ?_
  refine lv_istore_n (lv' := [(1, .int (nI 0)), (0, .ref am)]) hx hb d_Mo_tellCounting_5 rfl hl (by decide) rfl (fun ls hl => ?_)
  exact K6 _ 0 (by omega) (Nat.lt_succ_self _) _ _ (hP.sub [1, 2, 0, 3] rfl) (hD.sub [1, 2, 0, 3] (by decide) rfl) hS ls (lv_sub hl [1, 0] rfl)
theorem d_Mo_tellBytes_0 : decode b_Mo_tellBytes 0 = .ok (.iconst 0, 1) := by decide +kernel
theorem d_Mo_tellBytes_1 : decode b_Mo_tellBytes 1 = .ok (.istore_n 1, 1) := by decide +kernel
theorem d_Mo_tellBytes_2 : decode b_Mo_tellBytes 2 = .ok (.iload_n 1, 1) := by decide +kernel
theorem d_Mo_tellBytes_3 : decode b_Mo_tellBytes 3 = .ok (.iconst 4, 1) := by decide +kernel
theorem d_Mo_tellBytes_4 : decode b_Mo_tellBytes 4 = .ok (.if_icmp .ge 116, 3) := by decide +kernel
theorem d_Mo_tellBytes_7 : decode b_Mo_tellBytes 7 = .ok (.iconst 0, 1) := by decide +kernel
theorem d_Mo_tellBytes_8 : decode b_Mo_tellBytes 8 = .ok (.istore_n 2, 1) := by decide +kernel
theorem d_Mo_tellBytes_9 : decode b_Mo_tellBytes 9 = .ok (.iconst 0, 1) := by decide +kernel
theorem d_Mo_tellBytes_10 : decode b_Mo_tellBytes 10 = .ok (.istore_n 3, 1) := by decide +kernel
theorem d_Mo_tellBytes_11 : decode b_Mo_tellBytes 11 = .ok (.iload_n 3, 1) := by decide +kernel
theorem d_Mo_tellBytes_12 : decode b_Mo_tellBytes 12 = .ok (.aload_n 0, 1) := by decide +kernel
theorem d_Mo_tellBytes_13 : decode b_Mo_tellBytes 13 = .ok (.getfield 54, 3) := by decide +kernel
theorem d_Mo_tellBytes_16 : decode b_Mo_tellBytes 16 = .ok (.if_icmp .ge 86, 3) := by decide +kernel
theorem d_Mo_tellBytes_19 : decode b_Mo_tellBytes 19 = .ok (.iconst 1, 1) := by decide +kernel
theorem d_Mo_tellBytes_20 : decode b_Mo_tellBytes 20 = .ok (.istore 4, 2) := by decide +kernel
theorem d_Mo_tellBytes_22 : decode b_Mo_tellBytes 22 = .ok (.iconst 0, 1) := by decide +kernel
theorem d_Mo_tellBytes_23 : decode b_Mo_tellBytes 23 = .ok (.istore 5, 2) := by decide +kernel
theorem d_Mo_tellBytes_25 : decode b_Mo_tellBytes 25 = .ok (.iload 5, 2) := by decide +kernel
theorem d_Mo_tellBytes_27 : decode b_Mo_tellBytes 27 = .ok (.iload_n 3, 1) := by decide +kernel
theorem d_Mo_tellBytes_28 : decode b_Mo_tellBytes 28 = .ok (.if_icmp .ge 55, 3) := by decide +kernel
theorem d_Mo_tellBytes_31 : decode b_Mo_tellBytes 31 = .ok (.iload 4, 2) := by decide +kernel
theorem d_Mo_tellBytes_33 : decode b_Mo_tellBytes 33 = .ok (.ifCond .eq 41, 3) := by decide +kernel
theorem d_Mo_tellBytes_36 : decode b_Mo_tellBytes 36 = .ok (.aload_n 0, 1) := by decide +kernel
theorem d_Mo_tellBytes_37 : decode b_Mo_tellBytes 37 = .ok (.getfield 7, 3) := by decide +kernel
theorem d_Mo_tellBytes_40 : decode b_Mo_tellBytes 40 = .ok (.iload 5, 2) := by decide +kernel
theorem d_Mo_tellBytes_42 : decode b_Mo_tellBytes 42 = .ok (.iaload, 1) := by decide +kernel
theorem d_Mo_tellBytes_43 : decode b_Mo_tellBytes 43 = .ok (.bipush 8, 2) := by decide +kernel
theorem d_Mo_tellBytes_45 : decode b_Mo_tellBytes 45 = .ok (.iload_n 1, 1) := by decide +kernel
theorem d_Mo_tellBytes_46 : decode b_Mo_tellBytes 46 = .ok (.imul, 1) := by decide +kernel
theorem d_Mo_tellBytes_47 : decode b_Mo_tellBytes 47 = .ok (.ishr, 1) := by decide +kernel
theorem d_Mo_tellBytes_48 : decode b_Mo_tellBytes 48 = .ok (.sipush 255, 3) := by decide +kernel
theorem d_Mo_tellBytes_51 : decode b_Mo_tellBytes 51 = .ok (.iand, 1) := by decide +kernel
theorem d_Mo_tellBytes_52 : decode b_Mo_tellBytes 52 = .ok (.aload_n 0, 1) := by decide +kernel
theorem d_Mo_tellBytes_53 : decode b_Mo_tellBytes 53 = .ok (.getfield 7, 3) := by decide +kernel
theorem d_Mo_tellBytes_56 : decode b_Mo_tellBytes 56 = .ok (.iload_n 3, 1) := by decide +kernel
theorem d_Mo_tellBytes_57 : decode b_Mo_tellBytes 57 = .ok (.iaload, 1) := by decide +kernel
theorem d_Mo_tellBytes_58 : decode b_Mo_tellBytes 58 = .ok (.bipush 8, 2) := by decide +kernel
theorem d_Mo_tellBytes_60 : decode b_Mo_tellBytes 60 = .ok (.iload_n 1, 1) := by decide +kernel
theorem d_Mo_tellBytes_61 : decode b_Mo_tellBytes 61 = .ok (.imul, 1) := by decide +kernel
theorem d_Mo_tellBytes_62 : decode b_Mo_tellBytes 62 = .ok (.ishr, 1) := by decide +kernel
theorem d_Mo_tellBytes_63 : decode b_Mo_tellBytes 63 = .ok (.sipush 255, 3) := by decide +kernel
theorem d_Mo_tellBytes_66 : decode b_Mo_tellBytes 66 = .ok (.iand, 1) := by decide +kernel
theorem d_Mo_tellBytes_67 : decode b_Mo_tellBytes 67 = .ok (.if_icmp .eq 7, 3) := by decide +kernel
theorem d_Mo_tellBytes_70 : decode b_Mo_tellBytes 70 = .ok (.iconst 1, 1) := by decide +kernel
theorem d_Mo_tellBytes_71 : decode b_Mo_tellBytes 71 = .ok (.goto 4, 3) := by decide +kernel
theorem d_Mo_tellBytes_74 : decode b_Mo_tellBytes 74 = .ok (.iconst 0, 1) := by decide +kernel
theorem d_Mo_tellBytes_75 : decode b_Mo_tellBytes 75 = .ok (.istore 4, 2) := by decide +kernel
theorem d_Mo_tellBytes_77 : decode b_Mo_tellBytes 77 = .ok (.iinc 5 1, 3) := by decide +kernel
theorem d_Mo_tellBytes_80 : decode b_Mo_tellBytes 80 = .ok (.goto (-55), 3) := by decide +kernel
theorem d_Mo_tellBytes_83 : decode b_Mo_tellBytes 83 = .ok (.iload 4, 2) := by decide +kernel
theorem d_Mo_tellBytes_85 : decode b_Mo_tellBytes 85 = .ok (.ifCond .eq 9, 3) := by decide +kernel
theorem d_Mo_tellBytes_88 : decode b_Mo_tellBytes 88 = .ok (.iload_n 2, 1) := by decide +kernel
theorem d_Mo_tellBytes_89 : decode b_Mo_tellBytes 89 = .ok (.iconst 1, 1) := by decide +kernel
theorem d_Mo_tellBytes_90 : decode b_Mo_tellBytes 90 = .ok (.iadd, 1) := by decide +kernel
theorem d_Mo_tellBytes_91 : decode b_Mo_tellBytes 91 = .ok (.goto 4, 3) := by decide +kernel
theorem d_Mo_tellBytes_94 : decode b_Mo_tellBytes 94 = .ok (.iload_n 2, 1) := by decide +kernel
theorem d_Mo_tellBytes_95 : decode b_Mo_tellBytes 95 = .ok (.istore_n 2, 1) := by decide +kernel
theorem d_Mo_tellBytes_96 : decode b_Mo_tellBytes 96 = .ok (.iinc 3 1, 3) := by decide +kernel
theorem d_Mo_tellBytes_99 : decode b_Mo_tellBytes 99 = .ok (.goto (-88), 3) := by decide +kernel
theorem d_Mo_tellBytes_102 : decode b_Mo_tellBytes 102 = .ok (.iload_n 2, 1) := by decide +kernel
theorem d_Mo_tellBytes_103 : decode b_Mo_tellBytes 103 = .ok (.iconst 1, 1) := by decide +kernel
theorem d_Mo_tellBytes_104 : decode b_Mo_tellBytes 104 = .ok (.if_icmp .le 10, 3) := by decide +kernel
theorem d_Mo_tellBytes_107 : decode b_Mo_tellBytes 107 = .ok (.aload_n 0, 1) := by decide +kernel
theorem d_Mo_tellBytes_108 : decode b_Mo_tellBytes 108 = .ok (.iconst 4, 1) := by decide +kernel
theorem d_Mo_tellBytes_109 : decode b_Mo_tellBytes 109 = .ok (.iload_n 1, 1) := by decide +kernel
theorem d_Mo_tellBytes_110 : decode b_Mo_tellBytes 110 = .ok (.iload_n 2, 1) := by decide +kernel
theorem d_Mo_tellBytes_111 : decode b_Mo_tellBytes 111 = .ok (.invokevirtual 104, 3) := by decide +kernel
theorem d_Mo_tellBytes_114 : decode b_Mo_tellBytes 114 = .ok (.iinc 1 1, 3) := by decide +kernel
theorem d_Mo_tellBytes_117 : decode b_Mo_tellBytes 117 = .ok (.goto (-115), 3) := by decide +kernel
theorem d_Mo_tellBytes_120 : decode b_Mo_tellBytes 120 = .ok (.return_, 1) := by decide +kernel
abbrev ws_Mo_tellBytes : List Cond := .code y_Mo_tellBytes b_Mo_tellBytes 6 none :: ALLG
abbrev rm_Mo_tellBytes : Room := { frames := 1, cells := 0, slots := 0, locals := 23 }
set_option maxHeartbeats 4000000 in
set_option maxRecDepth 100000 in
theorem c_Mo_tellBytes (l : Launch) (DD : va_G) (sz : Nat) (am : Nat) (th : Nat) (n : Nat) (hk : Nat) (ck : ClassId) (k : Nat → Int32) (ht : Nat) (n1 : Nat) (hk1 : Nat) (ht1 : Nat) (pb : Bool) (rn : Nat) (hfg : Nat) (hle : Nat) (hmo : Nat) (hwy : Nat) (tn : Nat) (htf : Nat) (ctf : ClassId) (tf : Nat → Int32) (cm : Int64) (hod : Nat) (hwk : Nat) (hot : Nat) (ru : Nat) (hen : Nat) (hn : n ≤ 150) (htn : tn + 4 ≤ 150) : Met l y_Mo_tellBytes ws_Mo_tellBytes rm_Mo_tellBytes (va_Pc [.ref am] (fun U => U.heap.size = sz ∧ va_P DD vwCl [(am, .inr (9, [.int (nI th), .int (nI n), .ref hk, .ref ht, .int (nI n1), .ref hk1, .ref ht1, .int (zb pb), .int (nI rn), .ref hfg, .ref hle, .ref hmo, .ref hwy, .int (nI tn), .ref htf, .long cm, .ref hod, .ref hwk, .ref hot, .int (nI ru), .ref hen])), (hk, .inl (ck, 150, .inl k)), (htf, .inl (ctf, 900, .inl tf))] U.heap ∧ va_K DD vwCl [(ck, .int), (ctf, .int)] U ∧ va_D (fun _ => True) [(am, .inr (9, [.int (nI th), .int (nI n), .ref hk, .ref ht, .int (nI n1), .ref hk1, .ref ht1, .int (zb pb), .int (nI rn), .ref hfg, .ref hle, .ref hmo, .ref hwy, .int (nI tn), .ref htf, .long cm, .ref hod, .ref hwk, .ref hot, .int (nI ru), .ref hen])), (hk, .inl (ck, 150, .inl k)), (htf, .inl (ctf, 900, .inl tf))])) (va_Qv (fun (u9 : Unit) => match u9 with | _ => True) (fun (u9 : Unit) (t9 : State) => match u9 with | _ => va_P DD vwCl [(am, .inr (9, [.int (nI th), .int (nI n), .ref hk, .ref ht, .int (nI n1), .ref hk1, .ref ht1, .int (zb pb), .int (nI rn), .ref hfg, .ref hle, .ref hmo, .ref hwy, .int (nI (tbN k n tn 4)), .ref htf, .long cm, .ref hod, .ref hwk, .ref hot, .int (nI ru), .ref hen])), (hk, .inl (ck, 150, .inl k)), (htf, .inl (ctf, 900, .inl (tbF k n tn tf 4)))] t9.heap ∧ va_K DD vwCl [(ck, .int), (ctf, .int)] t9 ∧ va_D (va_A [(am, .inr (9, [.int (nI th), .int (nI n), .ref hk, .ref ht, .int (nI n1), .ref hk1, .ref ht1, .int (zb pb), .int (nI rn), .ref hfg, .ref hle, .ref hmo, .ref hwy, .int (nI tn), .ref htf, .long cm, .ref hod, .ref hwk, .ref hot, .int (nI ru), .ref hen])), (hk, .inl (ck, 150, .inl k)), (htf, .inl (ctf, 900, .inl tf))] sz) [(am, .inr (9, [.int (nI th), .int (nI n), .ref hk, .ref ht, .int (nI n1), .ref hk1, .ref ht1, .int (zb pb), .int (nI rn), .ref hfg, .ref hle, .ref hmo, .ref hwy, .int (nI (tbN k n tn 4)), .ref htf, .long cm, .ref hod, .ref hwk, .ref hot, .int (nI ru), .ref hen])), (hk, .inl (ck, 150, .inl k)), (htf, .inl (ctf, 900, .inl (tbF k n tn tf 4)))]) (va_A [(am, .inr (9, [.int (nI th), .int (nI n), .ref hk, .ref ht, .int (nI n1), .ref hk1, .ref ht1, .int (zb pb), .int (nI rn), .ref hfg, .ref hle, .ref hmo, .ref hwy, .int (nI tn), .ref htf, .long cm, .ref hod, .ref hwk, .ref hot, .int (nI ru), .ref hen])), (hk, .inl (ck, 150, .inl k)), (htf, .inl (ctf, 900, .inl tf))] sz)) 0 0 (va_A [(am, .inr (9, [.int (nI th), .int (nI n), .ref hk, .ref ht, .int (nI n1), .ref hk1, .ref ht1, .int (zb pb), .int (nI rn), .ref hfg, .ref hle, .ref hmo, .ref hwy, .int (nI tn), .ref htf, .long cm, .ref hod, .ref hwk, .ref hot, .int (nI ru), .ref hen])), (hk, .inl (ck, 150, .inl k)), (htf, .inl (ctf, 900, .inl tf))] sz) := by
  refine Met.ofW (cc := b_Mo_tellBytes) (maxL := 6) (ret := none) (by decide) rfl ?_
  intro p e s m args below meth c s₁ B hml hv
  obtain ⟨ha, hsz, hP, hK, hD0⟩ := hv
  have hx := B.exec
  have hb := B.bytes
  have hr := B.returns
  have hts := atoms_spec (ws := ws_Mo_tellBytes) B.pre
  have hg : ∀ w ∈ ALLG, w.before args s = true := fun w h => hts w (List.mem_cons_of_mem _ h)
  have hown : s.vm.findClass R_Mo = some m.cls := findClass_of_methodNamed B.named
  have hlocks := B.notSynchronized
  subst hsz
  have hD := hD0.self (sz := s.heap.size)
  generalize hAe : va_A [(am, .inr (9, [.int (nI th), .int (nI n), .ref hk, .ref ht, .int (nI n1), .ref hk1, .ref ht1, .int (zb pb), .int (nI rn), .ref hfg, .ref hle, .ref hmo, .ref hwy, .int (nI tn), .ref htf, .long cm, .ref hod, .ref hwk, .ref hot, .int (nI ru), .ref hen])), (hk, .inl (ck, 150, .inl k)), (htf, .inl (ctf, 900, .inl tf))] s.heap.size = A at hD ⊢
  have hA : ∀ q : Nat, s.heap.size ≤ q → A q := fun q h => by rw [← hAe]; exact Or.inr h
  have hS : va_S A s.heap s.heap [] := va_S.rf
  have hP : va_P DD vwCl [(am, .inr (9, [.int (nI th), .int (nI n), .ref hk, .ref ht, .int (nI n1), .ref hk1, .ref ht1, .int (zb pb), .int (nI rn), .ref hfg, .ref hle, .ref hmo, .ref hwy, .int (nI tn), .ref htf, .long cm, .ref hod, .ref hwk, .ref hot, .int (nI ru), .ref hen])), (hk, .inl (ck, 150, .inl k)), (htf, .inl (ctf, 900, .inl tf))] s.heap := hP
  have hl := lv_entry ([.ref am]) (n := 6) (Nat.le_of_ble_eq_true rfl)
  rw [ha, lg_entry_eq, ← ha]
  generalize (lg_sl ([.ref am]) ++ List.replicate (6 - (lg_sl ([.ref am])).length) Slot.unset).toArray = ls at hl ⊢
  have hl : lv_has ls 6 [(0, .ref am)] := hl
  have K2 : ∀ (kk : Nat) (b : Nat), (hb4 : b ≤ 4) → 4 - b < kk → ∀ (H : Heap) (locs : List Loc), va_P DD vwCl [(am, .inr (9, [.int (nI th), .int (nI n), .ref hk, .ref ht, .int (nI n1), .ref hk1, .ref ht1, .int (zb pb), .int (nI rn), .ref hfg, .ref hle, .ref hmo, .ref hwy, .int (nI (tbN k n tn b)), .ref htf, .long cm, .ref hod, .ref hwk, .ref hot, .int (nI ru), .ref hen])), (hk, .inl (ck, 150, .inl k)), (htf, .inl (ctf, 900, .inl (tbF k n tn tf b)))] H → va_D A [(am, .inr (9, [.int (nI th), .int (nI n), .ref hk, .ref ht, .int (nI n1), .ref hk1, .ref ht1, .int (zb pb), .int (nI rn), .ref hfg, .ref hle, .ref hmo, .ref hwy, .int (nI (tbN k n tn b)), .ref htf, .long cm, .ref hod, .ref hwk, .ref hot, .int (nI ru), .ref hen])), (hk, .inl (ck, 150, .inl k)), (htf, .inl (ctf, 900, .inl (tbF k n tn tf b)))] → va_S A s.heap H locs → ∀ (ls : Array Slot), lv_has ls 6 [(0, .ref am), (1, .int (nI b))] → W p l e (headSpec ws_Mo_tellBytes rm_Mo_tellBytes).room s m args below meth c H locs 0 0 (MQ below (va_Qv (fun (u9 : Unit) => match u9 with | _ => True) (fun (u9 : Unit) (t9 : State) => match u9 with | _ => va_P DD vwCl [(am, .inr (9, [.int (nI th), .int (nI n), .ref hk, .ref ht, .int (nI n1), .ref hk1, .ref ht1, .int (zb pb), .int (nI rn), .ref hfg, .ref hle, .ref hmo, .ref hwy, .int (nI (tbN k n tn 4)), .ref htf, .long cm, .ref hod, .ref hwk, .ref hot, .int (nI ru), .ref hen])), (hk, .inl (ck, 150, .inl k)), (htf, .inl (ctf, 900, .inl (tbF k n tn tf 4)))] t9.heap ∧ va_K DD vwCl [(ck, .int), (ctf, .int)] t9 ∧ va_D A [(am, .inr (9, [.int (nI th), .int (nI n), .ref hk, .ref ht, .int (nI n1), .ref hk1, .ref ht1, .int (zb pb), .int (nI rn), .ref hfg, .ref hle, .ref hmo, .ref hwy, .int (nI (tbN k n tn 4)), .ref htf, .long cm, .ref hod, .ref hwk, .ref hot, .int (nI ru), .ref hen])), (hk, .inl (ck, 150, .inl k)), (htf, .inl (ctf, 900, .inl (tbF k n tn tf 4)))]) A) args s 0 0 A) (F0 m 2 ls []) := by
    intro kk
    induction kk with
    | zero => intros; omega
    | succ kk ih2 =>
      intro b hb4 hkk H locs hP hD hS ls hl
      have K11 : ∀ (kk : Nat) (i : Nat) (q : Nat), (hlb : b < 4) → (hi : i ≤ n) → (hc : q = cnt (firstB (dgK k b)) i) → n - i < kk → ∀ (ls : Array Slot), lv_has ls 6 [(0, .ref am), (1, .int (nI b)), (2, .int (nI q)), (3, .int (nI i))] → W p l e (headSpec ws_Mo_tellBytes rm_Mo_tellBytes).room s m args below meth c H locs 0 0 (MQ below (va_Qv (fun (u9 : Unit) => match u9 with | _ => True) (fun (u9 : Unit) (t9 : State) => match u9 with | _ => va_P DD vwCl [(am, .inr (9, [.int (nI th), .int (nI n), .ref hk, .ref ht, .int (nI n1), .ref hk1, .ref ht1, .int (zb pb), .int (nI rn), .ref hfg, .ref hle, .ref hmo, .ref hwy, .int (nI (tbN k n tn 4)), .ref htf, .long cm, .ref hod, .ref hwk, .ref hot, .int (nI ru), .ref hen])), (hk, .inl (ck, 150, .inl k)), (htf, .inl (ctf, 900, .inl (tbF k n tn tf 4)))] t9.heap ∧ va_K DD vwCl [(ck, .int), (ctf, .int)] t9 ∧ va_D A [(am, .inr (9, [.int (nI th), .int (nI n), .ref hk, .ref ht, .int (nI n1), .ref hk1, .ref ht1, .int (zb pb), .int (nI rn), .ref hfg, .ref hle, .ref hmo, .ref hwy, .int (nI (tbN k n tn 4)), .ref htf, .long cm, .ref hod, .ref hwk, .ref hot, .int (nI ru), .ref hen])), (hk, .inl (ck, 150, .inl k)), (htf, .inl (ctf, 900, .inl (tbF k n tn tf 4)))]) A) args s 0 0 A) (F0 m 11 ls []) := by
        intro kk
        induction kk with
        | zero => intros; omega
        | succ kk ih11 =>
          intro i q hlb hi hc hkk ls hl
          have K25 : ∀ (kk : Nat) (j : Nat) (y : Nat), (hlt : i < n) → (hj : j ≤ i) → (hy2 : y < 2) → (hb9 : y = if cnt (eqB (dgK k b) ((dgK k b) i)) j = 0 then 1 else 0) → i - j < kk → ∀ (ls : Array Slot), lv_has ls 6 [(0, .ref am), (1, .int (nI b)), (2, .int (nI q)), (3, .int (nI i)), (4, .int (nI y)), (5, .int (nI j))] → W p l e (headSpec ws_Mo_tellBytes rm_Mo_tellBytes).room s m args below meth c H locs 0 0 (MQ below (va_Qv (fun (u9 : Unit) => match u9 with | _ => True) (fun (u9 : Unit) (t9 : State) => match u9 with | _ => va_P DD vwCl [(am, .inr (9, [.int (nI th), .int (nI n), .ref hk, .ref ht, .int (nI n1), .ref hk1, .ref ht1, .int (zb pb), .int (nI rn), .ref hfg, .ref hle, .ref hmo, .ref hwy, .int (nI (tbN k n tn 4)), .ref htf, .long cm, .ref hod, .ref hwk, .ref hot, .int (nI ru), .ref hen])), (hk, .inl (ck, 150, .inl k)), (htf, .inl (ctf, 900, .inl (tbF k n tn tf 4)))] t9.heap ∧ va_K DD vwCl [(ck, .int), (ctf, .int)] t9 ∧ va_D A [(am, .inr (9, [.int (nI th), .int (nI n), .ref hk, .ref ht, .int (nI n1), .ref hk1, .ref ht1, .int (zb pb), .int (nI rn), .ref hfg, .ref hle, .ref hmo, .ref hwy, .int (nI (tbN k n tn 4)), .ref htf, .long cm, .ref hod, .ref hwk, .ref hot, .int (nI ru), .ref hen])), (hk, .inl (ck, 150, .inl k)), (htf, .inl (ctf, 900, .inl (tbF k n tn tf 4)))]) A) args s 0 0 A) (F0 m 25 ls []) := by
            intro kk
            induction kk with
            | zero => intros; omega
            | succ kk ih25 =>
              intro j y hlt hj hy2 hb9 hkk ls hl
              refine lv_iload hx hb d_Mo_tellBytes_25 (lv_at hl 5 rfl) ?_
              refine lv_iload_n hx hb d_Mo_tellBytes_27 rfl (lv_at hl 3 rfl) ?_
              refine z_icmp_ge (tgt := 83) hx hb d_Mo_tellBytes_28 (by decide) (by omega) (by omega) (fun c_28 => ?_) (fun c_28 => ?_)
              · refine lv_iload hx hb d_Mo_tellBytes_83 (lv_at hl 4 rfl) ?_
                refine z_if_eq (tgt := 94) hx hb d_Mo_tellBytes_85 (by decide) (by omega) (fun c_85 => ?_) (fun c_85 => ?_)
                · refine lv_iload_n hx hb d_Mo_tellBytes_94 rfl (lv_at hl 2 rfl) ?_
                  refine lv_istore_n (lv' := [(2, .int (nI q)), (0, .ref am), (1, .int (nI b)), (3, .int (nI i)), (4, .int (nI y)), (5, .int (nI j))]) hx hb d_Mo_tellBytes_95 rfl hl (by decide) rfl (fun ls hl => ?_)
                  refine lv_iinc (v := nI (i + 1)) (lv' := [(3, .int (nI (i + 1))), (2, .int (nI q)), (0, .ref am), (1, .int (nI b)), (4, .int (nI y)), (5, .int (nI j))]) hx hb d_Mo_tellBytes_96 hl (k := 3) rfl (by exact nI_add i 1) (by decide) rfl (fun ls hl => ?_)
                  refine lv_goto (tgt := 11) hx hb d_Mo_tellBytes_99 (by decide) ?_
                  exact ih11 (i + 1) q (by omega) (by omega) (by first | exact cnt_t hc ((df_x hb9 c_28 hj).trans (decide_eq_true c_85)) | exact cnt_f hc ((df_x hb9 c_28 hj).trans (decide_eq_false (by omega)))) (by omega) ls (lv_sub hl [2, 3, 1, 0] rfl)
                · refine lv_iload_n hx hb d_Mo_tellBytes_88 rfl (lv_at hl 2 rfl) ?_
                  refine lv_iconst (v := nI 1) hx hb d_Mo_tellBytes_89 (by decide) ?_
                  refine z_iadd hx hb d_Mo_tellBytes_90 ?_
                  refine lv_goto (tgt := 95) hx hb d_Mo_tellBytes_91 (by decide) ?_
                  refine lv_istore_n (lv' := [(2, .int (nI (q + 1))), (0, .ref am), (1, .int (nI b)), (3, .int (nI i)), (4, .int (nI y)), (5, .int (nI j))]) hx hb d_Mo_tellBytes_95 rfl hl (by decide) rfl (fun ls hl => ?_)
                  refine lv_iinc (v := nI (i + 1)) (lv' := [(3, .int (nI (i + 1))), (2, .int (nI (q + 1))), (0, .ref am), (1, .int (nI b)), (4, .int (nI y)), (5, .int (nI j))]) hx hb d_Mo_tellBytes_96 hl (k := 3) rfl (by exact nI_add i 1) (by decide) rfl (fun ls hl => ?_)
                  refine lv_goto (tgt := 11) hx hb d_Mo_tellBytes_99 (by decide) ?_
                  exact ih11 (i + 1) (q + 1) (by omega) (by omega) (by first | exact cnt_t hc ((df_x hb9 c_28 hj).trans (decide_eq_true c_85)) | exact cnt_f hc ((df_x hb9 c_28 hj).trans (decide_eq_false (by omega)))) (by omega) ls (lv_sub hl [2, 3, 1, 0] rfl)
              · refine lv_iload hx hb d_Mo_tellBytes_31 (lv_at hl 4 rfl) ?_
                refine z_if_eq (tgt := 74) hx hb d_Mo_tellBytes_33 (by decide) (by omega) (fun c_33 => ?_) (fun c_33 => ?_)
                · refine lv_iconst (v := nI 0) hx hb d_Mo_tellBytes_74 (by decide) ?_
                  refine lv_istore (lv' := [(4, .int (nI 0)), (0, .ref am), (1, .int (nI b)), (2, .int (nI q)), (3, .int (nI i)), (5, .int (nI j))]) hx hb d_Mo_tellBytes_75 hl (by decide) rfl (fun ls hl => ?_)
                  refine lv_iinc (v := nI (j + 1)) (lv' := [(5, .int (nI (j + 1))), (4, .int (nI 0)), (0, .ref am), (1, .int (nI b)), (2, .int (nI q)), (3, .int (nI i))]) hx hb d_Mo_tellBytes_77 hl (k := 5) rfl (by exact nI_add j 1) (by decide) rfl (fun ls hl => ?_)
                  refine lv_goto (tgt := 25) hx hb d_Mo_tellBytes_80 (by decide) ?_
                  exact ih25 (j + 1) 0 (by omega) (by omega) (by omega) (by first | exact df_t hb9 c_33 c_67 | exact df_f2 c_67 | exact df_f1 hb9 c_33) (by omega) ls (lv_sub hl [2, 3, 4, 5, 1, 0] rfl)
                · refine lv_aload_n hx hb d_Mo_tellBytes_36 rfl (lv_at hl 0 rfl) ?_
                  refine va_get (D := DD) (ci := 9) (v := .ref hk) (C := R_Mo) (T := T_Mo) (N := 21) hx hb hg in_Mo hown hK hP 0 rfl rfl 2 (by decide) (hg _ mw_681) (fun _ h9 => h9) rfl d_Mo_tellBytes_37 ?_
                  refine lv_iload hx hb d_Mo_tellBytes_40 (lv_at hl 5 rfl) ?_
                  refine z_iald hx hb hK hP 1 0 rfl rfl (by omega) (by decide) d_Mo_tellBytes_42 ?_
                  refine lv_bipush (v := nI 8) hx hb d_Mo_tellBytes_43 (by decide) ?_
                  refine lv_iload_n hx hb d_Mo_tellBytes_45 rfl (lv_at hl 1 rfl) ?_
                  refine z_imul hx hb d_Mo_tellBytes_46 ?_
                  refine lv_ishr hx hb d_Mo_tellBytes_47 ?_
                  refine lv_sipush (v := nI 255) hx hb d_Mo_tellBytes_48 (by decide) ?_
                  refine lv_iand hx hb d_Mo_tellBytes_51 ?_
                  rw [show ((k j) >>> ((nI (8 * b)) &&& 31)) &&& (nI 255) = (dgK k b) j from rfl]
                  refine lv_aload_n hx hb d_Mo_tellBytes_52 rfl (lv_at hl 0 rfl) ?_
                  refine va_get (D := DD) (ci := 9) (v := .ref hk) (C := R_Mo) (T := T_Mo) (N := 21) hx hb hg in_Mo hown hK hP 0 rfl rfl 2 (by decide) (hg _ mw_681) (fun _ h9 => h9) rfl d_Mo_tellBytes_53 ?_
                  refine lv_iload_n hx hb d_Mo_tellBytes_56 rfl (lv_at hl 3 rfl) ?_
                  refine z_iald hx hb hK hP 1 0 rfl rfl (by omega) (by decide) d_Mo_tellBytes_57 ?_
                  refine lv_bipush (v := nI 8) hx hb d_Mo_tellBytes_58 (by decide) ?_
                  refine lv_iload_n hx hb d_Mo_tellBytes_60 rfl (lv_at hl 1 rfl) ?_
                  refine z_imul hx hb d_Mo_tellBytes_61 ?_
                  refine lv_ishr hx hb d_Mo_tellBytes_62 ?_
                  refine lv_sipush (v := nI 255) hx hb d_Mo_tellBytes_63 (by decide) ?_
                  refine lv_iand hx hb d_Mo_tellBytes_66 ?_
                  rw [show ((k i) >>> ((nI (8 * b)) &&& 31)) &&& (nI 255) = (dgK k b) i from rfl]
                  refine lv_icmp_eq (tgt := 74) hx hb d_Mo_tellBytes_67 (by decide) (fun c_67 => ?_) (fun c_67 => ?_)
                  · refine lv_iconst (v := nI 0) hx hb d_Mo_tellBytes_74 (by decide) ?_
                    refine lv_istore (lv' := [(4, .int (nI 0)), (0, .ref am), (1, .int (nI b)), (2, .int (nI q)), (3, .int (nI i)), (5, .int (nI j))]) hx hb d_Mo_tellBytes_75 hl (by decide) rfl (fun ls hl => ?_)
                    refine lv_iinc (v := nI (j + 1)) (lv' := [(5, .int (nI (j + 1))), (4, .int (nI 0)), (0, .ref am), (1, .int (nI b)), (2, .int (nI q)), (3, .int (nI i))]) hx hb d_Mo_tellBytes_77 hl (k := 5) rfl (by exact nI_add j 1) (by decide) rfl (fun ls hl => ?_)
                    refine lv_goto (tgt := 25) hx hb d_Mo_tellBytes_80 (by decide) ?_
                    exact ih25 (j + 1) 0 (by omega) (by omega) (by omega) (by first | exact df_t hb9 c_33 c_67 | exact df_f2 c_67 | exact df_f1 hb9 c_33) (by omega) ls (lv_sub hl [2, 3, 4, 5, 1, 0] rfl)
                  · refine lv_iconst (v := nI 1) hx hb d_Mo_tellBytes_70 (by decide) ?_
                    refine lv_goto (tgt := 75) hx hb d_Mo_tellBytes_71 (by decide) ?_
                    refine lv_istore (lv' := [(4, .int (nI 1)), (0, .ref am), (1, .int (nI b)), (2, .int (nI q)), (3, .int (nI i)), (5, .int (nI j))]) hx hb d_Mo_tellBytes_75 hl (by decide) rfl (fun ls hl => ?_)
                    refine lv_iinc (v := nI (j + 1)) (lv' := [(5, .int (nI (j + 1))), (4, .int (nI 1)), (0, .ref am), (1, .int (nI b)), (2, .int (nI q)), (3, .int (nI i))]) hx hb d_Mo_tellBytes_77 hl (k := 5) rfl (by exact nI_add j 1) (by decide) rfl (fun ls hl => ?_)
                    refine lv_goto (tgt := 25) hx hb d_Mo_tellBytes_80 (by decide) ?_
                    exact ih25 (j + 1) 1 (by omega) (by omega) (by omega) (by first | exact df_t hb9 c_33 c_67 | exact df_f2 c_67 | exact df_f1 hb9 c_33) (by omega) ls (lv_sub hl [2, 3, 4, 5, 1, 0] rfl)
          refine lv_iload_n hx hb d_Mo_tellBytes_11 rfl (lv_at hl 3 rfl) ?_
          refine lv_aload_n hx hb d_Mo_tellBytes_12 rfl (lv_at hl 0 rfl) ?_
          refine va_get (D := DD) (ci := 9) (v := .int (nI n)) (C := R_Mo) (T := T_Mo) (N := 21) hx hb hg in_Mo hown hK hP 0 rfl rfl 1 (by decide) (hg _ mw_680) (fun _ h9 => h9) rfl d_Mo_tellBytes_13 ?_
          refine z_icmp_ge (tgt := 102) hx hb d_Mo_tellBytes_16 (by decide) (by omega) (by omega) (fun c_16 => ?_) (fun c_16 => ?_)
          · have hcl := cnt_le (firstB (dgK k b)) n
            have hqd : q = tbD k n b := by rw [hc, Nat.le_antisymm hi c_16]; rfl
            have htl := tbN_le k n tn b
            have hqn : q ≤ n := by rw [hqd]; exact hcl
            refine lv_iload_n hx hb d_Mo_tellBytes_102 rfl (lv_at hl 2 rfl) ?_
            refine lv_iconst (v := nI 1) hx hb d_Mo_tellBytes_103 (by decide) ?_
            refine z_icmp_le (tgt := 114) hx hb d_Mo_tellBytes_104 (by decide) (by omega) (by omega) (fun c_104 => ?_) (fun c_104 => ?_)
            · rw [show tbF k n tn tf b = tbF k n tn tf (b + 1) from by rw [tbF, if_neg (by rw [← hqd]; omega)]] at hP hD
              rw [show nI (tbN k n tn b) = nI (tbN k n tn (b + 1)) from by rw [tbN, if_neg (by rw [← hqd]; omega)]] at hP hD
              refine lv_iinc (v := nI (b + 1)) (lv' := [(1, .int (nI (b + 1))), (0, .ref am), (2, .int (nI q)), (3, .int (nI i))]) hx hb d_Mo_tellBytes_114 hl (k := 1) rfl (by exact nI_add b 1) (by decide) rfl (fun ls hl => ?_)
              refine lv_goto (tgt := 2) hx hb d_Mo_tellBytes_117 (by decide) ?_
              exact ih2 (b + 1) (by omega) (by omega) _ _ hP hD hS ls (lv_sub hl [1, 0] rfl)
            · refine lv_aload_n hx hb d_Mo_tellBytes_107 rfl (lv_at hl 0 rfl) ?_
              refine lv_iconst (v := nI 4) hx hb d_Mo_tellBytes_108 (by decide) ?_
              refine lv_iload_n hx hb d_Mo_tellBytes_109 rfl (lv_at hl 1 rfl) ?_
              refine lv_iload_n hx hb d_Mo_tellBytes_110 rfl (lv_at hl 2 rfl) ?_
              have hPc := hP.sub (ws' := [(am, .inr (9, [.int (nI th), .int (nI n), .ref hk, .ref ht, .int (nI n1), .ref hk1, .ref ht1, .int (zb pb), .int (nI rn), .ref hfg, .ref hle, .ref hmo, .ref hwy, .int (nI (tbN k n tn b)), .ref htf, .long cm, .ref hod, .ref hwk, .ref hot, .int (nI ru), .ref hen])), (htf, .inl (ctf, 900, .inl (tbF k n tn tf b)))]) [0, 2] rfl
              have hKc := hK.sub (tys' := [(ctf, .int)]) [1] rfl
              have hDc := hD.sub (ws' := [(am, .inr (9, [.int (nI th), .int (nI n), .ref hk, .ref ht, .int (nI n1), .ref hk1, .ref ht1, .int (zb pb), .int (nI rn), .ref hfg, .ref hle, .ref hmo, .ref hwy, .int (nI (tbN k n tn b)), .ref htf, .long cm, .ref hod, .ref hwk, .ref hot, .int (nI ru), .ref hen])), (htf, .inl (ctf, 900, .inl (tbF k n tn tf b)))]) [0, 2] (by decide) rfl
              have hFc := va_free (wc := [(am, .inr (9, [.int (nI th), .int (nI n), .ref hk, .ref ht, .int (nI n1), .ref hk1, .ref ht1, .int (zb pb), .int (nI rn), .ref hfg, .ref hle, .ref hmo, .ref hwy, .int (nI (tbN k n tn b)), .ref htf, .long cm, .ref hod, .ref hwk, .ref hot, .int (nI ru), .ref hen])), (htf, .inl (ctf, 900, .inl (tbF k n tn tf b)))]) hD hS hA [0, 2] rfl
              refine va_callv (va_runV (As := [.int (nI 4), .int (nI b), .int (nI q)]) (rest := []) ⟨hx, hb, hml, hown, hg⟩ (c_Mo_tell l DD H.size am th n hk ht n1 hk1 ht1 pb rn hfg hle hmo hwy (tbN k n tn b) htf ctf (tbF k n tn tf b) cm hod hwk hot ru hen (nI 4) (nI b) (nI q) (by omega)) (cwV 3 hg (gi_V mw_831 mw_833 ms_Mo_tell mw_11 mw_834) rfl rfl rfl (by decide +kernel) ⟨Nat.le_of_ble_eq_true rfl, Nat.le_of_ble_eq_true rfl⟩) ⟨z_blindQ, va_recv hKc hPc (ci := 9) (q0 := 0) rfl rfl, z_preQ hPc hKc hDc⟩ rfl rfl hl.1 rfl (lv_room (Nat.le_of_ble_eq_true rfl)) d_Mo_tellBytes_111 ⟨Nat.zero_le _, Nat.zero_le _⟩) hS (fun q _ h => hFc q h) hFc (fun u9 t9 H9 locs ht9 hvm9 hw9 hB9 hz9 hk9 hS => ?_)
              obtain ⟨hP1, hK1, hD1⟩ := hB9
              rw [ht9] at hP1
              try dsimp only at hw9
              obtain ⟨hP, hD⟩ := va_join (wr := [(hk, .inl (ck, 150, .inl k))]) (w1 := [(am, .inr (9, [.int (nI th), .int (nI n), .ref hk, .ref ht, .int (nI n1), .ref hk1, .ref ht1, .int (zb pb), .int (nI rn), .ref hfg, .ref hle, .ref hmo, .ref hwy, .int (nI ((tbN k n tn b) + 1)), .ref htf, .long cm, .ref hod, .ref hwk, .ref hot, .int (nI ru), .ref hen])), (htf, .inl (ctf, 900, .inl (tadd (tbF k n tn tf b) (tbN k n tn b) (nI 4) (nI b) (nI q))))]) hP hD [0, 2] [1] rfl rfl (by decide) (by decide) hk9 hFc hP1 hD1
              generalize H9 = H at hP hS ⊢
              have hP : va_P DD vwCl [(hk, .inl (ck, 150, .inl k)), (am, .inr (9, [.int (nI th), .int (nI n), .ref hk, .ref ht, .int (nI n1), .ref hk1, .ref ht1, .int (zb pb), .int (nI rn), .ref hfg, .ref hle, .ref hmo, .ref hwy, .int (nI ((tbN k n tn b) + 1)), .ref htf, .long cm, .ref hod, .ref hwk, .ref hot, .int (nI ru), .ref hen])), (htf, .inl (ctf, 900, .inl (tadd (tbF k n tn tf b) (tbN k n tn b) (nI 4) (nI b) (nI q))))] H := hP
              have hD : va_D A [(hk, .inl (ck, 150, .inl k)), (am, .inr (9, [.int (nI th), .int (nI n), .ref hk, .ref ht, .int (nI n1), .ref hk1, .ref ht1, .int (zb pb), .int (nI rn), .ref hfg, .ref hle, .ref hmo, .ref hwy, .int (nI ((tbN k n tn b) + 1)), .ref htf, .long cm, .ref hod, .ref hwk, .ref hot, .int (nI ru), .ref hen])), (htf, .inl (ctf, 900, .inl (tadd (tbF k n tn tf b) (tbN k n tn b) (nI 4) (nI b) (nI q))))] := hD
              rw [show tadd (tbF k n tn tf b) (tbN k n tn b) (nI 4) (nI b) (nI q) = tbF k n tn tf (b + 1) from by rw [tbF, if_pos (by rw [← hqd]; exact c_104), hqd]] at hP hD
              rw [show nI ((tbN k n tn b) + 1) = nI (tbN k n tn (b + 1)) from by rw [tbN, if_pos (by rw [← hqd]; exact c_104)]] at hP hD
              refine lv_iinc (v := nI (b + 1)) (lv' := [(1, .int (nI (b + 1))), (0, .ref am), (2, .int (nI q)), (3, .int (nI i))]) hx hb d_Mo_tellBytes_114 hl (k := 1) rfl (by exact nI_add b 1) (by decide) rfl (fun ls hl => ?_)
              refine lv_goto (tgt := 2) hx hb d_Mo_tellBytes_117 (by decide) ?_
              exact ih2 (b + 1) (by omega) (by omega) _ _ (hP.sub [1, 0, 2] rfl) (hD.sub [1, 0, 2] (by decide) rfl) hS ls (lv_sub hl [1, 0] rfl)
          · refine lv_iconst (v := nI 1) hx hb d_Mo_tellBytes_19 (by decide) ?_
            refine lv_istore (lv' := [(4, .int (nI 1)), (0, .ref am), (1, .int (nI b)), (2, .int (nI q)), (3, .int (nI i))]) hx hb d_Mo_tellBytes_20 hl (by decide) rfl (fun ls hl => ?_)
            refine lv_iconst (v := nI 0) hx hb d_Mo_tellBytes_22 (by decide) ?_
            refine lv_istore (lv' := [(5, .int (nI 0)), (4, .int (nI 1)), (0, .ref am), (1, .int (nI b)), (2, .int (nI q)), (3, .int (nI i))]) hx hb d_Mo_tellBytes_23 hl (by decide) rfl (fun ls hl => ?_)
            exact K25 _ 0 1 (by omega) (by omega) (by omega) (by rfl) (Nat.lt_succ_self _) ls (lv_sub hl [2, 3, 4, 5, 1, 0] rfl)
      refine lv_iload_n hx hb d_Mo_tellBytes_2 rfl (lv_at hl 1 rfl) ?_
      refine lv_iconst (v := nI 4) hx hb d_Mo_tellBytes_3 (by decide) ?_
      refine z_icmp_ge (tgt := 120) hx hb d_Mo_tellBytes_4 (by decide) (by omega) (by omega) (fun c_4 => ?_) (fun c_4 => ?_)
      · rw [show tbF k n tn tf b = tbF k n tn tf 4 from by rw [Nat.le_antisymm hb4 c_4]] at hP hD
        rw [show nI (tbN k n tn b) = nI (tbN k n tn 4) from by rw [Nat.le_antisymm hb4 c_4]] at hP hD
        have hP9 := hP.sub (ws' := [(am, .inr (9, [.int (nI th), .int (nI n), .ref hk, .ref ht, .int (nI n1), .ref hk1, .ref ht1, .int (zb pb), .int (nI rn), .ref hfg, .ref hle, .ref hmo, .ref hwy, .int (nI (tbN k n tn 4)), .ref htf, .long cm, .ref hod, .ref hwk, .ref hot, .int (nI ru), .ref hen])), (hk, .inl (ck, 150, .inl k)), (htf, .inl (ctf, 900, .inl (tbF k n tn tf 4)))]) [0, 1, 2] rfl
        have hD9 := hD.sub (ws' := [(am, .inr (9, [.int (nI th), .int (nI n), .ref hk, .ref ht, .int (nI n1), .ref hk1, .ref ht1, .int (zb pb), .int (nI rn), .ref hfg, .ref hle, .ref hmo, .ref hwy, .int (nI (tbN k n tn 4)), .ref htf, .long cm, .ref hod, .ref hwk, .ref hot, .int (nI ru), .ref hen])), (hk, .inl (ck, 150, .inl k)), (htf, .inl (ctf, 900, .inl (tbF k n tn tf 4)))]) [0, 1, 2] (by decide) rfl
        exact W.vret hx hb hr (fun t9 ht9 hW9 => ⟨⟨(), rfl, trivial, by rw [ht9]; exact hP9, va_K.moved hW9.alike hK, hD9⟩, hS.F ht9⟩) hS.2.2 d_Mo_tellBytes_120
      · refine lv_iconst (v := nI 0) hx hb d_Mo_tellBytes_7 (by decide) ?_
        refine lv_istore_n (lv' := [(2, .int (nI 0)), (0, .ref am), (1, .int (nI b))]) hx hb d_Mo_tellBytes_8 rfl hl (by decide) rfl (fun ls hl => ?_)
        refine lv_iconst (v := nI 0) hx hb d_Mo_tellBytes_9 (by decide) ?_
        refine lv_istore_n (lv' := [(3, .int (nI 0)), (2, .int (nI 0)), (0, .ref am), (1, .int (nI b))]) hx hb d_Mo_tellBytes_10 rfl hl (by decide) rfl (fun ls hl => ?_)
        exact K11 _ 0 0 (by omega) (by omega) (by rfl) (Nat.lt_succ_self _) ls (lv_sub hl [2, 3, 1, 0] rfl)
  rw [show tf = tbF k n tn tf 0 from rfl] at hP hD
  rw [show nI tn = nI (tbN k n tn 0) from rfl] at hP hD
  refine lv_iconst (v := nI 0) hx hb d_Mo_tellBytes_0 (by decide) ?_
  refine lv_istore_n (lv' := [(1, .int (nI 0)), (0, .ref am)]) hx hb d_Mo_tellBytes_1 rfl hl (by decide) rfl (fun ls hl => ?_)
  exact K2 _ 0 (by omega) (Nat.lt_succ_self _) _ _ hP hD hS ls (lv_sub hl [1, 0] rfl)
