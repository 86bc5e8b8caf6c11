theorem d_By_digit_0 : decode b_By_digit 0 = .ok (.iload_n 0, 1) := by decide +kernel
theorem d_By_digit_1 : decode b_By_digit 1 = .ok (.bipush 8, 2) := by decide +kernel
theorem d_By_digit_3 : decode b_By_digit 3 = .ok (.iload_n 1, 1) := by decide +kernel
theorem d_By_digit_4 : decode b_By_digit 4 = .ok (.imul, 1) := by decide +kernel
theorem d_By_digit_5 : decode b_By_digit 5 = .ok (.ishr, 1) := by decide +kernel
theorem d_By_digit_6 : decode b_By_digit 6 = .ok (.sipush 255, 3) := by decide +kernel
theorem d_By_digit_9 : decode b_By_digit 9 = .ok (.iand, 1) := by decide +kernel
theorem d_By_digit_10 : decode b_By_digit 10 = .ok (.istore_n 2, 1) := by decide +kernel
theorem d_By_digit_11 : decode b_By_digit 11 = .ok (.iload_n 1, 1) := by decide +kernel
theorem d_By_digit_12 : decode b_By_digit 12 = .ok (.iconst 3, 1) := by decide +kernel
theorem d_By_digit_13 : decode b_By_digit 13 = .ok (.if_icmp .ne 11, 3) := by decide +kernel
theorem d_By_digit_16 : decode b_By_digit 16 = .ok (.iload_n 2, 1) := by decide +kernel
theorem d_By_digit_17 : decode b_By_digit 17 = .ok (.sipush 128, 3) := by decide +kernel
theorem d_By_digit_20 : decode b_By_digit 20 = .ok (.ixor, 1) := by decide +kernel
theorem d_By_digit_21 : decode b_By_digit 21 = .ok (.goto 4, 3) := by decide +kernel
theorem d_By_digit_24 : decode b_By_digit 24 = .ok (.iload_n 2, 1) := by decide +kernel
theorem d_By_digit_25 : decode b_By_digit 25 = .ok (.ireturn, 1) := by decide +kernel
abbrev ws_By_digit : List Cond := .code y_By_digit b_By_digit 3 (some .int) :: ALLG
abbrev rm_By_digit : Room := { frames := 0, cells := 0, slots := 0, locals := 0 }
set_option maxHeartbeats 4000000 in
set_option maxRecDepth 100000 in
theorem c_By_digit (l : Launch) (DD : va_G) (x : Int32) (b : Nat) (hb4 : b < 4) : Met l y_By_digit ws_By_digit rm_By_digit (va_Pc [.int x, .int (nI b)] (fun U => va_P DD vwCl [] U.heap ∧ va_K DD vwCl [] U)) (vp_Si (fun r9 => r9 = nI (dig x b))) 0 0 (fun _ => False) := by
  refine Met.ofW (cc := b_By_digit) (maxL := 3) (ret := (some .int)) (by decide) rfl ?_
  intro p e s m args below meth c s₁ B hml hv
  obtain ⟨ha, hP, hK⟩ := hv
  have hx := B.exec
  have hb := B.bytes
  have hr := B.returns
  have hts := atoms_spec (ws := ws_By_digit) B.pre
  have hg : ∀ w ∈ ALLG, w.before args s = true := fun w h => hts w (List.mem_cons_of_mem _ h)
  have hown : s.vm.findClass R_By = some m.cls := findClass_of_methodNamed B.named
  have hlocks := B.notSynchronized
  have hP : va_P DD vwCl [] s.heap := hP
  have hl := lv_entry ([.int x, .int (nI b)]) (n := 3) (Nat.le_of_ble_eq_true rfl)
  rw [ha, lg_entry_eq, ← ha]
  generalize (lg_sl ([.int x, .int (nI b)]) ++ List.replicate (3 - (lg_sl ([.int x, .int (nI b)])).length) Slot.unset).toArray = ls at hl ⊢
  have hl : lv_has ls 3 [(0, .int x), (1, .int (nI b))] := hl
  refine lv_iload_n hx hb d_By_digit_0 rfl (lv_at hl 0 rfl) ?_
  refine lv_bipush (v := nI 8) hx hb d_By_digit_1 (by decide) ?_
  refine lv_iload_n hx hb d_By_digit_3 rfl (lv_at hl 1 rfl) ?_
  refine z_imul hx hb d_By_digit_4 ?_
  refine lv_ishr hx hb d_By_digit_5 ?_
  refine lv_sipush (v := nI 255) hx hb d_By_digit_6 (by decide) ?_
  refine lv_iand hx hb d_By_digit_9 ?_
  rw [show (x >>> ((nI (8 * b)) &&& 31)) &&& (nI 255) = nI (dgN x b) from dgR_eq x b]
  refine lv_istore_n (lv' := [(2, .int (nI (dgN x b))), (0, .int x), (1, .int (nI b))]) hx hb d_By_digit_10 rfl hl (by decide) rfl (fun ls hl => ?_)
  refine lv_iload_n hx hb d_By_digit_11 rfl (lv_at hl 2 rfl) ?_
  refine lv_iconst (v := nI 3) hx hb d_By_digit_12 (by decide) ?_
  refine z_icmp_ne (tgt := 24) hx hb d_By_digit_13 (by decide) (by omega) (by omega) (fun c_13 => ?_) (fun c_13 => ?_)
  · refine lv_iload_n hx hb d_By_digit_24 rfl (lv_at hl 0 rfl) ?_
    exact W.iret (v := nI (dgN x b)) hx hb hr (fun t9 ht9 hW9 => ⟨_, rfl, (by first | exact congrArg nI (if_pos c_13).symm | exact congrArg nI (if_neg c_13).symm), ht9⟩) (fun _ h => nomatch h) d_By_digit_25
  · refine lv_iload_n hx hb d_By_digit_16 rfl (lv_at hl 0 rfl) ?_
    refine lv_sipush (v := nI 128) hx hb d_By_digit_17 (by decide) ?_
    refine lv_ixor hx hb d_By_digit_20 ?_
    rw [show (nI (dgN x b)) ^^^ (nI 128) = nI (dgN x b ^^^ 128) from xor_128 _ (dgN_lt x b)]
    refine lv_goto (tgt := 25) hx hb d_By_digit_21 (by decide) ?_
    exact W.iret (v := nI (dgN x b ^^^ 128)) hx hb hr (fun t9 ht9 hW9 => ⟨_, rfl, (by first | exact congrArg nI (if_pos c_13).symm | exact congrArg nI (if_neg c_13).symm), ht9⟩) (fun _ h => nomatch h) d_By_digit_25
theorem d_By_findNexts_0 : decode b_By_findNexts 0 = .ok (.iconst 0, 1) := by decide +kernel
theorem d_By_findNexts_1 : decode b_By_findNexts 1 = .ok (.istore_n 3, 1) := by decide +kernel
theorem d_By_findNexts_2 : decode b_By_findNexts 2 = .ok (.iload_n 3, 1) := by decide +kernel
theorem d_By_findNexts_3 : decode b_By_findNexts 3 = .ok (.sipush 256, 3) := by decide +kernel
theorem d_By_findNexts_6 : decode b_By_findNexts 6 = .ok (.if_icmp .ge 16, 3) := by decide +kernel
theorem d_By_findNexts_9 : decode b_By_findNexts 9 = .ok (.aload_n 0, 1) := by decide +kernel
theorem d_By_findNexts_10 : decode b_By_findNexts 10 = .ok (.getfield 11, 3) := by decide +kernel
theorem d_By_findNexts_13 : decode b_By_findNexts 13 = .ok (.iload_n 3, 1) := by decide +kernel
theorem d_By_findNexts_14 : decode b_By_findNexts 14 = .ok (.iconst 0, 1) := by decide +kernel
theorem d_By_findNexts_15 : decode b_By_findNexts 15 = .ok (.iastore, 1) := by decide +kernel
theorem d_By_findNexts_16 : decode b_By_findNexts 16 = .ok (.iinc 3 1, 3) := by decide +kernel
theorem d_By_findNexts_19 : decode b_By_findNexts 19 = .ok (.goto (-17), 3) := by decide +kernel
theorem d_By_findNexts_22 : decode b_By_findNexts 22 = .ok (.iconst 0, 1) := by decide +kernel
theorem d_By_findNexts_23 : decode b_By_findNexts 23 = .ok (.istore_n 3, 1) := by decide +kernel
theorem d_By_findNexts_24 : decode b_By_findNexts 24 = .ok (.iload_n 3, 1) := by decide +kernel
theorem d_By_findNexts_25 : decode b_By_findNexts 25 = .ok (.aload_n 1, 1) := by decide +kernel
theorem d_By_findNexts_26 : decode b_By_findNexts 26 = .ok (.invokevirtual 32, 3) := by decide +kernel
theorem d_By_findNexts_29 : decode b_By_findNexts 29 = .ok (.if_icmp .ge 27, 3) := by decide +kernel
theorem d_By_findNexts_32 : decode b_By_findNexts 32 = .ok (.aload_n 0, 1) := by decide +kernel
theorem d_By_findNexts_33 : decode b_By_findNexts 33 = .ok (.getfield 11, 3) := by decide +kernel
theorem d_By_findNexts_36 : decode b_By_findNexts 36 = .ok (.aload_n 1, 1) := by decide +kernel
theorem d_By_findNexts_37 : decode b_By_findNexts 37 = .ok (.iload_n 3, 1) := by decide +kernel
theorem d_By_findNexts_38 : decode b_By_findNexts 38 = .ok (.invokevirtual 38, 3) := by decide +kernel
theorem d_By_findNexts_41 : decode b_By_findNexts 41 = .ok (.iload_n 2, 1) := by decide +kernel
theorem d_By_findNexts_42 : decode b_By_findNexts 42 = .ok (.invokestatic 42, 3) := by decide +kernel
theorem d_By_findNexts_45 : decode b_By_findNexts 45 = .ok (.dup2, 1) := by decide +kernel
theorem d_By_findNexts_46 : decode b_By_findNexts 46 = .ok (.iaload, 1) := by decide +kernel
theorem d_By_findNexts_47 : decode b_By_findNexts 47 = .ok (.iconst 1, 1) := by decide +kernel
theorem d_By_findNexts_48 : decode b_By_findNexts 48 = .ok (.iadd, 1) := by decide +kernel
theorem d_By_findNexts_49 : decode b_By_findNexts 49 = .ok (.iastore, 1) := by decide +kernel
theorem d_By_findNexts_50 : decode b_By_findNexts 50 = .ok (.iinc 3 1, 3) := by decide +kernel
theorem d_By_findNexts_53 : decode b_By_findNexts 53 = .ok (.goto (-29), 3) := by decide +kernel
theorem d_By_findNexts_56 : decode b_By_findNexts 56 = .ok (.iconst 0, 1) := by decide +kernel
theorem d_By_findNexts_57 : decode b_By_findNexts 57 = .ok (.istore_n 3, 1) := by decide +kernel
theorem d_By_findNexts_58 : decode b_By_findNexts 58 = .ok (.iconst 0, 1) := by decide +kernel
theorem d_By_findNexts_59 : decode b_By_findNexts 59 = .ok (.istore 4, 2) := by decide +kernel
theorem d_By_findNexts_61 : decode b_By_findNexts 61 = .ok (.iconst 0, 1) := by decide +kernel
theorem d_By_findNexts_62 : decode b_By_findNexts 62 = .ok (.istore 5, 2) := by decide +kernel
theorem d_By_findNexts_64 : decode b_By_findNexts 64 = .ok (.iload 5, 2) := by decide +kernel
theorem d_By_findNexts_66 : decode b_By_findNexts 66 = .ok (.sipush 256, 3) := by decide +kernel
theorem d_By_findNexts_69 : decode b_By_findNexts 69 = .ok (.if_icmp .ge 42, 3) := by decide +kernel
theorem d_By_findNexts_72 : decode b_By_findNexts 72 = .ok (.aload_n 0, 1) := by decide +kernel
theorem d_By_findNexts_73 : decode b_By_findNexts 73 = .ok (.getfield 11, 3) := by decide +kernel
theorem d_By_findNexts_76 : decode b_By_findNexts 76 = .ok (.iload 5, 2) := by decide +kernel
theorem d_By_findNexts_78 : decode b_By_findNexts 78 = .ok (.iaload, 1) := by decide +kernel
theorem d_By_findNexts_79 : decode b_By_findNexts 79 = .ok (.istore 6, 2) := by decide +kernel
theorem d_By_findNexts_81 : decode b_By_findNexts 81 = .ok (.aload_n 0, 1) := by decide +kernel
theorem d_By_findNexts_82 : decode b_By_findNexts 82 = .ok (.getfield 11, 3) := by decide +kernel
theorem d_By_findNexts_85 : decode b_By_findNexts 85 = .ok (.iload 5, 2) := by decide +kernel
theorem d_By_findNexts_87 : decode b_By_findNexts 87 = .ok (.iload 4, 2) := by decide +kernel
theorem d_By_findNexts_89 : decode b_By_findNexts 89 = .ok (.iastore, 1) := by decide +kernel
theorem d_By_findNexts_90 : decode b_By_findNexts 90 = .ok (.iload 4, 2) := by decide +kernel
theorem d_By_findNexts_92 : decode b_By_findNexts 92 = .ok (.iload 6, 2) := by decide +kernel
theorem d_By_findNexts_94 : decode b_By_findNexts 94 = .ok (.iadd, 1) := by decide +kernel
theorem d_By_findNexts_95 : decode b_By_findNexts 95 = .ok (.istore 4, 2) := by decide +kernel
theorem d_By_findNexts_97 : decode b_By_findNexts 97 = .ok (.iload 6, 2) := by decide +kernel
theorem d_By_findNexts_99 : decode b_By_findNexts 99 = .ok (.ifCond .le 6, 3) := by decide +kernel
theorem d_By_findNexts_102 : decode b_By_findNexts 102 = .ok (.iinc 3 1, 3) := by decide +kernel
theorem d_By_findNexts_105 : decode b_By_findNexts 105 = .ok (.iinc 5 1, 3) := by decide +kernel
theorem d_By_findNexts_108 : decode b_By_findNexts 108 = .ok (.goto (-44), 3) := by decide +kernel
theorem d_By_findNexts_111 : decode b_By_findNexts 111 = .ok (.iload_n 3, 1) := by decide +kernel
theorem d_By_findNexts_112 : decode b_By_findNexts 112 = .ok (.ireturn, 1) := by decide +kernel
abbrev ws_By_findNexts : List Cond := .code y_By_findNexts b_By_findNexts 7 (some .int) :: ALLG
abbrev rm_By_findNexts : Room := { frames := 1, cells := 0, slots := 0, locals := 22 }
set_option maxHeartbeats 4000000 in
set_option maxRecDepth 100000 in
theorem c_By_findNexts (l : Launch) (DD : va_G) (sz : Nat) (aw : Nat) (hbn : Nat) (cbn : ClassId) (bn : Nat → Nat) (hbd : Nat) (h : Nat) (hk : Nat) (ck : ClassId) (k : Nat → Int32) (ht : Nat) (n : Nat) (b : Nat) (hn : n ≤ 150) (hb4 : b < 4) : Met l y_By_findNexts ws_By_findNexts rm_By_findNexts (va_Pc [.ref aw, .ref h, .int (nI b)] (fun U => U.heap.size = sz ∧ va_P DD vwCl [(aw, .inr (0, [.ref hbn, .ref hbd])), (hbn, .inl (cbn, 256, .inl (nF bn))), (h, .inr (4, [.ref hk, .ref ht, .int (nI n)])), (hk, .inl (ck, 150, .inl k))] U.heap ∧ va_K DD vwCl [(cbn, .int), (ck, .int)] U ∧ va_D (fun _ => True) [(aw, .inr (0, [.ref hbn, .ref hbd])), (hbn, .inl (cbn, 256, .inl (nF bn))), (h, .inr (4, [.ref hk, .ref ht, .int (nI n)])), (hk, .inl (ck, 150, .inl k))])) (va_Qi (fun (r9 : Int32) (u9 : Unit) => match u9 with | _ => r9 = nI (cnt (posB (byC k b n bn)) 256)) (fun (u9 : Unit) (t9 : State) => match u9 with | _ => va_P DD vwCl [(aw, .inr (0, [.ref hbn, .ref hbd])), (hbn, .inl (cbn, 256, .inl (nF (pfF (byC k b n bn) 256)))), (h, .inr (4, [.ref hk, .ref ht, .int (nI n)])), (hk, .inl (ck, 150, .inl k))] t9.heap ∧ va_K DD vwCl [(cbn, .int), (ck, .int)] t9 ∧ va_D (va_A [(aw, .inr (0, [.ref hbn, .ref hbd])), (hbn, .inl (cbn, 256, .inl (nF bn))), (h, .inr (4, [.ref hk, .ref ht, .int (nI n)])), (hk, .inl (ck, 150, .inl k))] sz) [(aw, .inr (0, [.ref hbn, .ref hbd])), (hbn, .inl (cbn, 256, .inl (nF (pfF (byC k b n bn) 256)))), (h, .inr (4, [.ref hk, .ref ht, .int (nI n)])), (hk, .inl (ck, 150, .inl k))]) (va_A [(aw, .inr (0, [.ref hbn, .ref hbd])), (hbn, .inl (cbn, 256, .inl (nF bn))), (h, .inr (4, [.ref hk, .ref ht, .int (nI n)])), (hk, .inl (ck, 150, .inl k))] sz)) 0 0 (va_A [(aw, .inr (0, [.ref hbn, .ref hbd])), (hbn, .inl (cbn, 256, .inl (nF bn))), (h, .inr (4, [.ref hk, .ref ht, .int (nI n)])), (hk, .inl (ck, 150, .inl k))] sz) := by
  refine Met.ofW (cc := b_By_findNexts) (maxL := 7) (ret := (some .int)) (by decide) rfl ?_
  intro p e s m args below meth c s₁ B hml hv
  obtain ⟨ha, hsz, hP, hK, hD0⟩ := hv
  have hx := B.exec
  have hb := B.bytes
  have hr := B.returns
  have hts := atoms_spec (ws := ws_By_findNexts) B.pre
  have hg : ∀ w ∈ ALLG, w.before args s = true := fun w h => hts w (List.mem_cons_of_mem _ h)
  have hown : s.vm.findClass R_By = some m.cls := findClass_of_methodNamed B.named
  have hlocks := B.notSynchronized
  subst hsz
  have hD := hD0.self (sz := s.heap.size)
  generalize hAe : va_A [(aw, .inr (0, [.ref hbn, .ref hbd])), (hbn, .inl (cbn, 256, .inl (nF bn))), (h, .inr (4, [.ref hk, .ref ht, .int (nI n)])), (hk, .inl (ck, 150, .inl k))] s.heap.size = A at hD ⊢
  have hA : ∀ q : Nat, s.heap.size ≤ q → A q := fun q h => by rw [← hAe]; exact Or.inr h
  have hS : va_S A s.heap s.heap [] := va_S.rf
  have hP : va_P DD vwCl [(aw, .inr (0, [.ref hbn, .ref hbd])), (hbn, .inl (cbn, 256, .inl (nF bn))), (h, .inr (4, [.ref hk, .ref ht, .int (nI n)])), (hk, .inl (ck, 150, .inl k))] s.heap := hP
  have hl := lv_entry ([.ref aw, .ref h, .int (nI b)]) (n := 7) (Nat.le_of_ble_eq_true rfl)
  rw [ha, lg_entry_eq, ← ha]
  generalize (lg_sl ([.ref aw, .ref h, .int (nI b)]) ++ List.replicate (7 - (lg_sl ([.ref aw, .ref h, .int (nI b)])).length) Slot.unset).toArray = ls at hl ⊢
  have hl : lv_has ls 7 [(0, .ref aw), (1, .ref h), (2, .int (nI b))] := hl
  have K64 : ∀ (kk : Nat) (i : Nat) (q : Nat), (hi : i ≤ 256) → (hq : q = cnt (posB (byC k b n bn)) i) → 256 - i < kk → ∀ (H : Heap) (locs : List Loc), va_P DD vwCl [(aw, .inr (0, [.ref hbn, .ref hbd])), (hbn, .inl (cbn, 256, .inl (nF (pfF (byC k b n bn) i)))), (h, .inr (4, [.ref hk, .ref ht, .int (nI n)])), (hk, .inl (ck, 150, .inl k))] H → va_D A [(aw, .inr (0, [.ref hbn, .ref hbd])), (hbn, .inl (cbn, 256, .inl (nF (pfF (byC k b n bn) i)))), (h, .inr (4, [.ref hk, .ref ht, .int (nI n)])), (hk, .inl (ck, 150, .inl k))] → va_S A s.heap H locs → ∀ (ls : Array Slot), lv_has ls 7 [(0, .ref aw), (1, .ref h), (2, .int (nI b)), (3, .int (nI q)), (4, .int (nI (sumF (byC k b n bn) i))), (5, .int (nI i))] → W p l e (headSpec ws_By_findNexts rm_By_findNexts).room s m args below meth c H locs 0 0 (MQ below (va_Qi (fun (r9 : Int32) (u9 : Unit) => match u9 with | _ => r9 = nI (cnt (posB (byC k b n bn)) 256)) (fun (u9 : Unit) (t9 : State) => match u9 with | _ => va_P DD vwCl [(aw, .inr (0, [.ref hbn, .ref hbd])), (hbn, .inl (cbn, 256, .inl (nF (pfF (byC k b n bn) 256)))), (h, .inr (4, [.ref hk, .ref ht, .int (nI n)])), (hk, .inl (ck, 150, .inl k))] t9.heap ∧ va_K DD vwCl [(cbn, .int), (ck, .int)] t9 ∧ va_D A [(aw, .inr (0, [.ref hbn, .ref hbd])), (hbn, .inl (cbn, 256, .inl (nF (pfF (byC k b n bn) 256)))), (h, .inr (4, [.ref hk, .ref ht, .int (nI n)])), (hk, .inl (ck, 150, .inl k))]) A) args s 0 0 A) (F0 m 64 ls []) := by
    intro kk
    induction kk with
    | zero => intros; omega
    | succ kk ih64 =>
      intro i q hi hq hkk H locs hP hD hS ls hl
      refine lv_iload hx hb d_By_findNexts_64 (lv_at hl 5 rfl) ?_
      refine lv_sipush (v := nI 256) hx hb d_By_findNexts_66 (by decide) ?_
      refine z_icmp_ge (tgt := 111) hx hb d_By_findNexts_69 (by decide) (by omega) (by omega) (fun c_69 => ?_) (fun c_69 => ?_)
      · rw [show pfF (byC k b n bn) i = pfF (byC k b n bn) 256 from by rw [Nat.le_antisymm hi c_69]] at hP hD
        refine lv_iload_n hx hb d_By_findNexts_111 rfl (lv_at hl 3 rfl) ?_
        have hP9 := hP.sub (ws' := [(aw, .inr (0, [.ref hbn, .ref hbd])), (hbn, .inl (cbn, 256, .inl (nF (pfF (byC k b n bn) 256)))), (h, .inr (4, [.ref hk, .ref ht, .int (nI n)])), (hk, .inl (ck, 150, .inl k))]) [0, 1, 2, 3] rfl
        have hD9 := hD.sub (ws' := [(aw, .inr (0, [.ref hbn, .ref hbd])), (hbn, .inl (cbn, 256, .inl (nF (pfF (byC k b n bn) 256)))), (h, .inr (4, [.ref hk, .ref ht, .int (nI n)])), (hk, .inl (ck, 150, .inl k))]) [0, 1, 2, 3] (by decide) rfl
        exact W.iret (v := nI q) hx hb hr (fun t9 ht9 hW9 => ⟨⟨_, (), rfl, (by exact congrArg nI (by rw [hq, Nat.le_antisymm hi c_69])), by rw [ht9]; exact hP9, va_K.moved hW9.alike hK, hD9⟩, hS.F ht9⟩) hS.2.2 d_By_findNexts_112
      · have hC : (byC k b n bn) i ≤ n := by rw [byC_eq bn c_69]; exact cnt_le _ n
        refine lv_aload_n hx hb d_By_findNexts_72 rfl (lv_at hl 0 rfl) ?_
        refine va_get (D := DD) (ci := 0) (v := .ref hbn) (C := R_By) (T := T_By) (N := 2) hx hb hg in_By hown hK hP 0 rfl rfl 0 (by decide) (hg _ mw_133) (fun _ h9 => h9) rfl d_By_findNexts_73 ?_
        refine lv_iload hx hb d_By_findNexts_76 (lv_at hl 5 rfl) ?_
        refine z_ialdN hx hb hK hP 1 0 rfl rfl (by omega) (by decide) d_By_findNexts_78 ?_
        rw [show nI ((pfF (byC k b n bn) i) i) = nI ((byC k b n bn) i) from pfF_i (byC k b n bn) i]
        refine lv_istore (lv' := [(6, .int (nI ((byC k b n bn) i))), (0, .ref aw), (1, .ref h), (2, .int (nI b)), (3, .int (nI q)), (4, .int (nI (sumF (byC k b n bn) i))), (5, .int (nI i))]) hx hb d_By_findNexts_79 hl (by decide) rfl (fun ls hl => ?_)
        refine lv_aload_n hx hb d_By_findNexts_81 rfl (lv_at hl 1 rfl) ?_
        refine va_get (D := DD) (ci := 0) (v := .ref hbn) (C := R_By) (T := T_By) (N := 2) hx hb hg in_By hown hK hP 0 rfl rfl 0 (by decide) (hg _ mw_133) (fun _ h9 => h9) rfl d_By_findNexts_82 ?_
        refine lv_iload hx hb d_By_findNexts_85 (lv_at hl 6 rfl) ?_
        refine lv_iload hx hb d_By_findNexts_87 (lv_at hl 5 rfl) ?_
        refine z_iastN hx hb hK hP hD hS 1 0 rfl rfl (by omega) (by decide) d_By_findNexts_89 (fun H locs hP hD hS => ?_)
        have hP : va_P DD vwCl [(aw, .inr (0, [.ref hbn, .ref hbd])), (hbn, .inl (cbn, 256, .inl (nF (va_up (pfF (byC k b n bn) i) i (sumF (byC k b n bn) i))))), (h, .inr (4, [.ref hk, .ref ht, .int (nI n)])), (hk, .inl (ck, 150, .inl k))] H := hP
        have hD : va_D A [(aw, .inr (0, [.ref hbn, .ref hbd])), (hbn, .inl (cbn, 256, .inl (nF (va_up (pfF (byC k b n bn) i) i (sumF (byC k b n bn) i))))), (h, .inr (4, [.ref hk, .ref ht, .int (nI n)])), (hk, .inl (ck, 150, .inl k))] := hD
        rw [show va_up (pfF (byC k b n bn) i) i (sumF (byC k b n bn) i) = pfF (byC k b n bn) (i + 1) from pfF_s _ i] at hP hD
        refine lv_iload hx hb d_By_findNexts_90 (lv_at hl 5 rfl) ?_
        refine lv_iload hx hb d_By_findNexts_92 (lv_at hl 0 rfl) ?_
        refine z_iadd hx hb d_By_findNexts_94 ?_
        refine lv_istore (lv' := [(4, .int (nI ((sumF (byC k b n bn) i) + ((byC k b n bn) i)))), (6, .int (nI ((byC k b n bn) i))), (0, .ref aw), (1, .ref h), (2, .int (nI b)), (3, .int (nI q)), (5, .int (nI i))]) hx hb d_By_findNexts_95 hl (by decide) rfl (fun ls hl => ?_)
        refine lv_iload hx hb d_By_findNexts_97 (lv_at hl 1 rfl) ?_
        refine z_if_le (tgt := 105) hx hb d_By_findNexts_99 (by decide) (by omega) (fun c_99 => ?_) (fun c_99 => ?_)
        · refine lv_iinc (v := nI (i + 1)) (lv' := [(5, .int (nI (i + 1))), (4, .int (nI ((sumF (byC k b n bn) i) + ((byC k b n bn) i)))), (6, .int (nI ((byC k b n bn) i))), (0, .ref aw), (1, .ref h), (2, .int (nI b)), (3, .int (nI q))]) hx hb d_By_findNexts_105 hl (k := 6) rfl (by exact nI_add i 1) (by decide) rfl (fun ls hl => ?_)
          refine lv_goto (tgt := 64) hx hb d_By_findNexts_108 (by decide) ?_
          exact ih64 (i + 1) q (by omega) (by first | exact cnt_t hq (decide_eq_true c_99) | exact cnt_f hq (decide_eq_false (by omega))) (by omega) _ _ hP hD hS ls (lv_sub hl [3, 4, 5, 6, 1, 0] rfl)
        · refine lv_iinc (v := nI (q + 1)) (lv' := [(3, .int (nI (q + 1))), (4, .int (nI ((sumF (byC k b n bn) i) + ((byC k b n bn) i)))), (6, .int (nI ((byC k b n bn) i))), (0, .ref aw), (1, .ref h), (2, .int (nI b)), (5, .int (nI i))]) hx hb d_By_findNexts_102 hl (k := 5) rfl (by exact nI_add q 1) (by decide) rfl (fun ls hl => ?_)
          refine lv_iinc (v := nI (i + 1)) (lv' := [(5, .int (nI (i + 1))), (3, .int (nI (q + 1))), (4, .int (nI ((sumF (byC k b n bn) i) + ((byC k b n bn) i)))), (6, .int (nI ((byC k b n bn) i))), (0, .ref aw), (1, .ref h), (2, .int (nI b))]) hx hb d_By_findNexts_105 hl (k := 6) rfl (by exact nI_add i 1) (by decide) rfl (fun ls hl => ?_)
          refine lv_goto (tgt := 64) hx hb d_By_findNexts_108 (by decide) ?_
          exact ih64 (i + 1) (q + 1) (by omega) (by first | exact cnt_t hq (decide_eq_true c_99) | exact cnt_f hq (decide_eq_false (by omega))) (by omega) _ _ hP hD hS ls (lv_sub hl [4, 5, 6, 1, 2, 0] rfl)
  have K24 : ∀ (kk : Nat) (i : Nat), (hi : i ≤ n) → n - i < kk → ∀ (H : Heap) (locs : List Loc), va_P DD vwCl [(aw, .inr (0, [.ref hbn, .ref hbd])), (hbn, .inl (cbn, 256, .inl (nF (coF (zeF bn 256) (dgF k b) i)))), (h, .inr (4, [.ref hk, .ref ht, .int (nI n)])), (hk, .inl (ck, 150, .inl k))] H → va_D A [(aw, .inr (0, [.ref hbn, .ref hbd])), (hbn, .inl (cbn, 256, .inl (nF (coF (zeF bn 256) (dgF k b) i)))), (h, .inr (4, [.ref hk, .ref ht, .int (nI n)])), (hk, .inl (ck, 150, .inl k))] → va_S A s.heap H locs → ∀ (ls : Array Slot), lv_has ls 7 [(0, .ref aw), (1, .ref h), (2, .int (nI b)), (3, .int (nI i))] → W p l e (headSpec ws_By_findNexts rm_By_findNexts).room s m args below meth c H locs 0 0 (MQ below (va_Qi (fun (r9 : Int32) (u9 : Unit) => match u9 with | _ => r9 = nI (cnt (posB (byC k b n bn)) 256)) (fun (u9 : Unit) (t9 : State) => match u9 with | _ => va_P DD vwCl [(aw, .inr (0, [.ref hbn, .ref hbd])), (hbn, .inl (cbn, 256, .inl (nF (pfF (byC k b n bn) 256)))), (h, .inr (4, [.ref hk, .ref ht, .int (nI n)])), (hk, .inl (ck, 150, .inl k))] t9.heap ∧ va_K DD vwCl [(cbn, .int), (ck, .int)] t9 ∧ va_D A [(aw, .inr (0, [.ref hbn, .ref hbd])), (hbn, .inl (cbn, 256, .inl (nF (pfF (byC k b n bn) 256)))), (h, .inr (4, [.ref hk, .ref ht, .int (nI n)])), (hk, .inl (ck, 150, .inl k))]) A) args s 0 0 A) (F0 m 24 ls []) := by
    intro kk
    induction kk with
    | zero => intros; omega
    | succ kk ih24 =>
      intro i hi hkk H locs hP hD hS ls hl
      refine lv_iload_n hx hb d_By_findNexts_24 rfl (lv_at hl 3 rfl) ?_
      refine lv_aload_n hx hb d_By_findNexts_25 rfl (lv_at hl 1 rfl) ?_
      have hPc := hP.sub (ws' := [(h, .inr (4, [.ref hk, .ref ht, .int (nI n)])), (hk, .inl (ck, 150, .inl k))]) [2, 3] rfl
      have hKc := hK.sub (tys' := [(ck, .int)]) [1] rfl
      refine vp_callSi (W.runV (As := []) (rest := [.int (nI i)]) ⟨hx, hb, hml, hown, hg⟩ (c_Ro_size l DD h hk ht ck n k) (cwV 0 hg (gi_V mw_547 mw_214 mw_215 mw_2 mw_216) rfl rfl rfl (by decide +kernel) ⟨Nat.le_of_ble_eq_true rfl, Nat.le_of_ble_eq_true rfl⟩) ⟨z_blind, va_recv hKc hPc (ci := 4) (q0 := 0) rfl rfl, z_pre hPc hKc⟩ rfl rfl hl.1 rfl (lv_room (Nat.le_of_ble_eq_true rfl)) d_By_findNexts_26 ⟨Nat.zero_le _, Nat.zero_le _⟩) (fun r_26 hr_26 => ?_)
      subst hr_26
      refine z_icmp_ge (tgt := 56) hx hb d_By_findNexts_29 (by decide) (by omega) (by omega) (fun c_29 => ?_) (fun c_29 => ?_)
      · rw [show coF (zeF bn 256) (dgF k b) i = pfF (byC k b n bn) 0 from by rw [Nat.le_antisymm hi c_29]; exact pfF_0 _] at hP hD
        refine lv_iconst (v := nI 0) hx hb d_By_findNexts_56 (by decide) ?_
        refine lv_istore_n (lv' := [(3, .int (nI 0)), (0, .ref aw), (1, .ref h), (2, .int (nI b))]) hx hb d_By_findNexts_57 rfl hl (by decide) rfl (fun ls hl => ?_)
        refine lv_iconst (v := nI 0) hx hb d_By_findNexts_58 (by decide) ?_
        refine lv_istore (lv' := [(4, .int (nI 0)), (3, .int (nI 0)), (0, .ref aw), (1, .ref h), (2, .int (nI b))]) hx hb d_By_findNexts_59 hl (by decide) rfl (fun ls hl => ?_)
        refine lv_iconst (v := nI 0) hx hb d_By_findNexts_61 (by decide) ?_
        refine lv_istore (lv' := [(5, .int (nI 0)), (4, .int (nI 0)), (3, .int (nI 0)), (0, .ref aw), (1, .ref h), (2, .int (nI b))]) hx hb d_By_findNexts_62 hl (by decide) rfl (fun ls hl => ?_)
        exact K64 _ 0 0 (by omega) (by rfl) (Nat.lt_succ_self _) _ _ hP hD hS ls (lv_sub hl [3, 4, 5, 2, 1, 0] rfl)
      · refine lv_aload_n hx hb d_By_findNexts_32 rfl (lv_at hl 0 rfl) ?_
        refine va_get (D := DD) (ci := 0) (v := .ref hbn) (C := R_By) (T := T_By) (N := 2) hx hb hg in_By hown hK hP 0 rfl rfl 0 (by decide) (hg _ mw_133) (fun _ h9 => h9) rfl d_By_findNexts_33 ?_
        refine lv_aload_n hx hb d_By_findNexts_36 rfl (lv_at hl 1 rfl) ?_
        refine lv_iload_n hx hb d_By_findNexts_37 rfl (lv_at hl 3 rfl) ?_
        have hPc := hP.sub (ws' := [(h, .inr (4, [.ref hk, .ref ht, .int (nI n)])), (hk, .inl (ck, 150, .inl k))]) [2, 3] rfl
        have hKc := hK.sub (tys' := [(ck, .int)]) [1] rfl
        refine vp_callSi (W.runV (As := [.int (nI i)]) (rest := [.ref hbn]) ⟨hx, hb, hml, hown, hg⟩ (c_Ro_key l DD h hk ht ck n k i (by omega)) (cwV 1 hg (gi_V mw_548 mw_410 mw_411 mw_2 mw_412) rfl rfl rfl (by decide +kernel) ⟨Nat.le_of_ble_eq_true rfl, Nat.le_of_ble_eq_true rfl⟩) ⟨z_blind, va_recv hKc hPc (ci := 4) (q0 := 0) rfl rfl, z_pre hPc hKc⟩ rfl rfl hl.1 rfl (lv_room (Nat.le_of_ble_eq_true rfl)) d_By_findNexts_38 ⟨Nat.zero_le _, Nat.zero_le _⟩) (fun r_38 hr_38 => ?_)
        subst hr_38
        refine lv_iload_n hx hb d_By_findNexts_41 rfl (lv_at hl 2 rfl) ?_
        have hPc := hP.sub (ws' := []) [] rfl
        have hKc := hK.sub (tys' := []) [] rfl
        refine vp_callSi (W.runS (As := [.int (k i), .int (nI b)]) (rest := [.ref hbn]) ⟨hx, hb, hml, hown, hg⟩ (c_By_digit l DD (k i) b (by omega)) (cwS 2 hg (gi_S mw_549 mw_550 mw_10 mw_551) rfl rfl rfl (by decide +kernel) ⟨Nat.le_of_ble_eq_true rfl, Nat.le_of_ble_eq_true rfl⟩) ⟨z_blind, z_pre hPc hKc⟩ rfl rfl hl.1 rfl (lv_room (Nat.le_of_ble_eq_true rfl)) d_By_findNexts_42 ⟨Nat.zero_le _, Nat.zero_le _⟩) (fun r_42 hr_42 => ?_)
        subst hr_42
        refine lv_dup2_11 hx hb d_By_findNexts_45 rfl rfl ?_
        refine z_ialdN hx hb hK hP 1 0 rfl rfl (by exact dig_lt _ _) (by decide) d_By_findNexts_46 ?_
        refine lv_iconst (v := nI 1) hx hb d_By_findNexts_47 (by decide) ?_
        refine z_iadd hx hb d_By_findNexts_48 ?_
        refine z_iastN hx hb hK hP hD hS 1 0 rfl rfl (by exact dig_lt _ _) (by decide) d_By_findNexts_49 (fun H locs hP hD hS => ?_)
        have hP : va_P DD vwCl [(aw, .inr (0, [.ref hbn, .ref hbd])), (hbn, .inl (cbn, 256, .inl (nF (va_up (coF (zeF bn 256) (dgF k b) i) (dig (k i) b) (((coF (zeF bn 256) (dgF k b) i) (dig (k i) b)) + 1))))), (h, .inr (4, [.ref hk, .ref ht, .int (nI n)])), (hk, .inl (ck, 150, .inl k))] H := hP
        have hD : va_D A [(aw, .inr (0, [.ref hbn, .ref hbd])), (hbn, .inl (cbn, 256, .inl (nF (va_up (coF (zeF bn 256) (dgF k b) i) (dig (k i) b) (((coF (zeF bn 256) (dgF k b) i) (dig (k i) b)) + 1))))), (h, .inr (4, [.ref hk, .ref ht, .int (nI n)])), (hk, .inl (ck, 150, .inl k))] := hD
        rw [show va_up (coF (zeF bn 256) (dgF k b) i) (dig (k i) b) (((coF (zeF bn 256) (dgF k b) i) (dig (k i) b)) + 1) = coF (zeF bn 256) (dgF k b) (i + 1) from rfl] at hP hD
        refine lv_iinc (v := nI (i + 1)) (lv' := [(3, .int (nI (i + 1))), (0, .ref aw), (1, .ref h), (2, .int (nI b))]) hx hb d_By_findNexts_50 hl (k := 3) rfl (by exact nI_add i 1) (by decide) rfl (fun ls hl => ?_)
        refine lv_goto (tgt := 24) hx hb d_By_findNexts_53 (by decide) ?_
        exact ih24 (i + 1) (by omega) (by omega) _ _ hP hD hS ls (lv_sub hl [1, 2, 3, 0] rfl)
  have K2 : ∀ (kk : Nat) (i : Nat), (hi : i ≤ 256) → 256 - i < kk → ∀ (H : Heap) (locs : List Loc), va_P DD vwCl [(aw, .inr (0, [.ref hbn, .ref hbd])), (hbn, .inl (cbn, 256, .inl (nF (zeF bn i)))), (h, .inr (4, [.ref hk, .ref ht, .int (nI n)])), (hk, .inl (ck, 150, .inl k))] H → va_D A [(aw, .inr (0, [.ref hbn, .ref hbd])), (hbn, .inl (cbn, 256, .inl (nF (zeF bn i)))), (h, .inr (4, [.ref hk, .ref ht, .int (nI n)])), (hk, .inl (ck, 150, .inl k))] → va_S A s.heap H locs → ∀ (ls : Array Slot), lv_has ls 7 [(0, .ref aw), (1, .ref h), (2, .int (nI b)), (3, .int (nI i))] → W p l e (headSpec ws_By_findNexts rm_By_findNexts).room s m args below meth c H locs 0 0 (MQ below (va_Qi (fun (r9 : Int32) (u9 : Unit) => match u9 with | _ => r9 = nI (cnt (posB (byC k b n bn)) 256)) (fun (u9 : Unit) (t9 : State) => match u9 with | _ => va_P DD vwCl [(aw, .inr (0, [.ref hbn, .ref hbd])), (hbn, .inl (cbn, 256, .inl (nF (pfF (byC k b n bn) 256)))), (h, .inr (4, [.ref hk, .ref ht, .int (nI n)])), (hk, .inl (ck, 150, .inl k))] t9.heap ∧ va_K DD vwCl [(cbn, .int), (ck, .int)] t9 ∧ va_D A [(aw, .inr (0, [.ref hbn, .ref hbd])), (hbn, .inl (cbn, 256, .inl (nF (pfF (byC k b n bn) 256)))), (h, .inr (4, [.ref hk, .ref ht, .int (nI n)])), (hk, .inl (ck, 150, .inl k))]) A) args s 0 0 A) (F0 m 2 ls []) := by
    intro kk
    induction kk with
    | zero => intros; omega
    | succ kk ih2 =>
      intro i hi hkk H locs hP hD hS ls hl
      refine lv_iload_n hx hb d_By_findNexts_2 rfl (lv_at hl 3 rfl) ?_
      refine lv_sipush (v := nI 256) hx hb d_By_findNexts_3 (by decide) ?_
      refine z_icmp_ge (tgt := 22) hx hb d_By_findNexts_6 (by decide) (by omega) (by omega) (fun c_6 => ?_) (fun c_6 => ?_)
      · rw [show zeF bn i = coF (zeF bn 256) (dgF k b) 0 from by rw [Nat.le_antisymm hi c_6]; rfl] at hP hD
        refine lv_iconst (v := nI 0) hx hb d_By_findNexts_22 (by decide) ?_
        refine lv_istore_n (lv' := [(3, .int (nI 0)), (0, .ref aw), (1, .ref h), (2, .int (nI b))]) hx hb d_By_findNexts_23 rfl hl (by decide) rfl (fun ls hl => ?_)
        exact K24 _ 0 (by omega) (Nat.lt_succ_self _) _ _ hP hD hS ls (lv_sub hl [1, 2, 3, 0] rfl)
      · refine lv_aload_n hx hb d_By_findNexts_9 rfl (lv_at hl 0 rfl) ?_
        refine va_get (D := DD) (ci := 0) (v := .ref hbn) (C := R_By) (T := T_By) (N := 2) hx hb hg in_By hown hK hP 0 rfl rfl 0 (by decide) (hg _ mw_133) (fun _ h9 => h9) rfl d_By_findNexts_10 ?_
        refine lv_iload_n hx hb d_By_findNexts_13 rfl (lv_at hl 3 rfl) ?_
        refine lv_iconst (v := nI 0) hx hb d_By_findNexts_14 (by decide) ?_
        refine z_iastN hx hb hK hP hD hS 1 0 rfl rfl (by omega) (by decide) d_By_findNexts_15 (fun H locs hP hD hS => ?_)
        have hP : va_P DD vwCl [(aw, .inr (0, [.ref hbn, .ref hbd])), (hbn, .inl (cbn, 256, .inl (nF (va_up (zeF bn i) i 0)))), (h, .inr (4, [.ref hk, .ref ht, .int (nI n)])), (hk, .inl (ck, 150, .inl k))] H := hP
        have hD : va_D A [(aw, .inr (0, [.ref hbn, .ref hbd])), (hbn, .inl (cbn, 256, .inl (nF (va_up (zeF bn i) i 0)))), (h, .inr (4, [.ref hk, .ref ht, .int (nI n)])), (hk, .inl (ck, 150, .inl k))] := hD
        rw [show va_up (zeF bn i) i 0 = zeF bn (i + 1) from zeF_s bn i] at hP hD
        refine lv_iinc (v := nI (i + 1)) (lv' := [(3, .int (nI (i + 1))), (0, .ref aw), (1, .ref h), (2, .int (nI b))]) hx hb d_By_findNexts_16 hl (k := 3) rfl (by exact nI_add i 1) (by decide) rfl (fun ls hl => ?_)
        refine lv_goto (tgt := 2) hx hb d_By_findNexts_19 (by decide) ?_
        exact ih2 (i + 1) (by omega) (by omega) _ _ hP hD hS ls (lv_sub hl [1, 2, 3, 0] rfl)
  rw [show bn = zeF bn 0 from zeF_0 bn] at hP hD
  refine lv_iconst (v := nI 0) hx hb d_By_findNexts_0 (by decide) ?_
  refine lv_istore_n (lv' := [(3, .int (nI 0)), (0, .ref aw), (1, .ref h), (2, .int (nI b))]) hx hb d_By_findNexts_1 rfl hl (by decide) rfl (fun ls hl => ?_)
  exact K2 _ 0 (by omega) (Nat.lt_succ_self _) _ _ hP hD hS ls (lv_sub hl [1, 2, 3, 0] rfl)
theorem d_By_dealOut_0 : decode b_By_dealOut 0 = .ok (.aload_n 1, 1) := by decide +kernel
theorem d_By_dealOut_1 : decode b_By_dealOut 1 = .ok (.invokevirtual 32, 3) := by decide +kernel
theorem d_By_dealOut_4 : decode b_By_dealOut 4 = .ok (.istore 4, 2) := by decide +kernel
theorem d_By_dealOut_6 : decode b_By_dealOut 6 = .ok (.iconst 0, 1) := by decide +kernel
theorem d_By_dealOut_7 : decode b_By_dealOut 7 = .ok (.istore 5, 2) := by decide +kernel
theorem d_By_dealOut_9 : decode b_By_dealOut 9 = .ok (.iload 5, 2) := by decide +kernel
theorem d_By_dealOut_11 : decode b_By_dealOut 11 = .ok (.iload 4, 2) := by decide +kernel
theorem d_By_dealOut_13 : decode b_By_dealOut 13 = .ok (.if_icmp .ge 50, 3) := by decide +kernel
theorem d_By_dealOut_16 : decode b_By_dealOut 16 = .ok (.aload_n 1, 1) := by decide +kernel
theorem d_By_dealOut_17 : decode b_By_dealOut 17 = .ok (.aload_n 3, 1) := by decide +kernel
theorem d_By_dealOut_18 : decode b_By_dealOut 18 = .ok (.iload 5, 2) := by decide +kernel
theorem d_By_dealOut_20 : decode b_By_dealOut 20 = .ok (.iaload, 1) := by decide +kernel
theorem d_By_dealOut_21 : decode b_By_dealOut 21 = .ok (.invokevirtual 38, 3) := by decide +kernel
theorem d_By_dealOut_24 : decode b_By_dealOut 24 = .ok (.iload_n 2, 1) := by decide +kernel
theorem d_By_dealOut_25 : decode b_By_dealOut 25 = .ok (.invokestatic 42, 3) := by decide +kernel
theorem d_By_dealOut_28 : decode b_By_dealOut 28 = .ok (.istore 6, 2) := by decide +kernel
theorem d_By_dealOut_30 : decode b_By_dealOut 30 = .ok (.aload_n 0, 1) := by decide +kernel
theorem d_By_dealOut_31 : decode b_By_dealOut 31 = .ok (.getfield 15, 3) := by decide +kernel
theorem d_By_dealOut_34 : decode b_By_dealOut 34 = .ok (.aload_n 0, 1) := by decide +kernel
theorem d_By_dealOut_35 : decode b_By_dealOut 35 = .ok (.getfield 11, 3) := by decide +kernel
theorem d_By_dealOut_38 : decode b_By_dealOut 38 = .ok (.iload 6, 2) := by decide +kernel
theorem d_By_dealOut_40 : decode b_By_dealOut 40 = .ok (.iaload, 1) := by decide +kernel
theorem d_By_dealOut_41 : decode b_By_dealOut 41 = .ok (.aload_n 3, 1) := by decide +kernel
theorem d_By_dealOut_42 : decode b_By_dealOut 42 = .ok (.iload 5, 2) := by decide +kernel
theorem d_By_dealOut_44 : decode b_By_dealOut 44 = .ok (.iaload, 1) := by decide +kernel
theorem d_By_dealOut_45 : decode b_By_dealOut 45 = .ok (.iastore, 1) := by decide +kernel
theorem d_By_dealOut_46 : decode b_By_dealOut 46 = .ok (.aload_n 0, 1) := by decide +kernel
theorem d_By_dealOut_47 : decode b_By_dealOut 47 = .ok (.getfield 11, 3) := by decide +kernel
theorem d_By_dealOut_50 : decode b_By_dealOut 50 = .ok (.iload 6, 2) := by decide +kernel
theorem d_By_dealOut_52 : decode b_By_dealOut 52 = .ok (.dup2, 1) := by decide +kernel
theorem d_By_dealOut_53 : decode b_By_dealOut 53 = .ok (.iaload, 1) := by decide +kernel
theorem d_By_dealOut_54 : decode b_By_dealOut 54 = .ok (.iconst 1, 1) := by decide +kernel
theorem d_By_dealOut_55 : decode b_By_dealOut 55 = .ok (.iadd, 1) := by decide +kernel
theorem d_By_dealOut_56 : decode b_By_dealOut 56 = .ok (.iastore, 1) := by decide +kernel
theorem d_By_dealOut_57 : decode b_By_dealOut 57 = .ok (.iinc 5 1, 3) := by decide +kernel
theorem d_By_dealOut_60 : decode b_By_dealOut 60 = .ok (.goto (-51), 3) := by decide +kernel
theorem d_By_dealOut_63 : decode b_By_dealOut 63 = .ok (.aload_n 0, 1) := by decide +kernel
theorem d_By_dealOut_64 : decode b_By_dealOut 64 = .ok (.getfield 15, 3) := by decide +kernel
theorem d_By_dealOut_67 : decode b_By_dealOut 67 = .ok (.iconst 0, 1) := by decide +kernel
theorem d_By_dealOut_68 : decode b_By_dealOut 68 = .ok (.aload_n 3, 1) := by decide +kernel
theorem d_By_dealOut_69 : decode b_By_dealOut 69 = .ok (.iconst 0, 1) := by decide +kernel
theorem d_By_dealOut_70 : decode b_By_dealOut 70 = .ok (.iload 4, 2) := by decide +kernel
theorem d_By_dealOut_72 : decode b_By_dealOut 72 = .ok (.invokestatic 46, 3) := by decide +kernel
theorem d_By_dealOut_75 : decode b_By_dealOut 75 = .ok (.return_, 1) := by decide +kernel
abbrev ws_By_dealOut : List Cond := .code y_By_dealOut b_By_dealOut 7 none :: ALLG
abbrev rm_By_dealOut : Room := { frames := 1, cells := 0, slots := 0, locals := 22 }
set_option maxHeartbeats 4000000 in
set_option maxRecDepth 100000 in
theorem c_By_dealOut (l : Launch) (DD : va_G) (sz : Nat) (aw : Nat) (hbn : Nat) (cbn : ClassId) (bn : Nat → Nat) (hbd : Nat) (cbd : ClassId) (bd : Nat → Nat) (h : Nat) (hk : Nat) (ck : ClassId) (k : Nat → Int32) (ht : Nat) (n : Nat) (b : Nat) (hpn : Nat) (cpn : ClassId) (pn : Nat → Nat) (hn : n ≤ 150) (hb4 : b < 4) (hp : ∀ x, pn x < 150) (hdl : ∀ i, i < n → (dlS (dgP k pn b) pn bd bn i).2 (dgP k pn b i) < 150) : Met l y_By_dealOut ws_By_dealOut rm_By_dealOut (va_Pc [.ref aw, .ref h, .int (nI b), .ref hpn] (fun U => U.heap.size = sz ∧ va_P DD vwCl [(aw, .inr (0, [.ref hbn, .ref hbd])), (hbn, .inl (cbn, 256, .inl (nF bn))), (hbd, .inl (cbd, 150, .inl (nF bd))), (h, .inr (4, [.ref hk, .ref ht, .int (nI n)])), (hk, .inl (ck, 150, .inl k)), (hpn, .inl (cpn, 150, .inl (nF pn)))] U.heap ∧ va_K DD vwCl [(cbn, .int), (cbd, .int), (ck, .int), (cpn, .int)] U ∧ va_D (fun _ => True) [(aw, .inr (0, [.ref hbn, .ref hbd])), (hbn, .inl (cbn, 256, .inl (nF bn))), (hbd, .inl (cbd, 150, .inl (nF bd))), (h, .inr (4, [.ref hk, .ref ht, .int (nI n)])), (hk, .inl (ck, 150, .inl k)), (hpn, .inl (cpn, 150, .inl (nF pn)))])) (va_Qv (fun (u9 : Unit) => match u9 with | _ => True) (fun (u9 : Unit) (t9 : State) => match u9 with | _ => va_P DD vwCl [(aw, .inr (0, [.ref hbn, .ref hbd])), (hbn, .inl (cbn, 256, .inl (nF ((dlS (dgP k pn b) pn bd bn n).2)))), (hbd, .inl (cbd, 150, .inl (nF ((dlS (dgP k pn b) pn bd bn n).1)))), (h, .inr (4, [.ref hk, .ref ht, .int (nI n)])), (hk, .inl (ck, 150, .inl k)), (hpn, .inl (cpn, 150, .inl (nF (va_cpy ((dlS (dgP k pn b) pn bd bn n).1) pn 0 0 n))))] t9.heap ∧ va_K DD vwCl [(cbn, .int), (cbd, .int), (ck, .int), (cpn, .int)] t9 ∧ va_D (va_A [(aw, .inr (0, [.ref hbn, .ref hbd])), (hbn, .inl (cbn, 256, .inl (nF bn))), (hbd, .inl (cbd, 150, .inl (nF bd))), (h, .inr (4, [.ref hk, .ref ht, .int (nI n)])), (hk, .inl (ck, 150, .inl k)), (hpn, .inl (cpn, 150, .inl (nF pn)))] sz) [(aw, .inr (0, [.ref hbn, .ref hbd])), (hbn, .inl (cbn, 256, .inl (nF ((dlS (dgP k pn b) pn bd bn n).2)))), (hbd, .inl (cbd, 150, .inl (nF ((dlS (dgP k pn b) pn bd bn n).1)))), (h, .inr (4, [.ref hk, .ref ht, .int (nI n)])), (hk, .inl (ck, 150, .inl k)), (hpn, .inl (cpn, 150, .inl (nF (va_cpy ((dlS (dgP k pn b) pn bd bn n).1) pn 0 0 n))))]) (va_A [(aw, .inr (0, [.ref hbn, .ref hbd])), (hbn, .inl (cbn, 256, .inl (nF bn))), (hbd, .inl (cbd, 150, .inl (nF bd))), (h, .inr (4, [.ref hk, .ref ht, .int (nI n)])), (hk, .inl (ck, 150, .inl k)), (hpn, .inl (cpn, 150, .inl (nF pn)))] sz)) 0 0 (va_A [(aw, .inr (0, [.ref hbn, .ref hbd])), (hbn, .inl (cbn, 256, .inl (nF bn))), (hbd, .inl (cbd, 150, .inl (nF bd))), (h, .inr (4, [.ref hk, .ref ht, .int (nI n)])), (hk, .inl (ck, 150, .inl k)), (hpn, .inl (cpn, 150, .inl (nF pn)))] sz) := by
  refine Met.ofW (cc := b_By_dealOut) (maxL := 7) (ret := none) (by decide) rfl ?_
  intro p e s m args below meth c s₁ B hml hv
  obtain ⟨ha, hsz, hP, hK, hD0⟩ := hv
  have hx := B.exec
  have hb := B.bytes
  have hr := B.returns
  have hts := atoms_spec (ws := ws_By_dealOut) B.pre
  have hg : ∀ w ∈ ALLG, w.before args s = true := fun w h => hts w (List.mem_cons_of_mem _ h)
  have hown : s.vm.findClass R_By = some m.cls := findClass_of_methodNamed B.named
  have hlocks := B.notSynchronized
  subst hsz
  have hD := hD0.self (sz := s.heap.size)
  generalize hAe : va_A [(aw, .inr (0, [.ref hbn, .ref hbd])), (hbn, .inl (cbn, 256, .inl (nF bn))), (hbd, .inl (cbd, 150, .inl (nF bd))), (h, .inr (4, [.ref hk, .ref ht, .int (nI n)])), (hk, .inl (ck, 150, .inl k)), (hpn, .inl (cpn, 150, .inl (nF pn)))] s.heap.size = A at hD ⊢
  have hA : ∀ q : Nat, s.heap.size ≤ q → A q := fun q h => by rw [← hAe]; exact Or.inr h
  have hS : va_S A s.heap s.heap [] := va_S.rf
  have hP : va_P DD vwCl [(aw, .inr (0, [.ref hbn, .ref hbd])), (hbn, .inl (cbn, 256, .inl (nF bn))), (hbd, .inl (cbd, 150, .inl (nF bd))), (h, .inr (4, [.ref hk, .ref ht, .int (nI n)])), (hk, .inl (ck, 150, .inl k)), (hpn, .inl (cpn, 150, .inl (nF pn)))] s.heap := hP
  have hl := lv_entry ([.ref aw, .ref h, .int (nI b), .ref hpn]) (n := 7) (Nat.le_of_ble_eq_true rfl)
  rw [ha, lg_entry_eq, ← ha]
  generalize (lg_sl ([.ref aw, .ref h, .int (nI b), .ref hpn]) ++ List.replicate (7 - (lg_sl ([.ref aw, .ref h, .int (nI b), .ref hpn])).length) Slot.unset).toArray = ls at hl ⊢
  have hl : lv_has ls 7 [(0, .ref aw), (1, .ref h), (2, .int (nI b)), (3, .ref hpn)] := hl
  have K9 : ∀ (kk : Nat) (i : Nat), (hi : i ≤ n) → n - i < kk → ∀ (H : Heap) (locs : List Loc), va_P DD vwCl [(aw, .inr (0, [.ref hbn, .ref hbd])), (hbn, .inl (cbn, 256, .inl (nF ((dlS (dgP k pn b) pn bd bn i).2)))), (hbd, .inl (cbd, 150, .inl (nF ((dlS (dgP k pn b) pn bd bn i).1)))), (h, .inr (4, [.ref hk, .ref ht, .int (nI n)])), (hk, .inl (ck, 150, .inl k)), (hpn, .inl (cpn, 150, .inl (nF pn)))] H → va_D A [(aw, .inr (0, [.ref hbn, .ref hbd])), (hbn, .inl (cbn, 256, .inl (nF ((dlS (dgP k pn b) pn bd bn i).2)))), (hbd, .inl (cbd, 150, .inl (nF ((dlS (dgP k pn b) pn bd bn i).1)))), (h, .inr (4, [.ref hk, .ref ht, .int (nI n)])), (hk, .inl (ck, 150, .inl k)), (hpn, .inl (cpn, 150, .inl (nF pn)))] → va_S A s.heap H locs → ∀ (ls : Array Slot), lv_has ls 7 [(0, .ref aw), (1, .ref h), (2, .int (nI b)), (3, .ref hpn), (4, .int (nI n)), (5, .int (nI i))] → W p l e (headSpec ws_By_dealOut rm_By_dealOut).room s m args below meth c H locs 0 0 (MQ below (va_Qv (fun (u9 : Unit) => match u9 with | _ => True) (fun (u9 : Unit) (t9 : State) => match u9 with | _ => va_P DD vwCl [(aw, .inr (0, [.ref hbn, .ref hbd])), (hbn, .inl (cbn, 256, .inl (nF ((dlS (dgP k pn b) pn bd bn n).2)))), (hbd, .inl (cbd, 150, .inl (nF ((dlS (dgP k pn b) pn bd bn n).1)))), (h, .inr (4, [.ref hk, .ref ht, .int (nI n)])), (hk, .inl (ck, 150, .inl k)), (hpn, .inl (cpn, 150, .inl (nF (va_cpy ((dlS (dgP k pn b) pn bd bn n).1) pn 0 0 n))))] t9.heap ∧ va_K DD vwCl [(cbn, .int), (cbd, .int), (ck, .int), (cpn, .int)] t9 ∧ va_D A [(aw, .inr (0, [.ref hbn, .ref hbd])), (hbn, .inl (cbn, 256, .inl (nF ((dlS (dgP k pn b) pn bd bn n).2)))), (hbd, .inl (cbd, 150, .inl (nF ((dlS (dgP k pn b) pn bd bn n).1)))), (h, .inr (4, [.ref hk, .ref ht, .int (nI n)])), (hk, .inl (ck, 150, .inl k)), (hpn, .inl (cpn, 150, .inl (nF (va_cpy ((dlS (dgP k pn b) pn bd bn n).1) pn 0 0 n))))]) A) args s 0 0 A) (F0 m 9 ls []) := by
    intro kk
    induction kk with
    | zero => intros; omega
    | succ kk ih9 =>
      intro i hi hkk H locs hP hD hS ls hl
      refine lv_iload hx hb d_By_dealOut_9 (lv_at hl 5 rfl) ?_
      refine lv_iload hx hb d_By_dealOut_11 (lv_at hl 4 rfl) ?_
      refine z_icmp_ge (tgt := 63) hx hb d_By_dealOut_13 (by decide) (by omega) (by omega) (fun c_13 => ?_) (fun c_13 => ?_)
      · rw [show (dlS (dgP k pn b) pn bd bn i).1 = (dlS (dgP k pn b) pn bd bn n).1 from by rw [Nat.le_antisymm hi c_13]] at hP hD
        rw [show (dlS (dgP k pn b) pn bd bn i).2 = (dlS (dgP k pn b) pn bd bn n).2 from by rw [Nat.le_antisymm hi c_13]] at hP hD
        refine lv_aload_n hx hb d_By_dealOut_63 rfl (lv_at hl 0 rfl) ?_
        refine va_get (D := DD) (ci := 0) (v := .ref hbd) (C := R_By) (T := T_By) (N := 2) hx hb hg in_By hown hK hP 0 rfl rfl 1 (by decide) (hg _ mw_134) (fun _ h9 => h9) rfl d_By_dealOut_64 ?_
        refine lv_iconst (v := nI 0) hx hb d_By_dealOut_67 (by decide) ?_
        refine lv_aload_n hx hb d_By_dealOut_68 rfl (lv_at hl 3 rfl) ?_
        refine lv_iconst (v := nI 0) hx hb d_By_dealOut_69 (by decide) ?_
        refine lv_iload hx hb d_By_dealOut_70 (lv_at hl 4 rfl) ?_
        refine z_copyN hx hb (hml.trans hl.1.symm) hown (hg _ mw_556) (hg _ mw_373) (hg _ mw_372) (hg _ mw_16) hK hP hD hS 2 5 1 3 rfl rfl rfl rfl (by omega) (by omega) (by decide) (by decide) (Nat.le_of_ble_eq_true rfl) (Nat.le_of_ble_eq_true rfl) d_By_dealOut_72 (fun H locs hP hD hS => ?_)
        have hP : va_P DD vwCl [(aw, .inr (0, [.ref hbn, .ref hbd])), (hbn, .inl (cbn, 256, .inl (nF ((dlS (dgP k pn b) pn bd bn n).2)))), (hbd, .inl (cbd, 150, .inl (nF ((dlS (dgP k pn b) pn bd bn n).1)))), (h, .inr (4, [.ref hk, .ref ht, .int (nI n)])), (hk, .inl (ck, 150, .inl k)), (hpn, .inl (cpn, 150, .inl (nF (va_cpy ((dlS (dgP k pn b) pn bd bn n).1) pn 0 0 n))))] H := hP
        have hD : va_D A [(aw, .inr (0, [.ref hbn, .ref hbd])), (hbn, .inl (cbn, 256, .inl (nF ((dlS (dgP k pn b) pn bd bn n).2)))), (hbd, .inl (cbd, 150, .inl (nF ((dlS (dgP k pn b) pn bd bn n).1)))), (h, .inr (4, [.ref hk, .ref ht, .int (nI n)])), (hk, .inl (ck, 150, .inl k)), (hpn, .inl (cpn, 150, .inl (nF (va_cpy ((dlS (dgP k pn b) pn bd bn n).1) pn 0 0 n))))] := hD
        have hP9 := hP.sub (ws' := [(aw, .inr (0, [.ref hbn, .ref hbd])), (hbn, .inl (cbn, 256, .inl (nF ((dlS (dgP k pn b) pn bd bn n).2)))), (hbd, .inl (cbd, 150, .inl (nF ((dlS (dgP k pn b) pn bd bn n).1)))), (h, .inr (4, [.ref hk, .ref ht, .int (nI n)])), (hk, .inl (ck, 150, .inl k)), (hpn, .inl (cpn, 150, .inl (nF (va_cpy ((dlS (dgP k pn b) pn bd bn n).1) pn 0 0 n))))]) [0, 1, 2, 3, 4, 5] rfl
        have hD9 := hD.sub (ws' := [(aw, .inr (0, [.ref hbn, .ref hbd])), (hbn, .inl (cbn, 256, .inl (nF ((dlS (dgP k pn b) pn bd bn n).2)))), (hbd, .inl (cbd, 150, .inl (nF ((dlS (dgP k pn b) pn bd bn n).1)))), (h, .inr (4, [.ref hk, .ref ht, .int (nI n)])), (hk, .inl (ck, 150, .inl k)), (hpn, .inl (cpn, 150, .inl (nF (va_cpy ((dlS (dgP k pn b) pn bd bn n).1) pn 0 0 n))))]) [0, 1, 2, 3, 4, 5] (by decide) rfl
        exact W.vret hx hb hr (fun t9 ht9 hW9 => ⟨⟨(), rfl, trivial, by rw [ht9]; exact hP9, va_K.moved hW9.alike hK, hD9⟩, hS.F ht9⟩) hS.2.2 d_By_dealOut_75
      · refine lv_aload_n hx hb d_By_dealOut_16 rfl (lv_at hl 1 rfl) ?_
        refine lv_aload_n hx hb d_By_dealOut_17 rfl (lv_at hl 3 rfl) ?_
        refine lv_iload hx hb d_By_dealOut_18 (lv_at hl 5 rfl) ?_
        refine z_ialdN hx hb hK hP 5 3 rfl rfl (by omega) (by decide) d_By_dealOut_20 ?_
        have hPc := hP.sub (ws' := [(h, .inr (4, [.ref hk, .ref ht, .int (nI n)])), (hk, .inl (ck, 150, .inl k))]) [3, 4] rfl
        have hKc := hK.sub (tys' := [(ck, .int)]) [2] rfl
        refine vp_callSi (W.runV (As := [.int (nI (pn i))]) (rest := []) ⟨hx, hb, hml, hown, hg⟩ (c_Ro_key l DD h hk ht ck n k (pn i) (by exact hp _)) (cwV 1 hg (gi_V mw_548 mw_410 mw_411 mw_2 mw_412) rfl rfl rfl (by decide +kernel) ⟨Nat.le_of_ble_eq_true rfl, Nat.le_of_ble_eq_true rfl⟩) ⟨z_blind, va_recv hKc hPc (ci := 4) (q0 := 0) rfl rfl, z_pre hPc hKc⟩ rfl rfl hl.1 rfl (lv_room (Nat.le_of_ble_eq_true rfl)) d_By_dealOut_21 ⟨Nat.zero_le _, Nat.zero_le _⟩) (fun r_21 hr_21 => ?_)
        subst hr_21
        refine lv_iload_n hx hb d_By_dealOut_24 rfl (lv_at hl 2 rfl) ?_
        have hPc := hP.sub (ws' := []) [] rfl
        have hKc := hK.sub (tys' := []) [] rfl
        refine vp_callSi (W.runS (As := [.int (k (pn i)), .int (nI b)]) (rest := []) ⟨hx, hb, hml, hown, hg⟩ (c_By_digit l DD (k (pn i)) b (by omega)) (cwS 2 hg (gi_S mw_549 mw_550 mw_10 mw_551) rfl rfl rfl (by decide +kernel) ⟨Nat.le_of_ble_eq_true rfl, Nat.le_of_ble_eq_true rfl⟩) ⟨z_blind, z_pre hPc hKc⟩ rfl rfl hl.1 rfl (lv_room (Nat.le_of_ble_eq_true rfl)) d_By_dealOut_25 ⟨Nat.zero_le _, Nat.zero_le _⟩) (fun r_25 hr_25 => ?_)
        subst hr_25
        refine lv_istore (lv' := [(6, .int (nI (dig (k (pn i)) b))), (0, .ref aw), (1, .ref h), (2, .int (nI b)), (3, .ref hpn), (4, .int (nI n)), (5, .int (nI i))]) hx hb d_By_dealOut_28 hl (by decide) rfl (fun ls hl => ?_)
        refine lv_aload_n hx hb d_By_dealOut_30 rfl (lv_at hl 1 rfl) ?_
        refine va_get (D := DD) (ci := 0) (v := .ref hbd) (C := R_By) (T := T_By) (N := 2) hx hb hg in_By hown hK hP 0 rfl rfl 1 (by decide) (hg _ mw_134) (fun _ h9 => h9) rfl d_By_dealOut_31 ?_
        refine lv_aload_n hx hb d_By_dealOut_34 rfl (lv_at hl 1 rfl) ?_
        refine va_get (D := DD) (ci := 0) (v := .ref hbn) (C := R_By) (T := T_By) (N := 2) hx hb hg in_By hown hK hP 0 rfl rfl 0 (by decide) (hg _ mw_133) (fun _ h9 => h9) rfl d_By_dealOut_35 ?_
        refine lv_iload hx hb d_By_dealOut_38 (lv_at hl 0 rfl) ?_
        refine z_ialdN hx hb hK hP 1 0 rfl rfl (by exact dig_lt _ _) (by decide) d_By_dealOut_40 ?_
        refine lv_aload_n hx hb d_By_dealOut_41 rfl (lv_at hl 4 rfl) ?_
        refine lv_iload hx hb d_By_dealOut_42 (lv_at hl 6 rfl) ?_
        refine z_ialdN hx hb hK hP 5 3 rfl rfl (by omega) (by decide) d_By_dealOut_44 ?_
        refine z_iastN hx hb hK hP hD hS 2 1 rfl rfl (by exact hdl i c_13) (by decide) d_By_dealOut_45 (fun H locs hP hD hS => ?_)
        have hP : va_P DD vwCl [(aw, .inr (0, [.ref hbn, .ref hbd])), (hbn, .inl (cbn, 256, .inl (nF ((dlS (dgP k pn b) pn bd bn i).2)))), (hbd, .inl (cbd, 150, .inl (nF (va_up ((dlS (dgP k pn b) pn bd bn i).1) (((dlS (dgP k pn b) pn bd bn i).2) (dig (k (pn i)) b)) (pn i))))), (h, .inr (4, [.ref hk, .ref ht, .int (nI n)])), (hk, .inl (ck, 150, .inl k)), (hpn, .inl (cpn, 150, .inl (nF pn)))] H := hP
        have hD : va_D A [(aw, .inr (0, [.ref hbn, .ref hbd])), (hbn, .inl (cbn, 256, .inl (nF ((dlS (dgP k pn b) pn bd bn i).2)))), (hbd, .inl (cbd, 150, .inl (nF (va_up ((dlS (dgP k pn b) pn bd bn i).1) (((dlS (dgP k pn b) pn bd bn i).2) (dig (k (pn i)) b)) (pn i))))), (h, .inr (4, [.ref hk, .ref ht, .int (nI n)])), (hk, .inl (ck, 150, .inl k)), (hpn, .inl (cpn, 150, .inl (nF pn)))] := hD
        refine lv_aload_n hx hb d_By_dealOut_46 rfl (lv_at hl 1 rfl) ?_
        refine va_get (D := DD) (ci := 0) (v := .ref hbn) (C := R_By) (T := T_By) (N := 2) hx hb hg in_By hown hK hP 0 rfl rfl 0 (by decide) (hg _ mw_133) (fun _ h9 => h9) rfl d_By_dealOut_47 ?_
        refine lv_iload hx hb d_By_dealOut_50 (lv_at hl 0 rfl) ?_
        refine lv_dup2_11 hx hb d_By_dealOut_52 rfl rfl ?_
        refine z_ialdN hx hb hK hP 1 0 rfl rfl (by exact dig_lt _ _) (by decide) d_By_dealOut_53 ?_
        refine lv_iconst (v := nI 1) hx hb d_By_dealOut_54 (by decide) ?_
        refine z_iadd hx hb d_By_dealOut_55 ?_
        refine z_iastN hx hb hK hP hD hS 1 0 rfl rfl (by exact dig_lt _ _) (by decide) d_By_dealOut_56 (fun H locs hP hD hS => ?_)
        have hP : va_P DD vwCl [(aw, .inr (0, [.ref hbn, .ref hbd])), (hbn, .inl (cbn, 256, .inl (nF (va_up ((dlS (dgP k pn b) pn bd bn i).2) (dig (k (pn i)) b) ((((dlS (dgP k pn b) pn bd bn i).2) (dig (k (pn i)) b)) + 1))))), (hbd, .inl (cbd, 150, .inl (nF (va_up ((dlS (dgP k pn b) pn bd bn i).1) (((dlS (dgP k pn b) pn bd bn i).2) (dig (k (pn i)) b)) (pn i))))), (h, .inr (4, [.ref hk, .ref ht, .int (nI n)])), (hk, .inl (ck, 150, .inl k)), (hpn, .inl (cpn, 150, .inl (nF pn)))] H := hP
        have hD : va_D A [(aw, .inr (0, [.ref hbn, .ref hbd])), (hbn, .inl (cbn, 256, .inl (nF (va_up ((dlS (dgP k pn b) pn bd bn i).2) (dig (k (pn i)) b) ((((dlS (dgP k pn b) pn bd bn i).2) (dig (k (pn i)) b)) + 1))))), (hbd, .inl (cbd, 150, .inl (nF (va_up ((dlS (dgP k pn b) pn bd bn i).1) (((dlS (dgP k pn b) pn bd bn i).2) (dig (k (pn i)) b)) (pn i))))), (h, .inr (4, [.ref hk, .ref ht, .int (nI n)])), (hk, .inl (ck, 150, .inl k)), (hpn, .inl (cpn, 150, .inl (nF pn)))] := hD
        rw [show va_up ((dlS (dgP k pn b) pn bd bn i).1) (((dlS (dgP k pn b) pn bd bn i).2) (dig (k (pn i)) b)) (pn i) = (dlS (dgP k pn b) pn bd bn (i + 1)).1 from rfl] at hP hD
        rw [show va_up ((dlS (dgP k pn b) pn bd bn i).2) (dig (k (pn i)) b) ((((dlS (dgP k pn b) pn bd bn i).2) (dig (k (pn i)) b)) + 1) = (dlS (dgP k pn b) pn bd bn (i + 1)).2 from rfl] at hP hD
        refine lv_iinc (v := nI (i + 1)) (lv' := [(5, .int (nI (i + 1))), (6, .int (nI (dig (k (pn i)) b))), (0, .ref aw), (1, .ref h), (2, .int (nI b)), (3, .ref hpn), (4, .int (nI n))]) hx hb d_By_dealOut_57 hl (k := 6) rfl (by exact nI_add i 1) (by decide) rfl (fun ls hl => ?_)
        refine lv_goto (tgt := 9) hx hb d_By_dealOut_60 (by decide) ?_
        exact ih9 (i + 1) (by omega) (by omega) _ _ hP hD hS ls (lv_sub hl [2, 3, 4, 5, 6, 0] rfl)
  refine lv_aload_n hx hb d_By_dealOut_0 rfl (lv_at hl 1 rfl) ?_
  have hPc := hP.sub (ws' := [(h, .inr (4, [.ref hk, .ref ht, .int (nI n)])), (hk, .inl (ck, 150, .inl k))]) [3, 4] rfl
  have hKc := hK.sub (tys' := [(ck, .int)]) [2] rfl
  refine vp_callSi (W.runV (As := []) (rest := []) ⟨hx, hb, hml, hown, hg⟩ (c_Ro_size l DD h hk ht ck n k) (cwV 0 hg (gi_V mw_547 mw_214 mw_215 mw_2 mw_216) rfl rfl rfl (by decide +kernel) ⟨Nat.le_of_ble_eq_true rfl, Nat.le_of_ble_eq_true rfl⟩) ⟨z_blind, va_recv hKc hPc (ci := 4) (q0 := 0) rfl rfl, z_pre hPc hKc⟩ rfl rfl hl.1 rfl (lv_room (Nat.le_of_ble_eq_true rfl)) d_By_dealOut_1 ⟨Nat.zero_le _, Nat.zero_le _⟩) (fun r_1 hr_1 => ?_)
  subst hr_1
  refine lv_istore (lv' := [(4, .int (nI n)), (0, .ref aw), (1, .ref h), (2, .int (nI b)), (3, .ref hpn)]) hx hb d_By_dealOut_4 hl (by decide) rfl (fun ls hl => ?_)
  rw [show bd = (dlS (dgP k pn b) pn bd bn 0).1 from rfl] at hP hD
  rw [show bn = (dlS (dgP k pn b) pn bd bn 0).2 from rfl] at hP hD
  refine lv_iconst (v := nI 0) hx hb d_By_dealOut_6 (by decide) ?_
  refine lv_istore (lv' := [(5, .int (nI 0)), (4, .int (nI n)), (0, .ref aw), (1, .ref h), (2, .int (nI b)), (3, .ref hpn)]) hx hb d_By_dealOut_7 hl (by decide) rfl (fun ls hl => ?_)
  exact K9 _ 0 (by omega) (Nat.lt_succ_self _) _ _ hP hD hS ls (lv_sub hl [2, 3, 4, 5, 1, 0] rfl)
