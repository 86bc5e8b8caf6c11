theorem d_De_isFigure_0 : decode b_De_isFigure 0 = .ok (.iload_n 0, 1) := by decide +kernel
theorem d_De_isFigure_1 : decode b_De_isFigure 1 = .ok (.ifCond .lt 13, 3) := by decide +kernel
theorem d_De_isFigure_4 : decode b_De_isFigure 4 = .ok (.iload_n 0, 1) := by decide +kernel
theorem d_De_isFigure_5 : decode b_De_isFigure 5 = .ok (.bipush 8, 2) := by decide +kernel
theorem d_De_isFigure_7 : decode b_De_isFigure 7 = .ok (.if_icmp .ge 7, 3) := by decide +kernel
theorem d_De_isFigure_10 : decode b_De_isFigure 10 = .ok (.iconst 1, 1) := by decide +kernel
theorem d_De_isFigure_11 : decode b_De_isFigure 11 = .ok (.goto 4, 3) := by decide +kernel
theorem d_De_isFigure_14 : decode b_De_isFigure 14 = .ok (.iconst 0, 1) := by decide +kernel
theorem d_De_isFigure_15 : decode b_De_isFigure 15 = .ok (.ireturn, 1) := by decide +kernel
abbrev ws_De_isFigure : List Cond := .code y_De_isFigure b_De_isFigure 1 (some .boolean) :: ALLG
abbrev rm_De_isFigure : Room := { frames := 0, cells := 0, slots := 0, locals := 0 }
set_option maxHeartbeats 4000000 in
set_option maxRecDepth 100000 in
theorem c_De_isFigure (l : Launch) (DD : va_G) (x : Int32) : Met l y_De_isFigure ws_De_isFigure rm_De_isFigure (va_Pc [.int x] (fun U => va_P DD vwCl [] U.heap ∧ va_K DD vwCl [] U)) (vp_Si (fun r9 => r9 = zb (hasB x 8))) 0 0 (fun _ => False) := by
  refine Met.ofW (cc := b_De_isFigure) (maxL := 1) (ret := (some .boolean)) (by decide) rfl ?_
  intro p e s m args below meth c s₁ B hml hv
  obtain ⟨ha, hP, hK⟩ := hv
  have hx := B.exec
  have hb := B.bytes
  have hr := B.returns
  have hts := atoms_spec (ws := ws_De_isFigure) B.pre
  have hg : ∀ w ∈ ALLG, w.before args s = true := fun w h => hts w (List.mem_cons_of_mem _ h)
  have hown : s.vm.findClass R_De = some m.cls := findClass_of_methodNamed B.named
  have hlocks := B.notSynchronized
  have hP : va_P DD vwCl [] s.heap := hP
  have hl := lv_entry ([.int x]) (n := 1) (Nat.le_of_ble_eq_true rfl)
  rw [ha, lg_entry_eq, ← ha]
  generalize (lg_sl ([.int x]) ++ List.replicate (1 - (lg_sl ([.int x])).length) Slot.unset).toArray = ls at hl ⊢
  have hl : lv_has ls 1 [(0, .int x)] := hl
  refine lv_iload_n hx hb d_De_isFigure_0 rfl (lv_at hl 0 rfl) ?_
  refine lv_if_lt (tgt := 14) hx hb d_De_isFigure_1 (by decide) (fun c_1 => ?_) (fun c_1 => ?_)
  · refine lv_iconst (v := nI 0) hx hb d_De_isFigure_14 (by decide) ?_
    exact W.zret (v := nI 0) hx hb hr (by rfl) (fun t9 ht9 hW9 => ⟨_, rfl, (by first | exact hasB_t (n := 8) (by decide) c_1 c_7 | exact hasB_f2 (n := 8) (by decide) c_7 | exact hasB_f1 c_1), ht9⟩) (fun _ h => nomatch h) d_De_isFigure_15
  · refine lv_iload_n hx hb d_De_isFigure_4 rfl (lv_at hl 0 rfl) ?_
    refine lv_bipush (v := nI 8) hx hb d_De_isFigure_5 (by decide) ?_
    refine lv_icmp_ge (tgt := 14) hx hb d_De_isFigure_7 (by decide) (fun c_7 => ?_) (fun c_7 => ?_)
    · refine lv_iconst (v := nI 0) hx hb d_De_isFigure_14 (by decide) ?_
      exact W.zret (v := nI 0) hx hb hr (by rfl) (fun t9 ht9 hW9 => ⟨_, rfl, (by first | exact hasB_t (n := 8) (by decide) c_1 c_7 | exact hasB_f2 (n := 8) (by decide) c_7 | exact hasB_f1 c_1), ht9⟩) (fun _ h => nomatch h) d_De_isFigure_15
    · refine lv_iconst (v := nI 1) hx hb d_De_isFigure_10 (by decide) ?_
      refine lv_goto (tgt := 15) hx hb d_De_isFigure_11 (by decide) ?_
      exact W.zret (v := nI 1) hx hb hr (by rfl) (fun t9 ht9 hW9 => ⟨_, rfl, (by first | exact hasB_t (n := 8) (by decide) c_1 c_7 | exact hasB_f2 (n := 8) (by decide) c_7 | exact hasB_f1 c_1), ht9⟩) (fun _ h => nomatch h) d_De_isFigure_15
theorem d_De_isWay_0 : decode b_De_isWay 0 = .ok (.iload_n 0, 1) := by decide +kernel
theorem d_De_isWay_1 : decode b_De_isWay 1 = .ok (.ifCond .lt 12, 3) := by decide +kernel
theorem d_De_isWay_4 : decode b_De_isWay 4 = .ok (.iload_n 0, 1) := by decide +kernel
theorem d_De_isWay_5 : decode b_De_isWay 5 = .ok (.iconst 5, 1) := by decide +kernel
theorem d_De_isWay_6 : decode b_De_isWay 6 = .ok (.if_icmp .ge 7, 3) := by decide +kernel
theorem d_De_isWay_9 : decode b_De_isWay 9 = .ok (.iconst 1, 1) := by decide +kernel
theorem d_De_isWay_10 : decode b_De_isWay 10 = .ok (.goto 4, 3) := by decide +kernel
theorem d_De_isWay_13 : decode b_De_isWay 13 = .ok (.iconst 0, 1) := by decide +kernel
theorem d_De_isWay_14 : decode b_De_isWay 14 = .ok (.ireturn, 1) := by decide +kernel
abbrev ws_De_isWay : List Cond := .code y_De_isWay b_De_isWay 1 (some .boolean) :: ALLG
abbrev rm_De_isWay : Room := { frames := 0, cells := 0, slots := 0, locals := 0 }
set_option maxHeartbeats 4000000 in
set_option maxRecDepth 100000 in
theorem c_De_isWay (l : Launch) (DD : va_G) (x : Int32) : Met l y_De_isWay ws_De_isWay rm_De_isWay (va_Pc [.int x] (fun U => va_P DD vwCl [] U.heap ∧ va_K DD vwCl [] U)) (vp_Si (fun r9 => r9 = zb (hasB x 5))) 0 0 (fun _ => False) := by
  refine Met.ofW (cc := b_De_isWay) (maxL := 1) (ret := (some .boolean)) (by decide) rfl ?_
  intro p e s m args below meth c s₁ B hml hv
  obtain ⟨ha, hP, hK⟩ := hv
  have hx := B.exec
  have hb := B.bytes
  have hr := B.returns
  have hts := atoms_spec (ws := ws_De_isWay) B.pre
  have hg : ∀ w ∈ ALLG, w.before args s = true := fun w h => hts w (List.mem_cons_of_mem _ h)
  have hown : s.vm.findClass R_De = some m.cls := findClass_of_methodNamed B.named
  have hlocks := B.notSynchronized
  have hP : va_P DD vwCl [] s.heap := hP
  have hl := lv_entry ([.int x]) (n := 1) (Nat.le_of_ble_eq_true rfl)
  rw [ha, lg_entry_eq, ← ha]
  generalize (lg_sl ([.int x]) ++ List.replicate (1 - (lg_sl ([.int x])).length) Slot.unset).toArray = ls at hl ⊢
  have hl : lv_has ls 1 [(0, .int x)] := hl
  refine lv_iload_n hx hb d_De_isWay_0 rfl (lv_at hl 0 rfl) ?_
  refine lv_if_lt (tgt := 13) hx hb d_De_isWay_1 (by decide) (fun c_1 => ?_) (fun c_1 => ?_)
  · refine lv_iconst (v := nI 0) hx hb d_De_isWay_13 (by decide) ?_
    exact W.zret (v := nI 0) hx hb hr (by rfl) (fun t9 ht9 hW9 => ⟨_, rfl, (by first | exact hasB_t (n := 5) (by decide) c_1 c_6 | exact hasB_f2 (n := 5) (by decide) c_6 | exact hasB_f1 c_1), ht9⟩) (fun _ h => nomatch h) d_De_isWay_14
  · refine lv_iload_n hx hb d_De_isWay_4 rfl (lv_at hl 0 rfl) ?_
    refine lv_iconst (v := nI 5) hx hb d_De_isWay_5 (by decide) ?_
    refine lv_icmp_ge (tgt := 13) hx hb d_De_isWay_6 (by decide) (fun c_6 => ?_) (fun c_6 => ?_)
    · refine lv_iconst (v := nI 0) hx hb d_De_isWay_13 (by decide) ?_
      exact W.zret (v := nI 0) hx hb hr (by rfl) (fun t9 ht9 hW9 => ⟨_, rfl, (by first | exact hasB_t (n := 5) (by decide) c_1 c_6 | exact hasB_f2 (n := 5) (by decide) c_6 | exact hasB_f1 c_1), ht9⟩) (fun _ h => nomatch h) d_De_isWay_14
    · refine lv_iconst (v := nI 1) hx hb d_De_isWay_9 (by decide) ?_
      refine lv_goto (tgt := 14) hx hb d_De_isWay_10 (by decide) ?_
      exact W.zret (v := nI 1) hx hb hr (by rfl) (fun t9 ht9 hW9 => ⟨_, rfl, (by first | exact hasB_t (n := 5) (by decide) c_1 c_6 | exact hasB_f2 (n := 5) (by decide) c_6 | exact hasB_f1 c_1), ht9⟩) (fun _ h => nomatch h) d_De_isWay_14
theorem d_De_put_0 : decode b_De_put 0 = .ok (.aload_n 0, 1) := by decide +kernel
theorem d_De_put_1 : decode b_De_put 1 = .ok (.getfield 12, 3) := by decide +kernel
theorem d_De_put_4 : decode b_De_put 4 = .ok (.invokevirtual 61, 3) := by decide +kernel
theorem d_De_put_7 : decode b_De_put 7 = .ok (.ifCond .eq 13, 3) := by decide +kernel
theorem d_De_put_10 : decode b_De_put 10 = .ok (.new 65, 3) := by decide +kernel
theorem d_De_put_13 : decode b_De_put 13 = .ok (.dup, 1) := by decide +kernel
theorem d_De_put_14 : decode b_De_put 14 = .ok (.ldc 67, 2) := by decide +kernel
theorem d_De_put_16 : decode b_De_put 16 = .ok (.invokespecial 69, 3) := by decide +kernel
theorem d_De_put_19 : decode b_De_put 19 = .ok (.athrow, 1) := by decide +kernel
theorem d_De_put_20 : decode b_De_put 20 = .ok (.aload_n 0, 1) := by decide +kernel
theorem d_De_put_21 : decode b_De_put 21 = .ok (.getfield 12, 3) := by decide +kernel
theorem d_De_put_24 : decode b_De_put 24 = .ok (.invokevirtual 72, 3) := by decide +kernel
theorem d_De_put_27 : decode b_De_put 27 = .ok (.istore_n 3, 1) := by decide +kernel
theorem d_De_put_28 : decode b_De_put 28 = .ok (.aload_n 0, 1) := by decide +kernel
theorem d_De_put_29 : decode b_De_put 29 = .ok (.getfield 12, 3) := by decide +kernel
theorem d_De_put_32 : decode b_De_put 32 = .ok (.iload_n 3, 1) := by decide +kernel
theorem d_De_put_33 : decode b_De_put 33 = .ok (.iload_n 1, 1) := by decide +kernel
theorem d_De_put_34 : decode b_De_put 34 = .ok (.iload_n 2, 1) := by decide +kernel
theorem d_De_put_35 : decode b_De_put 35 = .ok (.invokevirtual 76, 3) := by decide +kernel
theorem d_De_put_38 : decode b_De_put 38 = .ok (.aload_n 0, 1) := by decide +kernel
theorem d_De_put_39 : decode b_De_put 39 = .ok (.iconst 0, 1) := by decide +kernel
theorem d_De_put_40 : decode b_De_put 40 = .ok (.putfield 80, 3) := by decide +kernel
theorem d_De_put_43 : decode b_De_put 43 = .ok (.iload_n 3, 1) := by decide +kernel
theorem d_De_put_44 : decode b_De_put 44 = .ok (.ireturn, 1) := by decide +kernel
abbrev ws_De_put : List Cond := .code y_De_put b_De_put 4 (some .int) :: ALLG
abbrev rm_De_put : Room := { frames := 2, cells := 0, slots := 0, locals := 41 }
set_option maxHeartbeats 4000000 in
set_option maxRecDepth 100000 in
theorem c_De_put (l : Launch) (DD : va_G) (sz : Nat) (ad : Nat) (h : Nat) (hk : Nat) (ck : ClassId) (k : Nat → Int32) (ht : Nat) (ct : ClassId) (t : Nat → Int32) (n : Nat) (h1 : Nat) (ar : Nat) (aq : Nat) (hwv : Nat) (hpn : Nat) (hod : Nat) (cm : Int64) (pb : Bool) (wa : Bool) (x : Int32) (y : Int32) (hn : n < 150) : Met l y_De_put ws_De_put rm_De_put (va_Pc [.ref ad, .int x, .int y] (fun U => U.heap.size = sz ∧ va_P DD vwCl [(ad, .inr (8, [.ref h, .ref h1, .ref ar, .ref aq, .ref hwv, .ref hpn, .ref hod, .long cm, .int (zb pb), .int (zb wa)])), (h, .inr (4, [.ref hk, .ref ht, .int (nI n)])), (hk, .inl (ck, 150, .inl k)), (ht, .inl (ct, 150, .inl t))] U.heap ∧ va_K DD vwCl [(ck, .int), (ct, .int)] U ∧ va_D (fun _ => True) [(ad, .inr (8, [.ref h, .ref h1, .ref ar, .ref aq, .ref hwv, .ref hpn, .ref hod, .long cm, .int (zb pb), .int (zb wa)])), (h, .inr (4, [.ref hk, .ref ht, .int (nI n)])), (hk, .inl (ck, 150, .inl k)), (ht, .inl (ct, 150, .inl t))])) (va_Qi (fun (r9 : Int32) (u9 : Unit) => match u9 with | _ => r9 = nI n) (fun (u9 : Unit) (t9 : State) => match u9 with | _ => va_P DD vwCl [(ad, .inr (8, [.ref h, .ref h1, .ref ar, .ref aq, .ref hwv, .ref hpn, .ref hod, .long cm, .int (zb false), .int (zb wa)])), (h, .inr (4, [.ref hk, .ref ht, .int (nI (n + 1))])), (hk, .inl (ck, 150, .inl (upd (va_cpy k k n (n + 1) (n - n)) n x))), (ht, .inl (ct, 150, .inl (upd (va_cpy t t n (n + 1) (n - n)) n y)))] t9.heap ∧ va_K DD vwCl [(ck, .int), (ct, .int)] t9 ∧ va_D (va_A [(ad, .inr (8, [.ref h, .ref h1, .ref ar, .ref aq, .ref hwv, .ref hpn, .ref hod, .long cm, .int (zb pb), .int (zb wa)])), (h, .inr (4, [.ref hk, .ref ht, .int (nI n)])), (hk, .inl (ck, 150, .inl k)), (ht, .inl (ct, 150, .inl t))] sz) [(ad, .inr (8, [.ref h, .ref h1, .ref ar, .ref aq, .ref hwv, .ref hpn, .ref hod, .long cm, .int (zb false), .int (zb wa)])), (h, .inr (4, [.ref hk, .ref ht, .int (nI (n + 1))])), (hk, .inl (ck, 150, .inl (upd (va_cpy k k n (n + 1) (n - n)) n x))), (ht, .inl (ct, 150, .inl (upd (va_cpy t t n (n + 1) (n - n)) n y)))]) (va_A [(ad, .inr (8, [.ref h, .ref h1, .ref ar, .ref aq, .ref hwv, .ref hpn, .ref hod, .long cm, .int (zb pb), .int (zb wa)])), (h, .inr (4, [.ref hk, .ref ht, .int (nI n)])), (hk, .inl (ck, 150, .inl k)), (ht, .inl (ct, 150, .inl t))] sz)) 0 0 (va_A [(ad, .inr (8, [.ref h, .ref h1, .ref ar, .ref aq, .ref hwv, .ref hpn, .ref hod, .long cm, .int (zb pb), .int (zb wa)])), (h, .inr (4, [.ref hk, .ref ht, .int (nI n)])), (hk, .inl (ck, 150, .inl k)), (ht, .inl (ct, 150, .inl t))] sz) := by
  refine Met.ofW (cc := b_De_put) (maxL := 4) (ret := (some .int)) (by decide) rfl ?_
  intro p e s m args below meth c s₁ B hml hv
  obtain ⟨ha, hsz, hP, hK, hD0⟩ := hv
  have hx := B.exec
  have hb := B.bytes
  have hr := B.returns
  have hts := atoms_spec (ws := ws_De_put) B.pre
  have hg : ∀ w ∈ ALLG, w.before args s = true := fun w h => hts w (List.mem_cons_of_mem _ h)
  have hown : s.vm.findClass R_De = some m.cls := findClass_of_methodNamed B.named
  have hlocks := B.notSynchronized
  subst hsz
  have hD := hD0.self (sz := s.heap.size)
  generalize hAe : va_A [(ad, .inr (8, [.ref h, .ref h1, .ref ar, .ref aq, .ref hwv, .ref hpn, .ref hod, .long cm, .int (zb pb), .int (zb wa)])), (h, .inr (4, [.ref hk, .ref ht, .int (nI n)])), (hk, .inl (ck, 150, .inl k)), (ht, .inl (ct, 150, .inl t))] s.heap.size = A at hD ⊢
  have hA : ∀ q : Nat, s.heap.size ≤ q → A q := fun q h => by rw [← hAe]; exact Or.inr h
  have hS : va_S A s.heap s.heap [] := va_S.rf
  have hP : va_P DD vwCl [(ad, .inr (8, [.ref h, .ref h1, .ref ar, .ref aq, .ref hwv, .ref hpn, .ref hod, .long cm, .int (zb pb), .int (zb wa)])), (h, .inr (4, [.ref hk, .ref ht, .int (nI n)])), (hk, .inl (ck, 150, .inl k)), (ht, .inl (ct, 150, .inl t))] s.heap := hP
  have hl := lv_entry ([.ref ad, .int x, .int y]) (n := 4) (Nat.le_of_ble_eq_true rfl)
  rw [ha, lg_entry_eq, ← ha]
  generalize (lg_sl ([.ref ad, .int x, .int y]) ++ List.replicate (4 - (lg_sl ([.ref ad, .int x, .int y])).length) Slot.unset).toArray = ls at hl ⊢
  have hl : lv_has ls 4 [(0, .ref ad), (1, .int x), (2, .int y)] := hl
  refine lv_aload_n hx hb d_De_put_0 rfl (lv_at hl 0 rfl) ?_
  refine va_get (D := DD) (ci := 8) (v := .ref h) (C := R_De) (T := T_De) (N := 10) hx hb hg in_De hown hK hP 0 rfl rfl 0 (by decide) (hg _ mw_140) (fun _ h9 => h9) rfl d_De_put_1 ?_
  have hPc := hP.sub (ws' := [(h, .inr (4, [.ref hk, .ref ht, .int (nI n)])), (hk, .inl (ck, 150, .inl k))]) [1, 2] rfl
  have hKc := hK.sub (tys' := [(ck, .int)]) [0] rfl
  refine vp_callSi (W.runV (As := []) (rest := []) ⟨hx, hb, hml, hown, hg⟩ (c_Ro_isFull l DD h hk ht ck n k (by omega)) (cwV 0 hg (gi_V mw_293 mw_294 mw_295 mw_2 mw_296) rfl rfl rfl (by decide +kernel) ⟨Nat.le_of_ble_eq_true rfl, Nat.le_of_ble_eq_true rfl⟩) ⟨z_blind, va_recv hKc hPc (ci := 4) (q0 := 0) rfl rfl, z_pre hPc hKc⟩ rfl rfl hl.1 rfl (lv_room (Nat.le_of_ble_eq_true rfl)) d_De_put_4 ⟨Nat.zero_le _, Nat.zero_le _⟩) (fun r_4 hr_4 => ?_)
  subst hr_4
  refine z_ifb_eq (tgt := 20) hx hb d_De_put_7 (by decide) (fun c_7 => ?_) (fun c_7 => ?_)
  · refine lv_aload_n hx hb d_De_put_20 rfl (lv_at hl 0 rfl) ?_
    refine va_get (D := DD) (ci := 8) (v := .ref h) (C := R_De) (T := T_De) (N := 10) hx hb hg in_De hown hK hP 0 rfl rfl 0 (by decide) (hg _ mw_140) (fun _ h9 => h9) rfl d_De_put_21 ?_
    have hPc := hP.sub (ws' := [(h, .inr (4, [.ref hk, .ref ht, .int (nI n)])), (hk, .inl (ck, 150, .inl k))]) [1, 2] rfl
    have hKc := hK.sub (tys' := [(ck, .int)]) [0] rfl
    refine vp_callSi (W.runV (As := []) (rest := []) ⟨hx, hb, hml, hown, hg⟩ (c_Ro_size l DD h hk ht ck n k) (cwV 0 hg (gi_V mw_366 mw_214 mw_215 mw_2 mw_216) rfl rfl rfl (by decide +kernel) ⟨Nat.le_of_ble_eq_true rfl, Nat.le_of_ble_eq_true rfl⟩) ⟨z_blind, va_recv hKc hPc (ci := 4) (q0 := 0) rfl rfl, z_pre hPc hKc⟩ rfl rfl hl.1 rfl (lv_room (Nat.le_of_ble_eq_true rfl)) d_De_put_24 ⟨Nat.zero_le _, Nat.zero_le _⟩) (fun r_24 hr_24 => ?_)
    subst hr_24
    refine lv_istore_n (lv' := [(3, .int (nI n)), (0, .ref ad), (1, .int x), (2, .int y)]) hx hb d_De_put_27 rfl hl (by decide) rfl (fun ls hl => ?_)
    refine lv_aload_n hx hb d_De_put_28 rfl (lv_at hl 1 rfl) ?_
    refine va_get (D := DD) (ci := 8) (v := .ref h) (C := R_De) (T := T_De) (N := 10) hx hb hg in_De hown hK hP 0 rfl rfl 0 (by decide) (hg _ mw_140) (fun _ h9 => h9) rfl d_De_put_29 ?_
    refine lv_iload_n hx hb d_De_put_32 rfl (lv_at hl 0 rfl) ?_
    refine lv_iload_n hx hb d_De_put_33 rfl (lv_at hl 2 rfl) ?_
    refine lv_iload_n hx hb d_De_put_34 rfl (lv_at hl 3 rfl) ?_
    have hPc := hP.sub (ws' := [(h, .inr (4, [.ref hk, .ref ht, .int (nI n)])), (hk, .inl (ck, 150, .inl k)), (ht, .inl (ct, 150, .inl t))]) [1, 2, 3] rfl
    have hKc := hK.sub (tys' := [(ck, .int), (ct, .int)]) [0, 1] rfl
    have hDc := hD.sub (ws' := [(h, .inr (4, [.ref hk, .ref ht, .int (nI n)])), (hk, .inl (ck, 150, .inl k)), (ht, .inl (ct, 150, .inl t))]) [1, 2, 3] (by decide) rfl
    have hFc := va_free (wc := [(h, .inr (4, [.ref hk, .ref ht, .int (nI n)])), (hk, .inl (ck, 150, .inl k)), (ht, .inl (ct, 150, .inl t))]) hD hS hA [1, 2, 3] rfl
    refine va_callv (va_runV (As := [.int (nI n), .int x, .int y]) (rest := []) ⟨hx, hb, hml, hown, hg⟩ (c_Ro_open l DD s.heap.size h hk ht ck n k ct t n x y (by omega) (by omega)) (cwV 3 hg (gi_V mw_367 mw_368 mw_369 mw_2 mw_370) rfl rfl rfl (by decide +kernel) ⟨Nat.le_of_ble_eq_true rfl, Nat.le_of_ble_eq_true rfl⟩) ⟨z_blindQ, va_recv hKc hPc (ci := 4) (q0 := 0) rfl rfl, z_preQ hPc hKc hDc⟩ rfl rfl hl.1 rfl (lv_room (Nat.le_of_ble_eq_true rfl)) d_De_put_35 ⟨Nat.zero_le _, Nat.zero_le _⟩) hS (fun q _ h => hFc q h) hFc (fun u9 t9 H9 locs ht9 hvm9 hw9 hB9 hz9 hk9 hS => ?_)
    obtain ⟨hP1, hK1, hD1⟩ := hB9
    rw [ht9] at hP1
    try dsimp only at hw9
    obtain ⟨hP, hD⟩ := va_join (wr := [(ad, .inr (8, [.ref h, .ref h1, .ref ar, .ref aq, .ref hwv, .ref hpn, .ref hod, .long cm, .int (zb pb), .int (zb wa)]))]) (w1 := [(h, .inr (4, [.ref hk, .ref ht, .int (nI (n + 1))])), (hk, .inl (ck, 150, .inl (upd (va_cpy k k n (n + 1) (n - n)) n x))), (ht, .inl (ct, 150, .inl (upd (va_cpy t t n (n + 1) (n - n)) n y)))]) hP hD [1, 2, 3] [0] rfl rfl (by decide) (by decide) hk9 hFc hP1 hD1
    generalize H9 = H at hP hS ⊢
    have hP : va_P DD vwCl [(ad, .inr (8, [.ref h, .ref h1, .ref ar, .ref aq, .ref hwv, .ref hpn, .ref hod, .long cm, .int (zb pb), .int (zb wa)])), (h, .inr (4, [.ref hk, .ref ht, .int (nI (n + 1))])), (hk, .inl (ck, 150, .inl (upd (va_cpy k k n (n + 1) (n - n)) n x))), (ht, .inl (ct, 150, .inl (upd (va_cpy t t n (n + 1) (n - n)) n y)))] H := hP
    have hD : va_D A [(ad, .inr (8, [.ref h, .ref h1, .ref ar, .ref aq, .ref hwv, .ref hpn, .ref hod, .long cm, .int (zb pb), .int (zb wa)])), (h, .inr (4, [.ref hk, .ref ht, .int (nI (n + 1))])), (hk, .inl (ck, 150, .inl (upd (va_cpy k k n (n + 1) (n - n)) n x))), (ht, .inl (ct, 150, .inl (upd (va_cpy t t n (n + 1) (n - n)) n y)))] := hD
    refine lv_aload_n hx hb d_De_put_38 rfl (lv_at hl 1 rfl) ?_
    refine lv_iconst (v := nI 0) hx hb d_De_put_39 (by decide) ?_
    refine va_put (D := DD) (ci := 8) (v := .int (zb false)) (ty := .boolean) (C := R_De) (T := T_De) (N := 10) hx hb hg in_De t_De to_De n_De hown hK hP hD hS 0 rfl rfl 8 (by decide) (hg _ mw_148) (fun _ h9 => h9) rfl (by decide +kernel) rfl rfl (Nat.le_of_ble_eq_true rfl) d_De_put_40 (fun H locs hP hD hS => ?_)
    have hP : va_P DD vwCl [(ad, .inr (8, [.ref h, .ref h1, .ref ar, .ref aq, .ref hwv, .ref hpn, .ref hod, .long cm, .int (zb false), .int (zb wa)])), (h, .inr (4, [.ref hk, .ref ht, .int (nI (n + 1))])), (hk, .inl (ck, 150, .inl (upd (va_cpy k k n (n + 1) (n - n)) n x))), (ht, .inl (ct, 150, .inl (upd (va_cpy t t n (n + 1) (n - n)) n y)))] H := hP
    have hD : va_D A [(ad, .inr (8, [.ref h, .ref h1, .ref ar, .ref aq, .ref hwv, .ref hpn, .ref hod, .long cm, .int (zb false), .int (zb wa)])), (h, .inr (4, [.ref hk, .ref ht, .int (nI (n + 1))])), (hk, .inl (ck, 150, .inl (upd (va_cpy k k n (n + 1) (n - n)) n x))), (ht, .inl (ct, 150, .inl (upd (va_cpy t t n (n + 1) (n - n)) n y)))] := hD
    refine lv_iload_n hx hb d_De_put_43 rfl (lv_at hl 0 rfl) ?_
    have hP9 := hP.sub (ws' := [(ad, .inr (8, [.ref h, .ref h1, .ref ar, .ref aq, .ref hwv, .ref hpn, .ref hod, .long cm, .int (zb false), .int (zb wa)])), (h, .inr (4, [.ref hk, .ref ht, .int (nI (n + 1))])), (hk, .inl (ck, 150, .inl (upd (va_cpy k k n (n + 1) (n - n)) n x))), (ht, .inl (ct, 150, .inl (upd (va_cpy t t n (n + 1) (n - n)) n y)))]) [0, 1, 2, 3] rfl
    have hD9 := hD.sub (ws' := [(ad, .inr (8, [.ref h, .ref h1, .ref ar, .ref aq, .ref hwv, .ref hpn, .ref hod, .long cm, .int (zb false), .int (zb wa)])), (h, .inr (4, [.ref hk, .ref ht, .int (nI (n + 1))])), (hk, .inl (ck, 150, .inl (upd (va_cpy k k n (n + 1) (n - n)) n x))), (ht, .inl (ct, 150, .inl (upd (va_cpy t t n (n + 1) (n - n)) n y)))]) [0, 1, 2, 3] (by decide) rfl
    exact W.iret (v := nI n) hx hb hr (fun t9 ht9 hW9 => ⟨⟨_, (), rfl, rfl, by rw [ht9]; exact hP9, va_K.moved hW9.alike hK, hD9⟩, hS.F ht9⟩) hS.2.2 d_De_put_44
  · exact absurd c_7 (by rw [decide_eq_false (by omega)]; decide)
theorem d_De_insert_0 : decode b_De_insert 0 = .ok (.iload_n 1, 1) := by decide +kernel
theorem d_De_insert_1 : decode b_De_insert 1 = .ok (.ifCond .lt 14, 3) := by decide +kernel
theorem d_De_insert_4 : decode b_De_insert 4 = .ok (.iload_n 1, 1) := by decide +kernel
theorem d_De_insert_5 : decode b_De_insert 5 = .ok (.aload_n 0, 1) := by decide +kernel
theorem d_De_insert_6 : decode b_De_insert 6 = .ok (.getfield 12, 3) := by decide +kernel
theorem d_De_insert_9 : decode b_De_insert 9 = .ok (.invokevirtual 72, 3) := by decide +kernel
theorem d_De_insert_12 : decode b_De_insert 12 = .ok (.if_icmp .le 13, 3) := by decide +kernel
theorem d_De_insert_15 : decode b_De_insert 15 = .ok (.new 84, 3) := by decide +kernel
theorem d_De_insert_18 : decode b_De_insert 18 = .ok (.dup, 1) := by decide +kernel
theorem d_De_insert_19 : decode b_De_insert 19 = .ok (.ldc 86, 2) := by decide +kernel
theorem d_De_insert_21 : decode b_De_insert 21 = .ok (.invokespecial 88, 3) := by decide +kernel
theorem d_De_insert_24 : decode b_De_insert 24 = .ok (.athrow, 1) := by decide +kernel
theorem d_De_insert_25 : decode b_De_insert 25 = .ok (.aload_n 0, 1) := by decide +kernel
theorem d_De_insert_26 : decode b_De_insert 26 = .ok (.getfield 12, 3) := by decide +kernel
theorem d_De_insert_29 : decode b_De_insert 29 = .ok (.invokevirtual 61, 3) := by decide +kernel
theorem d_De_insert_32 : decode b_De_insert 32 = .ok (.ifCond .eq 13, 3) := by decide +kernel
theorem d_De_insert_35 : decode b_De_insert 35 = .ok (.new 65, 3) := by decide +kernel
theorem d_De_insert_38 : decode b_De_insert 38 = .ok (.dup, 1) := by decide +kernel
theorem d_De_insert_39 : decode b_De_insert 39 = .ok (.ldc 67, 2) := by decide +kernel
theorem d_De_insert_41 : decode b_De_insert 41 = .ok (.invokespecial 69, 3) := by decide +kernel
theorem d_De_insert_44 : decode b_De_insert 44 = .ok (.athrow, 1) := by decide +kernel
theorem d_De_insert_45 : decode b_De_insert 45 = .ok (.aload_n 0, 1) := by decide +kernel
theorem d_De_insert_46 : decode b_De_insert 46 = .ok (.getfield 12, 3) := by decide +kernel
theorem d_De_insert_49 : decode b_De_insert 49 = .ok (.iload_n 1, 1) := by decide +kernel
theorem d_De_insert_50 : decode b_De_insert 50 = .ok (.iload_n 2, 1) := by decide +kernel
theorem d_De_insert_51 : decode b_De_insert 51 = .ok (.iload_n 3, 1) := by decide +kernel
theorem d_De_insert_52 : decode b_De_insert 52 = .ok (.invokevirtual 76, 3) := by decide +kernel
theorem d_De_insert_55 : decode b_De_insert 55 = .ok (.aload_n 0, 1) := by decide +kernel
theorem d_De_insert_56 : decode b_De_insert 56 = .ok (.iconst 0, 1) := by decide +kernel
theorem d_De_insert_57 : decode b_De_insert 57 = .ok (.putfield 80, 3) := by decide +kernel
theorem d_De_insert_60 : decode b_De_insert 60 = .ok (.aload_n 0, 1) := by decide +kernel
theorem d_De_insert_61 : decode b_De_insert 61 = .ok (.getfield 12, 3) := by decide +kernel
theorem d_De_insert_64 : decode b_De_insert 64 = .ok (.invokevirtual 72, 3) := by decide +kernel
theorem d_De_insert_67 : decode b_De_insert 67 = .ok (.ireturn, 1) := by decide +kernel
abbrev ws_De_insert : List Cond := .code y_De_insert b_De_insert 4 (some .int) :: ALLG
abbrev rm_De_insert : Room := { frames := 2, cells := 0, slots := 0, locals := 41 }
set_option maxHeartbeats 4000000 in
set_option maxRecDepth 100000 in
theorem c_De_insert (l : Launch) (DD : va_G) (sz : Nat) (ad : Nat) (h : Nat) (hk : Nat) (ck : ClassId) (k : Nat → Int32) (ht : Nat) (ct : ClassId) (t : Nat → Int32) (n : Nat) (h1 : Nat) (ar : Nat) (aq : Nat) (hwv : Nat) (hpn : Nat) (hod : Nat) (cm : Int64) (pb : Bool) (wa : Bool) (j : Nat) (x : Int32) (y : Int32) (hn : n < 150) (hj : j ≤ n) : Met l y_De_insert ws_De_insert rm_De_insert (va_Pc [.ref ad, .int (nI j), .int x, .int y] (fun U => U.heap.size = sz ∧ va_P DD vwCl [(ad, .inr (8, [.ref h, .ref h1, .ref ar, .ref aq, .ref hwv, .ref hpn, .ref hod, .long cm, .int (zb pb), .int (zb wa)])), (h, .inr (4, [.ref hk, .ref ht, .int (nI n)])), (hk, .inl (ck, 150, .inl k)), (ht, .inl (ct, 150, .inl t))] U.heap ∧ va_K DD vwCl [(ck, .int), (ct, .int)] U ∧ va_D (fun _ => True) [(ad, .inr (8, [.ref h, .ref h1, .ref ar, .ref aq, .ref hwv, .ref hpn, .ref hod, .long cm, .int (zb pb), .int (zb wa)])), (h, .inr (4, [.ref hk, .ref ht, .int (nI n)])), (hk, .inl (ck, 150, .inl k)), (ht, .inl (ct, 150, .inl t))])) (va_Qi (fun (r9 : Int32) (u9 : Unit) => match u9 with | _ => r9 = nI (n + 1)) (fun (u9 : Unit) (t9 : State) => match u9 with | _ => va_P DD vwCl [(ad, .inr (8, [.ref h, .ref h1, .ref ar, .ref aq, .ref hwv, .ref hpn, .ref hod, .long cm, .int (zb false), .int (zb wa)])), (h, .inr (4, [.ref hk, .ref ht, .int (nI (n + 1))])), (hk, .inl (ck, 150, .inl (upd (va_cpy k k j (j + 1) (n - j)) j x))), (ht, .inl (ct, 150, .inl (upd (va_cpy t t j (j + 1) (n - j)) j y)))] t9.heap ∧ va_K DD vwCl [(ck, .int), (ct, .int)] t9 ∧ va_D (va_A [(ad, .inr (8, [.ref h, .ref h1, .ref ar, .ref aq, .ref hwv, .ref hpn, .ref hod, .long cm, .int (zb pb), .int (zb wa)])), (h, .inr (4, [.ref hk, .ref ht, .int (nI n)])), (hk, .inl (ck, 150, .inl k)), (ht, .inl (ct, 150, .inl t))] sz) [(ad, .inr (8, [.ref h, .ref h1, .ref ar, .ref aq, .ref hwv, .ref hpn, .ref hod, .long cm, .int (zb false), .int (zb wa)])), (h, .inr (4, [.ref hk, .ref ht, .int (nI (n + 1))])), (hk, .inl (ck, 150, .inl (upd (va_cpy k k j (j + 1) (n - j)) j x))), (ht, .inl (ct, 150, .inl (upd (va_cpy t t j (j + 1) (n - j)) j y)))]) (va_A [(ad, .inr (8, [.ref h, .ref h1, .ref ar, .ref aq, .ref hwv, .ref hpn, .ref hod, .long cm, .int (zb pb), .int (zb wa)])), (h, .inr (4, [.ref hk, .ref ht, .int (nI n)])), (hk, .inl (ck, 150, .inl k)), (ht, .inl (ct, 150, .inl t))] sz)) 0 0 (va_A [(ad, .inr (8, [.ref h, .ref h1, .ref ar, .ref aq, .ref hwv, .ref hpn, .ref hod, .long cm, .int (zb pb), .int (zb wa)])), (h, .inr (4, [.ref hk, .ref ht, .int (nI n)])), (hk, .inl (ck, 150, .inl k)), (ht, .inl (ct, 150, .inl t))] sz) := by
  refine Met.ofW (cc := b_De_insert) (maxL := 4) (ret := (some .int)) (by decide) rfl ?_
  intro p e s m args below meth c s₁ B hml hv
  obtain ⟨ha, hsz, hP, hK, hD0⟩ := hv
  have hx := B.exec
  have hb := B.bytes
  have hr := B.returns
  have hts := atoms_spec (ws := ws_De_insert) B.pre
  have hg : ∀ w ∈ ALLG, w.before args s = true := fun w h => hts w (List.mem_cons_of_mem _ h)
  have hown : s.vm.findClass R_De = some m.cls := findClass_of_methodNamed B.named
  have hlocks := B.notSynchronized
  subst hsz
  have hD := hD0.self (sz := s.heap.size)
  generalize hAe : va_A [(ad, .inr (8, [.ref h, .ref h1, .ref ar, .ref aq, .ref hwv, .ref hpn, .ref hod, .long cm, .int (zb pb), .int (zb wa)])), (h, .inr (4, [.ref hk, .ref ht, .int (nI n)])), (hk, .inl (ck, 150, .inl k)), (ht, .inl (ct, 150, .inl t))] s.heap.size = A at hD ⊢
  have hA : ∀ q : Nat, s.heap.size ≤ q → A q := fun q h => by rw [← hAe]; exact Or.inr h
  have hS : va_S A s.heap s.heap [] := va_S.rf
  have hP : va_P DD vwCl [(ad, .inr (8, [.ref h, .ref h1, .ref ar, .ref aq, .ref hwv, .ref hpn, .ref hod, .long cm, .int (zb pb), .int (zb wa)])), (h, .inr (4, [.ref hk, .ref ht, .int (nI n)])), (hk, .inl (ck, 150, .inl k)), (ht, .inl (ct, 150, .inl t))] s.heap := hP
  have hl := lv_entry ([.ref ad, .int (nI j), .int x, .int y]) (n := 4) (Nat.le_of_ble_eq_true rfl)
  rw [ha, lg_entry_eq, ← ha]
  generalize (lg_sl ([.ref ad, .int (nI j), .int x, .int y]) ++ List.replicate (4 - (lg_sl ([.ref ad, .int (nI j), .int x, .int y])).length) Slot.unset).toArray = ls at hl ⊢
  have hl : lv_has ls 4 [(0, .ref ad), (1, .int (nI j)), (2, .int x), (3, .int y)] := hl
  refine lv_iload_n hx hb d_De_insert_0 rfl (lv_at hl 1 rfl) ?_
  refine z_if_lt (tgt := 15) hx hb d_De_insert_1 (by decide) (by omega) (fun c_1 => ?_) (fun c_1 => ?_)
  · exact c_1.elim
  · refine lv_iload_n hx hb d_De_insert_4 rfl (lv_at hl 1 rfl) ?_
    refine lv_aload_n hx hb d_De_insert_5 rfl (lv_at hl 0 rfl) ?_
    refine va_get (D := DD) (ci := 8) (v := .ref h) (C := R_De) (T := T_De) (N := 10) hx hb hg in_De hown hK hP 0 rfl rfl 0 (by decide) (hg _ mw_140) (fun _ h9 => h9) rfl d_De_insert_6 ?_
    have hPc := hP.sub (ws' := [(h, .inr (4, [.ref hk, .ref ht, .int (nI n)])), (hk, .inl (ck, 150, .inl k))]) [1, 2] rfl
    have hKc := hK.sub (tys' := [(ck, .int)]) [0] rfl
    refine vp_callSi (W.runV (As := []) (rest := [.int (nI j)]) ⟨hx, hb, hml, hown, hg⟩ (c_Ro_size l DD h hk ht ck n k) (cwV 0 hg (gi_V mw_366 mw_214 mw_215 mw_2 mw_216) rfl rfl rfl (by decide +kernel) ⟨Nat.le_of_ble_eq_true rfl, Nat.le_of_ble_eq_true rfl⟩) ⟨z_blind, va_recv hKc hPc (ci := 4) (q0 := 0) rfl rfl, z_pre hPc hKc⟩ rfl rfl hl.1 rfl (lv_room (Nat.le_of_ble_eq_true rfl)) d_De_insert_9 ⟨Nat.zero_le _, Nat.zero_le _⟩) (fun r_9 hr_9 => ?_)
    subst hr_9
    refine z_icmp_le (tgt := 25) hx hb d_De_insert_12 (by decide) (by omega) (by omega) (fun c_12 => ?_) (fun c_12 => ?_)
    · refine lv_aload_n hx hb d_De_insert_25 rfl (lv_at hl 0 rfl) ?_
      refine va_get (D := DD) (ci := 8) (v := .ref h) (C := R_De) (T := T_De) (N := 10) hx hb hg in_De hown hK hP 0 rfl rfl 0 (by decide) (hg _ mw_140) (fun _ h9 => h9) rfl d_De_insert_26 ?_
      have hPc := hP.sub (ws' := [(h, .inr (4, [.ref hk, .ref ht, .int (nI n)])), (hk, .inl (ck, 150, .inl k))]) [1, 2] rfl
      have hKc := hK.sub (tys' := [(ck, .int)]) [0] rfl
      refine vp_callSi (W.runV (As := []) (rest := []) ⟨hx, hb, hml, hown, hg⟩ (c_Ro_isFull l DD h hk ht ck n k (by omega)) (cwV 0 hg (gi_V mw_293 mw_294 mw_295 mw_2 mw_296) rfl rfl rfl (by decide +kernel) ⟨Nat.le_of_ble_eq_true rfl, Nat.le_of_ble_eq_true rfl⟩) ⟨z_blind, va_recv hKc hPc (ci := 4) (q0 := 0) rfl rfl, z_pre hPc hKc⟩ rfl rfl hl.1 rfl (lv_room (Nat.le_of_ble_eq_true rfl)) d_De_insert_29 ⟨Nat.zero_le _, Nat.zero_le _⟩) (fun r_29 hr_29 => ?_)
      subst hr_29
      refine z_ifb_eq (tgt := 45) hx hb d_De_insert_32 (by decide) (fun c_32 => ?_) (fun c_32 => ?_)
      · refine lv_aload_n hx hb d_De_insert_45 rfl (lv_at hl 0 rfl) ?_
        refine va_get (D := DD) (ci := 8) (v := .ref h) (C := R_De) (T := T_De) (N := 10) hx hb hg in_De hown hK hP 0 rfl rfl 0 (by decide) (hg _ mw_140) (fun _ h9 => h9) rfl d_De_insert_46 ?_
        refine lv_iload_n hx hb d_De_insert_49 rfl (lv_at hl 1 rfl) ?_
        refine lv_iload_n hx hb d_De_insert_50 rfl (lv_at hl 2 rfl) ?_
        refine lv_iload_n hx hb d_De_insert_51 rfl (lv_at hl 3 rfl) ?_
        have hPc := hP.sub (ws' := [(h, .inr (4, [.ref hk, .ref ht, .int (nI n)])), (hk, .inl (ck, 150, .inl k)), (ht, .inl (ct, 150, .inl t))]) [1, 2, 3] rfl
        have hKc := hK.sub (tys' := [(ck, .int), (ct, .int)]) [0, 1] rfl
        have hDc := hD.sub (ws' := [(h, .inr (4, [.ref hk, .ref ht, .int (nI n)])), (hk, .inl (ck, 150, .inl k)), (ht, .inl (ct, 150, .inl t))]) [1, 2, 3] (by decide) rfl
        have hFc := va_free (wc := [(h, .inr (4, [.ref hk, .ref ht, .int (nI n)])), (hk, .inl (ck, 150, .inl k)), (ht, .inl (ct, 150, .inl t))]) hD hS hA [1, 2, 3] rfl
        refine va_callv (va_runV (As := [.int (nI j), .int x, .int y]) (rest := []) ⟨hx, hb, hml, hown, hg⟩ (c_Ro_open l DD s.heap.size h hk ht ck n k ct t j x y (by omega) (by omega)) (cwV 3 hg (gi_V mw_367 mw_368 mw_369 mw_2 mw_370) rfl rfl rfl (by decide +kernel) ⟨Nat.le_of_ble_eq_true rfl, Nat.le_of_ble_eq_true rfl⟩) ⟨z_blindQ, va_recv hKc hPc (ci := 4) (q0 := 0) rfl rfl, z_preQ hPc hKc hDc⟩ rfl rfl hl.1 rfl (lv_room (Nat.le_of_ble_eq_true rfl)) d_De_insert_52 ⟨Nat.zero_le _, Nat.zero_le _⟩) hS (fun q _ h => hFc q h) hFc (fun u9 t9 H9 locs ht9 hvm9 hw9 hB9 hz9 hk9 hS => ?_)
        obtain ⟨hP1, hK1, hD1⟩ := hB9
        rw [ht9] at hP1
        try dsimp only at hw9
        obtain ⟨hP, hD⟩ := va_join (wr := [(ad, .inr (8, [.ref h, .ref h1, .ref ar, .ref aq, .ref hwv, .ref hpn, .ref hod, .long cm, .int (zb pb), .int (zb wa)]))]) (w1 := [(h, .inr (4, [.ref hk, .ref ht, .int (nI (n + 1))])), (hk, .inl (ck, 150, .inl (upd (va_cpy k k j (j + 1) (n - j)) j x))), (ht, .inl (ct, 150, .inl (upd (va_cpy t t j (j + 1) (n - j)) j y)))]) hP hD [1, 2, 3] [0] rfl rfl (by decide) (by decide) hk9 hFc hP1 hD1
        generalize H9 = H at hP hS ⊢
        have hP : va_P DD vwCl [(ad, .inr (8, [.ref h, .ref h1, .ref ar, .ref aq, .ref hwv, .ref hpn, .ref hod, .long cm, .int (zb pb), .int (zb wa)])), (h, .inr (4, [.ref hk, .ref ht, .int (nI (n + 1))])), (hk, .inl (ck, 150, .inl (upd (va_cpy k k j (j + 1) (n - j)) j x))), (ht, .inl (ct, 150, .inl (upd (va_cpy t t j (j + 1) (n - j)) j y)))] H := hP
        have hD : va_D A [(ad, .inr (8, [.ref h, .ref h1, .ref ar, .ref aq, .ref hwv, .ref hpn, .ref hod, .long cm, .int (zb pb), .int (zb wa)])), (h, .inr (4, [.ref hk, .ref ht, .int (nI (n + 1))])), (hk, .inl (ck, 150, .inl (upd (va_cpy k k j (j + 1) (n - j)) j x))), (ht, .inl (ct, 150, .inl (upd (va_cpy t t j (j + 1) (n - j)) j y)))] := hD
        refine lv_aload_n hx hb d_De_insert_55 rfl (lv_at hl 0 rfl) ?_
        refine lv_iconst (v := nI 0) hx hb d_De_insert_56 (by decide) ?_
        refine va_put (D := DD) (ci := 8) (v := .int (zb false)) (ty := .boolean) (C := R_De) (T := T_De) (N := 10) hx hb hg in_De t_De to_De n_De hown hK hP hD hS 0 rfl rfl 8 (by decide) (hg _ mw_148) (fun _ h9 => h9) rfl (by decide +kernel) rfl rfl (Nat.le_of_ble_eq_true rfl) d_De_insert_57 (fun H locs hP hD hS => ?_)
        have hP : va_P DD vwCl [(ad, .inr (8, [.ref h, .ref h1, .ref ar, .ref aq, .ref hwv, .ref hpn, .ref hod, .long cm, .int (zb false), .int (zb wa)])), (h, .inr (4, [.ref hk, .ref ht, .int (nI (n + 1))])), (hk, .inl (ck, 150, .inl (upd (va_cpy k k j (j + 1) (n - j)) j x))), (ht, .inl (ct, 150, .inl (upd (va_cpy t t j (j + 1) (n - j)) j y)))] H := hP
        have hD : va_D A [(ad, .inr (8, [.ref h, .ref h1, .ref ar, .ref aq, .ref hwv, .ref hpn, .ref hod, .long cm, .int (zb false), .int (zb wa)])), (h, .inr (4, [.ref hk, .ref ht, .int (nI (n + 1))])), (hk, .inl (ck, 150, .inl (upd (va_cpy k k j (j + 1) (n - j)) j x))), (ht, .inl (ct, 150, .inl (upd (va_cpy t t j (j + 1) (n - j)) j y)))] := hD
        refine lv_aload_n hx hb d_De_insert_60 rfl (lv_at hl 0 rfl) ?_
        refine va_get (D := DD) (ci := 8) (v := .ref h) (C := R_De) (T := T_De) (N := 10) hx hb hg in_De hown hK hP 0 rfl rfl 0 (by decide) (hg _ mw_140) (fun _ h9 => h9) rfl d_De_insert_61 ?_
        have hPc := hP.sub (ws' := [(h, .inr (4, [.ref hk, .ref ht, .int (nI (n + 1))])), (hk, .inl (ck, 150, .inl (upd (va_cpy k k j (j + 1) (n - j)) j x)))]) [1, 2] rfl
        have hKc := hK.sub (tys' := [(ck, .int)]) [0] rfl
        refine vp_callSi (W.runV (As := []) (rest := []) ⟨hx, hb, hml, hown, hg⟩ (c_Ro_size l DD h hk ht ck (n + 1) (upd (va_cpy k k j (j + 1) (n - j)) j x)) (cwV 0 hg (gi_V mw_366 mw_214 mw_215 mw_2 mw_216) rfl rfl rfl (by decide +kernel) ⟨Nat.le_of_ble_eq_true rfl, Nat.le_of_ble_eq_true rfl⟩) ⟨z_blind, va_recv hKc hPc (ci := 4) (q0 := 0) rfl rfl, z_pre hPc hKc⟩ rfl rfl hl.1 rfl (lv_room (Nat.le_of_ble_eq_true rfl)) d_De_insert_64 ⟨Nat.zero_le _, Nat.zero_le _⟩) (fun r_64 hr_64 => ?_)
        subst hr_64
        have hP9 := hP.sub (ws' := [(ad, .inr (8, [.ref h, .ref h1, .ref ar, .ref aq, .ref hwv, .ref hpn, .ref hod, .long cm, .int (zb false), .int (zb wa)])), (h, .inr (4, [.ref hk, .ref ht, .int (nI (n + 1))])), (hk, .inl (ck, 150, .inl (upd (va_cpy k k j (j + 1) (n - j)) j x))), (ht, .inl (ct, 150, .inl (upd (va_cpy t t j (j + 1) (n - j)) j y)))]) [0, 1, 2, 3] rfl
        have hD9 := hD.sub (ws' := [(ad, .inr (8, [.ref h, .ref h1, .ref ar, .ref aq, .ref hwv, .ref hpn, .ref hod, .long cm, .int (zb false), .int (zb wa)])), (h, .inr (4, [.ref hk, .ref ht, .int (nI (n + 1))])), (hk, .inl (ck, 150, .inl (upd (va_cpy k k j (j + 1) (n - j)) j x))), (ht, .inl (ct, 150, .inl (upd (va_cpy t t j (j + 1) (n - j)) j y)))]) [0, 1, 2, 3] (by decide) rfl
        exact W.iret (v := nI (n + 1)) hx hb hr (fun t9 ht9 hW9 => ⟨⟨_, (), rfl, rfl, by rw [ht9]; exact hP9, va_K.moved hW9.alike hK, hD9⟩, hS.F ht9⟩) hS.2.2 d_De_insert_67
      · exact absurd c_32 (by rw [decide_eq_false (by omega)]; decide)
    · exact absurd c_12 (by omega)
theorem d_De_remove_0 : decode b_De_remove 0 = .ok (.aload_n 0, 1) := by decide +kernel
theorem d_De_remove_1 : decode b_De_remove 1 = .ok (.getfield 12, 3) := by decide +kernel
theorem d_De_remove_4 : decode b_De_remove 4 = .ok (.iload_n 1, 1) := by decide +kernel
theorem d_De_remove_5 : decode b_De_remove 5 = .ok (.invokevirtual 89, 3) := by decide +kernel
theorem d_De_remove_8 : decode b_De_remove 8 = .ok (.ifCond .ne 13, 3) := by decide +kernel
theorem d_De_remove_11 : decode b_De_remove 11 = .ok (.new 84, 3) := by decide +kernel
theorem d_De_remove_14 : decode b_De_remove 14 = .ok (.dup, 1) := by decide +kernel
theorem d_De_remove_15 : decode b_De_remove 15 = .ok (.ldc 86, 2) := by decide +kernel
theorem d_De_remove_17 : decode b_De_remove 17 = .ok (.invokespecial 88, 3) := by decide +kernel
theorem d_De_remove_20 : decode b_De_remove 20 = .ok (.athrow, 1) := by decide +kernel
theorem d_De_remove_21 : decode b_De_remove 21 = .ok (.aload_n 0, 1) := by decide +kernel
theorem d_De_remove_22 : decode b_De_remove 22 = .ok (.getfield 12, 3) := by decide +kernel
theorem d_De_remove_25 : decode b_De_remove 25 = .ok (.iload_n 1, 1) := by decide +kernel
theorem d_De_remove_26 : decode b_De_remove 26 = .ok (.invokevirtual 93, 3) := by decide +kernel
theorem d_De_remove_29 : decode b_De_remove 29 = .ok (.istore_n 2, 1) := by decide +kernel
theorem d_De_remove_30 : decode b_De_remove 30 = .ok (.aload_n 0, 1) := by decide +kernel
theorem d_De_remove_31 : decode b_De_remove 31 = .ok (.getfield 12, 3) := by decide +kernel
theorem d_De_remove_34 : decode b_De_remove 34 = .ok (.iload_n 1, 1) := by decide +kernel
theorem d_De_remove_35 : decode b_De_remove 35 = .ok (.invokevirtual 97, 3) := by decide +kernel
theorem d_De_remove_38 : decode b_De_remove 38 = .ok (.aload_n 0, 1) := by decide +kernel
theorem d_De_remove_39 : decode b_De_remove 39 = .ok (.iconst 0, 1) := by decide +kernel
theorem d_De_remove_40 : decode b_De_remove 40 = .ok (.putfield 80, 3) := by decide +kernel
theorem d_De_remove_43 : decode b_De_remove 43 = .ok (.iload_n 2, 1) := by decide +kernel
theorem d_De_remove_44 : decode b_De_remove 44 = .ok (.ireturn, 1) := by decide +kernel
abbrev ws_De_remove : List Cond := .code y_De_remove b_De_remove 3 (some .int) :: ALLG
abbrev rm_De_remove : Room := { frames := 2, cells := 0, slots := 0, locals := 39 }
set_option maxHeartbeats 4000000 in
set_option maxRecDepth 100000 in
theorem c_De_remove (l : Launch) (DD : va_G) (sz : Nat) (ad : Nat) (h : Nat) (hk : Nat) (ck : ClassId) (k : Nat → Int32) (ht : Nat) (ct : ClassId) (t : Nat → Int32) (n : Nat) (h1 : Nat) (ar : Nat) (aq : Nat) (hwv : Nat) (hpn : Nat) (hod : Nat) (cm : Int64) (pb : Bool) (wa : Bool) (j : Nat) (hn : n ≤ 150) (hj : j < n) : Met l y_De_remove ws_De_remove rm_De_remove (va_Pc [.ref ad, .int (nI j)] (fun U => U.heap.size = sz ∧ va_P DD vwCl [(ad, .inr (8, [.ref h, .ref h1, .ref ar, .ref aq, .ref hwv, .ref hpn, .ref hod, .long cm, .int (zb pb), .int (zb wa)])), (h, .inr (4, [.ref hk, .ref ht, .int (nI n)])), (hk, .inl (ck, 150, .inl k)), (ht, .inl (ct, 150, .inl t))] U.heap ∧ va_K DD vwCl [(ck, .int), (ct, .int)] U ∧ va_D (fun _ => True) [(ad, .inr (8, [.ref h, .ref h1, .ref ar, .ref aq, .ref hwv, .ref hpn, .ref hod, .long cm, .int (zb pb), .int (zb wa)])), (h, .inr (4, [.ref hk, .ref ht, .int (nI n)])), (hk, .inl (ck, 150, .inl k)), (ht, .inl (ct, 150, .inl t))])) (va_Qi (fun (r9 : Int32) (u9 : Unit) => match u9 with | _ => r9 = k j) (fun (u9 : Unit) (t9 : State) => match u9 with | _ => va_P DD vwCl [(ad, .inr (8, [.ref h, .ref h1, .ref ar, .ref aq, .ref hwv, .ref hpn, .ref hod, .long cm, .int (zb false), .int (zb wa)])), (h, .inr (4, [.ref hk, .ref ht, .int (nI (n - 1))])), (hk, .inl (ck, 150, .inl (va_cpy k k (j + 1) j (n - 1 - j)))), (ht, .inl (ct, 150, .inl (va_cpy t t (j + 1) j (n - 1 - j))))] t9.heap ∧ va_K DD vwCl [(ck, .int), (ct, .int)] t9 ∧ va_D (va_A [(ad, .inr (8, [.ref h, .ref h1, .ref ar, .ref aq, .ref hwv, .ref hpn, .ref hod, .long cm, .int (zb pb), .int (zb wa)])), (h, .inr (4, [.ref hk, .ref ht, .int (nI n)])), (hk, .inl (ck, 150, .inl k)), (ht, .inl (ct, 150, .inl t))] sz) [(ad, .inr (8, [.ref h, .ref h1, .ref ar, .ref aq, .ref hwv, .ref hpn, .ref hod, .long cm, .int (zb false), .int (zb wa)])), (h, .inr (4, [.ref hk, .ref ht, .int (nI (n - 1))])), (hk, .inl (ck, 150, .inl (va_cpy k k (j + 1) j (n - 1 - j)))), (ht, .inl (ct, 150, .inl (va_cpy t t (j + 1) j (n - 1 - j))))]) (va_A [(ad, .inr (8, [.ref h, .ref h1, .ref ar, .ref aq, .ref hwv, .ref hpn, .ref hod, .long cm, .int (zb pb), .int (zb wa)])), (h, .inr (4, [.ref hk, .ref ht, .int (nI n)])), (hk, .inl (ck, 150, .inl k)), (ht, .inl (ct, 150, .inl t))] sz)) 0 0 (va_A [(ad, .inr (8, [.ref h, .ref h1, .ref ar, .ref aq, .ref hwv, .ref hpn, .ref hod, .long cm, .int (zb pb), .int (zb wa)])), (h, .inr (4, [.ref hk, .ref ht, .int (nI n)])), (hk, .inl (ck, 150, .inl k)), (ht, .inl (ct, 150, .inl t))] sz) := by
  refine Met.ofW (cc := b_De_remove) (maxL := 3) (ret := (some .int)) (by decide) rfl ?_
  intro p e s m args below meth c s₁ B hml hv
  obtain ⟨ha, hsz, hP, hK, hD0⟩ := hv
  have hx := B.exec
  have hb := B.bytes
  have hr := B.returns
  have hts := atoms_spec (ws := ws_De_remove) B.pre
  have hg : ∀ w ∈ ALLG, w.before args s = true := fun w h => hts w (List.mem_cons_of_mem _ h)
  have hown : s.vm.findClass R_De = some m.cls := findClass_of_methodNamed B.named
  have hlocks := B.notSynchronized
  subst hsz
  have hD := hD0.self (sz := s.heap.size)
  generalize hAe : va_A [(ad, .inr (8, [.ref h, .ref h1, .ref ar, .ref aq, .ref hwv, .ref hpn, .ref hod, .long cm, .int (zb pb), .int (zb wa)])), (h, .inr (4, [.ref hk, .ref ht, .int (nI n)])), (hk, .inl (ck, 150, .inl k)), (ht, .inl (ct, 150, .inl t))] s.heap.size = A at hD ⊢
  have hA : ∀ q : Nat, s.heap.size ≤ q → A q := fun q h => by rw [← hAe]; exact Or.inr h
  have hS : va_S A s.heap s.heap [] := va_S.rf
  have hP : va_P DD vwCl [(ad, .inr (8, [.ref h, .ref h1, .ref ar, .ref aq, .ref hwv, .ref hpn, .ref hod, .long cm, .int (zb pb), .int (zb wa)])), (h, .inr (4, [.ref hk, .ref ht, .int (nI n)])), (hk, .inl (ck, 150, .inl k)), (ht, .inl (ct, 150, .inl t))] s.heap := hP
  have hl := lv_entry ([.ref ad, .int (nI j)]) (n := 3) (Nat.le_of_ble_eq_true rfl)
  rw [ha, lg_entry_eq, ← ha]
  generalize (lg_sl ([.ref ad, .int (nI j)]) ++ List.replicate (3 - (lg_sl ([.ref ad, .int (nI j)])).length) Slot.unset).toArray = ls at hl ⊢
  have hl : lv_has ls 3 [(0, .ref ad), (1, .int (nI j))] := hl
  refine lv_aload_n hx hb d_De_remove_0 rfl (lv_at hl 0 rfl) ?_
  refine va_get (D := DD) (ci := 8) (v := .ref h) (C := R_De) (T := T_De) (N := 10) hx hb hg in_De hown hK hP 0 rfl rfl 0 (by decide) (hg _ mw_140) (fun _ h9 => h9) rfl d_De_remove_1 ?_
  refine lv_iload_n hx hb d_De_remove_4 rfl (lv_at hl 1 rfl) ?_
  have hPc := hP.sub (ws' := [(h, .inr (4, [.ref hk, .ref ht, .int (nI n)])), (hk, .inl (ck, 150, .inl k))]) [1, 2] rfl
  have hKc := hK.sub (tys' := [(ck, .int)]) [0] rfl
  refine vp_callSi (W.runV (As := [.int (nI j)]) (rest := []) ⟨hx, hb, hml, hown, hg⟩ (c_Ro_has l DD h hk ht ck n k (nI j) (by omega)) (cwV 1 hg (gi_V mw_405 mw_406 mw_407 mw_2 mw_408) rfl rfl rfl (by decide +kernel) ⟨Nat.le_of_ble_eq_true rfl, Nat.le_of_ble_eq_true rfl⟩) ⟨z_blind, va_recv hKc hPc (ci := 4) (q0 := 0) rfl rfl, z_pre hPc hKc⟩ rfl rfl hl.1 rfl (lv_room (Nat.le_of_ble_eq_true rfl)) d_De_remove_5 ⟨Nat.zero_le _, Nat.zero_le _⟩) (fun r_5 hr_5 => ?_)
  subst hr_5
  refine z_ifb_ne (tgt := 21) hx hb d_De_remove_8 (by decide) (fun c_8 => ?_) (fun c_8 => ?_)
  · refine lv_aload_n hx hb d_De_remove_21 rfl (lv_at hl 0 rfl) ?_
    refine va_get (D := DD) (ci := 8) (v := .ref h) (C := R_De) (T := T_De) (N := 10) hx hb hg in_De hown hK hP 0 rfl rfl 0 (by decide) (hg _ mw_140) (fun _ h9 => h9) rfl d_De_remove_22 ?_
    refine lv_iload_n hx hb d_De_remove_25 rfl (lv_at hl 1 rfl) ?_
    have hPc := hP.sub (ws' := [(h, .inr (4, [.ref hk, .ref ht, .int (nI n)])), (hk, .inl (ck, 150, .inl k))]) [1, 2] rfl
    have hKc := hK.sub (tys' := [(ck, .int)]) [0] rfl
    refine vp_callSi (W.runV (As := [.int (nI j)]) (rest := []) ⟨hx, hb, hml, hown, hg⟩ (c_Ro_key l DD h hk ht ck n k j (by omega)) (cwV 1 hg (gi_V mw_409 mw_410 mw_411 mw_2 mw_412) rfl rfl rfl (by decide +kernel) ⟨Nat.le_of_ble_eq_true rfl, Nat.le_of_ble_eq_true rfl⟩) ⟨z_blind, va_recv hKc hPc (ci := 4) (q0 := 0) rfl rfl, z_pre hPc hKc⟩ rfl rfl hl.1 rfl (lv_room (Nat.le_of_ble_eq_true rfl)) d_De_remove_26 ⟨Nat.zero_le _, Nat.zero_le _⟩) (fun r_26 hr_26 => ?_)
    subst hr_26
    refine lv_istore_n (lv' := [(2, .int (k j)), (0, .ref ad), (1, .int (nI j))]) hx hb d_De_remove_29 rfl hl (by decide) rfl (fun ls hl => ?_)
    refine lv_aload_n hx hb d_De_remove_30 rfl (lv_at hl 1 rfl) ?_
    refine va_get (D := DD) (ci := 8) (v := .ref h) (C := R_De) (T := T_De) (N := 10) hx hb hg in_De hown hK hP 0 rfl rfl 0 (by decide) (hg _ mw_140) (fun _ h9 => h9) rfl d_De_remove_31 ?_
    refine lv_iload_n hx hb d_De_remove_34 rfl (lv_at hl 2 rfl) ?_
    have hPc := hP.sub (ws' := [(h, .inr (4, [.ref hk, .ref ht, .int (nI n)])), (hk, .inl (ck, 150, .inl k)), (ht, .inl (ct, 150, .inl t))]) [1, 2, 3] rfl
    have hKc := hK.sub (tys' := [(ck, .int), (ct, .int)]) [0, 1] rfl
    have hDc := hD.sub (ws' := [(h, .inr (4, [.ref hk, .ref ht, .int (nI n)])), (hk, .inl (ck, 150, .inl k)), (ht, .inl (ct, 150, .inl t))]) [1, 2, 3] (by decide) rfl
    have hFc := va_free (wc := [(h, .inr (4, [.ref hk, .ref ht, .int (nI n)])), (hk, .inl (ck, 150, .inl k)), (ht, .inl (ct, 150, .inl t))]) hD hS hA [1, 2, 3] rfl
    refine va_callv (va_runV (As := [.int (nI j)]) (rest := []) ⟨hx, hb, hml, hown, hg⟩ (c_Ro_close l DD s.heap.size h hk ht ck n k ct t j (by omega) (by omega)) (cwV 1 hg (gi_V mw_413 mw_414 mw_415 mw_2 mw_416) rfl rfl rfl (by decide +kernel) ⟨Nat.le_of_ble_eq_true rfl, Nat.le_of_ble_eq_true rfl⟩) ⟨z_blindQ, va_recv hKc hPc (ci := 4) (q0 := 0) rfl rfl, z_preQ hPc hKc hDc⟩ rfl rfl hl.1 rfl (lv_room (Nat.le_of_ble_eq_true rfl)) d_De_remove_35 ⟨Nat.zero_le _, Nat.zero_le _⟩) hS (fun q _ h => hFc q h) hFc (fun u9 t9 H9 locs ht9 hvm9 hw9 hB9 hz9 hk9 hS => ?_)
    obtain ⟨hP1, hK1, hD1⟩ := hB9
    rw [ht9] at hP1
    try dsimp only at hw9
    obtain ⟨hP, hD⟩ := va_join (wr := [(ad, .inr (8, [.ref h, .ref h1, .ref ar, .ref aq, .ref hwv, .ref hpn, .ref hod, .long cm, .int (zb pb), .int (zb wa)]))]) (w1 := [(h, .inr (4, [.ref hk, .ref ht, .int (nI (n - 1))])), (hk, .inl (ck, 150, .inl (va_cpy k k (j + 1) j (n - 1 - j)))), (ht, .inl (ct, 150, .inl (va_cpy t t (j + 1) j (n - 1 - j))))]) hP hD [1, 2, 3] [0] rfl rfl (by decide) (by decide) hk9 hFc hP1 hD1
    generalize H9 = H at hP hS ⊢
    have hP : va_P DD vwCl [(ad, .inr (8, [.ref h, .ref h1, .ref ar, .ref aq, .ref hwv, .ref hpn, .ref hod, .long cm, .int (zb pb), .int (zb wa)])), (h, .inr (4, [.ref hk, .ref ht, .int (nI (n - 1))])), (hk, .inl (ck, 150, .inl (va_cpy k k (j + 1) j (n - 1 - j)))), (ht, .inl (ct, 150, .inl (va_cpy t t (j + 1) j (n - 1 - j))))] H := hP
    have hD : va_D A [(ad, .inr (8, [.ref h, .ref h1, .ref ar, .ref aq, .ref hwv, .ref hpn, .ref hod, .long cm, .int (zb pb), .int (zb wa)])), (h, .inr (4, [.ref hk, .ref ht, .int (nI (n - 1))])), (hk, .inl (ck, 150, .inl (va_cpy k k (j + 1) j (n - 1 - j)))), (ht, .inl (ct, 150, .inl (va_cpy t t (j + 1) j (n - 1 - j))))] := hD
    refine lv_aload_n hx hb d_De_remove_38 rfl (lv_at hl 1 rfl) ?_
    refine lv_iconst (v := nI 0) hx hb d_De_remove_39 (by decide) ?_
    refine va_put (D := DD) (ci := 8) (v := .int (zb false)) (ty := .boolean) (C := R_De) (T := T_De) (N := 10) hx hb hg in_De t_De to_De n_De hown hK hP hD hS 0 rfl rfl 8 (by decide) (hg _ mw_148) (fun _ h9 => h9) rfl (by decide +kernel) rfl rfl (Nat.le_of_ble_eq_true rfl) d_De_remove_40 (fun H locs hP hD hS => ?_)
    have hP : va_P DD vwCl [(ad, .inr (8, [.ref h, .ref h1, .ref ar, .ref aq, .ref hwv, .ref hpn, .ref hod, .long cm, .int (zb false), .int (zb wa)])), (h, .inr (4, [.ref hk, .ref ht, .int (nI (n - 1))])), (hk, .inl (ck, 150, .inl (va_cpy k k (j + 1) j (n - 1 - j)))), (ht, .inl (ct, 150, .inl (va_cpy t t (j + 1) j (n - 1 - j))))] H := hP
    have hD : va_D A [(ad, .inr (8, [.ref h, .ref h1, .ref ar, .ref aq, .ref hwv, .ref hpn, .ref hod, .long cm, .int (zb false), .int (zb wa)])), (h, .inr (4, [.ref hk, .ref ht, .int (nI (n - 1))])), (hk, .inl (ck, 150, .inl (va_cpy k k (j + 1) j (n - 1 - j)))), (ht, .inl (ct, 150, .inl (va_cpy t t (j + 1) j (n - 1 - j))))] := hD
    refine lv_iload_n hx hb d_De_remove_43 rfl (lv_at hl 0 rfl) ?_
    have hP9 := hP.sub (ws' := [(ad, .inr (8, [.ref h, .ref h1, .ref ar, .ref aq, .ref hwv, .ref hpn, .ref hod, .long cm, .int (zb false), .int (zb wa)])), (h, .inr (4, [.ref hk, .ref ht, .int (nI (n - 1))])), (hk, .inl (ck, 150, .inl (va_cpy k k (j + 1) j (n - 1 - j)))), (ht, .inl (ct, 150, .inl (va_cpy t t (j + 1) j (n - 1 - j))))]) [0, 1, 2, 3] rfl
    have hD9 := hD.sub (ws' := [(ad, .inr (8, [.ref h, .ref h1, .ref ar, .ref aq, .ref hwv, .ref hpn, .ref hod, .long cm, .int (zb false), .int (zb wa)])), (h, .inr (4, [.ref hk, .ref ht, .int (nI (n - 1))])), (hk, .inl (ck, 150, .inl (va_cpy k k (j + 1) j (n - 1 - j)))), (ht, .inl (ct, 150, .inl (va_cpy t t (j + 1) j (n - 1 - j))))]) [0, 1, 2, 3] (by decide) rfl
    exact W.iret (v := k j) hx hb hr (fun t9 ht9 hW9 => ⟨⟨_, (), rfl, rfl, by rw [ht9]; exact hP9, va_K.moved hW9.alike hK, hD9⟩, hS.F ht9⟩) hS.2.2 d_De_remove_44
  · exact absurd c_8 (by rw [hasB_nI (by omega) (by omega)]; decide)
theorem d_De_at_0 : decode b_De_at 0 = .ok (.aload_n 0, 1) := by decide +kernel
theorem d_De_at_1 : decode b_De_at 1 = .ok (.getfield 12, 3) := by decide +kernel
theorem d_De_at_4 : decode b_De_at 4 = .ok (.iload_n 1, 1) := by decide +kernel
theorem d_De_at_5 : decode b_De_at 5 = .ok (.invokevirtual 89, 3) := by decide +kernel
theorem d_De_at_8 : decode b_De_at 8 = .ok (.ifCond .ne 13, 3) := by decide +kernel
theorem d_De_at_11 : decode b_De_at 11 = .ok (.new 84, 3) := by decide +kernel
theorem d_De_at_14 : decode b_De_at 14 = .ok (.dup, 1) := by decide +kernel
theorem d_De_at_15 : decode b_De_at 15 = .ok (.ldc 86, 2) := by decide +kernel
theorem d_De_at_17 : decode b_De_at 17 = .ok (.invokespecial 88, 3) := by decide +kernel
theorem d_De_at_20 : decode b_De_at 20 = .ok (.athrow, 1) := by decide +kernel
theorem d_De_at_21 : decode b_De_at 21 = .ok (.iload_n 2, 1) := by decide +kernel
theorem d_De_at_22 : decode b_De_at 22 = .ok (.ifCond .eq 14, 3) := by decide +kernel
theorem d_De_at_25 : decode b_De_at 25 = .ok (.aload_n 0, 1) := by decide +kernel
theorem d_De_at_26 : decode b_De_at 26 = .ok (.getfield 12, 3) := by decide +kernel
theorem d_De_at_29 : decode b_De_at 29 = .ok (.iload_n 1, 1) := by decide +kernel
theorem d_De_at_30 : decode b_De_at 30 = .ok (.invokevirtual 101, 3) := by decide +kernel
theorem d_De_at_33 : decode b_De_at 33 = .ok (.goto 11, 3) := by decide +kernel
theorem d_De_at_36 : decode b_De_at 36 = .ok (.aload_n 0, 1) := by decide +kernel
theorem d_De_at_37 : decode b_De_at 37 = .ok (.getfield 12, 3) := by decide +kernel
theorem d_De_at_40 : decode b_De_at 40 = .ok (.iload_n 1, 1) := by decide +kernel
theorem d_De_at_41 : decode b_De_at 41 = .ok (.invokevirtual 93, 3) := by decide +kernel
theorem d_De_at_44 : decode b_De_at 44 = .ok (.ireturn, 1) := by decide +kernel
abbrev ws_De_at : List Cond := .code y_De_at b_De_at 3 (some .int) :: ALLG
abbrev rm_De_at : Room := { frames := 1, cells := 0, slots := 0, locals := 21 }
set_option maxHeartbeats 4000000 in
set_option maxRecDepth 100000 in
theorem c_De_at (l : Launch) (DD : va_G) (ad : Nat) (h : Nat) (hk : Nat) (ck : ClassId) (k : Nat → Int32) (ht : Nat) (ct : ClassId) (t : Nat → Int32) (n : Nat) (h1 : Nat) (ar : Nat) (aq : Nat) (hwv : Nat) (hpn : Nat) (hod : Nat) (cm : Int64) (pb : Bool) (wa : Bool) (j : Nat) (g : Bool) (hn : n ≤ 150) (hj : j < n) : Met l y_De_at ws_De_at rm_De_at (va_Pc [.ref ad, .int (nI j), .int (zb g)] (fun U => va_P DD vwCl [(ad, .inr (8, [.ref h, .ref h1, .ref ar, .ref aq, .ref hwv, .ref hpn, .ref hod, .long cm, .int (zb pb), .int (zb wa)])), (h, .inr (4, [.ref hk, .ref ht, .int (nI n)])), (hk, .inl (ck, 150, .inl k)), (ht, .inl (ct, 150, .inl t))] U.heap ∧ va_K DD vwCl [(ck, .int), (ct, .int)] U)) (vp_Si (fun r9 => r9 = if g = true then t j else k j)) 0 0 (fun _ => False) := by
  refine Met.ofW (cc := b_De_at) (maxL := 3) (ret := (some .int)) (by decide) rfl ?_
  intro p e s m args below meth c s₁ B hml hv
  obtain ⟨ha, hP, hK⟩ := hv
  have hx := B.exec
  have hb := B.bytes
  have hr := B.returns
  have hts := atoms_spec (ws := ws_De_at) B.pre
  have hg : ∀ w ∈ ALLG, w.before args s = true := fun w h => hts w (List.mem_cons_of_mem _ h)
  have hown : s.vm.findClass R_De = some m.cls := findClass_of_methodNamed B.named
  have hlocks := B.notSynchronized
  have hP : va_P DD vwCl [(ad, .inr (8, [.ref h, .ref h1, .ref ar, .ref aq, .ref hwv, .ref hpn, .ref hod, .long cm, .int (zb pb), .int (zb wa)])), (h, .inr (4, [.ref hk, .ref ht, .int (nI n)])), (hk, .inl (ck, 150, .inl k)), (ht, .inl (ct, 150, .inl t))] s.heap := hP
  have hl := lv_entry ([.ref ad, .int (nI j), .int (zb g)]) (n := 3) (Nat.le_of_ble_eq_true rfl)
  rw [ha, lg_entry_eq, ← ha]
  generalize (lg_sl ([.ref ad, .int (nI j), .int (zb g)]) ++ List.replicate (3 - (lg_sl ([.ref ad, .int (nI j), .int (zb g)])).length) Slot.unset).toArray = ls at hl ⊢
  have hl : lv_has ls 3 [(0, .ref ad), (1, .int (nI j)), (2, .int (zb g))] := hl
  refine lv_aload_n hx hb d_De_at_0 rfl (lv_at hl 0 rfl) ?_
  refine va_get (D := DD) (ci := 8) (v := .ref h) (C := R_De) (T := T_De) (N := 10) hx hb hg in_De hown hK hP 0 rfl rfl 0 (by decide) (hg _ mw_140) (fun _ h9 => h9) rfl d_De_at_1 ?_
  refine lv_iload_n hx hb d_De_at_4 rfl (lv_at hl 1 rfl) ?_
  have hPc := hP.sub (ws' := [(h, .inr (4, [.ref hk, .ref ht, .int (nI n)])), (hk, .inl (ck, 150, .inl k))]) [1, 2] rfl
  have hKc := hK.sub (tys' := [(ck, .int)]) [0] rfl
  refine vp_callSi (W.runV (As := [.int (nI j)]) (rest := []) ⟨hx, hb, hml, hown, hg⟩ (c_Ro_has l DD h hk ht ck n k (nI j) (by omega)) (cwV 1 hg (gi_V mw_405 mw_406 mw_407 mw_2 mw_408) rfl rfl rfl (by decide +kernel) ⟨Nat.le_of_ble_eq_true rfl, Nat.le_of_ble_eq_true rfl⟩) ⟨z_blind, va_recv hKc hPc (ci := 4) (q0 := 0) rfl rfl, z_pre hPc hKc⟩ rfl rfl hl.1 rfl (lv_room (Nat.le_of_ble_eq_true rfl)) d_De_at_5 ⟨Nat.zero_le _, Nat.zero_le _⟩) (fun r_5 hr_5 => ?_)
  subst hr_5
  refine z_ifb_ne (tgt := 21) hx hb d_De_at_8 (by decide) (fun c_8 => ?_) (fun c_8 => ?_)
  · refine lv_iload_n hx hb d_De_at_21 rfl (lv_at hl 2 rfl) ?_
    refine z_ifb_eq (tgt := 36) hx hb d_De_at_22 (by decide) (fun c_22 => ?_) (fun c_22 => ?_)
    · refine lv_aload_n hx hb d_De_at_36 rfl (lv_at hl 0 rfl) ?_
      refine va_get (D := DD) (ci := 8) (v := .ref h) (C := R_De) (T := T_De) (N := 10) hx hb hg in_De hown hK hP 0 rfl rfl 0 (by decide) (hg _ mw_140) (fun _ h9 => h9) rfl d_De_at_37 ?_
      refine lv_iload_n hx hb d_De_at_40 rfl (lv_at hl 1 rfl) ?_
      have hPc := hP.sub (ws' := [(h, .inr (4, [.ref hk, .ref ht, .int (nI n)])), (hk, .inl (ck, 150, .inl k))]) [1, 2] rfl
      have hKc := hK.sub (tys' := [(ck, .int)]) [0] rfl
      refine vp_callSi (W.runV (As := [.int (nI j)]) (rest := []) ⟨hx, hb, hml, hown, hg⟩ (c_Ro_key l DD h hk ht ck n k j (by omega)) (cwV 1 hg (gi_V mw_409 mw_410 mw_411 mw_2 mw_412) rfl rfl rfl (by decide +kernel) ⟨Nat.le_of_ble_eq_true rfl, Nat.le_of_ble_eq_true rfl⟩) ⟨z_blind, va_recv hKc hPc (ci := 4) (q0 := 0) rfl rfl, z_pre hPc hKc⟩ rfl rfl hl.1 rfl (lv_room (Nat.le_of_ble_eq_true rfl)) d_De_at_41 ⟨Nat.zero_le _, Nat.zero_le _⟩) (fun r_41 hr_41 => ?_)
      subst hr_41
      exact W.iret (v := k j) hx hb hr (fun t9 ht9 hW9 => ⟨_, rfl, (by first | exact (if_pos c_22).symm | exact (if_neg (by rw [c_22]; decide)).symm), ht9⟩) (fun _ h => nomatch h) d_De_at_44
    · refine lv_aload_n hx hb d_De_at_25 rfl (lv_at hl 0 rfl) ?_
      refine va_get (D := DD) (ci := 8) (v := .ref h) (C := R_De) (T := T_De) (N := 10) hx hb hg in_De hown hK hP 0 rfl rfl 0 (by decide) (hg _ mw_140) (fun _ h9 => h9) rfl d_De_at_26 ?_
      refine lv_iload_n hx hb d_De_at_29 rfl (lv_at hl 1 rfl) ?_
      have hPc := hP.sub (ws' := [(h, .inr (4, [.ref hk, .ref ht, .int (nI n)])), (hk, .inl (ck, 150, .inl k)), (ht, .inl (ct, 150, .inl t))]) [1, 2, 3] rfl
      have hKc := hK.sub (tys' := [(ck, .int), (ct, .int)]) [0, 1] rfl
      refine vp_callSi (W.runV (As := [.int (nI j)]) (rest := []) ⟨hx, hb, hml, hown, hg⟩ (c_Ro_tag l DD h hk ht ck n k ct t j (by omega)) (cwV 1 hg (gi_V mw_424 mw_425 mw_426 mw_2 mw_427) rfl rfl rfl (by decide +kernel) ⟨Nat.le_of_ble_eq_true rfl, Nat.le_of_ble_eq_true rfl⟩) ⟨z_blind, va_recv hKc hPc (ci := 4) (q0 := 0) rfl rfl, z_pre hPc hKc⟩ rfl rfl hl.1 rfl (lv_room (Nat.le_of_ble_eq_true rfl)) d_De_at_30 ⟨Nat.zero_le _, Nat.zero_le _⟩) (fun r_30 hr_30 => ?_)
      subst hr_30
      refine lv_goto (tgt := 44) hx hb d_De_at_33 (by decide) ?_
      exact W.iret (v := t j) hx hb hr (fun t9 ht9 hW9 => ⟨_, rfl, (by first | exact (if_pos c_22).symm | exact (if_neg (by rw [c_22]; decide)).symm), ht9⟩) (fun _ h => nomatch h) d_De_at_44
  · exact absurd c_8 (by rw [hasB_nI (by omega) (by omega)]; decide)
theorem d_De_figure_0 : decode b_De_figure 0 = .ok (.iload_n 1, 1) := by decide +kernel
theorem d_De_figure_1 : decode b_De_figure 1 = .ok (.invokestatic 104, 3) := by decide +kernel
theorem d_De_figure_4 : decode b_De_figure 4 = .ok (.ifCond .ne 13, 3) := by decide +kernel
theorem d_De_figure_7 : decode b_De_figure 7 = .ok (.new 107, 3) := by decide +kernel
theorem d_De_figure_10 : decode b_De_figure 10 = .ok (.dup, 1) := by decide +kernel
theorem d_De_figure_11 : decode b_De_figure 11 = .ok (.ldc 109, 2) := by decide +kernel
theorem d_De_figure_13 : decode b_De_figure 13 = .ok (.invokespecial 111, 3) := by decide +kernel
theorem d_De_figure_16 : decode b_De_figure 16 = .ok (.athrow, 1) := by decide +kernel
theorem d_De_figure_17 : decode b_De_figure 17 = .ok (.aload_n 0, 1) := by decide +kernel
theorem d_De_figure_18 : decode b_De_figure 18 = .ok (.getfield 12, 3) := by decide +kernel
theorem d_De_figure_21 : decode b_De_figure 21 = .ok (.iload_n 1, 1) := by decide +kernel
theorem d_De_figure_22 : decode b_De_figure 22 = .ok (.invokevirtual 112, 3) := by decide +kernel
theorem d_De_figure_25 : decode b_De_figure 25 = .ok (.lreturn, 1) := by decide +kernel
abbrev ws_De_figure : List Cond := .code y_De_figure b_De_figure 2 (some .long) :: ALLG
abbrev rm_De_figure : Room := { frames := 4, cells := 0, slots := 0, locals := 84 }
set_option maxHeartbeats 4000000 in
set_option maxRecDepth 100000 in
theorem c_De_figure (l : Launch) (DD : va_G) (ad : Nat) (h : Nat) (hk : Nat) (ck : ClassId) (k : Nat → Int32) (ht : Nat) (n : Nat) (h1 : Nat) (ar : Nat) (aq : Nat) (hwv : Nat) (hpn : Nat) (hod : Nat) (cm : Int64) (pb : Bool) (wa : Bool) (w : Nat) (hn : n ≤ 150) (hw8 : w < 8) : Met l y_De_figure ws_De_figure rm_De_figure (va_Pc [.ref ad, .int (nI w)] (fun U => va_P DD vwCl [(ad, .inr (8, [.ref h, .ref h1, .ref ar, .ref aq, .ref hwv, .ref hpn, .ref hod, .long cm, .int (zb pb), .int (zb wa)])), (h, .inr (4, [.ref hk, .ref ht, .int (nI n)])), (hk, .inl (ck, 150, .inl k))] U.heap ∧ va_K DD vwCl [(ck, .int)] U)) (vp_Sl (fun r9 => r9 = (figN k n w).toInt64)) 0 0 (fun _ => False) := by
  refine Met.ofW (cc := b_De_figure) (maxL := 2) (ret := (some .long)) (by decide) rfl ?_
  intro p e s m args below meth c s₁ B hml hv
  obtain ⟨ha, hP, hK⟩ := hv
  have hx := B.exec
  have hb := B.bytes
  have hr := B.returns
  have hts := atoms_spec (ws := ws_De_figure) B.pre
  have hg : ∀ w ∈ ALLG, w.before args s = true := fun w h => hts w (List.mem_cons_of_mem _ h)
  have hown : s.vm.findClass R_De = some m.cls := findClass_of_methodNamed B.named
  have hlocks := B.notSynchronized
  have hP : va_P DD vwCl [(ad, .inr (8, [.ref h, .ref h1, .ref ar, .ref aq, .ref hwv, .ref hpn, .ref hod, .long cm, .int (zb pb), .int (zb wa)])), (h, .inr (4, [.ref hk, .ref ht, .int (nI n)])), (hk, .inl (ck, 150, .inl k))] s.heap := hP
  have hl := lv_entry ([.ref ad, .int (nI w)]) (n := 2) (Nat.le_of_ble_eq_true rfl)
  rw [ha, lg_entry_eq, ← ha]
  generalize (lg_sl ([.ref ad, .int (nI w)]) ++ List.replicate (2 - (lg_sl ([.ref ad, .int (nI w)])).length) Slot.unset).toArray = ls at hl ⊢
  have hl : lv_has ls 2 [(0, .ref ad), (1, .int (nI w))] := hl
  refine lv_iload_n hx hb d_De_figure_0 rfl (lv_at hl 1 rfl) ?_
  have hPc := hP.sub (ws' := []) [] rfl
  have hKc := hK.sub (tys' := []) [] rfl
  refine vp_callSi (W.runS (As := [.int (nI w)]) (rest := []) ⟨hx, hb, hml, hown, hg⟩ (c_De_isFigure l DD (nI w)) (cwS 1 hg (gi_S mw_436 mw_437 mw_1 mw_438) rfl rfl rfl (by decide +kernel) ⟨Nat.le_of_ble_eq_true rfl, Nat.le_of_ble_eq_true rfl⟩) ⟨z_blind, z_pre hPc hKc⟩ rfl rfl hl.1 rfl (lv_room (Nat.le_of_ble_eq_true rfl)) d_De_figure_1 ⟨Nat.zero_le _, Nat.zero_le _⟩) (fun r_1 hr_1 => ?_)
  subst hr_1
  refine z_ifb_ne (tgt := 17) hx hb d_De_figure_4 (by decide) (fun c_4 => ?_) (fun c_4 => ?_)
  · refine lv_aload_n hx hb d_De_figure_17 rfl (lv_at hl 0 rfl) ?_
    refine va_get (D := DD) (ci := 8) (v := .ref h) (C := R_De) (T := T_De) (N := 10) hx hb hg in_De hown hK hP 0 rfl rfl 0 (by decide) (hg _ mw_140) (fun _ h9 => h9) rfl d_De_figure_18 ?_
    refine lv_iload_n hx hb d_De_figure_21 rfl (lv_at hl 1 rfl) ?_
    have hPc := hP.sub (ws' := [(h, .inr (4, [.ref hk, .ref ht, .int (nI n)])), (hk, .inl (ck, 150, .inl k))]) [1, 2] rfl
    have hKc := hK.sub (tys' := [(ck, .int)]) [0] rfl
    refine vp_callSl (W.runV (As := [.int (nI w)]) (rest := []) ⟨hx, hb, hml, hown, hg⟩ (c_Ro_measure l DD h hk ht ck n k w (by omega) (by omega)) (cwV 1 hg (gi_V mw_455 mw_234 mw_235 mw_2 mw_236) rfl rfl rfl (by decide +kernel) ⟨Nat.le_of_ble_eq_true rfl, Nat.le_of_ble_eq_true rfl⟩) ⟨z_blind, va_recv hKc hPc (ci := 4) (q0 := 0) rfl rfl, z_pre hPc hKc⟩ rfl rfl hl.1 rfl (lv_room (Nat.le_of_ble_eq_true rfl)) d_De_figure_22 ⟨Nat.zero_le _, Nat.zero_le _⟩) (fun r_22 hr_22 => ?_)
    subst hr_22
    exact W.lret (v := (figN k n w).toInt64) hx hb hr (fun t9 ht9 hW9 => ⟨_, rfl, rfl, ht9⟩) (fun _ h => nomatch h) d_De_figure_25
  · exact absurd c_4 (by rw [hasB_nI (by omega) (by omega)]; decide)
theorem d_De_rule_0 : decode b_De_rule 0 = .ok (.iload_n 1, 1) := by decide +kernel
theorem d_De_rule_1 : decode b_De_rule 1 = .ok (.invokestatic 104, 3) := by decide +kernel
theorem d_De_rule_4 : decode b_De_rule 4 = .ok (.ifCond .eq 11, 3) := by decide +kernel
theorem d_De_rule_7 : decode b_De_rule 7 = .ok (.iload 6, 2) := by decide +kernel
theorem d_De_rule_9 : decode b_De_rule 9 = .ok (.invokestatic 116, 3) := by decide +kernel
theorem d_De_rule_12 : decode b_De_rule 12 = .ok (.ifCond .ne 13, 3) := by decide +kernel
theorem d_De_rule_15 : decode b_De_rule 15 = .ok (.new 107, 3) := by decide +kernel
theorem d_De_rule_18 : decode b_De_rule 18 = .ok (.dup, 1) := by decide +kernel
theorem d_De_rule_19 : decode b_De_rule 19 = .ok (.ldc 119, 2) := by decide +kernel
theorem d_De_rule_21 : decode b_De_rule 21 = .ok (.invokespecial 111, 3) := by decide +kernel
theorem d_De_rule_24 : decode b_De_rule 24 = .ok (.athrow, 1) := by decide +kernel
theorem d_De_rule_25 : decode b_De_rule 25 = .ok (.aload_n 0, 1) := by decide +kernel
theorem d_De_rule_26 : decode b_De_rule 26 = .ok (.getfield 22, 3) := by decide +kernel
theorem d_De_rule_29 : decode b_De_rule 29 = .ok (.invokevirtual 121, 3) := by decide +kernel
theorem d_De_rule_32 : decode b_De_rule 32 = .ok (.ifCond .eq 13, 3) := by decide +kernel
theorem d_De_rule_35 : decode b_De_rule 35 = .ok (.new 65, 3) := by decide +kernel
theorem d_De_rule_38 : decode b_De_rule 38 = .ok (.dup, 1) := by decide +kernel
theorem d_De_rule_39 : decode b_De_rule 39 = .ok (.ldc 122, 2) := by decide +kernel
theorem d_De_rule_41 : decode b_De_rule 41 = .ok (.invokespecial 69, 3) := by decide +kernel
theorem d_De_rule_44 : decode b_De_rule 44 = .ok (.athrow, 1) := by decide +kernel
theorem d_De_rule_45 : decode b_De_rule 45 = .ok (.aload_n 0, 1) := by decide +kernel
theorem d_De_rule_46 : decode b_De_rule 46 = .ok (.getfield 22, 3) := by decide +kernel
theorem d_De_rule_49 : decode b_De_rule 49 = .ok (.iload_n 1, 1) := by decide +kernel
theorem d_De_rule_50 : decode b_De_rule 50 = .ok (.lload_n 2, 1) := by decide +kernel
theorem d_De_rule_51 : decode b_De_rule 51 = .ok (.lload 4, 2) := by decide +kernel
theorem d_De_rule_53 : decode b_De_rule 53 = .ok (.iload 6, 2) := by decide +kernel
theorem d_De_rule_55 : decode b_De_rule 55 = .ok (.invokevirtual 124, 3) := by decide +kernel
theorem d_De_rule_58 : decode b_De_rule 58 = .ok (.ireturn, 1) := by decide +kernel
abbrev ws_De_rule : List Cond := .code y_De_rule b_De_rule 7 (some .int) :: ALLG
abbrev rm_De_rule : Room := { frames := 1, cells := 0, slots := 0, locals := 26 }
set_option maxHeartbeats 4000000 in
set_option maxRecDepth 100000 in
theorem c_De_rule (l : Launch) (DD : va_G) (sz : Nat) (ad : Nat) (h : Nat) (h1 : Nat) (ar : Nat) (hfg : Nat) (cfg : ClassId) (fg : Nat → Nat) (hle : Nat) (cle : ClassId) (le : Nat → Int64) (hmo : Nat) (cmo : ClassId) (mo : Nat → Int64) (hwy : Nat) (cwy : ClassId) (wy : Nat → Nat) (rn : Nat) (aq : Nat) (hwv : Nat) (hpn : Nat) (hod : Nat) (cm : Int64) (pb : Bool) (wa : Bool) (x : Nat) (y : Int64) (z : Int64) (w : Nat) (hrn : rn < 12) (hx8 : x < 8) (hw5 : w < 5) : Met l y_De_rule ws_De_rule rm_De_rule (va_Pc [.ref ad, .int (nI x), .long y, .long z, .int (nI w)] (fun U => U.heap.size = sz ∧ va_P DD vwCl [(ad, .inr (8, [.ref h, .ref h1, .ref ar, .ref aq, .ref hwv, .ref hpn, .ref hod, .long cm, .int (zb pb), .int (zb wa)])), (ar, .inr (5, [.ref hfg, .ref hle, .ref hmo, .ref hwy, .int (nI rn)])), (hfg, .inl (cfg, 12, .inl (nF fg))), (hle, .inl (cle, 12, .inr (.inl le))), (hmo, .inl (cmo, 12, .inr (.inl mo))), (hwy, .inl (cwy, 12, .inl (nF wy)))] U.heap ∧ va_K DD vwCl [(cfg, .int), (cle, .long), (cmo, .long), (cwy, .int)] U ∧ va_D (fun _ => True) [(ad, .inr (8, [.ref h, .ref h1, .ref ar, .ref aq, .ref hwv, .ref hpn, .ref hod, .long cm, .int (zb pb), .int (zb wa)])), (ar, .inr (5, [.ref hfg, .ref hle, .ref hmo, .ref hwy, .int (nI rn)])), (hfg, .inl (cfg, 12, .inl (nF fg))), (hle, .inl (cle, 12, .inr (.inl le))), (hmo, .inl (cmo, 12, .inr (.inl mo))), (hwy, .inl (cwy, 12, .inl (nF wy)))])) (va_Qi (fun (r9 : Int32) (u9 : Unit) => match u9 with | _ => r9 = nI rn) (fun (u9 : Unit) (t9 : State) => match u9 with | _ => va_P DD vwCl [(ad, .inr (8, [.ref h, .ref h1, .ref ar, .ref aq, .ref hwv, .ref hpn, .ref hod, .long cm, .int (zb pb), .int (zb wa)])), (ar, .inr (5, [.ref hfg, .ref hle, .ref hmo, .ref hwy, .int (nI (rn + 1))])), (hfg, .inl (cfg, 12, .inl (nF (va_up fg rn x)))), (hle, .inl (cle, 12, .inr (.inl (vp_updL le rn y)))), (hmo, .inl (cmo, 12, .inr (.inl (vp_updL mo rn z)))), (hwy, .inl (cwy, 12, .inl (nF (va_up wy rn w))))] t9.heap ∧ va_K DD vwCl [(cfg, .int), (cle, .long), (cmo, .long), (cwy, .int)] t9 ∧ va_D (va_A [(ad, .inr (8, [.ref h, .ref h1, .ref ar, .ref aq, .ref hwv, .ref hpn, .ref hod, .long cm, .int (zb pb), .int (zb wa)])), (ar, .inr (5, [.ref hfg, .ref hle, .ref hmo, .ref hwy, .int (nI rn)])), (hfg, .inl (cfg, 12, .inl (nF fg))), (hle, .inl (cle, 12, .inr (.inl le))), (hmo, .inl (cmo, 12, .inr (.inl mo))), (hwy, .inl (cwy, 12, .inl (nF wy)))] sz) [(ad, .inr (8, [.ref h, .ref h1, .ref ar, .ref aq, .ref hwv, .ref hpn, .ref hod, .long cm, .int (zb pb), .int (zb wa)])), (ar, .inr (5, [.ref hfg, .ref hle, .ref hmo, .ref hwy, .int (nI (rn + 1))])), (hfg, .inl (cfg, 12, .inl (nF (va_up fg rn x)))), (hle, .inl (cle, 12, .inr (.inl (vp_updL le rn y)))), (hmo, .inl (cmo, 12, .inr (.inl (vp_updL mo rn z)))), (hwy, .inl (cwy, 12, .inl (nF (va_up wy rn w))))]) (va_A [(ad, .inr (8, [.ref h, .ref h1, .ref ar, .ref aq, .ref hwv, .ref hpn, .ref hod, .long cm, .int (zb pb), .int (zb wa)])), (ar, .inr (5, [.ref hfg, .ref hle, .ref hmo, .ref hwy, .int (nI rn)])), (hfg, .inl (cfg, 12, .inl (nF fg))), (hle, .inl (cle, 12, .inr (.inl le))), (hmo, .inl (cmo, 12, .inr (.inl mo))), (hwy, .inl (cwy, 12, .inl (nF wy)))] sz)) 0 0 (va_A [(ad, .inr (8, [.ref h, .ref h1, .ref ar, .ref aq, .ref hwv, .ref hpn, .ref hod, .long cm, .int (zb pb), .int (zb wa)])), (ar, .inr (5, [.ref hfg, .ref hle, .ref hmo, .ref hwy, .int (nI rn)])), (hfg, .inl (cfg, 12, .inl (nF fg))), (hle, .inl (cle, 12, .inr (.inl le))), (hmo, .inl (cmo, 12, .inr (.inl mo))), (hwy, .inl (cwy, 12, .inl (nF wy)))] sz) := by
  refine Met.ofW (cc := b_De_rule) (maxL := 7) (ret := (some .int)) (by decide) rfl ?_
  intro p e s m args below meth c s₁ B hml hv
  obtain ⟨ha, hsz, hP, hK, hD0⟩ := hv
  have hx := B.exec
  have hb := B.bytes
  have hr := B.returns
  have hts := atoms_spec (ws := ws_De_rule) B.pre
  have hg : ∀ w ∈ ALLG, w.before args s = true := fun w h => hts w (List.mem_cons_of_mem _ h)
  have hown : s.vm.findClass R_De = some m.cls := findClass_of_methodNamed B.named
  have hlocks := B.notSynchronized
  subst hsz
  have hD := hD0.self (sz := s.heap.size)
  generalize hAe : va_A [(ad, .inr (8, [.ref h, .ref h1, .ref ar, .ref aq, .ref hwv, .ref hpn, .ref hod, .long cm, .int (zb pb), .int (zb wa)])), (ar, .inr (5, [.ref hfg, .ref hle, .ref hmo, .ref hwy, .int (nI rn)])), (hfg, .inl (cfg, 12, .inl (nF fg))), (hle, .inl (cle, 12, .inr (.inl le))), (hmo, .inl (cmo, 12, .inr (.inl mo))), (hwy, .inl (cwy, 12, .inl (nF wy)))] s.heap.size = A at hD ⊢
  have hA : ∀ q : Nat, s.heap.size ≤ q → A q := fun q h => by rw [← hAe]; exact Or.inr h
  have hS : va_S A s.heap s.heap [] := va_S.rf
  have hP : va_P DD vwCl [(ad, .inr (8, [.ref h, .ref h1, .ref ar, .ref aq, .ref hwv, .ref hpn, .ref hod, .long cm, .int (zb pb), .int (zb wa)])), (ar, .inr (5, [.ref hfg, .ref hle, .ref hmo, .ref hwy, .int (nI rn)])), (hfg, .inl (cfg, 12, .inl (nF fg))), (hle, .inl (cle, 12, .inr (.inl le))), (hmo, .inl (cmo, 12, .inr (.inl mo))), (hwy, .inl (cwy, 12, .inl (nF wy)))] s.heap := hP
  have hl := lv_entry ([.ref ad, .int (nI x), .long y, .long z, .int (nI w)]) (n := 7) (Nat.le_of_ble_eq_true rfl)
  rw [ha, lg_entry_eq, ← ha]
  generalize (lg_sl ([.ref ad, .int (nI x), .long y, .long z, .int (nI w)]) ++ List.replicate (7 - (lg_sl ([.ref ad, .int (nI x), .long y, .long z, .int (nI w)])).length) Slot.unset).toArray = ls at hl ⊢
  have hl : lv_has ls 7 [(0, .ref ad), (1, .int (nI x)), (2, .long y), (4, .long z), (6, .int (nI w))] := hl
  refine lv_iload_n hx hb d_De_rule_0 rfl (lv_at hl 1 rfl) ?_
  have hPc := hP.sub (ws' := []) [] rfl
  have hKc := hK.sub (tys' := []) [] rfl
  refine vp_callSi (W.runS (As := [.int (nI x)]) (rest := []) ⟨hx, hb, hml, hown, hg⟩ (c_De_isFigure l DD (nI x)) (cwS 1 hg (gi_S mw_436 mw_437 mw_1 mw_438) rfl rfl rfl (by decide +kernel) ⟨Nat.le_of_ble_eq_true rfl, Nat.le_of_ble_eq_true rfl⟩) ⟨z_blind, z_pre hPc hKc⟩ rfl rfl hl.1 rfl (lv_room (Nat.le_of_ble_eq_true rfl)) d_De_rule_1 ⟨Nat.zero_le _, Nat.zero_le _⟩) (fun r_1 hr_1 => ?_)
  subst hr_1
  refine z_ifb_eq (tgt := 15) hx hb d_De_rule_4 (by decide) (fun c_4 => ?_) (fun c_4 => ?_)
  · exact absurd c_4 (by rw [hasB_nI (by omega) (by omega)]; decide)
  · refine lv_iload hx hb d_De_rule_7 (lv_at hl 4 rfl) ?_
    have hPc := hP.sub (ws' := []) [] rfl
    have hKc := hK.sub (tys' := []) [] rfl
    refine vp_callSi (W.runS (As := [.int (nI w)]) (rest := []) ⟨hx, hb, hml, hown, hg⟩ (c_De_isWay l DD (nI w)) (cwS 1 hg (gi_S mw_463 mw_464 mw_1 mw_465) rfl rfl rfl (by decide +kernel) ⟨Nat.le_of_ble_eq_true rfl, Nat.le_of_ble_eq_true rfl⟩) ⟨z_blind, z_pre hPc hKc⟩ rfl rfl hl.1 rfl (lv_room (Nat.le_of_ble_eq_true rfl)) d_De_rule_9 ⟨Nat.zero_le _, Nat.zero_le _⟩) (fun r_9 hr_9 => ?_)
    subst hr_9
    refine z_ifb_ne (tgt := 25) hx hb d_De_rule_12 (by decide) (fun c_12 => ?_) (fun c_12 => ?_)
    · refine lv_aload_n hx hb d_De_rule_25 rfl (lv_at hl 0 rfl) ?_
      refine va_get (D := DD) (ci := 8) (v := .ref ar) (C := R_De) (T := T_De) (N := 10) hx hb hg in_De hown hK hP 0 rfl rfl 2 (by decide) (hg _ mw_142) (fun _ h9 => h9) rfl d_De_rule_26 ?_
      have hPc := hP.sub (ws' := [(ar, .inr (5, [.ref hfg, .ref hle, .ref hmo, .ref hwy, .int (nI rn)]))]) [1] rfl
      have hKc := hK.sub (tys' := []) [] rfl
      refine vp_callSi (W.runV (As := []) (rest := []) ⟨hx, hb, hml, hown, hg⟩ (c_Ru_isFull l DD ar hfg hle hmo hwy rn (by omega)) (cwV 0 hg (gi_V mw_467 mw_468 mw_469 mw_3 mw_470) rfl rfl rfl (by decide +kernel) ⟨Nat.le_of_ble_eq_true rfl, Nat.le_of_ble_eq_true rfl⟩) ⟨z_blind, va_recv hKc hPc (ci := 5) (q0 := 0) rfl rfl, z_pre hPc hKc⟩ rfl rfl hl.1 rfl (lv_room (Nat.le_of_ble_eq_true rfl)) d_De_rule_29 ⟨Nat.zero_le _, Nat.zero_le _⟩) (fun r_29 hr_29 => ?_)
      subst hr_29
      refine z_ifb_eq (tgt := 45) hx hb d_De_rule_32 (by decide) (fun c_32 => ?_) (fun c_32 => ?_)
      · refine lv_aload_n hx hb d_De_rule_45 rfl (lv_at hl 0 rfl) ?_
        refine va_get (D := DD) (ci := 8) (v := .ref ar) (C := R_De) (T := T_De) (N := 10) hx hb hg in_De hown hK hP 0 rfl rfl 2 (by decide) (hg _ mw_142) (fun _ h9 => h9) rfl d_De_rule_46 ?_
        refine lv_iload_n hx hb d_De_rule_49 rfl (lv_at hl 1 rfl) ?_
        refine lv_lload_n hx hb d_De_rule_50 rfl (lv_at hl 2 rfl) ?_
        refine lv_lload hx hb d_De_rule_51 (lv_at hl 3 rfl) ?_
        refine lv_iload hx hb d_De_rule_53 (lv_at hl 4 rfl) ?_
        have hPc := hP.sub (ws' := [(ar, .inr (5, [.ref hfg, .ref hle, .ref hmo, .ref hwy, .int (nI rn)])), (hfg, .inl (cfg, 12, .inl (nF fg))), (hle, .inl (cle, 12, .inr (.inl le))), (hmo, .inl (cmo, 12, .inr (.inl mo))), (hwy, .inl (cwy, 12, .inl (nF wy)))]) [1, 2, 3, 4, 5] rfl
        have hKc := hK.sub (tys' := [(cfg, .int), (cle, .long), (cmo, .long), (cwy, .int)]) [0, 1, 2, 3] rfl
        have hDc := hD.sub (ws' := [(ar, .inr (5, [.ref hfg, .ref hle, .ref hmo, .ref hwy, .int (nI rn)])), (hfg, .inl (cfg, 12, .inl (nF fg))), (hle, .inl (cle, 12, .inr (.inl le))), (hmo, .inl (cmo, 12, .inr (.inl mo))), (hwy, .inl (cwy, 12, .inl (nF wy)))]) [1, 2, 3, 4, 5] (by decide) rfl
        have hFc := va_free (wc := [(ar, .inr (5, [.ref hfg, .ref hle, .ref hmo, .ref hwy, .int (nI rn)])), (hfg, .inl (cfg, 12, .inl (nF fg))), (hle, .inl (cle, 12, .inr (.inl le))), (hmo, .inl (cmo, 12, .inr (.inl mo))), (hwy, .inl (cwy, 12, .inl (nF wy)))]) hD hS hA [1, 2, 3, 4, 5] rfl
        refine va_calli (va_runV (As := [.int (nI x), .long y, .long z, .int (nI w)]) (rest := []) ⟨hx, hb, hml, hown, hg⟩ (c_Ru_append l DD s.heap.size ar hfg cfg fg hle cle le hmo cmo mo hwy cwy wy rn x y z w (by omega)) (cwV 4 hg (gi_V mw_472 mw_473 mw_474 mw_3 mw_475) rfl rfl rfl (by decide +kernel) ⟨Nat.le_of_ble_eq_true rfl, Nat.le_of_ble_eq_true rfl⟩) ⟨z_blindQ, va_recv hKc hPc (ci := 5) (q0 := 0) rfl rfl, z_preQ hPc hKc hDc⟩ rfl rfl hl.1 rfl (lv_room (Nat.le_of_ble_eq_true rfl)) d_De_rule_55 ⟨Nat.zero_le _, Nat.zero_le _⟩) hS (fun q _ h => hFc q h) hFc (fun r_55 u9 t9 H9 locs ht9 hvm9 hw9 hB9 hz9 hk9 hS => ?_)
        obtain ⟨hP1, hK1, hD1⟩ := hB9
        rw [ht9] at hP1
        try dsimp only at hw9
        obtain ⟨hP, hD⟩ := va_join (wr := [(ad, .inr (8, [.ref h, .ref h1, .ref ar, .ref aq, .ref hwv, .ref hpn, .ref hod, .long cm, .int (zb pb), .int (zb wa)]))]) (w1 := [(ar, .inr (5, [.ref hfg, .ref hle, .ref hmo, .ref hwy, .int (nI (rn + 1))])), (hfg, .inl (cfg, 12, .inl (nF (va_up fg rn x)))), (hle, .inl (cle, 12, .inr (.inl (vp_updL le rn y)))), (hmo, .inl (cmo, 12, .inr (.inl (vp_updL mo rn z)))), (hwy, .inl (cwy, 12, .inl (nF (va_up wy rn w))))]) hP hD [1, 2, 3, 4, 5] [0] rfl rfl (by decide) (by decide) hk9 hFc hP1 hD1
        generalize H9 = H at hP hS ⊢
        have hP : va_P DD vwCl [(ad, .inr (8, [.ref h, .ref h1, .ref ar, .ref aq, .ref hwv, .ref hpn, .ref hod, .long cm, .int (zb pb), .int (zb wa)])), (ar, .inr (5, [.ref hfg, .ref hle, .ref hmo, .ref hwy, .int (nI (rn + 1))])), (hfg, .inl (cfg, 12, .inl (nF (va_up fg rn x)))), (hle, .inl (cle, 12, .inr (.inl (vp_updL le rn y)))), (hmo, .inl (cmo, 12, .inr (.inl (vp_updL mo rn z)))), (hwy, .inl (cwy, 12, .inl (nF (va_up wy rn w))))] H := hP
        have hD : va_D A [(ad, .inr (8, [.ref h, .ref h1, .ref ar, .ref aq, .ref hwv, .ref hpn, .ref hod, .long cm, .int (zb pb), .int (zb wa)])), (ar, .inr (5, [.ref hfg, .ref hle, .ref hmo, .ref hwy, .int (nI (rn + 1))])), (hfg, .inl (cfg, 12, .inl (nF (va_up fg rn x)))), (hle, .inl (cle, 12, .inr (.inl (vp_updL le rn y)))), (hmo, .inl (cmo, 12, .inr (.inl (vp_updL mo rn z)))), (hwy, .inl (cwy, 12, .inl (nF (va_up wy rn w))))] := hD
        subst hw9
        have hP9 := hP.sub (ws' := [(ad, .inr (8, [.ref h, .ref h1, .ref ar, .ref aq, .ref hwv, .ref hpn, .ref hod, .long cm, .int (zb pb), .int (zb wa)])), (ar, .inr (5, [.ref hfg, .ref hle, .ref hmo, .ref hwy, .int (nI (rn + 1))])), (hfg, .inl (cfg, 12, .inl (nF (va_up fg rn x)))), (hle, .inl (cle, 12, .inr (.inl (vp_updL le rn y)))), (hmo, .inl (cmo, 12, .inr (.inl (vp_updL mo rn z)))), (hwy, .inl (cwy, 12, .inl (nF (va_up wy rn w))))]) [0, 1, 2, 3, 4, 5] rfl
        have hD9 := hD.sub (ws' := [(ad, .inr (8, [.ref h, .ref h1, .ref ar, .ref aq, .ref hwv, .ref hpn, .ref hod, .long cm, .int (zb pb), .int (zb wa)])), (ar, .inr (5, [.ref hfg, .ref hle, .ref hmo, .ref hwy, .int (nI (rn + 1))])), (hfg, .inl (cfg, 12, .inl (nF (va_up fg rn x)))), (hle, .inl (cle, 12, .inr (.inl (vp_updL le rn y)))), (hmo, .inl (cmo, 12, .inr (.inl (vp_updL mo rn z)))), (hwy, .inl (cwy, 12, .inl (nF (va_up wy rn w))))]) [0, 1, 2, 3, 4, 5] (by decide) rfl
        exact W.iret (v := nI rn) hx hb hr (fun t9 ht9 hW9 => ⟨⟨_, (), rfl, rfl, by rw [ht9]; exact hP9, va_K.moved hW9.alike hK, hD9⟩, hS.F ht9⟩) hS.2.2 d_De_rule_58
      · exact absurd c_32 (by rw [decide_eq_false (by omega)]; decide)
    · exact absurd c_12 (by rw [hasB_nI (by omega) (by omega)]; decide)
theorem d_De_forget_0 : decode b_De_forget 0 = .ok (.aload_n 0, 1) := by decide +kernel
theorem d_De_forget_1 : decode b_De_forget 1 = .ok (.getfield 22, 3) := by decide +kernel
theorem d_De_forget_4 : decode b_De_forget 4 = .ok (.iload_n 1, 1) := by decide +kernel
theorem d_De_forget_5 : decode b_De_forget 5 = .ok (.invokevirtual 128, 3) := by decide +kernel
theorem d_De_forget_8 : decode b_De_forget 8 = .ok (.ifCond .ne 13, 3) := by decide +kernel
theorem d_De_forget_11 : decode b_De_forget 11 = .ok (.new 84, 3) := by decide +kernel
theorem d_De_forget_14 : decode b_De_forget 14 = .ok (.dup, 1) := by decide +kernel
theorem d_De_forget_15 : decode b_De_forget 15 = .ok (.ldc 129, 2) := by decide +kernel
theorem d_De_forget_17 : decode b_De_forget 17 = .ok (.invokespecial 88, 3) := by decide +kernel
theorem d_De_forget_20 : decode b_De_forget 20 = .ok (.athrow, 1) := by decide +kernel
theorem d_De_forget_21 : decode b_De_forget 21 = .ok (.aload_n 0, 1) := by decide +kernel
theorem d_De_forget_22 : decode b_De_forget 22 = .ok (.getfield 22, 3) := by decide +kernel
theorem d_De_forget_25 : decode b_De_forget 25 = .ok (.iload_n 1, 1) := by decide +kernel
theorem d_De_forget_26 : decode b_De_forget 26 = .ok (.invokevirtual 131, 3) := by decide +kernel
theorem d_De_forget_29 : decode b_De_forget 29 = .ok (.aload_n 0, 1) := by decide +kernel
theorem d_De_forget_30 : decode b_De_forget 30 = .ok (.getfield 22, 3) := by decide +kernel
theorem d_De_forget_33 : decode b_De_forget 33 = .ok (.invokevirtual 134, 3) := by decide +kernel
theorem d_De_forget_36 : decode b_De_forget 36 = .ok (.ireturn, 1) := by decide +kernel
abbrev ws_De_forget : List Cond := .code y_De_forget b_De_forget 2 (some .int) :: ALLG
abbrev rm_De_forget : Room := { frames := 1, cells := 0, slots := 0, locals := 22 }
set_option maxHeartbeats 4000000 in
set_option maxRecDepth 100000 in
theorem c_De_forget (l : Launch) (DD : va_G) (sz : Nat) (ad : Nat) (h : Nat) (h1 : Nat) (ar : Nat) (hfg : Nat) (cfg : ClassId) (fg : Nat → Nat) (hle : Nat) (cle : ClassId) (le : Nat → Int64) (hmo : Nat) (cmo : ClassId) (mo : Nat → Int64) (hwy : Nat) (cwy : ClassId) (wy : Nat → Nat) (rn : Nat) (aq : Nat) (hwv : Nat) (hpn : Nat) (hod : Nat) (cm : Int64) (pb : Bool) (wa : Bool) (j : Nat) (hrn : rn ≤ 12) (hj : j < rn) : Met l y_De_forget ws_De_forget rm_De_forget (va_Pc [.ref ad, .int (nI j)] (fun U => U.heap.size = sz ∧ va_P DD vwCl [(ad, .inr (8, [.ref h, .ref h1, .ref ar, .ref aq, .ref hwv, .ref hpn, .ref hod, .long cm, .int (zb pb), .int (zb wa)])), (ar, .inr (5, [.ref hfg, .ref hle, .ref hmo, .ref hwy, .int (nI rn)])), (hfg, .inl (cfg, 12, .inl (nF fg))), (hle, .inl (cle, 12, .inr (.inl le))), (hmo, .inl (cmo, 12, .inr (.inl mo))), (hwy, .inl (cwy, 12, .inl (nF wy)))] U.heap ∧ va_K DD vwCl [(cfg, .int), (cle, .long), (cmo, .long), (cwy, .int)] U ∧ va_D (fun _ => True) [(ad, .inr (8, [.ref h, .ref h1, .ref ar, .ref aq, .ref hwv, .ref hpn, .ref hod, .long cm, .int (zb pb), .int (zb wa)])), (ar, .inr (5, [.ref hfg, .ref hle, .ref hmo, .ref hwy, .int (nI rn)])), (hfg, .inl (cfg, 12, .inl (nF fg))), (hle, .inl (cle, 12, .inr (.inl le))), (hmo, .inl (cmo, 12, .inr (.inl mo))), (hwy, .inl (cwy, 12, .inl (nF wy)))])) (va_Qi (fun (r9 : Int32) (u9 : Unit) => match u9 with | _ => r9 = nI (rn - 1)) (fun (u9 : Unit) (t9 : State) => match u9 with | _ => va_P DD vwCl [(ad, .inr (8, [.ref h, .ref h1, .ref ar, .ref aq, .ref hwv, .ref hpn, .ref hod, .long cm, .int (zb pb), .int (zb wa)])), (ar, .inr (5, [.ref hfg, .ref hle, .ref hmo, .ref hwy, .int (nI (rn - 1))])), (hfg, .inl (cfg, 12, .inl (nF (shF fg j (rn - 1))))), (hle, .inl (cle, 12, .inr (.inl (shF le j (rn - 1))))), (hmo, .inl (cmo, 12, .inr (.inl (shF mo j (rn - 1))))), (hwy, .inl (cwy, 12, .inl (nF (shF wy j (rn - 1)))))] t9.heap ∧ va_K DD vwCl [(cfg, .int), (cle, .long), (cmo, .long), (cwy, .int)] t9 ∧ va_D (va_A [(ad, .inr (8, [.ref h, .ref h1, .ref ar, .ref aq, .ref hwv, .ref hpn, .ref hod, .long cm, .int (zb pb), .int (zb wa)])), (ar, .inr (5, [.ref hfg, .ref hle, .ref hmo, .ref hwy, .int (nI rn)])), (hfg, .inl (cfg, 12, .inl (nF fg))), (hle, .inl (cle, 12, .inr (.inl le))), (hmo, .inl (cmo, 12, .inr (.inl mo))), (hwy, .inl (cwy, 12, .inl (nF wy)))] sz) [(ad, .inr (8, [.ref h, .ref h1, .ref ar, .ref aq, .ref hwv, .ref hpn, .ref hod, .long cm, .int (zb pb), .int (zb wa)])), (ar, .inr (5, [.ref hfg, .ref hle, .ref hmo, .ref hwy, .int (nI (rn - 1))])), (hfg, .inl (cfg, 12, .inl (nF (shF fg j (rn - 1))))), (hle, .inl (cle, 12, .inr (.inl (shF le j (rn - 1))))), (hmo, .inl (cmo, 12, .inr (.inl (shF mo j (rn - 1))))), (hwy, .inl (cwy, 12, .inl (nF (shF wy j (rn - 1)))))]) (va_A [(ad, .inr (8, [.ref h, .ref h1, .ref ar, .ref aq, .ref hwv, .ref hpn, .ref hod, .long cm, .int (zb pb), .int (zb wa)])), (ar, .inr (5, [.ref hfg, .ref hle, .ref hmo, .ref hwy, .int (nI rn)])), (hfg, .inl (cfg, 12, .inl (nF fg))), (hle, .inl (cle, 12, .inr (.inl le))), (hmo, .inl (cmo, 12, .inr (.inl mo))), (hwy, .inl (cwy, 12, .inl (nF wy)))] sz)) 0 0 (va_A [(ad, .inr (8, [.ref h, .ref h1, .ref ar, .ref aq, .ref hwv, .ref hpn, .ref hod, .long cm, .int (zb pb), .int (zb wa)])), (ar, .inr (5, [.ref hfg, .ref hle, .ref hmo, .ref hwy, .int (nI rn)])), (hfg, .inl (cfg, 12, .inl (nF fg))), (hle, .inl (cle, 12, .inr (.inl le))), (hmo, .inl (cmo, 12, .inr (.inl mo))), (hwy, .inl (cwy, 12, .inl (nF wy)))] sz) := by
  refine Met.ofW (cc := b_De_forget) (maxL := 2) (ret := (some .int)) (by decide) rfl ?_
  intro p e s m args below meth c s₁ B hml hv
  obtain ⟨ha, hsz, hP, hK, hD0⟩ := hv
  have hx := B.exec
  have hb := B.bytes
  have hr := B.returns
  have hts := atoms_spec (ws := ws_De_forget) B.pre
  have hg : ∀ w ∈ ALLG, w.before args s = true := fun w h => hts w (List.mem_cons_of_mem _ h)
  have hown : s.vm.findClass R_De = some m.cls := findClass_of_methodNamed B.named
  have hlocks := B.notSynchronized
  subst hsz
  have hD := hD0.self (sz := s.heap.size)
  generalize hAe : va_A [(ad, .inr (8, [.ref h, .ref h1, .ref ar, .ref aq, .ref hwv, .ref hpn, .ref hod, .long cm, .int (zb pb), .int (zb wa)])), (ar, .inr (5, [.ref hfg, .ref hle, .ref hmo, .ref hwy, .int (nI rn)])), (hfg, .inl (cfg, 12, .inl (nF fg))), (hle, .inl (cle, 12, .inr (.inl le))), (hmo, .inl (cmo, 12, .inr (.inl mo))), (hwy, .inl (cwy, 12, .inl (nF wy)))] s.heap.size = A at hD ⊢
  have hA : ∀ q : Nat, s.heap.size ≤ q → A q := fun q h => by rw [← hAe]; exact Or.inr h
  have hS : va_S A s.heap s.heap [] := va_S.rf
  have hP : va_P DD vwCl [(ad, .inr (8, [.ref h, .ref h1, .ref ar, .ref aq, .ref hwv, .ref hpn, .ref hod, .long cm, .int (zb pb), .int (zb wa)])), (ar, .inr (5, [.ref hfg, .ref hle, .ref hmo, .ref hwy, .int (nI rn)])), (hfg, .inl (cfg, 12, .inl (nF fg))), (hle, .inl (cle, 12, .inr (.inl le))), (hmo, .inl (cmo, 12, .inr (.inl mo))), (hwy, .inl (cwy, 12, .inl (nF wy)))] s.heap := hP
  have hl := lv_entry ([.ref ad, .int (nI j)]) (n := 2) (Nat.le_of_ble_eq_true rfl)
  rw [ha, lg_entry_eq, ← ha]
  generalize (lg_sl ([.ref ad, .int (nI j)]) ++ List.replicate (2 - (lg_sl ([.ref ad, .int (nI j)])).length) Slot.unset).toArray = ls at hl ⊢
  have hl : lv_has ls 2 [(0, .ref ad), (1, .int (nI j))] := hl
  refine lv_aload_n hx hb d_De_forget_0 rfl (lv_at hl 0 rfl) ?_
  refine va_get (D := DD) (ci := 8) (v := .ref ar) (C := R_De) (T := T_De) (N := 10) hx hb hg in_De hown hK hP 0 rfl rfl 2 (by decide) (hg _ mw_142) (fun _ h9 => h9) rfl d_De_forget_1 ?_
  refine lv_iload_n hx hb d_De_forget_4 rfl (lv_at hl 1 rfl) ?_
  have hPc := hP.sub (ws' := [(ar, .inr (5, [.ref hfg, .ref hle, .ref hmo, .ref hwy, .int (nI rn)]))]) [1] rfl
  have hKc := hK.sub (tys' := []) [] rfl
  refine vp_callSi (W.runV (As := [.int (nI j)]) (rest := []) ⟨hx, hb, hml, hown, hg⟩ (c_Ru_has l DD ar hfg hle hmo hwy rn (nI j) (by omega)) (cwV 1 hg (gi_V mw_483 mw_484 mw_485 mw_3 mw_486) rfl rfl rfl (by decide +kernel) ⟨Nat.le_of_ble_eq_true rfl, Nat.le_of_ble_eq_true rfl⟩) ⟨z_blind, va_recv hKc hPc (ci := 5) (q0 := 0) rfl rfl, z_pre hPc hKc⟩ rfl rfl hl.1 rfl (lv_room (Nat.le_of_ble_eq_true rfl)) d_De_forget_5 ⟨Nat.zero_le _, Nat.zero_le _⟩) (fun r_5 hr_5 => ?_)
  subst hr_5
  refine z_ifb_ne (tgt := 21) hx hb d_De_forget_8 (by decide) (fun c_8 => ?_) (fun c_8 => ?_)
  · refine lv_aload_n hx hb d_De_forget_21 rfl (lv_at hl 0 rfl) ?_
    refine va_get (D := DD) (ci := 8) (v := .ref ar) (C := R_De) (T := T_De) (N := 10) hx hb hg in_De hown hK hP 0 rfl rfl 2 (by decide) (hg _ mw_142) (fun _ h9 => h9) rfl d_De_forget_22 ?_
    refine lv_iload_n hx hb d_De_forget_25 rfl (lv_at hl 1 rfl) ?_
    have hPc := hP.sub (ws' := [(ar, .inr (5, [.ref hfg, .ref hle, .ref hmo, .ref hwy, .int (nI rn)])), (hfg, .inl (cfg, 12, .inl (nF fg))), (hle, .inl (cle, 12, .inr (.inl le))), (hmo, .inl (cmo, 12, .inr (.inl mo))), (hwy, .inl (cwy, 12, .inl (nF wy)))]) [1, 2, 3, 4, 5] rfl
    have hKc := hK.sub (tys' := [(cfg, .int), (cle, .long), (cmo, .long), (cwy, .int)]) [0, 1, 2, 3] rfl
    have hDc := hD.sub (ws' := [(ar, .inr (5, [.ref hfg, .ref hle, .ref hmo, .ref hwy, .int (nI rn)])), (hfg, .inl (cfg, 12, .inl (nF fg))), (hle, .inl (cle, 12, .inr (.inl le))), (hmo, .inl (cmo, 12, .inr (.inl mo))), (hwy, .inl (cwy, 12, .inl (nF wy)))]) [1, 2, 3, 4, 5] (by decide) rfl
    have hFc := va_free (wc := [(ar, .inr (5, [.ref hfg, .ref hle, .ref hmo, .ref hwy, .int (nI rn)])), (hfg, .inl (cfg, 12, .inl (nF fg))), (hle, .inl (cle, 12, .inr (.inl le))), (hmo, .inl (cmo, 12, .inr (.inl mo))), (hwy, .inl (cwy, 12, .inl (nF wy)))]) hD hS hA [1, 2, 3, 4, 5] rfl
    refine va_callv (va_runV (As := [.int (nI j)]) (rest := []) ⟨hx, hb, hml, hown, hg⟩ (c_Ru_drop l DD s.heap.size ar hfg cfg fg hle cle le hmo cmo mo hwy cwy wy rn j (by omega) (by omega)) (cwV 1 hg (gi_V mw_488 mw_489 mw_490 mw_3 mw_491) rfl rfl rfl (by decide +kernel) ⟨Nat.le_of_ble_eq_true rfl, Nat.le_of_ble_eq_true rfl⟩) ⟨z_blindQ, va_recv hKc hPc (ci := 5) (q0 := 0) rfl rfl, z_preQ hPc hKc hDc⟩ rfl rfl hl.1 rfl (lv_room (Nat.le_of_ble_eq_true rfl)) d_De_forget_26 ⟨Nat.zero_le _, Nat.zero_le _⟩) hS (fun q _ h => hFc q h) hFc (fun u9 t9 H9 locs ht9 hvm9 hw9 hB9 hz9 hk9 hS => ?_)
    obtain ⟨hP1, hK1, hD1⟩ := hB9
    rw [ht9] at hP1
    try dsimp only at hw9
    obtain ⟨hP, hD⟩ := va_join (wr := [(ad, .inr (8, [.ref h, .ref h1, .ref ar, .ref aq, .ref hwv, .ref hpn, .ref hod, .long cm, .int (zb pb), .int (zb wa)]))]) (w1 := [(ar, .inr (5, [.ref hfg, .ref hle, .ref hmo, .ref hwy, .int (nI (rn - 1))])), (hfg, .inl (cfg, 12, .inl (nF (shF fg j (rn - 1))))), (hle, .inl (cle, 12, .inr (.inl (shF le j (rn - 1))))), (hmo, .inl (cmo, 12, .inr (.inl (shF mo j (rn - 1))))), (hwy, .inl (cwy, 12, .inl (nF (shF wy j (rn - 1)))))]) hP hD [1, 2, 3, 4, 5] [0] rfl rfl (by decide) (by decide) hk9 hFc hP1 hD1
    generalize H9 = H at hP hS ⊢
    have hP : va_P DD vwCl [(ad, .inr (8, [.ref h, .ref h1, .ref ar, .ref aq, .ref hwv, .ref hpn, .ref hod, .long cm, .int (zb pb), .int (zb wa)])), (ar, .inr (5, [.ref hfg, .ref hle, .ref hmo, .ref hwy, .int (nI (rn - 1))])), (hfg, .inl (cfg, 12, .inl (nF (shF fg j (rn - 1))))), (hle, .inl (cle, 12, .inr (.inl (shF le j (rn - 1))))), (hmo, .inl (cmo, 12, .inr (.inl (shF mo j (rn - 1))))), (hwy, .inl (cwy, 12, .inl (nF (shF wy j (rn - 1)))))] H := hP
    have hD : va_D A [(ad, .inr (8, [.ref h, .ref h1, .ref ar, .ref aq, .ref hwv, .ref hpn, .ref hod, .long cm, .int (zb pb), .int (zb wa)])), (ar, .inr (5, [.ref hfg, .ref hle, .ref hmo, .ref hwy, .int (nI (rn - 1))])), (hfg, .inl (cfg, 12, .inl (nF (shF fg j (rn - 1))))), (hle, .inl (cle, 12, .inr (.inl (shF le j (rn - 1))))), (hmo, .inl (cmo, 12, .inr (.inl (shF mo j (rn - 1))))), (hwy, .inl (cwy, 12, .inl (nF (shF wy j (rn - 1)))))] := hD
    refine lv_aload_n hx hb d_De_forget_29 rfl (lv_at hl 0 rfl) ?_
    refine va_get (D := DD) (ci := 8) (v := .ref ar) (C := R_De) (T := T_De) (N := 10) hx hb hg in_De hown hK hP 0 rfl rfl 2 (by decide) (hg _ mw_142) (fun _ h9 => h9) rfl d_De_forget_30 ?_
    have hPc := hP.sub (ws' := [(ar, .inr (5, [.ref hfg, .ref hle, .ref hmo, .ref hwy, .int (nI (rn - 1))]))]) [1] rfl
    have hKc := hK.sub (tys' := []) [] rfl
    refine vp_callSi (W.runV (As := []) (rest := []) ⟨hx, hb, hml, hown, hg⟩ (c_Ru_size l DD ar hfg hle hmo hwy (rn - 1)) (cwV 0 hg (gi_V mw_175 mw_176 mw_177 mw_3 mw_178) rfl rfl rfl (by decide +kernel) ⟨Nat.le_of_ble_eq_true rfl, Nat.le_of_ble_eq_true rfl⟩) ⟨z_blind, va_recv hKc hPc (ci := 5) (q0 := 0) rfl rfl, z_pre hPc hKc⟩ rfl rfl hl.1 rfl (lv_room (Nat.le_of_ble_eq_true rfl)) d_De_forget_33 ⟨Nat.zero_le _, Nat.zero_le _⟩) (fun r_33 hr_33 => ?_)
    subst hr_33
    have hP9 := hP.sub (ws' := [(ad, .inr (8, [.ref h, .ref h1, .ref ar, .ref aq, .ref hwv, .ref hpn, .ref hod, .long cm, .int (zb pb), .int (zb wa)])), (ar, .inr (5, [.ref hfg, .ref hle, .ref hmo, .ref hwy, .int (nI (rn - 1))])), (hfg, .inl (cfg, 12, .inl (nF (shF fg j (rn - 1))))), (hle, .inl (cle, 12, .inr (.inl (shF le j (rn - 1))))), (hmo, .inl (cmo, 12, .inr (.inl (shF mo j (rn - 1))))), (hwy, .inl (cwy, 12, .inl (nF (shF wy j (rn - 1)))))]) [0, 1, 2, 3, 4, 5] rfl
    have hD9 := hD.sub (ws' := [(ad, .inr (8, [.ref h, .ref h1, .ref ar, .ref aq, .ref hwv, .ref hpn, .ref hod, .long cm, .int (zb pb), .int (zb wa)])), (ar, .inr (5, [.ref hfg, .ref hle, .ref hmo, .ref hwy, .int (nI (rn - 1))])), (hfg, .inl (cfg, 12, .inl (nF (shF fg j (rn - 1))))), (hle, .inl (cle, 12, .inr (.inl (shF le j (rn - 1))))), (hmo, .inl (cmo, 12, .inr (.inl (shF mo j (rn - 1))))), (hwy, .inl (cwy, 12, .inl (nF (shF wy j (rn - 1)))))]) [0, 1, 2, 3, 4, 5] (by decide) rfl
    exact W.iret (v := nI (rn - 1)) hx hb hr (fun t9 ht9 hW9 => ⟨⟨_, (), rfl, rfl, by rw [ht9]; exact hP9, va_K.moved hW9.alike hK, hD9⟩, hS.F ht9⟩) hS.2.2 d_De_forget_36
  · exact absurd c_8 (by rw [hasB_nI (by omega) (by omega)]; decide)
theorem d_De_steps_0 : decode b_De_steps 0 = .ok (.aload_n 0, 1) := by decide +kernel
theorem d_De_steps_1 : decode b_De_steps 1 = .ok (.getfield 29, 3) := by decide +kernel
theorem d_De_steps_4 : decode b_De_steps 4 = .ok (.invokevirtual 168, 3) := by decide +kernel
theorem d_De_steps_7 : decode b_De_steps 7 = .ok (.ireturn, 1) := by decide +kernel
abbrev ws_De_steps : List Cond := .code y_De_steps b_De_steps 1 (some .int) :: ALLG
abbrev rm_De_steps : Room := { frames := 1, cells := 0, slots := 0, locals := 20 }
set_option maxHeartbeats 4000000 in
set_option maxRecDepth 100000 in
theorem c_De_steps (l : Launch) (DD : va_G) (ad : Nat) (h : Nat) (h1 : Nat) (ar : Nat) (aq : Nat) (htf : Nat) (ctf : ClassId) (tf : Nat → Int32) (tn : Nat) (hwv : Nat) (hpn : Nat) (hod : Nat) (cm : Int64) (pb : Bool) (wa : Bool) : Met l y_De_steps ws_De_steps rm_De_steps (va_Pc [.ref ad] (fun U => va_P DD vwCl [(ad, .inr (8, [.ref h, .ref h1, .ref ar, .ref aq, .ref hwv, .ref hpn, .ref hod, .long cm, .int (zb pb), .int (zb wa)])), (aq, .inr (6, [.ref htf, .int (nI tn)])), (htf, .inl (ctf, 450, .inl tf))] U.heap ∧ va_K DD vwCl [(ctf, .int)] U)) (vp_Si (fun r9 => r9 = nI tn)) 0 0 (fun _ => False) := by
  refine Met.ofW (cc := b_De_steps) (maxL := 1) (ret := (some .int)) (by decide) rfl ?_
  intro p e s m args below meth c s₁ B hml hv
  obtain ⟨ha, hP, hK⟩ := hv
  have hx := B.exec
  have hb := B.bytes
  have hr := B.returns
  have hts := atoms_spec (ws := ws_De_steps) B.pre
  have hg : ∀ w ∈ ALLG, w.before args s = true := fun w h => hts w (List.mem_cons_of_mem _ h)
  have hown : s.vm.findClass R_De = some m.cls := findClass_of_methodNamed B.named
  have hlocks := B.notSynchronized
  have hP : va_P DD vwCl [(ad, .inr (8, [.ref h, .ref h1, .ref ar, .ref aq, .ref hwv, .ref hpn, .ref hod, .long cm, .int (zb pb), .int (zb wa)])), (aq, .inr (6, [.ref htf, .int (nI tn)])), (htf, .inl (ctf, 450, .inl tf))] s.heap := hP
  have hl := lv_entry ([.ref ad]) (n := 1) (Nat.le_of_ble_eq_true rfl)
  rw [ha, lg_entry_eq, ← ha]
  generalize (lg_sl ([.ref ad]) ++ List.replicate (1 - (lg_sl ([.ref ad])).length) Slot.unset).toArray = ls at hl ⊢
  have hl : lv_has ls 1 [(0, .ref ad)] := hl
  refine lv_aload_n hx hb d_De_steps_0 rfl (lv_at hl 0 rfl) ?_
  refine va_get (D := DD) (ci := 8) (v := .ref aq) (C := R_De) (T := T_De) (N := 10) hx hb hg in_De hown hK hP 0 rfl rfl 3 (by decide) (hg _ mw_143) (fun _ h9 => h9) rfl d_De_steps_1 ?_
  have hPc := hP.sub (ws' := [(aq, .inr (6, [.ref htf, .int (nI tn)]))]) [1] rfl
  have hKc := hK.sub (tys' := []) [] rfl
  refine vp_callSi (W.runV (As := []) (rest := []) ⟨hx, hb, hml, hown, hg⟩ (c_Tr_size l DD aq htf tn) (cwV 0 hg (gi_V mw_264 mw_265 mw_266 mw_4 mw_267) rfl rfl rfl (by decide +kernel) ⟨Nat.le_of_ble_eq_true rfl, Nat.le_of_ble_eq_true rfl⟩) ⟨z_blind, va_recv hKc hPc (ci := 6) (q0 := 0) rfl rfl, z_pre hPc hKc⟩ rfl rfl hl.1 rfl (lv_room (Nat.le_of_ble_eq_true rfl)) d_De_steps_4 ⟨Nat.zero_le _, Nat.zero_le _⟩) (fun r_4 hr_4 => ?_)
  subst hr_4
  exact W.iret (v := nI tn) hx hb hr (fun t9 ht9 hW9 => ⟨_, rfl, rfl, ht9⟩) (fun _ h => nomatch h) d_De_steps_7
theorem d_De_compared_0 : decode b_De_compared 0 = .ok (.aload_n 0, 1) := by decide +kernel
theorem d_De_compared_1 : decode b_De_compared 1 = .ok (.getfield 185, 3) := by decide +kernel
theorem d_De_compared_4 : decode b_De_compared 4 = .ok (.lreturn, 1) := by decide +kernel
abbrev ws_De_compared : List Cond := .code y_De_compared b_De_compared 1 (some .long) :: ALLG
abbrev rm_De_compared : Room := { frames := 0, cells := 0, slots := 0, locals := 0 }
set_option maxHeartbeats 4000000 in
set_option maxRecDepth 100000 in
theorem c_De_compared (l : Launch) (DD : va_G) (ad : Nat) (h : Nat) (h1 : Nat) (ar : Nat) (aq : Nat) (hwv : Nat) (hpn : Nat) (hod : Nat) (cm : Int64) (pb : Bool) (wa : Bool) : Met l y_De_compared ws_De_compared rm_De_compared (va_Pc [.ref ad] (fun U => va_P DD vwCl [(ad, .inr (8, [.ref h, .ref h1, .ref ar, .ref aq, .ref hwv, .ref hpn, .ref hod, .long cm, .int (zb pb), .int (zb wa)]))] U.heap ∧ va_K DD vwCl [] U)) (vp_Sl (fun r9 => r9 = cm)) 0 0 (fun _ => False) := by
  refine Met.ofW (cc := b_De_compared) (maxL := 1) (ret := (some .long)) (by decide) rfl ?_
  intro p e s m args below meth c s₁ B hml hv
  obtain ⟨ha, hP, hK⟩ := hv
  have hx := B.exec
  have hb := B.bytes
  have hr := B.returns
  have hts := atoms_spec (ws := ws_De_compared) B.pre
  have hg : ∀ w ∈ ALLG, w.before args s = true := fun w h => hts w (List.mem_cons_of_mem _ h)
  have hown : s.vm.findClass R_De = some m.cls := findClass_of_methodNamed B.named
  have hlocks := B.notSynchronized
  have hP : va_P DD vwCl [(ad, .inr (8, [.ref h, .ref h1, .ref ar, .ref aq, .ref hwv, .ref hpn, .ref hod, .long cm, .int (zb pb), .int (zb wa)]))] s.heap := hP
  have hl := lv_entry ([.ref ad]) (n := 1) (Nat.le_of_ble_eq_true rfl)
  rw [ha, lg_entry_eq, ← ha]
  generalize (lg_sl ([.ref ad]) ++ List.replicate (1 - (lg_sl ([.ref ad])).length) Slot.unset).toArray = ls at hl ⊢
  have hl : lv_has ls 1 [(0, .ref ad)] := hl
  refine lv_aload_n hx hb d_De_compared_0 rfl (lv_at hl 0 rfl) ?_
  refine va_get (D := DD) (ci := 8) (v := .long cm) (C := R_De) (T := T_De) (N := 10) hx hb hg in_De hown hK hP 0 rfl rfl 7 (by decide) (hg _ mw_147) (fun _ h9 => h9) rfl d_De_compared_1 ?_
  exact W.lret (v := cm) hx hb hr (fun t9 ht9 hW9 => ⟨_, rfl, rfl, ht9⟩) (fun _ h => nomatch h) d_De_compared_4
theorem d_De_astray_0 : decode b_De_astray 0 = .ok (.aload_n 0, 1) := by decide +kernel
theorem d_De_astray_1 : decode b_De_astray 1 = .ok (.getfield 189, 3) := by decide +kernel
theorem d_De_astray_4 : decode b_De_astray 4 = .ok (.ifCond .eq 7, 3) := by decide +kernel
theorem d_De_astray_7 : decode b_De_astray 7 = .ok (.iconst 1, 1) := by decide +kernel
theorem d_De_astray_8 : decode b_De_astray 8 = .ok (.goto 4, 3) := by decide +kernel
theorem d_De_astray_11 : decode b_De_astray 11 = .ok (.iconst 0, 1) := by decide +kernel
theorem d_De_astray_12 : decode b_De_astray 12 = .ok (.ireturn, 1) := by decide +kernel
abbrev ws_De_astray : List Cond := .code y_De_astray b_De_astray 1 (some .int) :: ALLG
abbrev rm_De_astray : Room := { frames := 0, cells := 0, slots := 0, locals := 0 }
set_option maxHeartbeats 4000000 in
set_option maxRecDepth 100000 in
theorem c_De_astray (l : Launch) (DD : va_G) (ad : Nat) (h : Nat) (h1 : Nat) (ar : Nat) (aq : Nat) (hwv : Nat) (hpn : Nat) (hod : Nat) (cm : Int64) (pb : Bool) (wa : Bool) : Met l y_De_astray ws_De_astray rm_De_astray (va_Pc [.ref ad] (fun U => va_P DD vwCl [(ad, .inr (8, [.ref h, .ref h1, .ref ar, .ref aq, .ref hwv, .ref hpn, .ref hod, .long cm, .int (zb pb), .int (zb wa)]))] U.heap ∧ va_K DD vwCl [] U)) (vp_Si (fun r9 => r9 = zb wa)) 0 0 (fun _ => False) := by
  refine Met.ofW (cc := b_De_astray) (maxL := 1) (ret := (some .int)) (by decide) rfl ?_
  intro p e s m args below meth c s₁ B hml hv
  obtain ⟨ha, hP, hK⟩ := hv
  have hx := B.exec
  have hb := B.bytes
  have hr := B.returns
  have hts := atoms_spec (ws := ws_De_astray) B.pre
  have hg : ∀ w ∈ ALLG, w.before args s = true := fun w h => hts w (List.mem_cons_of_mem _ h)
  have hown : s.vm.findClass R_De = some m.cls := findClass_of_methodNamed B.named
  have hlocks := B.notSynchronized
  have hP : va_P DD vwCl [(ad, .inr (8, [.ref h, .ref h1, .ref ar, .ref aq, .ref hwv, .ref hpn, .ref hod, .long cm, .int (zb pb), .int (zb wa)]))] s.heap := hP
  have hl := lv_entry ([.ref ad]) (n := 1) (Nat.le_of_ble_eq_true rfl)
  rw [ha, lg_entry_eq, ← ha]
  generalize (lg_sl ([.ref ad]) ++ List.replicate (1 - (lg_sl ([.ref ad])).length) Slot.unset).toArray = ls at hl ⊢
  have hl : lv_has ls 1 [(0, .ref ad)] := hl
  refine lv_aload_n hx hb d_De_astray_0 rfl (lv_at hl 0 rfl) ?_
  refine va_get (D := DD) (ci := 8) (v := .int (zb wa)) (C := R_De) (T := T_De) (N := 10) hx hb hg in_De hown hK hP 0 rfl rfl 9 (by decide) (hg _ mw_149) (fun _ h9 => h9) rfl d_De_astray_1 ?_
  refine z_ifb_eq (tgt := 11) hx hb d_De_astray_4 (by decide) (fun c_4 => ?_) (fun c_4 => ?_)
  · refine lv_iconst (v := nI 0) hx hb d_De_astray_11 (by decide) ?_
    exact W.iret (v := nI 0) hx hb hr (fun t9 ht9 hW9 => ⟨_, rfl, (by first | exact zb_t c_4 | exact zb_f c_4), ht9⟩) (fun _ h => nomatch h) d_De_astray_12
  · refine lv_iconst (v := nI 1) hx hb d_De_astray_7 (by decide) ?_
    refine lv_goto (tgt := 12) hx hb d_De_astray_8 (by decide) ?_
    exact W.iret (v := nI 1) hx hb hr (fun t9 ht9 hW9 => ⟨_, rfl, (by first | exact zb_t c_4 | exact zb_f c_4), ht9⟩) (fun _ h => nomatch h) d_De_astray_12
theorem d_De_below_0 : decode b_De_below 0 = .ok (.aload_n 0, 1) := by decide +kernel
theorem d_De_below_1 : decode b_De_below 1 = .ok (.getfield 12, 3) := by decide +kernel
theorem d_De_below_4 : decode b_De_below 4 = .ok (.invokevirtual 179, 3) := by decide +kernel
theorem d_De_below_7 : decode b_De_below 7 = .ok (.ifCond .ne 14, 3) := by decide +kernel
theorem d_De_below_10 : decode b_De_below 10 = .ok (.aload_n 0, 1) := by decide +kernel
theorem d_De_below_11 : decode b_De_below 11 = .ok (.getfield 12, 3) := by decide +kernel
theorem d_De_below_14 : decode b_De_below 14 = .ok (.iload_n 1, 1) := by decide +kernel
theorem d_De_below_15 : decode b_De_below 15 = .ok (.invokevirtual 182, 3) := by decide +kernel
theorem d_De_below_18 : decode b_De_below 18 = .ok (.goto 4, 3) := by decide +kernel
theorem d_De_below_21 : decode b_De_below 21 = .ok (.iconst (-1), 1) := by decide +kernel
theorem d_De_below_22 : decode b_De_below 22 = .ok (.ireturn, 1) := by decide +kernel
abbrev ws_De_below : List Cond := .code y_De_below b_De_below 2 (some .int) :: ALLG
abbrev rm_De_below : Room := { frames := 2, cells := 0, slots := 0, locals := 43 }
set_option maxHeartbeats 4000000 in
set_option maxRecDepth 100000 in
theorem c_De_below (l : Launch) (DD : va_G) (ad : Nat) (h : Nat) (hk : Nat) (ck : ClassId) (k : Nat → Int32) (ht : Nat) (n : Nat) (h1 : Nat) (ar : Nat) (aq : Nat) (hwv : Nat) (hpn : Nat) (hod : Nat) (cm : Int64) (pb : Bool) (wa : Bool) (x : Int32) (hn : n ≤ 150) : Met l y_De_below ws_De_below rm_De_below (va_Pc [.ref ad, .int x] (fun U => va_P DD vwCl [(ad, .inr (8, [.ref h, .ref h1, .ref ar, .ref aq, .ref hwv, .ref hpn, .ref hod, .long cm, .int (zb pb), .int (zb wa)])), (h, .inr (4, [.ref hk, .ref ht, .int (nI n)])), (hk, .inl (ck, 150, .inl k))] U.heap ∧ va_K DD vwCl [(ck, .int)] U)) (vp_Si (fun r9 => r9 = if cnt (dropB k) n = 0 then nI (cnt (ltB k x) n) else -1)) 0 0 (fun _ => False) := by
  refine Met.ofW (cc := b_De_below) (maxL := 2) (ret := (some .int)) (by decide) rfl ?_
  intro p e s m args below meth c s₁ B hml hv
  obtain ⟨ha, hP, hK⟩ := hv
  have hx := B.exec
  have hb := B.bytes
  have hr := B.returns
  have hts := atoms_spec (ws := ws_De_below) B.pre
  have hg : ∀ w ∈ ALLG, w.before args s = true := fun w h => hts w (List.mem_cons_of_mem _ h)
  have hown : s.vm.findClass R_De = some m.cls := findClass_of_methodNamed B.named
  have hlocks := B.notSynchronized
  have hP : va_P DD vwCl [(ad, .inr (8, [.ref h, .ref h1, .ref ar, .ref aq, .ref hwv, .ref hpn, .ref hod, .long cm, .int (zb pb), .int (zb wa)])), (h, .inr (4, [.ref hk, .ref ht, .int (nI n)])), (hk, .inl (ck, 150, .inl k))] s.heap := hP
  have hl := lv_entry ([.ref ad, .int x]) (n := 2) (Nat.le_of_ble_eq_true rfl)
  rw [ha, lg_entry_eq, ← ha]
  generalize (lg_sl ([.ref ad, .int x]) ++ List.replicate (2 - (lg_sl ([.ref ad, .int x])).length) Slot.unset).toArray = ls at hl ⊢
  have hl : lv_has ls 2 [(0, .ref ad), (1, .int x)] := hl
  refine lv_aload_n hx hb d_De_below_0 rfl (lv_at hl 0 rfl) ?_
  refine va_get (D := DD) (ci := 8) (v := .ref h) (C := R_De) (T := T_De) (N := 10) hx hb hg in_De hown hK hP 0 rfl rfl 0 (by decide) (hg _ mw_140) (fun _ h9 => h9) rfl d_De_below_1 ?_
  have hPc := hP.sub (ws' := [(h, .inr (4, [.ref hk, .ref ht, .int (nI n)])), (hk, .inl (ck, 150, .inl k))]) [1, 2] rfl
  have hKc := hK.sub (tys' := [(ck, .int)]) [0] rfl
  refine vp_callSi (W.runV (As := []) (rest := []) ⟨hx, hb, hml, hown, hg⟩ (c_Ro_drops l DD h hk ht ck n k (by omega)) (cwV 0 hg (gi_V mw_272 mw_221 mw_222 mw_2 mw_223) rfl rfl rfl (by decide +kernel) ⟨Nat.le_of_ble_eq_true rfl, Nat.le_of_ble_eq_true rfl⟩) ⟨z_blind, va_recv hKc hPc (ci := 4) (q0 := 0) rfl rfl, z_pre hPc hKc⟩ rfl rfl hl.1 rfl (lv_room (Nat.le_of_ble_eq_true rfl)) d_De_below_4 ⟨Nat.zero_le _, Nat.zero_le _⟩) (fun r_4 hr_4 => ?_)
  subst hr_4
  have hcl := cnt_le (dropB k) n
  refine z_if_ne (tgt := 21) hx hb d_De_below_7 (by decide) (by omega) (fun c_7 => ?_) (fun c_7 => ?_)
  · refine lv_iconst (v := -1) hx hb d_De_below_21 (by decide) ?_
    exact W.iret (v := -1) hx hb hr (fun t9 ht9 hW9 => ⟨_, rfl, (by first | exact (if_pos c_7).symm | exact (if_neg (by omega)).symm), ht9⟩) (fun _ h => nomatch h) d_De_below_22
  · refine lv_aload_n hx hb d_De_below_10 rfl (lv_at hl 0 rfl) ?_
    refine va_get (D := DD) (ci := 8) (v := .ref h) (C := R_De) (T := T_De) (N := 10) hx hb hg in_De hown hK hP 0 rfl rfl 0 (by decide) (hg _ mw_140) (fun _ h9 => h9) rfl d_De_below_11 ?_
    refine lv_iload_n hx hb d_De_below_14 rfl (lv_at hl 1 rfl) ?_
    have hPc := hP.sub (ws' := [(h, .inr (4, [.ref hk, .ref ht, .int (nI n)])), (hk, .inl (ck, 150, .inl k))]) [1, 2] rfl
    have hKc := hK.sub (tys' := [(ck, .int)]) [0] rfl
    refine vp_callSi (W.runV (As := [.int x]) (rest := []) ⟨hx, hb, hml, hown, hg⟩ (c_Ro_keysBelow l DD h hk ht ck n k x (by omega)) (cwV 1 hg (gi_V mw_273 mw_274 mw_275 mw_2 mw_276) rfl rfl rfl (by decide +kernel) ⟨Nat.le_of_ble_eq_true rfl, Nat.le_of_ble_eq_true rfl⟩) ⟨z_blind, va_recv hKc hPc (ci := 4) (q0 := 0) rfl rfl, z_pre hPc hKc⟩ rfl rfl hl.1 rfl (lv_room (Nat.le_of_ble_eq_true rfl)) d_De_below_15 ⟨Nat.zero_le _, Nat.zero_le _⟩) (fun r_15 hr_15 => ?_)
    subst hr_15
    refine lv_goto (tgt := 22) hx hb d_De_below_18 (by decide) ?_
    exact W.iret (v := nI (cnt (ltB k x) n)) hx hb hr (fun t9 ht9 hW9 => ⟨_, rfl, (by first | exact (if_pos c_7).symm | exact (if_neg (by omega)).symm), ht9⟩) (fun _ h => nomatch h) d_De_below_22
theorem d_De_origin_0 : decode b_De_origin 0 = .ok (.aload_n 0, 1) := by decide +kernel
theorem d_De_origin_1 : decode b_De_origin 1 = .ok (.getfield 12, 3) := by decide +kernel
theorem d_De_origin_4 : decode b_De_origin 4 = .ok (.iload_n 1, 1) := by decide +kernel
theorem d_De_origin_5 : decode b_De_origin 5 = .ok (.invokevirtual 89, 3) := by decide +kernel
theorem d_De_origin_8 : decode b_De_origin 8 = .ok (.ifCond .ne 13, 3) := by decide +kernel
theorem d_De_origin_11 : decode b_De_origin 11 = .ok (.new 84, 3) := by decide +kernel
theorem d_De_origin_14 : decode b_De_origin 14 = .ok (.dup, 1) := by decide +kernel
theorem d_De_origin_15 : decode b_De_origin 15 = .ok (.ldc 86, 2) := by decide +kernel
theorem d_De_origin_17 : decode b_De_origin 17 = .ok (.invokespecial 88, 3) := by decide +kernel
theorem d_De_origin_20 : decode b_De_origin 20 = .ok (.athrow, 1) := by decide +kernel
theorem d_De_origin_21 : decode b_De_origin 21 = .ok (.aload_n 0, 1) := by decide +kernel
theorem d_De_origin_22 : decode b_De_origin 22 = .ok (.getfield 12, 3) := by decide +kernel
theorem d_De_origin_25 : decode b_De_origin 25 = .ok (.iload_n 1, 1) := by decide +kernel
theorem d_De_origin_26 : decode b_De_origin 26 = .ok (.invokevirtual 176, 3) := by decide +kernel
theorem d_De_origin_29 : decode b_De_origin 29 = .ok (.ireturn, 1) := by decide +kernel
abbrev ws_De_origin : List Cond := .code y_De_origin b_De_origin 2 (some .int) :: ALLG
abbrev rm_De_origin : Room := { frames := 3, cells := 0, slots := 0, locals := 68 }
set_option maxHeartbeats 4000000 in
set_option maxRecDepth 100000 in
theorem c_De_origin (l : Launch) (DD : va_G) (ad : Nat) (h : Nat) (hk : Nat) (ck : ClassId) (k : Nat → Int32) (ht : Nat) (n : Nat) (h1 : Nat) (ar : Nat) (aq : Nat) (hwv : Nat) (hpn : Nat) (hod : Nat) (cm : Int64) (pb : Bool) (wa : Bool) (j : Nat) (hn : n ≤ 150) (hj : j < n) : Met l y_De_origin ws_De_origin rm_De_origin (va_Pc [.ref ad, .int (nI j)] (fun U => va_P DD vwCl [(ad, .inr (8, [.ref h, .ref h1, .ref ar, .ref aq, .ref hwv, .ref hpn, .ref hod, .long cm, .int (zb pb), .int (zb wa)])), (h, .inr (4, [.ref hk, .ref ht, .int (nI n)])), (hk, .inl (ck, 150, .inl k))] U.heap ∧ va_K DD vwCl [(ck, .int)] U)) (vp_Si (fun r9 => r9 = nI (findL (rankB k n j) n))) 0 0 (fun _ => False) := by
  refine Met.ofW (cc := b_De_origin) (maxL := 2) (ret := (some .int)) (by decide) rfl ?_
  intro p e s m args below meth c s₁ B hml hv
  obtain ⟨ha, hP, hK⟩ := hv
  have hx := B.exec
  have hb := B.bytes
  have hr := B.returns
  have hts := atoms_spec (ws := ws_De_origin) B.pre
  have hg : ∀ w ∈ ALLG, w.before args s = true := fun w h => hts w (List.mem_cons_of_mem _ h)
  have hown : s.vm.findClass R_De = some m.cls := findClass_of_methodNamed B.named
  have hlocks := B.notSynchronized
  have hP : va_P DD vwCl [(ad, .inr (8, [.ref h, .ref h1, .ref ar, .ref aq, .ref hwv, .ref hpn, .ref hod, .long cm, .int (zb pb), .int (zb wa)])), (h, .inr (4, [.ref hk, .ref ht, .int (nI n)])), (hk, .inl (ck, 150, .inl k))] s.heap := hP
  have hl := lv_entry ([.ref ad, .int (nI j)]) (n := 2) (Nat.le_of_ble_eq_true rfl)
  rw [ha, lg_entry_eq, ← ha]
  generalize (lg_sl ([.ref ad, .int (nI j)]) ++ List.replicate (2 - (lg_sl ([.ref ad, .int (nI j)])).length) Slot.unset).toArray = ls at hl ⊢
  have hl : lv_has ls 2 [(0, .ref ad), (1, .int (nI j))] := hl
  refine lv_aload_n hx hb d_De_origin_0 rfl (lv_at hl 0 rfl) ?_
  refine va_get (D := DD) (ci := 8) (v := .ref h) (C := R_De) (T := T_De) (N := 10) hx hb hg in_De hown hK hP 0 rfl rfl 0 (by decide) (hg _ mw_140) (fun _ h9 => h9) rfl d_De_origin_1 ?_
  refine lv_iload_n hx hb d_De_origin_4 rfl (lv_at hl 1 rfl) ?_
  have hPc := hP.sub (ws' := [(h, .inr (4, [.ref hk, .ref ht, .int (nI n)])), (hk, .inl (ck, 150, .inl k))]) [1, 2] rfl
  have hKc := hK.sub (tys' := [(ck, .int)]) [0] rfl
  refine vp_callSi (W.runV (As := [.int (nI j)]) (rest := []) ⟨hx, hb, hml, hown, hg⟩ (c_Ro_has l DD h hk ht ck n k (nI j) (by omega)) (cwV 1 hg (gi_V mw_405 mw_406 mw_407 mw_2 mw_408) rfl rfl rfl (by decide +kernel) ⟨Nat.le_of_ble_eq_true rfl, Nat.le_of_ble_eq_true rfl⟩) ⟨z_blind, va_recv hKc hPc (ci := 4) (q0 := 0) rfl rfl, z_pre hPc hKc⟩ rfl rfl hl.1 rfl (lv_room (Nat.le_of_ble_eq_true rfl)) d_De_origin_5 ⟨Nat.zero_le _, Nat.zero_le _⟩) (fun r_5 hr_5 => ?_)
  subst hr_5
  refine z_ifb_ne (tgt := 21) hx hb d_De_origin_8 (by decide) (fun c_8 => ?_) (fun c_8 => ?_)
  · refine lv_aload_n hx hb d_De_origin_21 rfl (lv_at hl 0 rfl) ?_
    refine va_get (D := DD) (ci := 8) (v := .ref h) (C := R_De) (T := T_De) (N := 10) hx hb hg in_De hown hK hP 0 rfl rfl 0 (by decide) (hg _ mw_140) (fun _ h9 => h9) rfl d_De_origin_22 ?_
    refine lv_iload_n hx hb d_De_origin_25 rfl (lv_at hl 1 rfl) ?_
    have hPc := hP.sub (ws' := [(h, .inr (4, [.ref hk, .ref ht, .int (nI n)])), (hk, .inl (ck, 150, .inl k))]) [1, 2] rfl
    have hKc := hK.sub (tys' := [(ck, .int)]) [0] rfl
    refine vp_callSi (W.runV (As := [.int (nI j)]) (rest := []) ⟨hx, hb, hml, hown, hg⟩ (c_Ro_placeOfRank l DD h hk ht ck n k j (by omega) (by omega)) (cwV 1 hg (gi_V mw_657 mw_658 mw_659 mw_2 mw_660) rfl rfl rfl (by decide +kernel) ⟨Nat.le_of_ble_eq_true rfl, Nat.le_of_ble_eq_true rfl⟩) ⟨z_blind, va_recv hKc hPc (ci := 4) (q0 := 0) rfl rfl, z_pre hPc hKc⟩ rfl rfl hl.1 rfl (lv_room (Nat.le_of_ble_eq_true rfl)) d_De_origin_26 ⟨Nat.zero_le _, Nat.zero_le _⟩) (fun r_26 hr_26 => ?_)
    subst hr_26
    exact W.iret (v := nI (findL (rankB k n j) n)) hx hb hr (fun t9 ht9 hW9 => ⟨_, rfl, rfl, ht9⟩) (fun _ h => nomatch h) d_De_origin_29
  · exact absurd c_8 (by rw [hasB_nI (by omega) (by omega)]; decide)
theorem d_De_times_0 : decode b_De_times 0 = .ok (.iload_n 1, 1) := by decide +kernel
theorem d_De_times_1 : decode b_De_times 1 = .ok (.invokestatic 116, 3) := by decide +kernel
theorem d_De_times_4 : decode b_De_times 4 = .ok (.ifCond .ne 13, 3) := by decide +kernel
theorem d_De_times_7 : decode b_De_times 7 = .ok (.new 107, 3) := by decide +kernel
theorem d_De_times_10 : decode b_De_times 10 = .ok (.dup, 1) := by decide +kernel
theorem d_De_times_11 : decode b_De_times 11 = .ok (.ldc 146, 2) := by decide +kernel
theorem d_De_times_13 : decode b_De_times 13 = .ok (.invokespecial 111, 3) := by decide +kernel
theorem d_De_times_16 : decode b_De_times 16 = .ok (.athrow, 1) := by decide +kernel
theorem d_De_times_17 : decode b_De_times 17 = .ok (.aload_n 0, 1) := by decide +kernel
theorem d_De_times_18 : decode b_De_times 18 = .ok (.getfield 43, 3) := by decide +kernel
theorem d_De_times_21 : decode b_De_times 21 = .ok (.iload_n 1, 1) := by decide +kernel
theorem d_De_times_22 : decode b_De_times 22 = .ok (.iaload, 1) := by decide +kernel
theorem d_De_times_23 : decode b_De_times 23 = .ok (.ireturn, 1) := by decide +kernel
abbrev ws_De_times : List Cond := .code y_De_times b_De_times 2 (some .int) :: ALLG
abbrev rm_De_times : Room := { frames := 1, cells := 0, slots := 0, locals := 20 }
set_option maxHeartbeats 4000000 in
set_option maxRecDepth 100000 in
theorem c_De_times (l : Launch) (DD : va_G) (ad : Nat) (h : Nat) (h1 : Nat) (ar : Nat) (aq : Nat) (hwv : Nat) (hpn : Nat) (hod : Nat) (cod : ClassId) (od : Nat → Nat) (cm : Int64) (pb : Bool) (wa : Bool) (w : Nat) (hw5 : w < 5) : Met l y_De_times ws_De_times rm_De_times (va_Pc [.ref ad, .int (nI w)] (fun U => va_P DD vwCl [(ad, .inr (8, [.ref h, .ref h1, .ref ar, .ref aq, .ref hwv, .ref hpn, .ref hod, .long cm, .int (zb pb), .int (zb wa)])), (hod, .inl (cod, 5, .inl (nF od)))] U.heap ∧ va_K DD vwCl [(cod, .int)] U)) (vp_Si (fun r9 => r9 = nI (od w))) 0 0 (fun _ => False) := by
  refine Met.ofW (cc := b_De_times) (maxL := 2) (ret := (some .int)) (by decide) rfl ?_
  intro p e s m args below meth c s₁ B hml hv
  obtain ⟨ha, hP, hK⟩ := hv
  have hx := B.exec
  have hb := B.bytes
  have hr := B.returns
  have hts := atoms_spec (ws := ws_De_times) B.pre
  have hg : ∀ w ∈ ALLG, w.before args s = true := fun w h => hts w (List.mem_cons_of_mem _ h)
  have hown : s.vm.findClass R_De = some m.cls := findClass_of_methodNamed B.named
  have hlocks := B.notSynchronized
  have hP : va_P DD vwCl [(ad, .inr (8, [.ref h, .ref h1, .ref ar, .ref aq, .ref hwv, .ref hpn, .ref hod, .long cm, .int (zb pb), .int (zb wa)])), (hod, .inl (cod, 5, .inl (nF od)))] s.heap := hP
  have hl := lv_entry ([.ref ad, .int (nI w)]) (n := 2) (Nat.le_of_ble_eq_true rfl)
  rw [ha, lg_entry_eq, ← ha]
  generalize (lg_sl ([.ref ad, .int (nI w)]) ++ List.replicate (2 - (lg_sl ([.ref ad, .int (nI w)])).length) Slot.unset).toArray = ls at hl ⊢
  have hl : lv_has ls 2 [(0, .ref ad), (1, .int (nI w))] := hl
  refine lv_iload_n hx hb d_De_times_0 rfl (lv_at hl 1 rfl) ?_
  have hPc := hP.sub (ws' := []) [] rfl
  have hKc := hK.sub (tys' := []) [] rfl
  refine vp_callSi (W.runS (As := [.int (nI w)]) (rest := []) ⟨hx, hb, hml, hown, hg⟩ (c_De_isWay l DD (nI w)) (cwS 1 hg (gi_S mw_463 mw_464 mw_1 mw_465) rfl rfl rfl (by decide +kernel) ⟨Nat.le_of_ble_eq_true rfl, Nat.le_of_ble_eq_true rfl⟩) ⟨z_blind, z_pre hPc hKc⟩ rfl rfl hl.1 rfl (lv_room (Nat.le_of_ble_eq_true rfl)) d_De_times_1 ⟨Nat.zero_le _, Nat.zero_le _⟩) (fun r_1 hr_1 => ?_)
  subst hr_1
  refine z_ifb_ne (tgt := 17) hx hb d_De_times_4 (by decide) (fun c_4 => ?_) (fun c_4 => ?_)
  · refine lv_aload_n hx hb d_De_times_17 rfl (lv_at hl 0 rfl) ?_
    refine va_get (D := DD) (ci := 8) (v := .ref hod) (C := R_De) (T := T_De) (N := 10) hx hb hg in_De hown hK hP 0 rfl rfl 6 (by decide) (hg _ mw_146) (fun _ h9 => h9) rfl d_De_times_18 ?_
    refine lv_iload_n hx hb d_De_times_21 rfl (lv_at hl 1 rfl) ?_
    refine z_ialdN hx hb hK hP 1 0 rfl rfl (by omega) (by decide) d_De_times_22 ?_
    exact W.iret (v := nI (od w)) hx hb hr (fun t9 ht9 hW9 => ⟨_, rfl, rfl, ht9⟩) (fun _ h => nomatch h) d_De_times_23
  · exact absurd c_4 (by rw [hasB_nI (by omega) (by omega)]; decide)
