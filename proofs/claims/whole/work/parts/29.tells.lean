theorem d_Mo_tellTurning_0 : decode b_Mo_tellTurning 0 = .ok (.aload_n 0, 1) := by decide +kernel
theorem d_Mo_tellTurning_1 : decode b_Mo_tellTurning 1 = .ok (.getfield 54, 3) := by decide +kernel
theorem d_Mo_tellTurning_4 : decode b_Mo_tellTurning 4 = .ok (.iconst 1, 1) := by decide +kernel
theorem d_Mo_tellTurning_5 : decode b_Mo_tellTurning 5 = .ok (.if_icmp .le 13, 3) := by decide +kernel
theorem d_Mo_tellTurning_8 : decode b_Mo_tellTurning 8 = .ok (.aload_n 0, 1) := by decide +kernel
theorem d_Mo_tellTurning_9 : decode b_Mo_tellTurning 9 = .ok (.iconst 0, 1) := by decide +kernel
theorem d_Mo_tellTurning_10 : decode b_Mo_tellTurning 10 = .ok (.iconst 0, 1) := by decide +kernel
theorem d_Mo_tellTurning_11 : decode b_Mo_tellTurning 11 = .ok (.aload_n 0, 1) := by decide +kernel
theorem d_Mo_tellTurning_12 : decode b_Mo_tellTurning 12 = .ok (.getfield 54, 3) := by decide +kernel
theorem d_Mo_tellTurning_15 : decode b_Mo_tellTurning 15 = .ok (.invokevirtual 104, 3) := by decide +kernel
theorem d_Mo_tellTurning_18 : decode b_Mo_tellTurning 18 = .ok (.aload_n 0, 1) := by decide +kernel
theorem d_Mo_tellTurning_19 : decode b_Mo_tellTurning 19 = .ok (.getfield 54, 3) := by decide +kernel
theorem d_Mo_tellTurning_22 : decode b_Mo_tellTurning 22 = .ok (.ifCond .le 12, 3) := by decide +kernel
theorem d_Mo_tellTurning_25 : decode b_Mo_tellTurning 25 = .ok (.aload_n 0, 1) := by decide +kernel
theorem d_Mo_tellTurning_26 : decode b_Mo_tellTurning 26 = .ok (.getfield 54, 3) := by decide +kernel
theorem d_Mo_tellTurning_29 : decode b_Mo_tellTurning 29 = .ok (.iconst 1, 1) := by decide +kernel
theorem d_Mo_tellTurning_30 : decode b_Mo_tellTurning 30 = .ok (.isub, 1) := by decide +kernel
theorem d_Mo_tellTurning_31 : decode b_Mo_tellTurning 31 = .ok (.goto 4, 3) := by decide +kernel
theorem d_Mo_tellTurning_34 : decode b_Mo_tellTurning 34 = .ok (.iconst 0, 1) := by decide +kernel
theorem d_Mo_tellTurning_35 : decode b_Mo_tellTurning 35 = .ok (.ireturn, 1) := by decide +kernel
abbrev ws_Mo_tellTurning : List Cond := .code y_Mo_tellTurning b_Mo_tellTurning 1 (some .int) :: ALLG
abbrev rm_Mo_tellTurning : Room := { frames := 1, cells := 0, slots := 0, locals := 23 }
set_option maxHeartbeats 4000000 in
set_option maxRecDepth 100000 in
theorem c_Mo_tellTurning (l : Launch) (DD : va_G) (sz : Nat) (am : Nat) (th : Nat) (n : Nat) (hk : Nat) (ht : Nat) (n1 : Nat) (hk1 : Nat) (ht1 : Nat) (pb : Bool) (rn : Nat) (hfg : Nat) (hle : Nat) (hmo : Nat) (hwy : Nat) (tn : Nat) (htf : Nat) (ctf : ClassId) (tf : Nat → Int32) (cm : Int64) (hod : Nat) (hwk : Nat) (hot : Nat) (ru : Nat) (hen : Nat) (hn : n ≤ 150) (htn : tn < 150) : Met l y_Mo_tellTurning ws_Mo_tellTurning rm_Mo_tellTurning (va_Pc [.ref am] (fun U => U.heap.size = sz ∧ va_P DD vwCl [(am, .inr (9, [.int (nI th), .int (nI n), .ref hk, .ref ht, .int (nI n1), .ref hk1, .ref ht1, .int (zb pb), .int (nI rn), .ref hfg, .ref hle, .ref hmo, .ref hwy, .int (nI tn), .ref htf, .long cm, .ref hod, .ref hwk, .ref hot, .int (nI ru), .ref hen])), (htf, .inl (ctf, 900, .inl tf))] U.heap ∧ va_K DD vwCl [(ctf, .int)] U ∧ va_D (fun _ => True) [(am, .inr (9, [.int (nI th), .int (nI n), .ref hk, .ref ht, .int (nI n1), .ref hk1, .ref ht1, .int (zb pb), .int (nI rn), .ref hfg, .ref hle, .ref hmo, .ref hwy, .int (nI tn), .ref htf, .long cm, .ref hod, .ref hwk, .ref hot, .int (nI ru), .ref hen])), (htf, .inl (ctf, 900, .inl tf))])) (va_Qi (fun (r9 : Int32) (u9 : Unit) => match u9 with | _ => r9 = nI (n - 1)) (fun (u9 : Unit) (t9 : State) => match u9 with | _ => va_P DD vwCl [(am, .inr (9, [.int (nI th), .int (nI n), .ref hk, .ref ht, .int (nI n1), .ref hk1, .ref ht1, .int (zb pb), .int (nI rn), .ref hfg, .ref hle, .ref hmo, .ref hwy, .int (nI (if n < 2 then tn else tn + 1)), .ref htf, .long cm, .ref hod, .ref hwk, .ref hot, .int (nI ru), .ref hen])), (htf, .inl (ctf, 900, .inl (if n < 2 then tf else tadd tf tn (nI 0) (nI 0) (nI n))))] t9.heap ∧ va_K DD vwCl [(ctf, .int)] t9 ∧ va_D (va_A [(am, .inr (9, [.int (nI th), .int (nI n), .ref hk, .ref ht, .int (nI n1), .ref hk1, .ref ht1, .int (zb pb), .int (nI rn), .ref hfg, .ref hle, .ref hmo, .ref hwy, .int (nI tn), .ref htf, .long cm, .ref hod, .ref hwk, .ref hot, .int (nI ru), .ref hen])), (htf, .inl (ctf, 900, .inl tf))] sz) [(am, .inr (9, [.int (nI th), .int (nI n), .ref hk, .ref ht, .int (nI n1), .ref hk1, .ref ht1, .int (zb pb), .int (nI rn), .ref hfg, .ref hle, .ref hmo, .ref hwy, .int (nI (if n < 2 then tn else tn + 1)), .ref htf, .long cm, .ref hod, .ref hwk, .ref hot, .int (nI ru), .ref hen])), (htf, .inl (ctf, 900, .inl (if n < 2 then tf else tadd tf tn (nI 0) (nI 0) (nI n))))]) (va_A [(am, .inr (9, [.int (nI th), .int (nI n), .ref hk, .ref ht, .int (nI n1), .ref hk1, .ref ht1, .int (zb pb), .int (nI rn), .ref hfg, .ref hle, .ref hmo, .ref hwy, .int (nI tn), .ref htf, .long cm, .ref hod, .ref hwk, .ref hot, .int (nI ru), .ref hen])), (htf, .inl (ctf, 900, .inl tf))] sz)) 0 0 (va_A [(am, .inr (9, [.int (nI th), .int (nI n), .ref hk, .ref ht, .int (nI n1), .ref hk1, .ref ht1, .int (zb pb), .int (nI rn), .ref hfg, .ref hle, .ref hmo, .ref hwy, .int (nI tn), .ref htf, .long cm, .ref hod, .ref hwk, .ref hot, .int (nI ru), .ref hen])), (htf, .inl (ctf, 900, .inl tf))] sz) := by
  refine Met.ofW (cc := b_Mo_tellTurning) (maxL := 1) (ret := (some .int)) (by decide) rfl ?_
  intro p e s m args below meth c s₁ B hml hv
  obtain ⟨ha, hsz, hP, hK, hD0⟩ := hv
  have hx := B.exec
  have hb := B.bytes
  have hr := B.returns
  have hts := atoms_spec (ws := ws_Mo_tellTurning) B.pre
  have hg : ∀ w ∈ ALLG, w.before args s = true := fun w h => hts w (List.mem_cons_of_mem _ h)
  have hown : s.vm.findClass R_Mo = some m.cls := findClass_of_methodNamed B.named
  have hlocks := B.notSynchronized
  subst hsz
  have hD := hD0.self (sz := s.heap.size)
  generalize hAe : va_A [(am, .inr (9, [.int (nI th), .int (nI n), .ref hk, .ref ht, .int (nI n1), .ref hk1, .ref ht1, .int (zb pb), .int (nI rn), .ref hfg, .ref hle, .ref hmo, .ref hwy, .int (nI tn), .ref htf, .long cm, .ref hod, .ref hwk, .ref hot, .int (nI ru), .ref hen])), (htf, .inl (ctf, 900, .inl tf))] s.heap.size = A at hD ⊢
  have hA : ∀ q : Nat, s.heap.size ≤ q → A q := fun q h => by rw [← hAe]; exact Or.inr h
  have hS : va_S A s.heap s.heap [] := va_S.rf
  have hP : va_P DD vwCl [(am, .inr (9, [.int (nI th), .int (nI n), .ref hk, .ref ht, .int (nI n1), .ref hk1, .ref ht1, .int (zb pb), .int (nI rn), .ref hfg, .ref hle, .ref hmo, .ref hwy, .int (nI tn), .ref htf, .long cm, .ref hod, .ref hwk, .ref hot, .int (nI ru), .ref hen])), (htf, .inl (ctf, 900, .inl tf))] s.heap := hP
  have hl := lv_entry ([.ref am]) (n := 1) (Nat.le_of_ble_eq_true rfl)
  rw [ha, lg_entry_eq, ← ha]
  generalize (lg_sl ([.ref am]) ++ List.replicate (1 - (lg_sl ([.ref am])).length) Slot.unset).toArray = ls at hl ⊢
  have hl : lv_has ls 1 [(0, .ref am)] := hl
  refine lv_aload_n hx hb d_Mo_tellTurning_0 rfl (lv_at hl 0 rfl) ?_
  refine va_get (D := DD) (ci := 9) (v := .int (nI n)) (C := R_Mo) (T := T_Mo) (N := 21) hx hb hg in_Mo hown hK hP 0 rfl rfl 1 (by decide) (hg _ mw_680) (fun _ h9 => h9) rfl d_Mo_tellTurning_1 ?_
  refine lv_iconst (v := nI 1) hx hb d_Mo_tellTurning_4 (by decide) ?_
  refine z_icmp_le (tgt := 18) hx hb d_Mo_tellTurning_5 (by decide) (by omega) (by omega) (fun c_5 => ?_) (fun c_5 => ?_)
  · rw [show tf = if n < 2 then tf else tadd tf tn (nI 0) (nI 0) (nI n) from (if_pos (by omega)).symm] at hP hD
    rw [show nI tn = nI (if n < 2 then tn else tn + 1) from congrArg nI (if_pos (by omega)).symm] at hP hD
    refine lv_aload_n hx hb d_Mo_tellTurning_18 rfl (lv_at hl 0 rfl) ?_
    refine va_get (D := DD) (ci := 9) (v := .int (nI n)) (C := R_Mo) (T := T_Mo) (N := 21) hx hb hg in_Mo hown hK hP 0 rfl rfl 1 (by decide) (hg _ mw_680) (fun _ h9 => h9) rfl d_Mo_tellTurning_19 ?_
    refine z_if_le (tgt := 34) hx hb d_Mo_tellTurning_22 (by decide) (by omega) (fun c_22 => ?_) (fun c_22 => ?_)
    · refine lv_iconst (v := nI 0) hx hb d_Mo_tellTurning_34 (by decide) ?_
      have hP9 := hP.sub (ws' := [(am, .inr (9, [.int (nI th), .int (nI n), .ref hk, .ref ht, .int (nI n1), .ref hk1, .ref ht1, .int (zb pb), .int (nI rn), .ref hfg, .ref hle, .ref hmo, .ref hwy, .int (nI (if n < 2 then tn else tn + 1)), .ref htf, .long cm, .ref hod, .ref hwk, .ref hot, .int (nI ru), .ref hen])), (htf, .inl (ctf, 900, .inl (if n < 2 then tf else tadd tf tn (nI 0) (nI 0) (nI n))))]) [0, 1] rfl
      have hD9 := hD.sub (ws' := [(am, .inr (9, [.int (nI th), .int (nI n), .ref hk, .ref ht, .int (nI n1), .ref hk1, .ref ht1, .int (zb pb), .int (nI rn), .ref hfg, .ref hle, .ref hmo, .ref hwy, .int (nI (if n < 2 then tn else tn + 1)), .ref htf, .long cm, .ref hod, .ref hwk, .ref hot, .int (nI ru), .ref hen])), (htf, .inl (ctf, 900, .inl (if n < 2 then tf else tadd tf tn (nI 0) (nI 0) (nI n))))]) [0, 1] (by decide) rfl
      exact W.iret (v := nI 0) hx hb hr (fun t9 ht9 hW9 => ⟨⟨_, (), rfl, (by first | rfl | exact congrArg nI (by omega)), by rw [ht9]; exact hP9, va_K.moved hW9.alike hK, hD9⟩, hS.F ht9⟩) hS.2.2 d_Mo_tellTurning_35
    · refine lv_aload_n hx hb d_Mo_tellTurning_25 rfl (lv_at hl 0 rfl) ?_
      refine va_get (D := DD) (ci := 9) (v := .int (nI n)) (C := R_Mo) (T := T_Mo) (N := 21) hx hb hg in_Mo hown hK hP 0 rfl rfl 1 (by decide) (hg _ mw_680) (fun _ h9 => h9) rfl d_Mo_tellTurning_26 ?_
      refine lv_iconst (v := nI 1) hx hb d_Mo_tellTurning_29 (by decide) ?_
      refine z_isub hx hb d_Mo_tellTurning_30 (by omega) ?_
      refine lv_goto (tgt := 35) hx hb d_Mo_tellTurning_31 (by decide) ?_
      have hP9 := hP.sub (ws' := [(am, .inr (9, [.int (nI th), .int (nI n), .ref hk, .ref ht, .int (nI n1), .ref hk1, .ref ht1, .int (zb pb), .int (nI rn), .ref hfg, .ref hle, .ref hmo, .ref hwy, .int (nI (if n < 2 then tn else tn + 1)), .ref htf, .long cm, .ref hod, .ref hwk, .ref hot, .int (nI ru), .ref hen])), (htf, .inl (ctf, 900, .inl (if n < 2 then tf else tadd tf tn (nI 0) (nI 0) (nI n))))]) [0, 1] rfl
      have hD9 := hD.sub (ws' := [(am, .inr (9, [.int (nI th), .int (nI n), .ref hk, .ref ht, .int (nI n1), .ref hk1, .ref ht1, .int (zb pb), .int (nI rn), .ref hfg, .ref hle, .ref hmo, .ref hwy, .int (nI (if n < 2 then tn else tn + 1)), .ref htf, .long cm, .ref hod, .ref hwk, .ref hot, .int (nI ru), .ref hen])), (htf, .inl (ctf, 900, .inl (if n < 2 then tf else tadd tf tn (nI 0) (nI 0) (nI n))))]) [0, 1] (by decide) rfl
      exact W.iret (v := nI (n - 1)) hx hb hr (fun t9 ht9 hW9 => ⟨⟨_, (), rfl, (by first | rfl | exact congrArg nI (by omega)), by rw [ht9]; exact hP9, va_K.moved hW9.alike hK, hD9⟩, hS.F ht9⟩) hS.2.2 d_Mo_tellTurning_35
  · refine lv_aload_n hx hb d_Mo_tellTurning_8 rfl (lv_at hl 0 rfl) ?_
    refine lv_iconst (v := nI 0) hx hb d_Mo_tellTurning_9 (by decide) ?_
    refine lv_iconst (v := nI 0) hx hb d_Mo_tellTurning_10 (by decide) ?_
    refine lv_aload_n hx hb d_Mo_tellTurning_11 rfl (lv_at hl 0 rfl) ?_
    refine va_get (D := DD) (ci := 9) (v := .int (nI n)) (C := R_Mo) (T := T_Mo) (N := 21) hx hb hg in_Mo hown hK hP 0 rfl rfl 1 (by decide) (hg _ mw_680) (fun _ h9 => h9) rfl d_Mo_tellTurning_12 ?_
    have hPc := hP.sub (ws' := [(am, .inr (9, [.int (nI th), .int (nI n), .ref hk, .ref ht, .int (nI n1), .ref hk1, .ref ht1, .int (zb pb), .int (nI rn), .ref hfg, .ref hle, .ref hmo, .ref hwy, .int (nI tn), .ref htf, .long cm, .ref hod, .ref hwk, .ref hot, .int (nI ru), .ref hen])), (htf, .inl (ctf, 900, .inl tf))]) [0, 1] rfl
    have hKc := hK.sub (tys' := [(ctf, .int)]) [0] rfl
    have hDc := hD.sub (ws' := [(am, .inr (9, [.int (nI th), .int (nI n), .ref hk, .ref ht, .int (nI n1), .ref hk1, .ref ht1, .int (zb pb), .int (nI rn), .ref hfg, .ref hle, .ref hmo, .ref hwy, .int (nI tn), .ref htf, .long cm, .ref hod, .ref hwk, .ref hot, .int (nI ru), .ref hen])), (htf, .inl (ctf, 900, .inl tf))]) [0, 1] (by decide) rfl
    have hFc := va_free (wc := [(am, .inr (9, [.int (nI th), .int (nI n), .ref hk, .ref ht, .int (nI n1), .ref hk1, .ref ht1, .int (zb pb), .int (nI rn), .ref hfg, .ref hle, .ref hmo, .ref hwy, .int (nI tn), .ref htf, .long cm, .ref hod, .ref hwk, .ref hot, .int (nI ru), .ref hen])), (htf, .inl (ctf, 900, .inl tf))]) hD hS hA [0, 1] rfl
    refine va_callv (va_runV (As := [.int (nI 0), .int (nI 0), .int (nI n)]) (rest := []) ⟨hx, hb, hml, hown, hg⟩ (c_Mo_tell l DD s.heap.size am th n hk ht n1 hk1 ht1 pb rn hfg hle hmo hwy tn htf ctf tf cm hod hwk hot ru hen (nI 0) (nI 0) (nI n) (by omega)) (cwV 3 hg (gi_V mw_831 mw_833 ms_Mo_tell mw_11 mw_834) rfl rfl rfl (by decide +kernel) ⟨Nat.le_of_ble_eq_true rfl, Nat.le_of_ble_eq_true rfl⟩) ⟨z_blindQ, va_recv hKc hPc (ci := 9) (q0 := 0) rfl rfl, z_preQ hPc hKc hDc⟩ rfl rfl hl.1 rfl (lv_room (Nat.le_of_ble_eq_true rfl)) d_Mo_tellTurning_15 ⟨Nat.zero_le _, Nat.zero_le _⟩) hS (fun q _ h => hFc q h) hFc (fun u9 t9 H9 locs ht9 hvm9 hw9 hB9 hz9 hk9 hS => ?_)
    obtain ⟨hP1, hK1, hD1⟩ := hB9
    rw [ht9] at hP1
    try dsimp only at hw9
    obtain ⟨hP, hD⟩ := va_join (wr := []) (w1 := [(am, .inr (9, [.int (nI th), .int (nI n), .ref hk, .ref ht, .int (nI n1), .ref hk1, .ref ht1, .int (zb pb), .int (nI rn), .ref hfg, .ref hle, .ref hmo, .ref hwy, .int (nI (tn + 1)), .ref htf, .long cm, .ref hod, .ref hwk, .ref hot, .int (nI ru), .ref hen])), (htf, .inl (ctf, 900, .inl (tadd tf tn (nI 0) (nI 0) (nI n))))]) hP hD [0, 1] [] rfl rfl (by decide) (by decide) hk9 hFc hP1 hD1
    generalize H9 = H at hP hS ⊢
    have hP : va_P DD vwCl [(am, .inr (9, [.int (nI th), .int (nI n), .ref hk, .ref ht, .int (nI n1), .ref hk1, .ref ht1, .int (zb pb), .int (nI rn), .ref hfg, .ref hle, .ref hmo, .ref hwy, .int (nI (tn + 1)), .ref htf, .long cm, .ref hod, .ref hwk, .ref hot, .int (nI ru), .ref hen])), (htf, .inl (ctf, 900, .inl (tadd tf tn (nI 0) (nI 0) (nI n))))] H := hP
    have hD : va_D A [(am, .inr (9, [.int (nI th), .int (nI n), .ref hk, .ref ht, .int (nI n1), .ref hk1, .ref ht1, .int (zb pb), .int (nI rn), .ref hfg, .ref hle, .ref hmo, .ref hwy, .int (nI (tn + 1)), .ref htf, .long cm, .ref hod, .ref hwk, .ref hot, .int (nI ru), .ref hen])), (htf, .inl (ctf, 900, .inl (tadd tf tn (nI 0) (nI 0) (nI n))))] := hD
    rw [show tadd tf tn (nI 0) (nI 0) (nI n) = if n < 2 then tf else tadd tf tn (nI 0) (nI 0) (nI n) from (if_neg (by omega)).symm] at hP hD
    rw [show nI (tn + 1) = nI (if n < 2 then tn else tn + 1) from congrArg nI (if_neg (by omega)).symm] at hP hD
    refine lv_aload_n hx hb d_Mo_tellTurning_18 rfl (lv_at hl 0 rfl) ?_
    refine va_get (D := DD) (ci := 9) (v := .int (nI n)) (C := R_Mo) (T := T_Mo) (N := 21) hx hb hg in_Mo hown hK hP 0 rfl rfl 1 (by decide) (hg _ mw_680) (fun _ h9 => h9) rfl d_Mo_tellTurning_19 ?_
    refine z_if_le (tgt := 34) hx hb d_Mo_tellTurning_22 (by decide) (by omega) (fun c_22 => ?_) (fun c_22 => ?_)
    · refine lv_iconst (v := nI 0) hx hb d_Mo_tellTurning_34 (by decide) ?_
      have hP9 := hP.sub (ws' := [(am, .inr (9, [.int (nI th), .int (nI n), .ref hk, .ref ht, .int (nI n1), .ref hk1, .ref ht1, .int (zb pb), .int (nI rn), .ref hfg, .ref hle, .ref hmo, .ref hwy, .int (nI (if n < 2 then tn else tn + 1)), .ref htf, .long cm, .ref hod, .ref hwk, .ref hot, .int (nI ru), .ref hen])), (htf, .inl (ctf, 900, .inl (if n < 2 then tf else tadd tf tn (nI 0) (nI 0) (nI n))))]) [0, 1] rfl
      have hD9 := hD.sub (ws' := [(am, .inr (9, [.int (nI th), .int (nI n), .ref hk, .ref ht, .int (nI n1), .ref hk1, .ref ht1, .int (zb pb), .int (nI rn), .ref hfg, .ref hle, .ref hmo, .ref hwy, .int (nI (if n < 2 then tn else tn + 1)), .ref htf, .long cm, .ref hod, .ref hwk, .ref hot, .int (nI ru), .ref hen])), (htf, .inl (ctf, 900, .inl (if n < 2 then tf else tadd tf tn (nI 0) (nI 0) (nI n))))]) [0, 1] (by decide) rfl
      exact W.iret (v := nI 0) hx hb hr (fun t9 ht9 hW9 => ⟨⟨_, (), rfl, (by first | rfl | exact congrArg nI (by omega)), by rw [ht9]; exact hP9, va_K.moved hW9.alike hK, hD9⟩, hS.F ht9⟩) hS.2.2 d_Mo_tellTurning_35
    · refine lv_aload_n hx hb d_Mo_tellTurning_25 rfl (lv_at hl 0 rfl) ?_
      refine va_get (D := DD) (ci := 9) (v := .int (nI n)) (C := R_Mo) (T := T_Mo) (N := 21) hx hb hg in_Mo hown hK hP 0 rfl rfl 1 (by decide) (hg _ mw_680) (fun _ h9 => h9) rfl d_Mo_tellTurning_26 ?_
      refine lv_iconst (v := nI 1) hx hb d_Mo_tellTurning_29 (by decide) ?_
      refine z_isub hx hb d_Mo_tellTurning_30 (by omega) ?_
      refine lv_goto (tgt := 35) hx hb d_Mo_tellTurning_31 (by decide) ?_
      have hP9 := hP.sub (ws' := [(am, .inr (9, [.int (nI th), .int (nI n), .ref hk, .ref ht, .int (nI n1), .ref hk1, .ref ht1, .int (zb pb), .int (nI rn), .ref hfg, .ref hle, .ref hmo, .ref hwy, .int (nI (if n < 2 then tn else tn + 1)), .ref htf, .long cm, .ref hod, .ref hwk, .ref hot, .int (nI ru), .ref hen])), (htf, .inl (ctf, 900, .inl (if n < 2 then tf else tadd tf tn (nI 0) (nI 0) (nI n))))]) [0, 1] rfl
      have hD9 := hD.sub (ws' := [(am, .inr (9, [.int (nI th), .int (nI n), .ref hk, .ref ht, .int (nI n1), .ref hk1, .ref ht1, .int (zb pb), .int (nI rn), .ref hfg, .ref hle, .ref hmo, .ref hwy, .int (nI (if n < 2 then tn else tn + 1)), .ref htf, .long cm, .ref hod, .ref hwk, .ref hot, .int (nI ru), .ref hen])), (htf, .inl (ctf, 900, .inl (if n < 2 then tf else tadd tf tn (nI 0) (nI 0) (nI n))))]) [0, 1] (by decide) rfl
      exact W.iret (v := nI (n - 1)) hx hb hr (fun t9 ht9 hW9 => ⟨⟨_, (), rfl, (by first | rfl | exact congrArg nI (by omega)), by rw [ht9]; exact hP9, va_K.moved hW9.alike hK, hD9⟩, hS.F ht9⟩) hS.2.2 d_Mo_tellTurning_35
theorem d_Mo_tellPutting_0 : decode b_Mo_tellPutting 0 = .ok (.iconst 0, 1) := by decide +kernel
theorem d_Mo_tellPutting_1 : decode b_Mo_tellPutting 1 = .ok (.istore_n 1, 1) := by decide +kernel
theorem d_Mo_tellPutting_2 : decode b_Mo_tellPutting 2 = .ok (.iconst 0, 1) := by decide +kernel
theorem d_Mo_tellPutting_3 : decode b_Mo_tellPutting 3 = .ok (.istore_n 2, 1) := by decide +kernel
theorem d_Mo_tellPutting_4 : decode b_Mo_tellPutting 4 = .ok (.iload_n 2, 1) := by decide +kernel
theorem d_Mo_tellPutting_5 : decode b_Mo_tellPutting 5 = .ok (.aload_n 0, 1) := by decide +kernel
theorem d_Mo_tellPutting_6 : decode b_Mo_tellPutting 6 = .ok (.getfield 54, 3) := by decide +kernel
theorem d_Mo_tellPutting_9 : decode b_Mo_tellPutting 9 = .ok (.if_icmp .ge 21, 3) := by decide +kernel
theorem d_Mo_tellPutting_12 : decode b_Mo_tellPutting 12 = .ok (.aload_n 0, 1) := by decide +kernel
theorem d_Mo_tellPutting_13 : decode b_Mo_tellPutting 13 = .ok (.getfield 41, 3) := by decide +kernel
theorem d_Mo_tellPutting_16 : decode b_Mo_tellPutting 16 = .ok (.iload_n 2, 1) := by decide +kernel
theorem d_Mo_tellPutting_17 : decode b_Mo_tellPutting 17 = .ok (.aload_n 0, 1) := by decide +kernel
theorem d_Mo_tellPutting_18 : decode b_Mo_tellPutting 18 = .ok (.getfield 7, 3) := by decide +kernel
theorem d_Mo_tellPutting_21 : decode b_Mo_tellPutting 21 = .ok (.iload_n 2, 1) := by decide +kernel
theorem d_Mo_tellPutting_22 : decode b_Mo_tellPutting 22 = .ok (.iaload, 1) := by decide +kernel
theorem d_Mo_tellPutting_23 : decode b_Mo_tellPutting 23 = .ok (.iastore, 1) := by decide +kernel
theorem d_Mo_tellPutting_24 : decode b_Mo_tellPutting 24 = .ok (.iinc 2 1, 3) := by decide +kernel
theorem d_Mo_tellPutting_27 : decode b_Mo_tellPutting 27 = .ok (.goto (-23), 3) := by decide +kernel
theorem d_Mo_tellPutting_30 : decode b_Mo_tellPutting 30 = .ok (.iconst 1, 1) := by decide +kernel
theorem d_Mo_tellPutting_31 : decode b_Mo_tellPutting 31 = .ok (.istore_n 2, 1) := by decide +kernel
theorem d_Mo_tellPutting_32 : decode b_Mo_tellPutting 32 = .ok (.iload_n 2, 1) := by decide +kernel
theorem d_Mo_tellPutting_33 : decode b_Mo_tellPutting 33 = .ok (.aload_n 0, 1) := by decide +kernel
theorem d_Mo_tellPutting_34 : decode b_Mo_tellPutting 34 = .ok (.getfield 54, 3) := by decide +kernel
theorem d_Mo_tellPutting_37 : decode b_Mo_tellPutting 37 = .ok (.if_icmp .ge 97, 3) := by decide +kernel
theorem d_Mo_tellPutting_40 : decode b_Mo_tellPutting 40 = .ok (.aload_n 0, 1) := by decide +kernel
theorem d_Mo_tellPutting_41 : decode b_Mo_tellPutting 41 = .ok (.getfield 41, 3) := by decide +kernel
theorem d_Mo_tellPutting_44 : decode b_Mo_tellPutting 44 = .ok (.iload_n 2, 1) := by decide +kernel
theorem d_Mo_tellPutting_45 : decode b_Mo_tellPutting 45 = .ok (.iaload, 1) := by decide +kernel
theorem d_Mo_tellPutting_46 : decode b_Mo_tellPutting 46 = .ok (.istore_n 3, 1) := by decide +kernel
theorem d_Mo_tellPutting_47 : decode b_Mo_tellPutting 47 = .ok (.iload_n 2, 1) := by decide +kernel
theorem d_Mo_tellPutting_48 : decode b_Mo_tellPutting 48 = .ok (.istore 4, 2) := by decide +kernel
theorem d_Mo_tellPutting_50 : decode b_Mo_tellPutting 50 = .ok (.iload 4, 2) := by decide +kernel
theorem d_Mo_tellPutting_52 : decode b_Mo_tellPutting 52 = .ok (.ifCond .le 41, 3) := by decide +kernel
theorem d_Mo_tellPutting_55 : decode b_Mo_tellPutting 55 = .ok (.aload_n 0, 1) := by decide +kernel
theorem d_Mo_tellPutting_56 : decode b_Mo_tellPutting 56 = .ok (.getfield 41, 3) := by decide +kernel
theorem d_Mo_tellPutting_59 : decode b_Mo_tellPutting 59 = .ok (.iload 4, 2) := by decide +kernel
theorem d_Mo_tellPutting_61 : decode b_Mo_tellPutting 61 = .ok (.iconst 1, 1) := by decide +kernel
theorem d_Mo_tellPutting_62 : decode b_Mo_tellPutting 62 = .ok (.isub, 1) := by decide +kernel
theorem d_Mo_tellPutting_63 : decode b_Mo_tellPutting 63 = .ok (.iaload, 1) := by decide +kernel
theorem d_Mo_tellPutting_64 : decode b_Mo_tellPutting 64 = .ok (.iload_n 3, 1) := by decide +kernel
theorem d_Mo_tellPutting_65 : decode b_Mo_tellPutting 65 = .ok (.if_icmp .le 28, 3) := by decide +kernel
theorem d_Mo_tellPutting_68 : decode b_Mo_tellPutting 68 = .ok (.aload_n 0, 1) := by decide +kernel
theorem d_Mo_tellPutting_69 : decode b_Mo_tellPutting 69 = .ok (.getfield 41, 3) := by decide +kernel
theorem d_Mo_tellPutting_72 : decode b_Mo_tellPutting 72 = .ok (.iload 4, 2) := by decide +kernel
theorem d_Mo_tellPutting_74 : decode b_Mo_tellPutting 74 = .ok (.aload_n 0, 1) := by decide +kernel
theorem d_Mo_tellPutting_75 : decode b_Mo_tellPutting 75 = .ok (.getfield 41, 3) := by decide +kernel
theorem d_Mo_tellPutting_78 : decode b_Mo_tellPutting 78 = .ok (.iload 4, 2) := by decide +kernel
theorem d_Mo_tellPutting_80 : decode b_Mo_tellPutting 80 = .ok (.iconst 1, 1) := by decide +kernel
theorem d_Mo_tellPutting_81 : decode b_Mo_tellPutting 81 = .ok (.isub, 1) := by decide +kernel
theorem d_Mo_tellPutting_82 : decode b_Mo_tellPutting 82 = .ok (.iaload, 1) := by decide +kernel
theorem d_Mo_tellPutting_83 : decode b_Mo_tellPutting 83 = .ok (.iastore, 1) := by decide +kernel
theorem d_Mo_tellPutting_84 : decode b_Mo_tellPutting 84 = .ok (.iinc 4 (-1), 3) := by decide +kernel
theorem d_Mo_tellPutting_87 : decode b_Mo_tellPutting 87 = .ok (.iinc 1 1, 3) := by decide +kernel
theorem d_Mo_tellPutting_90 : decode b_Mo_tellPutting 90 = .ok (.goto (-40), 3) := by decide +kernel
theorem d_Mo_tellPutting_93 : decode b_Mo_tellPutting 93 = .ok (.iload 4, 2) := by decide +kernel
theorem d_Mo_tellPutting_95 : decode b_Mo_tellPutting 95 = .ok (.ifCond .le 9, 3) := by decide +kernel
theorem d_Mo_tellPutting_98 : decode b_Mo_tellPutting 98 = .ok (.iload_n 1, 1) := by decide +kernel
theorem d_Mo_tellPutting_99 : decode b_Mo_tellPutting 99 = .ok (.iconst 1, 1) := by decide +kernel
theorem d_Mo_tellPutting_100 : decode b_Mo_tellPutting 100 = .ok (.iadd, 1) := by decide +kernel
theorem d_Mo_tellPutting_101 : decode b_Mo_tellPutting 101 = .ok (.goto 4, 3) := by decide +kernel
theorem d_Mo_tellPutting_104 : decode b_Mo_tellPutting 104 = .ok (.iload_n 1, 1) := by decide +kernel
theorem d_Mo_tellPutting_105 : decode b_Mo_tellPutting 105 = .ok (.istore_n 1, 1) := by decide +kernel
theorem d_Mo_tellPutting_106 : decode b_Mo_tellPutting 106 = .ok (.aload_n 0, 1) := by decide +kernel
theorem d_Mo_tellPutting_107 : decode b_Mo_tellPutting 107 = .ok (.getfield 41, 3) := by decide +kernel
theorem d_Mo_tellPutting_110 : decode b_Mo_tellPutting 110 = .ok (.iload 4, 2) := by decide +kernel
theorem d_Mo_tellPutting_112 : decode b_Mo_tellPutting 112 = .ok (.iload_n 3, 1) := by decide +kernel
theorem d_Mo_tellPutting_113 : decode b_Mo_tellPutting 113 = .ok (.iastore, 1) := by decide +kernel
theorem d_Mo_tellPutting_114 : decode b_Mo_tellPutting 114 = .ok (.iload 4, 2) := by decide +kernel
theorem d_Mo_tellPutting_116 : decode b_Mo_tellPutting 116 = .ok (.iload_n 2, 1) := by decide +kernel
theorem d_Mo_tellPutting_117 : decode b_Mo_tellPutting 117 = .ok (.if_icmp .ge 11, 3) := by decide +kernel
theorem d_Mo_tellPutting_120 : decode b_Mo_tellPutting 120 = .ok (.aload_n 0, 1) := by decide +kernel
theorem d_Mo_tellPutting_121 : decode b_Mo_tellPutting 121 = .ok (.iconst 1, 1) := by decide +kernel
theorem d_Mo_tellPutting_122 : decode b_Mo_tellPutting 122 = .ok (.iload_n 2, 1) := by decide +kernel
theorem d_Mo_tellPutting_123 : decode b_Mo_tellPutting 123 = .ok (.iload 4, 2) := by decide +kernel
theorem d_Mo_tellPutting_125 : decode b_Mo_tellPutting 125 = .ok (.invokevirtual 104, 3) := by decide +kernel
theorem d_Mo_tellPutting_128 : decode b_Mo_tellPutting 128 = .ok (.iinc 2 1, 3) := by decide +kernel
theorem d_Mo_tellPutting_131 : decode b_Mo_tellPutting 131 = .ok (.goto (-99), 3) := by decide +kernel
theorem d_Mo_tellPutting_134 : decode b_Mo_tellPutting 134 = .ok (.iload_n 1, 1) := by decide +kernel
theorem d_Mo_tellPutting_135 : decode b_Mo_tellPutting 135 = .ok (.ireturn, 1) := by decide +kernel
abbrev ws_Mo_tellPutting : List Cond := .code y_Mo_tellPutting b_Mo_tellPutting 5 (some .int) :: ALLG
abbrev rm_Mo_tellPutting : Room := { frames := 1, cells := 0, slots := 0, locals := 23 }
set_option maxHeartbeats 4000000 in
set_option maxRecDepth 100000 in
theorem c_Mo_tellPutting (l : Launch) (DD : va_G) (sz : Nat) (am : Nat) (th : Nat) (n : Nat) (hk : Nat) (ck : ClassId) (k : Nat → Int32) (ht : Nat) (n1 : Nat) (hk1 : Nat) (ht1 : Nat) (pb : Bool) (rn : Nat) (hfg : Nat) (hle : Nat) (hmo : Nat) (hwy : Nat) (tn : Nat) (htf : Nat) (ctf : ClassId) (tf : Nat → Int32) (cm : Int64) (hod : Nat) (hwk : Nat) (cwk : ClassId) (wk : Nat → Int32) (hot : Nat) (ru : Nat) (hen : Nat) (hn : n ≤ 150) (htn : tn + n ≤ 150) : Met l y_Mo_tellPutting ws_Mo_tellPutting rm_Mo_tellPutting (va_Pc [.ref am] (fun U => U.heap.size = sz ∧ va_P DD vwCl [(am, .inr (9, [.int (nI th), .int (nI n), .ref hk, .ref ht, .int (nI n1), .ref hk1, .ref ht1, .int (zb pb), .int (nI rn), .ref hfg, .ref hle, .ref hmo, .ref hwy, .int (nI tn), .ref htf, .long cm, .ref hod, .ref hwk, .ref hot, .int (nI ru), .ref hen])), (hk, .inl (ck, 150, .inl k)), (htf, .inl (ctf, 900, .inl tf)), (hwk, .inl (cwk, 150, .inl wk))] U.heap ∧ va_K DD vwCl [(ck, .int), (ctf, .int), (cwk, .int)] U ∧ va_D (fun _ => True) [(am, .inr (9, [.int (nI th), .int (nI n), .ref hk, .ref ht, .int (nI n1), .ref hk1, .ref ht1, .int (zb pb), .int (nI rn), .ref hfg, .ref hle, .ref hmo, .ref hwy, .int (nI tn), .ref htf, .long cm, .ref hod, .ref hwk, .ref hot, .int (nI ru), .ref hen])), (hk, .inl (ck, 150, .inl k)), (htf, .inl (ctf, 900, .inl tf)), (hwk, .inl (cwk, 150, .inl wk))])) (va_Qi (fun (r9 : Int32) (u9 : Unit) => match u9 with | _ => r9 = nI (mC (cpF k wk n) n)) (fun (u9 : Unit) (t9 : State) => match u9 with | _ => va_P DD vwCl [(am, .inr (9, [.int (nI th), .int (nI n), .ref hk, .ref ht, .int (nI n1), .ref hk1, .ref ht1, .int (zb pb), .int (nI rn), .ref hfg, .ref hle, .ref hmo, .ref hwy, .int (nI (mT (cpF k wk n) tn n)), .ref htf, .long cm, .ref hod, .ref hwk, .ref hot, .int (nI ru), .ref hen])), (hk, .inl (ck, 150, .inl k)), (htf, .inl (ctf, 900, .inl (mF (cpF k wk n) tn tf n))), (hwk, .inl (cwk, 150, .inl (mP (cpF k wk n) n)))] t9.heap ∧ va_K DD vwCl [(ck, .int), (ctf, .int), (cwk, .int)] t9 ∧ va_D (va_A [(am, .inr (9, [.int (nI th), .int (nI n), .ref hk, .ref ht, .int (nI n1), .ref hk1, .ref ht1, .int (zb pb), .int (nI rn), .ref hfg, .ref hle, .ref hmo, .ref hwy, .int (nI tn), .ref htf, .long cm, .ref hod, .ref hwk, .ref hot, .int (nI ru), .ref hen])), (hk, .inl (ck, 150, .inl k)), (htf, .inl (ctf, 900, .inl tf)), (hwk, .inl (cwk, 150, .inl wk))] sz) [(am, .inr (9, [.int (nI th), .int (nI n), .ref hk, .ref ht, .int (nI n1), .ref hk1, .ref ht1, .int (zb pb), .int (nI rn), .ref hfg, .ref hle, .ref hmo, .ref hwy, .int (nI (mT (cpF k wk n) tn n)), .ref htf, .long cm, .ref hod, .ref hwk, .ref hot, .int (nI ru), .ref hen])), (hk, .inl (ck, 150, .inl k)), (htf, .inl (ctf, 900, .inl (mF (cpF k wk n) tn tf n))), (hwk, .inl (cwk, 150, .inl (mP (cpF k wk n) n)))]) (va_A [(am, .inr (9, [.int (nI th), .int (nI n), .ref hk, .ref ht, .int (nI n1), .ref hk1, .ref ht1, .int (zb pb), .int (nI rn), .ref hfg, .ref hle, .ref hmo, .ref hwy, .int (nI tn), .ref htf, .long cm, .ref hod, .ref hwk, .ref hot, .int (nI ru), .ref hen])), (hk, .inl (ck, 150, .inl k)), (htf, .inl (ctf, 900, .inl tf)), (hwk, .inl (cwk, 150, .inl wk))] sz)) 0 0 (va_A [(am, .inr (9, [.int (nI th), .int (nI n), .ref hk, .ref ht, .int (nI n1), .ref hk1, .ref ht1, .int (zb pb), .int (nI rn), .ref hfg, .ref hle, .ref hmo, .ref hwy, .int (nI tn), .ref htf, .long cm, .ref hod, .ref hwk, .ref hot, .int (nI ru), .ref hen])), (hk, .inl (ck, 150, .inl k)), (htf, .inl (ctf, 900, .inl tf)), (hwk, .inl (cwk, 150, .inl wk))] sz) := by
  refine Met.ofW (cc := b_Mo_tellPutting) (maxL := 5) (ret := (some .int)) (by decide) rfl ?_
  intro p e s m args below meth c s₁ B hml hv
  obtain ⟨ha, hsz, hP, hK, hD0⟩ := hv
  have hx := B.exec
  have hb := B.bytes
  have hr := B.returns
  have hts := atoms_spec (ws := ws_Mo_tellPutting) B.pre
  have hg : ∀ w ∈ ALLG, w.before args s = true := fun w h => hts w (List.mem_cons_of_mem _ h)
  have hown : s.vm.findClass R_Mo = some m.cls := findClass_of_methodNamed B.named
  have hlocks := B.notSynchronized
  subst hsz
  have hD := hD0.self (sz := s.heap.size)
  generalize hAe : va_A [(am, .inr (9, [.int (nI th), .int (nI n), .ref hk, .ref ht, .int (nI n1), .ref hk1, .ref ht1, .int (zb pb), .int (nI rn), .ref hfg, .ref hle, .ref hmo, .ref hwy, .int (nI tn), .ref htf, .long cm, .ref hod, .ref hwk, .ref hot, .int (nI ru), .ref hen])), (hk, .inl (ck, 150, .inl k)), (htf, .inl (ctf, 900, .inl tf)), (hwk, .inl (cwk, 150, .inl wk))] s.heap.size = A at hD ⊢
  have hA : ∀ q : Nat, s.heap.size ≤ q → A q := fun q h => by rw [← hAe]; exact Or.inr h
  have hS : va_S A s.heap s.heap [] := va_S.rf
  have hP : va_P DD vwCl [(am, .inr (9, [.int (nI th), .int (nI n), .ref hk, .ref ht, .int (nI n1), .ref hk1, .ref ht1, .int (zb pb), .int (nI rn), .ref hfg, .ref hle, .ref hmo, .ref hwy, .int (nI tn), .ref htf, .long cm, .ref hod, .ref hwk, .ref hot, .int (nI ru), .ref hen])), (hk, .inl (ck, 150, .inl k)), (htf, .inl (ctf, 900, .inl tf)), (hwk, .inl (cwk, 150, .inl wk))] s.heap := hP
  have hl := lv_entry ([.ref am]) (n := 5) (Nat.le_of_ble_eq_true rfl)
  rw [ha, lg_entry_eq, ← ha]
  generalize (lg_sl ([.ref am]) ++ List.replicate (5 - (lg_sl ([.ref am])).length) Slot.unset).toArray = ls at hl ⊢
  have hl : lv_has ls 5 [(0, .ref am)] := hl
  have K32 : ∀ (kk : Nat) (i : Nat) (q : Nat), (hi : 1 ≤ i) → (hin : i ≤ n ∨ (i = 1 ∧ n = 0)) → (hq : q = mC (cpF k wk n) i) → n - i < kk → ∀ (H : Heap) (locs : List Loc), va_P DD vwCl [(am, .inr (9, [.int (nI th), .int (nI n), .ref hk, .ref ht, .int (nI n1), .ref hk1, .ref ht1, .int (zb pb), .int (nI rn), .ref hfg, .ref hle, .ref hmo, .ref hwy, .int (nI (mT (cpF k wk n) tn i)), .ref htf, .long cm, .ref hod, .ref hwk, .ref hot, .int (nI ru), .ref hen])), (hk, .inl (ck, 150, .inl k)), (htf, .inl (ctf, 900, .inl (mF (cpF k wk n) tn tf i))), (hwk, .inl (cwk, 150, .inl (mP (cpF k wk n) i)))] H → va_D A [(am, .inr (9, [.int (nI th), .int (nI n), .ref hk, .ref ht, .int (nI n1), .ref hk1, .ref ht1, .int (zb pb), .int (nI rn), .ref hfg, .ref hle, .ref hmo, .ref hwy, .int (nI (mT (cpF k wk n) tn i)), .ref htf, .long cm, .ref hod, .ref hwk, .ref hot, .int (nI ru), .ref hen])), (hk, .inl (ck, 150, .inl k)), (htf, .inl (ctf, 900, .inl (mF (cpF k wk n) tn tf i))), (hwk, .inl (cwk, 150, .inl (mP (cpF k wk n) i)))] → va_S A s.heap H locs → ∀ (ls : Array Slot), lv_has ls 5 [(0, .ref am), (1, .int (nI q)), (2, .int (nI i))] → W p l e (headSpec ws_Mo_tellPutting rm_Mo_tellPutting).room s m args below meth c H locs 0 0 (MQ below (va_Qi (fun (r9 : Int32) (u9 : Unit) => match u9 with | _ => r9 = nI (mC (cpF k wk n) n)) (fun (u9 : Unit) (t9 : State) => match u9 with | _ => va_P DD vwCl [(am, .inr (9, [.int (nI th), .int (nI n), .ref hk, .ref ht, .int (nI n1), .ref hk1, .ref ht1, .int (zb pb), .int (nI rn), .ref hfg, .ref hle, .ref hmo, .ref hwy, .int (nI (mT (cpF k wk n) tn n)), .ref htf, .long cm, .ref hod, .ref hwk, .ref hot, .int (nI ru), .ref hen])), (hk, .inl (ck, 150, .inl k)), (htf, .inl (ctf, 900, .inl (mF (cpF k wk n) tn tf n))), (hwk, .inl (cwk, 150, .inl (mP (cpF k wk n) n)))] t9.heap ∧ va_K DD vwCl [(ck, .int), (ctf, .int), (cwk, .int)] t9 ∧ va_D A [(am, .inr (9, [.int (nI th), .int (nI n), .ref hk, .ref ht, .int (nI n1), .ref hk1, .ref ht1, .int (zb pb), .int (nI rn), .ref hfg, .ref hle, .ref hmo, .ref hwy, .int (nI (mT (cpF k wk n) tn n)), .ref htf, .long cm, .ref hod, .ref hwk, .ref hot, .int (nI ru), .ref hen])), (hk, .inl (ck, 150, .inl k)), (htf, .inl (ctf, 900, .inl (mF (cpF k wk n) tn tf n))), (hwk, .inl (cwk, 150, .inl (mP (cpF k wk n) n)))]) A) args s 0 0 A) (F0 m 32 ls []) := by
    intro kk
    induction kk with
    | zero => intros; omega
    | succ kk ih32 =>
      intro i q hi hin hq hkk H locs hP hD hS ls hl
      have K50 : ∀ (kk : Nat) (z : Nat) (q2 : Nat), (hlt : i < n) → (hz : z ≤ i) → (hv : tgW (mP (cpF k wk n) i) ((mP (cpF k wk n) i) i) i = tgW (mP (cpF k wk n) i) ((mP (cpF k wk n) i) i) z) → (hq2 : q2 = q + (i - z)) → z < kk → ∀ (H : Heap) (locs : List Loc), va_P DD vwCl [(am, .inr (9, [.int (nI th), .int (nI n), .ref hk, .ref ht, .int (nI n1), .ref hk1, .ref ht1, .int (zb pb), .int (nI rn), .ref hfg, .ref hle, .ref hmo, .ref hwy, .int (nI (mT (cpF k wk n) tn i)), .ref htf, .long cm, .ref hod, .ref hwk, .ref hot, .int (nI ru), .ref hen])), (hk, .inl (ck, 150, .inl k)), (htf, .inl (ctf, 900, .inl (mF (cpF k wk n) tn tf i))), (hwk, .inl (cwk, 150, .inl (opF (mP (cpF k wk n) i) i z)))] H → va_D A [(am, .inr (9, [.int (nI th), .int (nI n), .ref hk, .ref ht, .int (nI n1), .ref hk1, .ref ht1, .int (zb pb), .int (nI rn), .ref hfg, .ref hle, .ref hmo, .ref hwy, .int (nI (mT (cpF k wk n) tn i)), .ref htf, .long cm, .ref hod, .ref hwk, .ref hot, .int (nI ru), .ref hen])), (hk, .inl (ck, 150, .inl k)), (htf, .inl (ctf, 900, .inl (mF (cpF k wk n) tn tf i))), (hwk, .inl (cwk, 150, .inl (opF (mP (cpF k wk n) i) i z)))] → va_S A s.heap H locs → ∀ (ls : Array Slot), lv_has ls 5 [(0, .ref am), (1, .int (nI q2)), (2, .int (nI i)), (3, .int ((mP (cpF k wk n) i) i)), (4, .int (nI z))] → W p l e (headSpec ws_Mo_tellPutting rm_Mo_tellPutting).room s m args below meth c H locs 0 0 (MQ below (va_Qi (fun (r9 : Int32) (u9 : Unit) => match u9 with | _ => r9 = nI (mC (cpF k wk n) n)) (fun (u9 : Unit) (t9 : State) => match u9 with | _ => va_P DD vwCl [(am, .inr (9, [.int (nI th), .int (nI n), .ref hk, .ref ht, .int (nI n1), .ref hk1, .ref ht1, .int (zb pb), .int (nI rn), .ref hfg, .ref hle, .ref hmo, .ref hwy, .int (nI (mT (cpF k wk n) tn n)), .ref htf, .long cm, .ref hod, .ref hwk, .ref hot, .int (nI ru), .ref hen])), (hk, .inl (ck, 150, .inl k)), (htf, .inl (ctf, 900, .inl (mF (cpF k wk n) tn tf n))), (hwk, .inl (cwk, 150, .inl (mP (cpF k wk n) n)))] t9.heap ∧ va_K DD vwCl [(ck, .int), (ctf, .int), (cwk, .int)] t9 ∧ va_D A [(am, .inr (9, [.int (nI th), .int (nI n), .ref hk, .ref ht, .int (nI n1), .ref hk1, .ref ht1, .int (zb pb), .int (nI rn), .ref hfg, .ref hle, .ref hmo, .ref hwy, .int (nI (mT (cpF k wk n) tn n)), .ref htf, .long cm, .ref hod, .ref hwk, .ref hot, .int (nI ru), .ref hen])), (hk, .inl (ck, 150, .inl k)), (htf, .inl (ctf, 900, .inl (mF (cpF k wk n) tn tf n))), (hwk, .inl (cwk, 150, .inl (mP (cpF k wk n) n)))]) A) args s 0 0 A) (F0 m 50 ls []) := by
        intro kk
        induction kk with
        | zero => intros; omega
        | succ kk ih50 =>
          intro z q2 hlt hz hv hq2 hkk H locs hP hD hS ls hl
          refine lv_iload hx hb d_Mo_tellPutting_50 (lv_at hl 4 rfl) ?_
          refine z_if_le (tgt := 93) hx hb d_Mo_tellPutting_52 (by decide) (by omega) (fun c_52 => ?_) (fun c_52 => ?_)
          · have hv3 : z = mTo (cpF k wk n) i := by first | exact tgW_x hv c_52 c_65 | exact tgW_0 hv c_52
            refine lv_iload hx hb d_Mo_tellPutting_93 (lv_at hl 4 rfl) ?_
            refine z_if_le (tgt := 104) hx hb d_Mo_tellPutting_95 (by decide) (by omega) (fun c_95 => ?_) (fun c_95 => ?_)
            · refine lv_iload_n hx hb d_Mo_tellPutting_104 rfl (lv_at hl 1 rfl) ?_
              refine lv_istore_n (lv' := [(1, .int (nI q2)), (0, .ref am), (2, .int (nI i)), (3, .int ((mP (cpF k wk n) i) i)), (4, .int (nI z))]) hx hb d_Mo_tellPutting_105 rfl hl (by decide) rfl (fun ls hl => ?_)
              refine lv_aload_n hx hb d_Mo_tellPutting_106 rfl (lv_at hl 1 rfl) ?_
              refine va_get (D := DD) (ci := 9) (v := .ref hwk) (C := R_Mo) (T := T_Mo) (N := 21) hx hb hg in_Mo hown hK hP 0 rfl rfl 17 (by decide) (hg _ mw_696) (fun _ h9 => h9) rfl d_Mo_tellPutting_107 ?_
              refine lv_iload hx hb d_Mo_tellPutting_110 (lv_at hl 4 rfl) ?_
              refine lv_iload_n hx hb d_Mo_tellPutting_112 rfl (lv_at hl 3 rfl) ?_
              refine z_iast hx hb hK hP hD hS 3 2 rfl rfl (by omega) (by decide) d_Mo_tellPutting_113 (fun H locs hP hD hS => ?_)
              have hP : va_P DD vwCl [(am, .inr (9, [.int (nI th), .int (nI n), .ref hk, .ref ht, .int (nI n1), .ref hk1, .ref ht1, .int (zb pb), .int (nI rn), .ref hfg, .ref hle, .ref hmo, .ref hwy, .int (nI (mT (cpF k wk n) tn i)), .ref htf, .long cm, .ref hod, .ref hwk, .ref hot, .int (nI ru), .ref hen])), (hk, .inl (ck, 150, .inl k)), (htf, .inl (ctf, 900, .inl (mF (cpF k wk n) tn tf i))), (hwk, .inl (cwk, 150, .inl (upd (opF (mP (cpF k wk n) i) i z) z ((mP (cpF k wk n) i) i))))] H := hP
              have hD : va_D A [(am, .inr (9, [.int (nI th), .int (nI n), .ref hk, .ref ht, .int (nI n1), .ref hk1, .ref ht1, .int (zb pb), .int (nI rn), .ref hfg, .ref hle, .ref hmo, .ref hwy, .int (nI (mT (cpF k wk n) tn i)), .ref htf, .long cm, .ref hod, .ref hwk, .ref hot, .int (nI ru), .ref hen])), (hk, .inl (ck, 150, .inl k)), (htf, .inl (ctf, 900, .inl (mF (cpF k wk n) tn tf i))), (hwk, .inl (cwk, 150, .inl (upd (opF (mP (cpF k wk n) i) i z) z ((mP (cpF k wk n) i) i))))] := hD
              rw [show upd (opF (mP (cpF k wk n) i) i z) z ((mP (cpF k wk n) i) i) = mP (cpF k wk n) (i + 1) from mP_s hz hv3] at hP hD
              refine lv_iload hx hb d_Mo_tellPutting_114 (lv_at hl 4 rfl) ?_
              refine lv_iload_n hx hb d_Mo_tellPutting_116 rfl (lv_at hl 2 rfl) ?_
              refine z_icmp_ge (tgt := 128) hx hb d_Mo_tellPutting_117 (by decide) (by omega) (by omega) (fun c_117 => ?_) (fun c_117 => ?_)
              · rw [show mF (cpF k wk n) tn tf i = mF (cpF k wk n) tn tf (i + 1) from mF_f (by rw [← hv3]; exact c_117)] at hP hD
                rw [show nI (mT (cpF k wk n) tn i) = nI (mT (cpF k wk n) tn (i + 1)) from congrArg nI (mT_f (by rw [← hv3]; exact c_117))] at hP hD
                refine lv_iinc (v := nI (i + 1)) (lv' := [(2, .int (nI (i + 1))), (1, .int (nI q2)), (0, .ref am), (3, .int ((mP (cpF k wk n) i) i)), (4, .int (nI z))]) hx hb d_Mo_tellPutting_128 hl (k := 2) rfl (by exact nI_add i 1) (by decide) rfl (fun ls hl => ?_)
                refine lv_goto (tgt := 32) hx hb d_Mo_tellPutting_131 (by decide) ?_
                exact ih32 (i + 1) q2 (by omega) (by omega) (by first | exact mC_t hq hv3 hq2 c_95 | exact mC_f hq hv3 hq2 c_95) (by omega) _ _ hP hD hS ls (lv_sub hl [2, 1, 0] rfl)
              · refine lv_aload_n hx hb d_Mo_tellPutting_120 rfl (lv_at hl 1 rfl) ?_
                refine lv_iconst (v := nI 1) hx hb d_Mo_tellPutting_121 (by decide) ?_
                refine lv_iload_n hx hb d_Mo_tellPutting_122 rfl (lv_at hl 2 rfl) ?_
                refine lv_iload hx hb d_Mo_tellPutting_123 (lv_at hl 4 rfl) ?_
                have hmt := mT_le (cpF k wk n) tn i
                have hPc := hP.sub (ws' := [(am, .inr (9, [.int (nI th), .int (nI n), .ref hk, .ref ht, .int (nI n1), .ref hk1, .ref ht1, .int (zb pb), .int (nI rn), .ref hfg, .ref hle, .ref hmo, .ref hwy, .int (nI (mT (cpF k wk n) tn i)), .ref htf, .long cm, .ref hod, .ref hwk, .ref hot, .int (nI ru), .ref hen])), (htf, .inl (ctf, 900, .inl (mF (cpF k wk n) tn tf i)))]) [0, 2] rfl
                have hKc := hK.sub (tys' := [(ctf, .int)]) [1] rfl
                have hDc := hD.sub (ws' := [(am, .inr (9, [.int (nI th), .int (nI n), .ref hk, .ref ht, .int (nI n1), .ref hk1, .ref ht1, .int (zb pb), .int (nI rn), .ref hfg, .ref hle, .ref hmo, .ref hwy, .int (nI (mT (cpF k wk n) tn i)), .ref htf, .long cm, .ref hod, .ref hwk, .ref hot, .int (nI ru), .ref hen])), (htf, .inl (ctf, 900, .inl (mF (cpF k wk n) tn tf i)))]) [0, 2] (by decide) rfl
                have hFc := va_free (wc := [(am, .inr (9, [.int (nI th), .int (nI n), .ref hk, .ref ht, .int (nI n1), .ref hk1, .ref ht1, .int (zb pb), .int (nI rn), .ref hfg, .ref hle, .ref hmo, .ref hwy, .int (nI (mT (cpF k wk n) tn i)), .ref htf, .long cm, .ref hod, .ref hwk, .ref hot, .int (nI ru), .ref hen])), (htf, .inl (ctf, 900, .inl (mF (cpF k wk n) tn tf i)))]) hD hS hA [0, 2] rfl
                refine va_callv (va_runV (As := [.int (nI 1), .int (nI i), .int (nI z)]) (rest := []) ⟨hx, hb, hml, hown, hg⟩ (c_Mo_tell l DD H.size am th n hk ht n1 hk1 ht1 pb rn hfg hle hmo hwy (mT (cpF k wk n) tn i) htf ctf (mF (cpF k wk n) tn tf i) cm hod hwk hot ru hen (nI 1) (nI i) (nI z) (by omega)) (cwV 3 hg (gi_V mw_831 mw_833 ms_Mo_tell mw_11 mw_834) rfl rfl rfl (by decide +kernel) ⟨Nat.le_of_ble_eq_true rfl, Nat.le_of_ble_eq_true rfl⟩) ⟨z_blindQ, va_recv hKc hPc (ci := 9) (q0 := 0) rfl rfl, z_preQ hPc hKc hDc⟩ rfl rfl hl.1 rfl (lv_room (Nat.le_of_ble_eq_true rfl)) d_Mo_tellPutting_125 ⟨Nat.zero_le _, Nat.zero_le _⟩) hS (fun q _ h => hFc q h) hFc (fun u9 t9 H9 locs ht9 hvm9 hw9 hB9 hz9 hk9 hS => ?_)
                obtain ⟨hP1, hK1, hD1⟩ := hB9
                rw [ht9] at hP1
                try dsimp only at hw9
                obtain ⟨hP, hD⟩ := va_join (wr := [(hk, .inl (ck, 150, .inl k)), (hwk, .inl (cwk, 150, .inl (mP (cpF k wk n) (i + 1))))]) (w1 := [(am, .inr (9, [.int (nI th), .int (nI n), .ref hk, .ref ht, .int (nI n1), .ref hk1, .ref ht1, .int (zb pb), .int (nI rn), .ref hfg, .ref hle, .ref hmo, .ref hwy, .int (nI ((mT (cpF k wk n) tn i) + 1)), .ref htf, .long cm, .ref hod, .ref hwk, .ref hot, .int (nI ru), .ref hen])), (htf, .inl (ctf, 900, .inl (tadd (mF (cpF k wk n) tn tf i) (mT (cpF k wk n) tn i) (nI 1) (nI i) (nI z))))]) hP hD [0, 2] [1, 3] rfl rfl (by decide) (by decide) hk9 hFc hP1 hD1
                generalize H9 = H at hP hS ⊢
                have hP : va_P DD vwCl [(hk, .inl (ck, 150, .inl k)), (hwk, .inl (cwk, 150, .inl (mP (cpF k wk n) (i + 1)))), (am, .inr (9, [.int (nI th), .int (nI n), .ref hk, .ref ht, .int (nI n1), .ref hk1, .ref ht1, .int (zb pb), .int (nI rn), .ref hfg, .ref hle, .ref hmo, .ref hwy, .int (nI ((mT (cpF k wk n) tn i) + 1)), .ref htf, .long cm, .ref hod, .ref hwk, .ref hot, .int (nI ru), .ref hen])), (htf, .inl (ctf, 900, .inl (tadd (mF (cpF k wk n) tn tf i) (mT (cpF k wk n) tn i) (nI 1) (nI i) (nI z))))] H := hP
                have hD : va_D A [(hk, .inl (ck, 150, .inl k)), (hwk, .inl (cwk, 150, .inl (mP (cpF k wk n) (i + 1)))), (am, .inr (9, [.int (nI th), .int (nI n), .ref hk, .ref ht, .int (nI n1), .ref hk1, .ref ht1, .int (zb pb), .int (nI rn), .ref hfg, .ref hle, .ref hmo, .ref hwy, .int (nI ((mT (cpF k wk n) tn i) + 1)), .ref htf, .long cm, .ref hod, .ref hwk, .ref hot, .int (nI ru), .ref hen])), (htf, .inl (ctf, 900, .inl (tadd (mF (cpF k wk n) tn tf i) (mT (cpF k wk n) tn i) (nI 1) (nI i) (nI z))))] := hD
                rw [show tadd (mF (cpF k wk n) tn tf i) (mT (cpF k wk n) tn i) (nI 1) (nI i) (nI z) = mF (cpF k wk n) tn tf (i + 1) from mF_t (by rw [← hv3]; exact c_117) hv3] at hP hD
                rw [show nI ((mT (cpF k wk n) tn i) + 1) = nI (mT (cpF k wk n) tn (i + 1)) from congrArg nI (mT_t (by rw [← hv3]; exact c_117))] at hP hD
                refine lv_iinc (v := nI (i + 1)) (lv' := [(2, .int (nI (i + 1))), (1, .int (nI q2)), (0, .ref am), (3, .int ((mP (cpF k wk n) i) i)), (4, .int (nI z))]) hx hb d_Mo_tellPutting_128 hl (k := 2) rfl (by exact nI_add i 1) (by decide) rfl (fun ls hl => ?_)
                refine lv_goto (tgt := 32) hx hb d_Mo_tellPutting_131 (by decide) ?_
                exact ih32 (i + 1) q2 (by omega) (by omega) (by first | exact mC_t hq hv3 hq2 c_95 | exact mC_f hq hv3 hq2 c_95) (by omega) _ _ (hP.sub [2, 0, 3, 1] rfl) (hD.sub [2, 0, 3, 1] (by decide) rfl) hS ls (lv_sub hl [2, 1, 0] rfl)
            · refine lv_iload_n hx hb d_Mo_tellPutting_98 rfl (lv_at hl 1 rfl) ?_
              refine lv_iconst (v := nI 1) hx hb d_Mo_tellPutting_99 (by decide) ?_
              refine z_iadd hx hb d_Mo_tellPutting_100 ?_
              refine lv_goto (tgt := 105) hx hb d_Mo_tellPutting_101 (by decide) ?_
              refine lv_istore_n (lv' := [(1, .int (nI (q2 + 1))), (0, .ref am), (2, .int (nI i)), (3, .int ((mP (cpF k wk n) i) i)), (4, .int (nI z))]) hx hb d_Mo_tellPutting_105 rfl hl (by decide) rfl (fun ls hl => ?_)
              refine lv_aload_n hx hb d_Mo_tellPutting_106 rfl (lv_at hl 1 rfl) ?_
              refine va_get (D := DD) (ci := 9) (v := .ref hwk) (C := R_Mo) (T := T_Mo) (N := 21) hx hb hg in_Mo hown hK hP 0 rfl rfl 17 (by decide) (hg _ mw_696) (fun _ h9 => h9) rfl d_Mo_tellPutting_107 ?_
              refine lv_iload hx hb d_Mo_tellPutting_110 (lv_at hl 4 rfl) ?_
              refine lv_iload_n hx hb d_Mo_tellPutting_112 rfl (lv_at hl 3 rfl) ?_
              refine z_iast hx hb hK hP hD hS 3 2 rfl rfl (by omega) (by decide) d_Mo_tellPutting_113 (fun H locs hP hD hS => ?_)
              have hP : va_P DD vwCl [(am, .inr (9, [.int (nI th), .int (nI n), .ref hk, .ref ht, .int (nI n1), .ref hk1, .ref ht1, .int (zb pb), .int (nI rn), .ref hfg, .ref hle, .ref hmo, .ref hwy, .int (nI (mT (cpF k wk n) tn i)), .ref htf, .long cm, .ref hod, .ref hwk, .ref hot, .int (nI ru), .ref hen])), (hk, .inl (ck, 150, .inl k)), (htf, .inl (ctf, 900, .inl (mF (cpF k wk n) tn tf i))), (hwk, .inl (cwk, 150, .inl (upd (opF (mP (cpF k wk n) i) i z) z ((mP (cpF k wk n) i) i))))] H := hP
              have hD : va_D A [(am, .inr (9, [.int (nI th), .int (nI n), .ref hk, .ref ht, .int (nI n1), .ref hk1, .ref ht1, .int (zb pb), .int (nI rn), .ref hfg, .ref hle, .ref hmo, .ref hwy, .int (nI (mT (cpF k wk n) tn i)), .ref htf, .long cm, .ref hod, .ref hwk, .ref hot, .int (nI ru), .ref hen])), (hk, .inl (ck, 150, .inl k)), (htf, .inl (ctf, 900, .inl (mF (cpF k wk n) tn tf i))), (hwk, .inl (cwk, 150, .inl (upd (opF (mP (cpF k wk n) i) i z) z ((mP (cpF k wk n) i) i))))] := hD
              rw [show upd (opF (mP (cpF k wk n) i) i z) z ((mP (cpF k wk n) i) i) = mP (cpF k wk n) (i + 1) from mP_s hz hv3] at hP hD
              refine lv_iload hx hb d_Mo_tellPutting_114 (lv_at hl 4 rfl) ?_
              refine lv_iload_n hx hb d_Mo_tellPutting_116 rfl (lv_at hl 2 rfl) ?_
              refine z_icmp_ge (tgt := 128) hx hb d_Mo_tellPutting_117 (by decide) (by omega) (by omega) (fun c_117 => ?_) (fun c_117 => ?_)
              · rw [show mF (cpF k wk n) tn tf i = mF (cpF k wk n) tn tf (i + 1) from mF_f (by rw [← hv3]; exact c_117)] at hP hD
                rw [show nI (mT (cpF k wk n) tn i) = nI (mT (cpF k wk n) tn (i + 1)) from congrArg nI (mT_f (by rw [← hv3]; exact c_117))] at hP hD
                refine lv_iinc (v := nI (i + 1)) (lv' := [(2, .int (nI (i + 1))), (1, .int (nI (q2 + 1))), (0, .ref am), (3, .int ((mP (cpF k wk n) i) i)), (4, .int (nI z))]) hx hb d_Mo_tellPutting_128 hl (k := 2) rfl (by exact nI_add i 1) (by decide) rfl (fun ls hl => ?_)
                refine lv_goto (tgt := 32) hx hb d_Mo_tellPutting_131 (by decide) ?_
                exact ih32 (i + 1) (q2 + 1) (by omega) (by omega) (by first | exact mC_t hq hv3 hq2 c_95 | exact mC_f hq hv3 hq2 c_95) (by omega) _ _ hP hD hS ls (lv_sub hl [2, 1, 0] rfl)
              · refine lv_aload_n hx hb d_Mo_tellPutting_120 rfl (lv_at hl 1 rfl) ?_
                refine lv_iconst (v := nI 1) hx hb d_Mo_tellPutting_121 (by decide) ?_
                refine lv_iload_n hx hb d_Mo_tellPutting_122 rfl (lv_at hl 2 rfl) ?_
                refine lv_iload hx hb d_Mo_tellPutting_123 (lv_at hl 4 rfl) ?_
                have hmt := mT_le (cpF k wk n) tn i
                have hPc := hP.sub (ws' := [(am, .inr (9, [.int (nI th), .int (nI n), .ref hk, .ref ht, .int (nI n1), .ref hk1, .ref ht1, .int (zb pb), .int (nI rn), .ref hfg, .ref hle, .ref hmo, .ref hwy, .int (nI (mT (cpF k wk n) tn i)), .ref htf, .long cm, .ref hod, .ref hwk, .ref hot, .int (nI ru), .ref hen])), (htf, .inl (ctf, 900, .inl (mF (cpF k wk n) tn tf i)))]) [0, 2] rfl
                have hKc := hK.sub (tys' := [(ctf, .int)]) [1] rfl
                have hDc := hD.sub (ws' := [(am, .inr (9, [.int (nI th), .int (nI n), .ref hk, .ref ht, .int (nI n1), .ref hk1, .ref ht1, .int (zb pb), .int (nI rn), .ref hfg, .ref hle, .ref hmo, .ref hwy, .int (nI (mT (cpF k wk n) tn i)), .ref htf, .long cm, .ref hod, .ref hwk, .ref hot, .int (nI ru), .ref hen])), (htf, .inl (ctf, 900, .inl (mF (cpF k wk n) tn tf i)))]) [0, 2] (by decide) rfl
                have hFc := va_free (wc := [(am, .inr (9, [.int (nI th), .int (nI n), .ref hk, .ref ht, .int (nI n1), .ref hk1, .ref ht1, .int (zb pb), .int (nI rn), .ref hfg, .ref hle, .ref hmo, .ref hwy, .int (nI (mT (cpF k wk n) tn i)), .ref htf, .long cm, .ref hod, .ref hwk, .ref hot, .int (nI ru), .ref hen])), (htf, .inl (ctf, 900, .inl (mF (cpF k wk n) tn tf i)))]) hD hS hA [0, 2] rfl
                refine va_callv (va_runV (As := [.int (nI 1), .int (nI i), .int (nI z)]) (rest := []) ⟨hx, hb, hml, hown, hg⟩ (c_Mo_tell l DD H.size am th n hk ht n1 hk1 ht1 pb rn hfg hle hmo hwy (mT (cpF k wk n) tn i) htf ctf (mF (cpF k wk n) tn tf i) cm hod hwk hot ru hen (nI 1) (nI i) (nI z) (by omega)) (cwV 3 hg (gi_V mw_831 mw_833 ms_Mo_tell mw_11 mw_834) rfl rfl rfl (by decide +kernel) ⟨Nat.le_of_ble_eq_true rfl, Nat.le_of_ble_eq_true rfl⟩) ⟨z_blindQ, va_recv hKc hPc (ci := 9) (q0 := 0) rfl rfl, z_preQ hPc hKc hDc⟩ rfl rfl hl.1 rfl (lv_room (Nat.le_of_ble_eq_true rfl)) d_Mo_tellPutting_125 ⟨Nat.zero_le _, Nat.zero_le _⟩) hS (fun q _ h => hFc q h) hFc (fun u9 t9 H9 locs ht9 hvm9 hw9 hB9 hz9 hk9 hS => ?_)
                obtain ⟨hP1, hK1, hD1⟩ := hB9
                rw [ht9] at hP1
                try dsimp only at hw9
                obtain ⟨hP, hD⟩ := va_join (wr := [(hk, .inl (ck, 150, .inl k)), (hwk, .inl (cwk, 150, .inl (mP (cpF k wk n) (i + 1))))]) (w1 := [(am, .inr (9, [.int (nI th), .int (nI n), .ref hk, .ref ht, .int (nI n1), .ref hk1, .ref ht1, .int (zb pb), .int (nI rn), .ref hfg, .ref hle, .ref hmo, .ref hwy, .int (nI ((mT (cpF k wk n) tn i) + 1)), .ref htf, .long cm, .ref hod, .ref hwk, .ref hot, .int (nI ru), .ref hen])), (htf, .inl (ctf, 900, .inl (tadd (mF (cpF k wk n) tn tf i) (mT (cpF k wk n) tn i) (nI 1) (nI i) (nI z))))]) hP hD [0, 2] [1, 3] rfl rfl (by decide) (by decide) hk9 hFc hP1 hD1
                generalize H9 = H at hP hS ⊢
                have hP : va_P DD vwCl [(hk, .inl (ck, 150, .inl k)), (hwk, .inl (cwk, 150, .inl (mP (cpF k wk n) (i + 1)))), (am, .inr (9, [.int (nI th), .int (nI n), .ref hk, .ref ht, .int (nI n1), .ref hk1, .ref ht1, .int (zb pb), .int (nI rn), .ref hfg, .ref hle, .ref hmo, .ref hwy, .int (nI ((mT (cpF k wk n) tn i) + 1)), .ref htf, .long cm, .ref hod, .ref hwk, .ref hot, .int (nI ru), .ref hen])), (htf, .inl (ctf, 900, .inl (tadd (mF (cpF k wk n) tn tf i) (mT (cpF k wk n) tn i) (nI 1) (nI i) (nI z))))] H := hP
                have hD : va_D A [(hk, .inl (ck, 150, .inl k)), (hwk, .inl (cwk, 150, .inl (mP (cpF k wk n) (i + 1)))), (am, .inr (9, [.int (nI th), .int (nI n), .ref hk, .ref ht, .int (nI n1), .ref hk1, .ref ht1, .int (zb pb), .int (nI rn), .ref hfg, .ref hle, .ref hmo, .ref hwy, .int (nI ((mT (cpF k wk n) tn i) + 1)), .ref htf, .long cm, .ref hod, .ref hwk, .ref hot, .int (nI ru), .ref hen])), (htf, .inl (ctf, 900, .inl (tadd (mF (cpF k wk n) tn tf i) (mT (cpF k wk n) tn i) (nI 1) (nI i) (nI z))))] := hD
                rw [show tadd (mF (cpF k wk n) tn tf i) (mT (cpF k wk n) tn i) (nI 1) (nI i) (nI z) = mF (cpF k wk n) tn tf (i + 1) from mF_t (by rw [← hv3]; exact c_117) hv3] at hP hD
                rw [show nI ((mT (cpF k wk n) tn i) + 1) = nI (mT (cpF k wk n) tn (i + 1)) from congrArg nI (mT_t (by rw [← hv3]; exact c_117))] at hP hD
                refine lv_iinc (v := nI (i + 1)) (lv' := [(2, .int (nI (i + 1))), (1, .int (nI (q2 + 1))), (0, .ref am), (3, .int ((mP (cpF k wk n) i) i)), (4, .int (nI z))]) hx hb d_Mo_tellPutting_128 hl (k := 2) rfl (by exact nI_add i 1) (by decide) rfl (fun ls hl => ?_)
                refine lv_goto (tgt := 32) hx hb d_Mo_tellPutting_131 (by decide) ?_
                exact ih32 (i + 1) (q2 + 1) (by omega) (by omega) (by first | exact mC_t hq hv3 hq2 c_95 | exact mC_f hq hv3 hq2 c_95) (by omega) _ _ (hP.sub [2, 0, 3, 1] rfl) (hD.sub [2, 0, 3, 1] (by decide) rfl) hS ls (lv_sub hl [2, 1, 0] rfl)
          · refine lv_aload_n hx hb d_Mo_tellPutting_55 rfl (lv_at hl 0 rfl) ?_
            refine va_get (D := DD) (ci := 9) (v := .ref hwk) (C := R_Mo) (T := T_Mo) (N := 21) hx hb hg in_Mo hown hK hP 0 rfl rfl 17 (by decide) (hg _ mw_696) (fun _ h9 => h9) rfl d_Mo_tellPutting_56 ?_
            refine lv_iload hx hb d_Mo_tellPutting_59 (lv_at hl 4 rfl) ?_
            refine lv_iconst (v := nI 1) hx hb d_Mo_tellPutting_61 (by decide) ?_
            refine z_isub hx hb d_Mo_tellPutting_62 (by omega) ?_
            refine z_iald hx hb hK hP 3 2 rfl rfl (by omega) (by decide) d_Mo_tellPutting_63 ?_
            rw [show (opF (mP (cpF k wk n) i) i z) (z - 1) = (mP (cpF k wk n) i) (z - 1) from opF_p _ c_52]
            refine lv_iload_n hx hb d_Mo_tellPutting_64 rfl (lv_at hl 3 rfl) ?_
            refine lv_icmp_le (tgt := 93) hx hb d_Mo_tellPutting_65 (by decide) (fun c_65 => ?_) (fun c_65 => ?_)
            · have hv3 : z = mTo (cpF k wk n) i := by first | exact tgW_x hv c_52 c_65 | exact tgW_0 hv c_52
              refine lv_iload hx hb d_Mo_tellPutting_93 (lv_at hl 4 rfl) ?_
              refine z_if_le (tgt := 104) hx hb d_Mo_tellPutting_95 (by decide) (by omega) (fun c_95 => ?_) (fun c_95 => ?_)
              · refine lv_iload_n hx hb d_Mo_tellPutting_104 rfl (lv_at hl 1 rfl) ?_
                refine lv_istore_n (lv' := [(1, .int (nI q2)), (0, .ref am), (2, .int (nI i)), (3, .int ((mP (cpF k wk n) i) i)), (4, .int (nI z))]) hx hb d_Mo_tellPutting_105 rfl hl (by decide) rfl (fun ls hl => ?_)
                refine lv_aload_n hx hb d_Mo_tellPutting_106 rfl (lv_at hl 1 rfl) ?_
                refine va_get (D := DD) (ci := 9) (v := .ref hwk) (C := R_Mo) (T := T_Mo) (N := 21) hx hb hg in_Mo hown hK hP 0 rfl rfl 17 (by decide) (hg _ mw_696) (fun _ h9 => h9) rfl d_Mo_tellPutting_107 ?_
                refine lv_iload hx hb d_Mo_tellPutting_110 (lv_at hl 4 rfl) ?_
                refine lv_iload_n hx hb d_Mo_tellPutting_112 rfl (lv_at hl 3 rfl) ?_
                refine z_iast hx hb hK hP hD hS 3 2 rfl rfl (by omega) (by decide) d_Mo_tellPutting_113 (fun H locs hP hD hS => ?_)
                have hP : va_P DD vwCl [(am, .inr (9, [.int (nI th), .int (nI n), .ref hk, .ref ht, .int (nI n1), .ref hk1, .ref ht1, .int (zb pb), .int (nI rn), .ref hfg, .ref hle, .ref hmo, .ref hwy, .int (nI (mT (cpF k wk n) tn i)), .ref htf, .long cm, .ref hod, .ref hwk, .ref hot, .int (nI ru), .ref hen])), (hk, .inl (ck, 150, .inl k)), (htf, .inl (ctf, 900, .inl (mF (cpF k wk n) tn tf i))), (hwk, .inl (cwk, 150, .inl (upd (opF (mP (cpF k wk n) i) i z) z ((mP (cpF k wk n) i) i))))] H := hP
                have hD : va_D A [(am, .inr (9, [.int (nI th), .int (nI n), .ref hk, .ref ht, .int (nI n1), .ref hk1, .ref ht1, .int (zb pb), .int (nI rn), .ref hfg, .ref hle, .ref hmo, .ref hwy, .int (nI (mT (cpF k wk n) tn i)), .ref htf, .long cm, .ref hod, .ref hwk, .ref hot, .int (nI ru), .ref hen])), (hk, .inl (ck, 150, .inl k)), (htf, .inl (ctf, 900, .inl (mF (cpF k wk n) tn tf i))), (hwk, .inl (cwk, 150, .inl (upd (opF (mP (cpF k wk n) i) i z) z ((mP (cpF k wk n) i) i))))] := hD
                rw [show upd (opF (mP (cpF k wk n) i) i z) z ((mP (cpF k wk n) i) i) = mP (cpF k wk n) (i + 1) from mP_s hz hv3] at hP hD
                refine lv_iload hx hb d_Mo_tellPutting_114 (lv_at hl 4 rfl) ?_
                refine lv_iload_n hx hb d_Mo_tellPutting_116 rfl (lv_at hl 2 rfl) ?_
                refine z_icmp_ge (tgt := 128) hx hb d_Mo_tellPutting_117 (by decide) (by omega) (by omega) (fun c_117 => ?_) (fun c_117 => ?_)
                · rw [show mF (cpF k wk n) tn tf i = mF (cpF k wk n) tn tf (i + 1) from mF_f (by rw [← hv3]; exact c_117)] at hP hD
                  rw [show nI (mT (cpF k wk n) tn i) = nI (mT (cpF k wk n) tn (i + 1)) from congrArg nI (mT_f (by rw [← hv3]; exact c_117))] at hP hD
                  refine lv_iinc (v := nI (i + 1)) (lv' := [(2, .int (nI (i + 1))), (1, .int (nI q2)), (0, .ref am), (3, .int ((mP (cpF k wk n) i) i)), (4, .int (nI z))]) hx hb d_Mo_tellPutting_128 hl (k := 2) rfl (by exact nI_add i 1) (by decide) rfl (fun ls hl => ?_)
                  refine lv_goto (tgt := 32) hx hb d_Mo_tellPutting_131 (by decide) ?_
                  exact ih32 (i + 1) q2 (by omega) (by omega) (by first | exact mC_t hq hv3 hq2 c_95 | exact mC_f hq hv3 hq2 c_95) (by omega) _ _ hP hD hS ls (lv_sub hl [2, 1, 0] rfl)
                · refine lv_aload_n hx hb d_Mo_tellPutting_120 rfl (lv_at hl 1 rfl) ?_
                  refine lv_iconst (v := nI 1) hx hb d_Mo_tellPutting_121 (by decide) ?_
                  refine lv_iload_n hx hb d_Mo_tellPutting_122 rfl (lv_at hl 2 rfl) ?_
                  refine lv_iload hx hb d_Mo_tellPutting_123 (lv_at hl 4 rfl) ?_
                  have hmt := mT_le (cpF k wk n) tn i
                  have hPc := hP.sub (ws' := [(am, .inr (9, [.int (nI th), .int (nI n), .ref hk, .ref ht, .int (nI n1), .ref hk1, .ref ht1, .int (zb pb), .int (nI rn), .ref hfg, .ref hle, .ref hmo, .ref hwy, .int (nI (mT (cpF k wk n) tn i)), .ref htf, .long cm, .ref hod, .ref hwk, .ref hot, .int (nI ru), .ref hen])), (htf, .inl (ctf, 900, .inl (mF (cpF k wk n) tn tf i)))]) [0, 2] rfl
                  have hKc := hK.sub (tys' := [(ctf, .int)]) [1] rfl
                  have hDc := hD.sub (ws' := [(am, .inr (9, [.int (nI th), .int (nI n), .ref hk, .ref ht, .int (nI n1), .ref hk1, .ref ht1, .int (zb pb), .int (nI rn), .ref hfg, .ref hle, .ref hmo, .ref hwy, .int (nI (mT (cpF k wk n) tn i)), .ref htf, .long cm, .ref hod, .ref hwk, .ref hot, .int (nI ru), .ref hen])), (htf, .inl (ctf, 900, .inl (mF (cpF k wk n) tn tf i)))]) [0, 2] (by decide) rfl
                  have hFc := va_free (wc := [(am, .inr (9, [.int (nI th), .int (nI n), .ref hk, .ref ht, .int (nI n1), .ref hk1, .ref ht1, .int (zb pb), .int (nI rn), .ref hfg, .ref hle, .ref hmo, .ref hwy, .int (nI (mT (cpF k wk n) tn i)), .ref htf, .long cm, .ref hod, .ref hwk, .ref hot, .int (nI ru), .ref hen])), (htf, .inl (ctf, 900, .inl (mF (cpF k wk n) tn tf i)))]) hD hS hA [0, 2] rfl
                  refine va_callv (va_runV (As := [.int (nI 1), .int (nI i), .int (nI z)]) (rest := []) ⟨hx, hb, hml, hown, hg⟩ (c_Mo_tell l DD H.size am th n hk ht n1 hk1 ht1 pb rn hfg hle hmo hwy (mT (cpF k wk n) tn i) htf ctf (mF (cpF k wk n) tn tf i) cm hod hwk hot ru hen (nI 1) (nI i) (nI z) (by omega)) (cwV 3 hg (gi_V mw_831 mw_833 ms_Mo_tell mw_11 mw_834) rfl rfl rfl (by decide +kernel) ⟨Nat.le_of_ble_eq_true rfl, Nat.le_of_ble_eq_true rfl⟩) ⟨z_blindQ, va_recv hKc hPc (ci := 9) (q0 := 0) rfl rfl, z_preQ hPc hKc hDc⟩ rfl rfl hl.1 rfl (lv_room (Nat.le_of_ble_eq_true rfl)) d_Mo_tellPutting_125 ⟨Nat.zero_le _, Nat.zero_le _⟩) hS (fun q _ h => hFc q h) hFc (fun u9 t9 H9 locs ht9 hvm9 hw9 hB9 hz9 hk9 hS => ?_)
                  obtain ⟨hP1, hK1, hD1⟩ := hB9
                  rw [ht9] at hP1
                  try dsimp only at hw9
                  obtain ⟨hP, hD⟩ := va_join (wr := [(hk, .inl (ck, 150, .inl k)), (hwk, .inl (cwk, 150, .inl (mP (cpF k wk n) (i + 1))))]) (w1 := [(am, .inr (9, [.int (nI th), .int (nI n), .ref hk, .ref ht, .int (nI n1), .ref hk1, .ref ht1, .int (zb pb), .int (nI rn), .ref hfg, .ref hle, .ref hmo, .ref hwy, .int (nI ((mT (cpF k wk n) tn i) + 1)), .ref htf, .long cm, .ref hod, .ref hwk, .ref hot, .int (nI ru), .ref hen])), (htf, .inl (ctf, 900, .inl (tadd (mF (cpF k wk n) tn tf i) (mT (cpF k wk n) tn i) (nI 1) (nI i) (nI z))))]) hP hD [0, 2] [1, 3] rfl rfl (by decide) (by decide) hk9 hFc hP1 hD1
                  generalize H9 = H at hP hS ⊢
                  have hP : va_P DD vwCl [(hk, .inl (ck, 150, .inl k)), (hwk, .inl (cwk, 150, .inl (mP (cpF k wk n) (i + 1)))), (am, .inr (9, [.int (nI th), .int (nI n), .ref hk, .ref ht, .int (nI n1), .ref hk1, .ref ht1, .int (zb pb), .int (nI rn), .ref hfg, .ref hle, .ref hmo, .ref hwy, .int (nI ((mT (cpF k wk n) tn i) + 1)), .ref htf, .long cm, .ref hod, .ref hwk, .ref hot, .int (nI ru), .ref hen])), (htf, .inl (ctf, 900, .inl (tadd (mF (cpF k wk n) tn tf i) (mT (cpF k wk n) tn i) (nI 1) (nI i) (nI z))))] H := hP
                  have hD : va_D A [(hk, .inl (ck, 150, .inl k)), (hwk, .inl (cwk, 150, .inl (mP (cpF k wk n) (i + 1)))), (am, .inr (9, [.int (nI th), .int (nI n), .ref hk, .ref ht, .int (nI n1), .ref hk1, .ref ht1, .int (zb pb), .int (nI rn), .ref hfg, .ref hle, .ref hmo, .ref hwy, .int (nI ((mT (cpF k wk n) tn i) + 1)), .ref htf, .long cm, .ref hod, .ref hwk, .ref hot, .int (nI ru), .ref hen])), (htf, .inl (ctf, 900, .inl (tadd (mF (cpF k wk n) tn tf i) (mT (cpF k wk n) tn i) (nI 1) (nI i) (nI z))))] := hD
                  rw [show tadd (mF (cpF k wk n) tn tf i) (mT (cpF k wk n) tn i) (nI 1) (nI i) (nI z) = mF (cpF k wk n) tn tf (i + 1) from mF_t (by rw [← hv3]; exact c_117) hv3] at hP hD
                  rw [show nI ((mT (cpF k wk n) tn i) + 1) = nI (mT (cpF k wk n) tn (i + 1)) from congrArg nI (mT_t (by rw [← hv3]; exact c_117))] at hP hD
                  refine lv_iinc (v := nI (i + 1)) (lv' := [(2, .int (nI (i + 1))), (1, .int (nI q2)), (0, .ref am), (3, .int ((mP (cpF k wk n) i) i)), (4, .int (nI z))]) hx hb d_Mo_tellPutting_128 hl (k := 2) rfl (by exact nI_add i 1) (by decide) rfl (fun ls hl => ?_)
                  refine lv_goto (tgt := 32) hx hb d_Mo_tellPutting_131 (by decide) ?_
                  exact ih32 (i + 1) q2 (by omega) (by omega) (by first | exact mC_t hq hv3 hq2 c_95 | exact mC_f hq hv3 hq2 c_95) (by omega) _ _ (hP.sub [2, 0, 3, 1] rfl) (hD.sub [2, 0, 3, 1] (by decide) rfl) hS ls (lv_sub hl [2, 1, 0] rfl)
              · refine lv_iload_n hx hb d_Mo_tellPutting_98 rfl (lv_at hl 1 rfl) ?_
                refine lv_iconst (v := nI 1) hx hb d_Mo_tellPutting_99 (by decide) ?_
                refine z_iadd hx hb d_Mo_tellPutting_100 ?_
                refine lv_goto (tgt := 105) hx hb d_Mo_tellPutting_101 (by decide) ?_
                refine lv_istore_n (lv' := [(1, .int (nI (q2 + 1))), (0, .ref am), (2, .int (nI i)), (3, .int ((mP (cpF k wk n) i) i)), (4, .int (nI z))]) hx hb d_Mo_tellPutting_105 rfl hl (by decide) rfl (fun ls hl => ?_)
                refine lv_aload_n hx hb d_Mo_tellPutting_106 rfl (lv_at hl 1 rfl) ?_
                refine va_get (D := DD) (ci := 9) (v := .ref hwk) (C := R_Mo) (T := T_Mo) (N := 21) hx hb hg in_Mo hown hK hP 0 rfl rfl 17 (by decide) (hg _ mw_696) (fun _ h9 => h9) rfl d_Mo_tellPutting_107 ?_
                refine lv_iload hx hb d_Mo_tellPutting_110 (lv_at hl 4 rfl) ?_
                refine lv_iload_n hx hb d_Mo_tellPutting_112 rfl (lv_at hl 3 rfl) ?_
                refine z_iast hx hb hK hP hD hS 3 2 rfl rfl (by omega) (by decide) d_Mo_tellPutting_113 (fun H locs hP hD hS => ?_)
                have hP : va_P DD vwCl [(am, .inr (9, [.int (nI th), .int (nI n), .ref hk, .ref ht, .int (nI n1), .ref hk1, .ref ht1, .int (zb pb), .int (nI rn), .ref hfg, .ref hle, .ref hmo, .ref hwy, .int (nI (mT (cpF k wk n) tn i)), .ref htf, .long cm, .ref hod, .ref hwk, .ref hot, .int (nI ru), .ref hen])), (hk, .inl (ck, 150, .inl k)), (htf, .inl (ctf, 900, .inl (mF (cpF k wk n) tn tf i))), (hwk, .inl (cwk, 150, .inl (upd (opF (mP (cpF k wk n) i) i z) z ((mP (cpF k wk n) i) i))))] H := hP
                have hD : va_D A [(am, .inr (9, [.int (nI th), .int (nI n), .ref hk, .ref ht, .int (nI n1), .ref hk1, .ref ht1, .int (zb pb), .int (nI rn), .ref hfg, .ref hle, .ref hmo, .ref hwy, .int (nI (mT (cpF k wk n) tn i)), .ref htf, .long cm, .ref hod, .ref hwk, .ref hot, .int (nI ru), .ref hen])), (hk, .inl (ck, 150, .inl k)), (htf, .inl (ctf, 900, .inl (mF (cpF k wk n) tn tf i))), (hwk, .inl (cwk, 150, .inl (upd (opF (mP (cpF k wk n) i) i z) z ((mP (cpF k wk n) i) i))))] := hD
                rw [show upd (opF (mP (cpF k wk n) i) i z) z ((mP (cpF k wk n) i) i) = mP (cpF k wk n) (i + 1) from mP_s hz hv3] at hP hD
                refine lv_iload hx hb d_Mo_tellPutting_114 (lv_at hl 4 rfl) ?_
                refine lv_iload_n hx hb d_Mo_tellPutting_116 rfl (lv_at hl 2 rfl) ?_
                refine z_icmp_ge (tgt := 128) hx hb d_Mo_tellPutting_117 (by decide) (by omega) (by omega) (fun c_117 => ?_) (fun c_117 => ?_)
                · rw [show mF (cpF k wk n) tn tf i = mF (cpF k wk n) tn tf (i + 1) from mF_f (by rw [← hv3]; exact c_117)] at hP hD
                  rw [show nI (mT (cpF k wk n) tn i) = nI (mT (cpF k wk n) tn (i + 1)) from congrArg nI (mT_f (by rw [← hv3]; exact c_117))] at hP hD
                  refine lv_iinc (v := nI (i + 1)) (lv' := [(2, .int (nI (i + 1))), (1, .int (nI (q2 + 1))), (0, .ref am), (3, .int ((mP (cpF k wk n) i) i)), (4, .int (nI z))]) hx hb d_Mo_tellPutting_128 hl (k := 2) rfl (by exact nI_add i 1) (by decide) rfl (fun ls hl => ?_)
                  refine lv_goto (tgt := 32) hx hb d_Mo_tellPutting_131 (by decide) ?_
                  exact ih32 (i + 1) (q2 + 1) (by omega) (by omega) (by first | exact mC_t hq hv3 hq2 c_95 | exact mC_f hq hv3 hq2 c_95) (by omega) _ _ hP hD hS ls (lv_sub hl [2, 1, 0] rfl)
                · refine lv_aload_n hx hb d_Mo_tellPutting_120 rfl (lv_at hl 1 rfl) ?_
                  refine lv_iconst (v := nI 1) hx hb d_Mo_tellPutting_121 (by decide) ?_
                  refine lv_iload_n hx hb d_Mo_tellPutting_122 rfl (lv_at hl 2 rfl) ?_
                  refine lv_iload hx hb d_Mo_tellPutting_123 (lv_at hl 4 rfl) ?_
                  have hmt := mT_le (cpF k wk n) tn i
                  have hPc := hP.sub (ws' := [(am, .inr (9, [.int (nI th), .int (nI n), .ref hk, .ref ht, .int (nI n1), .ref hk1, .ref ht1, .int (zb pb), .int (nI rn), .ref hfg, .ref hle, .ref hmo, .ref hwy, .int (nI (mT (cpF k wk n) tn i)), .ref htf, .long cm, .ref hod, .ref hwk, .ref hot, .int (nI ru), .ref hen])), (htf, .inl (ctf, 900, .inl (mF (cpF k wk n) tn tf i)))]) [0, 2] rfl
                  have hKc := hK.sub (tys' := [(ctf, .int)]) [1] rfl
                  have hDc := hD.sub (ws' := [(am, .inr (9, [.int (nI th), .int (nI n), .ref hk, .ref ht, .int (nI n1), .ref hk1, .ref ht1, .int (zb pb), .int (nI rn), .ref hfg, .ref hle, .ref hmo, .ref hwy, .int (nI (mT (cpF k wk n) tn i)), .ref htf, .long cm, .ref hod, .ref hwk, .ref hot, .int (nI ru), .ref hen])), (htf, .inl (ctf, 900, .inl (mF (cpF k wk n) tn tf i)))]) [0, 2] (by decide) rfl
                  have hFc := va_free (wc := [(am, .inr (9, [.int (nI th), .int (nI n), .ref hk, .ref ht, .int (nI n1), .ref hk1, .ref ht1, .int (zb pb), .int (nI rn), .ref hfg, .ref hle, .ref hmo, .ref hwy, .int (nI (mT (cpF k wk n) tn i)), .ref htf, .long cm, .ref hod, .ref hwk, .ref hot, .int (nI ru), .ref hen])), (htf, .inl (ctf, 900, .inl (mF (cpF k wk n) tn tf i)))]) hD hS hA [0, 2] rfl
                  refine va_callv (va_runV (As := [.int (nI 1), .int (nI i), .int (nI z)]) (rest := []) ⟨hx, hb, hml, hown, hg⟩ (c_Mo_tell l DD H.size am th n hk ht n1 hk1 ht1 pb rn hfg hle hmo hwy (mT (cpF k wk n) tn i) htf ctf (mF (cpF k wk n) tn tf i) cm hod hwk hot ru hen (nI 1) (nI i) (nI z) (by omega)) (cwV 3 hg (gi_V mw_831 mw_833 ms_Mo_tell mw_11 mw_834) rfl rfl rfl (by decide +kernel) ⟨Nat.le_of_ble_eq_true rfl, Nat.le_of_ble_eq_true rfl⟩) ⟨z_blindQ, va_recv hKc hPc (ci := 9) (q0 := 0) rfl rfl, z_preQ hPc hKc hDc⟩ rfl rfl hl.1 rfl (lv_room (Nat.le_of_ble_eq_true rfl)) d_Mo_tellPutting_125 ⟨Nat.zero_le _, Nat.zero_le _⟩) hS (fun q _ h => hFc q h) hFc (fun u9 t9 H9 locs ht9 hvm9 hw9 hB9 hz9 hk9 hS => ?_)
                  obtain ⟨hP1, hK1, hD1⟩ := hB9
                  rw [ht9] at hP1
                  try dsimp only at hw9
                  obtain ⟨hP, hD⟩ := va_join (wr := [(hk, .inl (ck, 150, .inl k)), (hwk, .inl (cwk, 150, .inl (mP (cpF k wk n) (i + 1))))]) (w1 := [(am, .inr (9, [.int (nI th), .int (nI n), .ref hk, .ref ht, .int (nI n1), .ref hk1, .ref ht1, .int (zb pb), .int (nI rn), .ref hfg, .ref hle, .ref hmo, .ref hwy, .int (nI ((mT (cpF k wk n) tn i) + 1)), .ref htf, .long cm, .ref hod, .ref hwk, .ref hot, .int (nI ru), .ref hen])), (htf, .inl (ctf, 900, .inl (tadd (mF (cpF k wk n) tn tf i) (mT (cpF k wk n) tn i) (nI 1) (nI i) (nI z))))]) hP hD [0, 2] [1, 3] rfl rfl (by decide) (by decide) hk9 hFc hP1 hD1
                  generalize H9 = H at hP hS ⊢
                  have hP : va_P DD vwCl [(hk, .inl (ck, 150, .inl k)), (hwk, .inl (cwk, 150, .inl (mP (cpF k wk n) (i + 1)))), (am, .inr (9, [.int (nI th), .int (nI n), .ref hk, .ref ht, .int (nI n1), .ref hk1, .ref ht1, .int (zb pb), .int (nI rn), .ref hfg, .ref hle, .ref hmo, .ref hwy, .int (nI ((mT (cpF k wk n) tn i) + 1)), .ref htf, .long cm, .ref hod, .ref hwk, .ref hot, .int (nI ru), .ref hen])), (htf, .inl (ctf, 900, .inl (tadd (mF (cpF k wk n) tn tf i) (mT (cpF k wk n) tn i) (nI 1) (nI i) (nI z))))] H := hP
                  have hD : va_D A [(hk, .inl (ck, 150, .inl k)), (hwk, .inl (cwk, 150, .inl (mP (cpF k wk n) (i + 1)))), (am, .inr (9, [.int (nI th), .int (nI n), .ref hk, .ref ht, .int (nI n1), .ref hk1, .ref ht1, .int (zb pb), .int (nI rn), .ref hfg, .ref hle, .ref hmo, .ref hwy, .int (nI ((mT (cpF k wk n) tn i) + 1)), .ref htf, .long cm, .ref hod, .ref hwk, .ref hot, .int (nI ru), .ref hen])), (htf, .inl (ctf, 900, .inl (tadd (mF (cpF k wk n) tn tf i) (mT (cpF k wk n) tn i) (nI 1) (nI i) (nI z))))] := hD
                  rw [show tadd (mF (cpF k wk n) tn tf i) (mT (cpF k wk n) tn i) (nI 1) (nI i) (nI z) = mF (cpF k wk n) tn tf (i + 1) from mF_t (by rw [← hv3]; exact c_117) hv3] at hP hD
                  rw [show nI ((mT (cpF k wk n) tn i) + 1) = nI (mT (cpF k wk n) tn (i + 1)) from congrArg nI (mT_t (by rw [← hv3]; exact c_117))] at hP hD
                  refine lv_iinc (v := nI (i + 1)) (lv' := [(2, .int (nI (i + 1))), (1, .int (nI (q2 + 1))), (0, .ref am), (3, .int ((mP (cpF k wk n) i) i)), (4, .int (nI z))]) hx hb d_Mo_tellPutting_128 hl (k := 2) rfl (by exact nI_add i 1) (by decide) rfl (fun ls hl => ?_)
                  refine lv_goto (tgt := 32) hx hb d_Mo_tellPutting_131 (by decide) ?_
                  exact ih32 (i + 1) (q2 + 1) (by omega) (by omega) (by first | exact mC_t hq hv3 hq2 c_95 | exact mC_f hq hv3 hq2 c_95) (by omega) _ _ (hP.sub [2, 0, 3, 1] rfl) (hD.sub [2, 0, 3, 1] (by decide) rfl) hS ls (lv_sub hl [2, 1, 0] rfl)
            · refine lv_aload_n hx hb d_Mo_tellPutting_68 rfl (lv_at hl 0 rfl) ?_
              refine va_get (D := DD) (ci := 9) (v := .ref hwk) (C := R_Mo) (T := T_Mo) (N := 21) hx hb hg in_Mo hown hK hP 0 rfl rfl 17 (by decide) (hg _ mw_696) (fun _ h9 => h9) rfl d_Mo_tellPutting_69 ?_
              refine lv_iload hx hb d_Mo_tellPutting_72 (lv_at hl 4 rfl) ?_
              refine lv_aload_n hx hb d_Mo_tellPutting_74 rfl (lv_at hl 0 rfl) ?_
              refine va_get (D := DD) (ci := 9) (v := .ref hwk) (C := R_Mo) (T := T_Mo) (N := 21) hx hb hg in_Mo hown hK hP 0 rfl rfl 17 (by decide) (hg _ mw_696) (fun _ h9 => h9) rfl d_Mo_tellPutting_75 ?_
              refine lv_iload hx hb d_Mo_tellPutting_78 (lv_at hl 4 rfl) ?_
              refine lv_iconst (v := nI 1) hx hb d_Mo_tellPutting_80 (by decide) ?_
              refine z_isub hx hb d_Mo_tellPutting_81 (by omega) ?_
              refine z_iald hx hb hK hP 3 2 rfl rfl (by omega) (by decide) d_Mo_tellPutting_82 ?_
              refine z_iast hx hb hK hP hD hS 3 2 rfl rfl (by omega) (by decide) d_Mo_tellPutting_83 (fun H locs hP hD hS => ?_)
              have hP : va_P DD vwCl [(am, .inr (9, [.int (nI th), .int (nI n), .ref hk, .ref ht, .int (nI n1), .ref hk1, .ref ht1, .int (zb pb), .int (nI rn), .ref hfg, .ref hle, .ref hmo, .ref hwy, .int (nI (mT (cpF k wk n) tn i)), .ref htf, .long cm, .ref hod, .ref hwk, .ref hot, .int (nI ru), .ref hen])), (hk, .inl (ck, 150, .inl k)), (htf, .inl (ctf, 900, .inl (mF (cpF k wk n) tn tf i))), (hwk, .inl (cwk, 150, .inl (upd (opF (mP (cpF k wk n) i) i z) z ((opF (mP (cpF k wk n) i) i z) (z - 1)))))] H := hP
              have hD : va_D A [(am, .inr (9, [.int (nI th), .int (nI n), .ref hk, .ref ht, .int (nI n1), .ref hk1, .ref ht1, .int (zb pb), .int (nI rn), .ref hfg, .ref hle, .ref hmo, .ref hwy, .int (nI (mT (cpF k wk n) tn i)), .ref htf, .long cm, .ref hod, .ref hwk, .ref hot, .int (nI ru), .ref hen])), (hk, .inl (ck, 150, .inl k)), (htf, .inl (ctf, 900, .inl (mF (cpF k wk n) tn tf i))), (hwk, .inl (cwk, 150, .inl (upd (opF (mP (cpF k wk n) i) i z) z ((opF (mP (cpF k wk n) i) i z) (z - 1)))))] := hD
              rw [show upd (opF (mP (cpF k wk n) i) i z) z ((opF (mP (cpF k wk n) i) i z) (z - 1)) = opF (mP (cpF k wk n) i) i (z - 1) from opF_s _ c_52 hz] at hP hD
              refine lv_iinc (v := nI (z - 1)) (lv' := [(4, .int (nI (z - 1))), (0, .ref am), (1, .int (nI q2)), (2, .int (nI i)), (3, .int ((mP (cpF k wk n) i) i))]) hx hb d_Mo_tellPutting_84 hl (k := 4) rfl (by exact z_dec 1 (by omega)) (by decide) rfl (fun ls hl => ?_)
              refine lv_iinc (v := nI (q2 + 1)) (lv' := [(1, .int (nI (q2 + 1))), (4, .int (nI (z - 1))), (0, .ref am), (2, .int (nI i)), (3, .int ((mP (cpF k wk n) i) i))]) hx hb d_Mo_tellPutting_87 hl (k := 2) rfl (by exact nI_add q2 1) (by decide) rfl (fun ls hl => ?_)
              refine lv_goto (tgt := 50) hx hb d_Mo_tellPutting_90 (by decide) ?_
              exact ih50 (z - 1) (q2 + 1) (by omega) (by omega) (by exact tgW_s hv c_52 c_65) (by omega) (by omega) _ _ hP hD hS ls (lv_sub hl [2, 0, 3, 4, 1] rfl)
      refine lv_iload_n hx hb d_Mo_tellPutting_32 rfl (lv_at hl 2 rfl) ?_
      refine lv_aload_n hx hb d_Mo_tellPutting_33 rfl (lv_at hl 0 rfl) ?_
      refine va_get (D := DD) (ci := 9) (v := .int (nI n)) (C := R_Mo) (T := T_Mo) (N := 21) hx hb hg in_Mo hown hK hP 0 rfl rfl 1 (by decide) (hg _ mw_680) (fun _ h9 => h9) rfl d_Mo_tellPutting_34 ?_
      refine z_icmp_ge (tgt := 134) hx hb d_Mo_tellPutting_37 (by decide) (by omega) (by omega) (fun c_37 => ?_) (fun c_37 => ?_)
      · rw [show mP (cpF k wk n) i = mP (cpF k wk n) n from one_eq (f := mP (cpF k wk n)) rfl c_37 hin] at hP hD
        rw [show mF (cpF k wk n) tn tf i = mF (cpF k wk n) tn tf n from one_eq (f := mF (cpF k wk n) tn tf) rfl c_37 hin] at hP hD
        rw [show nI (mT (cpF k wk n) tn i) = nI (mT (cpF k wk n) tn n) from congrArg nI (one_eq (f := mT (cpF k wk n) tn) rfl c_37 hin)] at hP hD
        refine lv_iload_n hx hb d_Mo_tellPutting_134 rfl (lv_at hl 1 rfl) ?_
        have hP9 := hP.sub (ws' := [(am, .inr (9, [.int (nI th), .int (nI n), .ref hk, .ref ht, .int (nI n1), .ref hk1, .ref ht1, .int (zb pb), .int (nI rn), .ref hfg, .ref hle, .ref hmo, .ref hwy, .int (nI (mT (cpF k wk n) tn n)), .ref htf, .long cm, .ref hod, .ref hwk, .ref hot, .int (nI ru), .ref hen])), (hk, .inl (ck, 150, .inl k)), (htf, .inl (ctf, 900, .inl (mF (cpF k wk n) tn tf n))), (hwk, .inl (cwk, 150, .inl (mP (cpF k wk n) n)))]) [0, 1, 2, 3] rfl
        have hD9 := hD.sub (ws' := [(am, .inr (9, [.int (nI th), .int (nI n), .ref hk, .ref ht, .int (nI n1), .ref hk1, .ref ht1, .int (zb pb), .int (nI rn), .ref hfg, .ref hle, .ref hmo, .ref hwy, .int (nI (mT (cpF k wk n) tn n)), .ref htf, .long cm, .ref hod, .ref hwk, .ref hot, .int (nI ru), .ref hen])), (hk, .inl (ck, 150, .inl k)), (htf, .inl (ctf, 900, .inl (mF (cpF k wk n) tn tf n))), (hwk, .inl (cwk, 150, .inl (mP (cpF k wk n) n)))]) [0, 1, 2, 3] (by decide) rfl
        exact W.iret (v := nI q) hx hb hr (fun t9 ht9 hW9 => ⟨⟨_, (), rfl, (by exact congrArg nI (hq.trans (one_eq (f := mC (cpF k wk n)) rfl c_37 hin))), by rw [ht9]; exact hP9, va_K.moved hW9.alike hK, hD9⟩, hS.F ht9⟩) hS.2.2 d_Mo_tellPutting_135
      · refine lv_aload_n hx hb d_Mo_tellPutting_40 rfl (lv_at hl 0 rfl) ?_
        refine va_get (D := DD) (ci := 9) (v := .ref hwk) (C := R_Mo) (T := T_Mo) (N := 21) hx hb hg in_Mo hown hK hP 0 rfl rfl 17 (by decide) (hg _ mw_696) (fun _ h9 => h9) rfl d_Mo_tellPutting_41 ?_
        refine lv_iload_n hx hb d_Mo_tellPutting_44 rfl (lv_at hl 2 rfl) ?_
        refine z_iald hx hb hK hP 3 2 rfl rfl (by omega) (by decide) d_Mo_tellPutting_45 ?_
        refine lv_istore_n (lv' := [(3, .int ((mP (cpF k wk n) i) i)), (0, .ref am), (1, .int (nI q)), (2, .int (nI i))]) hx hb d_Mo_tellPutting_46 rfl hl (by decide) rfl (fun ls hl => ?_)
        rw [show mP (cpF k wk n) i = opF (mP (cpF k wk n) i) i i from opF_0 _ i] at hP hD
        refine lv_iload_n hx hb d_Mo_tellPutting_47 rfl (lv_at hl 3 rfl) ?_
        refine lv_istore (lv' := [(4, .int (nI i)), (3, .int ((mP (cpF k wk n) i) i)), (0, .ref am), (1, .int (nI q)), (2, .int (nI i))]) hx hb d_Mo_tellPutting_48 hl (by decide) rfl (fun ls hl => ?_)
        exact K50 _ i q (by omega) (by omega) (by rfl) (by omega) (Nat.lt_succ_self _) _ _ hP hD hS ls (lv_sub hl [2, 3, 4, 1, 0] rfl)
  have K4 : ∀ (kk : Nat) (i : Nat), (hi : i ≤ n) → n - i < kk → ∀ (H : Heap) (locs : List Loc), va_P DD vwCl [(am, .inr (9, [.int (nI th), .int (nI n), .ref hk, .ref ht, .int (nI n1), .ref hk1, .ref ht1, .int (zb pb), .int (nI rn), .ref hfg, .ref hle, .ref hmo, .ref hwy, .int (nI tn), .ref htf, .long cm, .ref hod, .ref hwk, .ref hot, .int (nI ru), .ref hen])), (hk, .inl (ck, 150, .inl k)), (htf, .inl (ctf, 900, .inl tf)), (hwk, .inl (cwk, 150, .inl (cpF k wk i)))] H → va_D A [(am, .inr (9, [.int (nI th), .int (nI n), .ref hk, .ref ht, .int (nI n1), .ref hk1, .ref ht1, .int (zb pb), .int (nI rn), .ref hfg, .ref hle, .ref hmo, .ref hwy, .int (nI tn), .ref htf, .long cm, .ref hod, .ref hwk, .ref hot, .int (nI ru), .ref hen])), (hk, .inl (ck, 150, .inl k)), (htf, .inl (ctf, 900, .inl tf)), (hwk, .inl (cwk, 150, .inl (cpF k wk i)))] → va_S A s.heap H locs → ∀ (ls : Array Slot), lv_has ls 5 [(0, .ref am), (1, .int (nI 0)), (2, .int (nI i))] → W p l e (headSpec ws_Mo_tellPutting rm_Mo_tellPutting).room s m args below meth c H locs 0 0 (MQ below (va_Qi (fun (r9 : Int32) (u9 : Unit) => match u9 with | _ => r9 = nI (mC (cpF k wk n) n)) (fun (u9 : Unit) (t9 : State) => match u9 with | _ => va_P DD vwCl [(am, .inr (9, [.int (nI th), .int (nI n), .ref hk, .ref ht, .int (nI n1), .ref hk1, .ref ht1, .int (zb pb), .int (nI rn), .ref hfg, .ref hle, .ref hmo, .ref hwy, .int (nI (mT (cpF k wk n) tn n)), .ref htf, .long cm, .ref hod, .ref hwk, .ref hot, .int (nI ru), .ref hen])), (hk, .inl (ck, 150, .inl k)), (htf, .inl (ctf, 900, .inl (mF (cpF k wk n) tn tf n))), (hwk, .inl (cwk, 150, .inl (mP (cpF k wk n) n)))] t9.heap ∧ va_K DD vwCl [(ck, .int), (ctf, .int), (cwk, .int)] t9 ∧ va_D A [(am, .inr (9, [.int (nI th), .int (nI n), .ref hk, .ref ht, .int (nI n1), .ref hk1, .ref ht1, .int (zb pb), .int (nI rn), .ref hfg, .ref hle, .ref hmo, .ref hwy, .int (nI (mT (cpF k wk n) tn n)), .ref htf, .long cm, .ref hod, .ref hwk, .ref hot, .int (nI ru), .ref hen])), (hk, .inl (ck, 150, .inl k)), (htf, .inl (ctf, 900, .inl (mF (cpF k wk n) tn tf n))), (hwk, .inl (cwk, 150, .inl (mP (cpF k wk n) n)))]) A) args s 0 0 A) (F0 m 4 ls []) := by
    intro kk
    induction kk with
    | zero => intros; omega
    | succ kk ih4 =>
      intro i hi hkk H locs hP hD hS ls hl
      refine lv_iload_n hx hb d_Mo_tellPutting_4 rfl (lv_at hl 2 rfl) ?_
      refine lv_aload_n hx hb d_Mo_tellPutting_5 rfl (lv_at hl 0 rfl) ?_
      refine va_get (D := DD) (ci := 9) (v := .int (nI n)) (C := R_Mo) (T := T_Mo) (N := 21) hx hb hg in_Mo hown hK hP 0 rfl rfl 1 (by decide) (hg _ mw_680) (fun _ h9 => h9) rfl d_Mo_tellPutting_6 ?_
      refine z_icmp_ge (tgt := 30) hx hb d_Mo_tellPutting_9 (by decide) (by omega) (by omega) (fun c_9 => ?_) (fun c_9 => ?_)
      · rw [show cpF k wk i = mP (cpF k wk n) 1 from by rw [Nat.le_antisymm hi c_9]; rfl] at hP hD
        rw [show tf = mF (cpF k wk n) tn tf 1 from rfl] at hP hD
        rw [show nI tn = nI (mT (cpF k wk n) tn 1) from rfl] at hP hD
        refine lv_iconst (v := nI 1) hx hb d_Mo_tellPutting_30 (by decide) ?_
        refine lv_istore_n (lv' := [(2, .int (nI 1)), (0, .ref am), (1, .int (nI 0))]) hx hb d_Mo_tellPutting_31 rfl hl (by decide) rfl (fun ls hl => ?_)
        exact K32 _ 1 0 (by omega) (by omega) (by rfl) (Nat.lt_succ_self _) _ _ hP hD hS ls (lv_sub hl [1, 2, 0] rfl)
      · refine lv_aload_n hx hb d_Mo_tellPutting_12 rfl (lv_at hl 0 rfl) ?_
        refine va_get (D := DD) (ci := 9) (v := .ref hwk) (C := R_Mo) (T := T_Mo) (N := 21) hx hb hg in_Mo hown hK hP 0 rfl rfl 17 (by decide) (hg _ mw_696) (fun _ h9 => h9) rfl d_Mo_tellPutting_13 ?_
        refine lv_iload_n hx hb d_Mo_tellPutting_16 rfl (lv_at hl 2 rfl) ?_
        refine lv_aload_n hx hb d_Mo_tellPutting_17 rfl (lv_at hl 0 rfl) ?_
        refine va_get (D := DD) (ci := 9) (v := .ref hk) (C := R_Mo) (T := T_Mo) (N := 21) hx hb hg in_Mo hown hK hP 0 rfl rfl 2 (by decide) (hg _ mw_681) (fun _ h9 => h9) rfl d_Mo_tellPutting_18 ?_
        refine lv_iload_n hx hb d_Mo_tellPutting_21 rfl (lv_at hl 2 rfl) ?_
        refine z_iald hx hb hK hP 1 0 rfl rfl (by omega) (by decide) d_Mo_tellPutting_22 ?_
        refine z_iast hx hb hK hP hD hS 3 2 rfl rfl (by omega) (by decide) d_Mo_tellPutting_23 (fun H locs hP hD hS => ?_)
        have hP : va_P DD vwCl [(am, .inr (9, [.int (nI th), .int (nI n), .ref hk, .ref ht, .int (nI n1), .ref hk1, .ref ht1, .int (zb pb), .int (nI rn), .ref hfg, .ref hle, .ref hmo, .ref hwy, .int (nI tn), .ref htf, .long cm, .ref hod, .ref hwk, .ref hot, .int (nI ru), .ref hen])), (hk, .inl (ck, 150, .inl k)), (htf, .inl (ctf, 900, .inl tf)), (hwk, .inl (cwk, 150, .inl (upd (cpF k wk i) i (k i))))] H := hP
        have hD : va_D A [(am, .inr (9, [.int (nI th), .int (nI n), .ref hk, .ref ht, .int (nI n1), .ref hk1, .ref ht1, .int (zb pb), .int (nI rn), .ref hfg, .ref hle, .ref hmo, .ref hwy, .int (nI tn), .ref htf, .long cm, .ref hod, .ref hwk, .ref hot, .int (nI ru), .ref hen])), (hk, .inl (ck, 150, .inl k)), (htf, .inl (ctf, 900, .inl tf)), (hwk, .inl (cwk, 150, .inl (upd (cpF k wk i) i (k i))))] := hD
        rw [show upd (cpF k wk i) i (k i) = cpF k wk (i + 1) from cpF_s k wk i] at hP hD
        refine lv_iinc (v := nI (i + 1)) (lv' := [(2, .int (nI (i + 1))), (0, .ref am), (1, .int (nI 0))]) hx hb d_Mo_tellPutting_24 hl (k := 2) rfl (by exact nI_add i 1) (by decide) rfl (fun ls hl => ?_)
        refine lv_goto (tgt := 4) hx hb d_Mo_tellPutting_27 (by decide) ?_
        exact ih4 (i + 1) (by omega) (by omega) _ _ hP hD hS ls (lv_sub hl [1, 2, 0] rfl)
  refine lv_iconst (v := nI 0) hx hb d_Mo_tellPutting_0 (by decide) ?_
  refine lv_istore_n (lv' := [(1, .int (nI 0)), (0, .ref am)]) hx hb d_Mo_tellPutting_1 rfl hl (by decide) rfl (fun ls hl => ?_)
  rw [show wk = cpF k wk 0 from cpF_0 k wk] at hP hD
  refine lv_iconst (v := nI 0) hx hb d_Mo_tellPutting_2 (by decide) ?_
  refine lv_istore_n (lv' := [(2, .int (nI 0)), (1, .int (nI 0)), (0, .ref am)]) hx hb d_Mo_tellPutting_3 rfl hl (by decide) rfl (fun ls hl => ?_)
  exact K4 _ 0 (by omega) (Nat.lt_succ_self _) _ _ hP hD hS ls (lv_sub hl [2, 1, 0] rfl)
