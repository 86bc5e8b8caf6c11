theorem d_Ro_init_0 : decode b_Ro_init 0 = .ok (.aload_n 0, 1) := by decide +kernel
theorem d_Ro_init_1 : decode b_Ro_init 1 = .ok (.invokespecial 3, 3) := by decide +kernel
theorem d_Ro_init_4 : decode b_Ro_init 4 = .ok (.aload_n 0, 1) := by decide +kernel
theorem d_Ro_init_5 : decode b_Ro_init 5 = .ok (.sipush 150, 3) := by decide +kernel
theorem d_Ro_init_8 : decode b_Ro_init 8 = .ok (.newarray .int, 2) := by decide +kernel
theorem d_Ro_init_10 : decode b_Ro_init 10 = .ok (.putfield 9, 3) := by decide +kernel
theorem d_Ro_init_13 : decode b_Ro_init 13 = .ok (.aload_n 0, 1) := by decide +kernel
theorem d_Ro_init_14 : decode b_Ro_init 14 = .ok (.sipush 150, 3) := by decide +kernel
theorem d_Ro_init_17 : decode b_Ro_init 17 = .ok (.newarray .int, 2) := by decide +kernel
theorem d_Ro_init_19 : decode b_Ro_init 19 = .ok (.putfield 15, 3) := by decide +kernel
theorem d_Ro_init_22 : decode b_Ro_init 22 = .ok (.return_, 1) := by decide +kernel
abbrev ws_Ro_init : List Cond := .code y_Ro_init b_Ro_init 1 none :: ALLG
abbrev rm_Ro_init : Room := { frames := 1, cells := 2, slots := 300, locals := 12 }
set_option maxHeartbeats 4000000 in
set_option maxRecDepth 100000 in
theorem c_Ro_init (l : Launch) (DD : va_G) (sz : Nat) (h : Nat) : Met l y_Ro_init ws_Ro_init rm_Ro_init (va_Pc [.ref h] (fun U => U.heap.size = sz ∧ va_P DD vwCl [(h, .inr (4, [.null, .null, .int (nI 0)]))] U.heap ∧ va_K DD vwCl [] U ∧ va_D (fun _ => True) [(h, .inr (4, [.null, .null, .int (nI 0)]))])) (va_Qv (fun (u9 : Nat × ClassId × Nat × ClassId) => match u9 with | (hk, ck, ht, ct) => True) (fun (u9 : Nat × ClassId × Nat × ClassId) (t9 : State) => match u9 with | (hk, ck, ht, ct) => va_P DD vwCl [(h, .inr (4, [.ref hk, .ref ht, .int (nI 0)])), (hk, .inl (ck, 150, .inl zI)), (ht, .inl (ct, 150, .inl zI))] t9.heap ∧ va_K DD vwCl [(ck, .int), (ct, .int)] t9 ∧ va_D (va_A [(h, .inr (4, [.null, .null, .int (nI 0)]))] sz) [(h, .inr (4, [.ref hk, .ref ht, .int (nI 0)])), (hk, .inl (ck, 150, .inl zI)), (ht, .inl (ct, 150, .inl zI))]) (va_A [(h, .inr (4, [.null, .null, .int (nI 0)]))] sz)) 2 300 (va_A [(h, .inr (4, [.null, .null, .int (nI 0)]))] sz) := by
  refine Met.ofW (cc := b_Ro_init) (maxL := 1) (ret := none) (by decide) rfl ?_
  intro p e s m args below meth c s₁ B hml hv
  obtain ⟨ha, hsz, hP, hK, hD0⟩ := hv
  have hx := B.exec
  have hb := B.bytes
  have hr := B.returns
  have hts := atoms_spec (ws := ws_Ro_init) B.pre
  have hg : ∀ w ∈ ALLG, w.before args s = true := fun w h => hts w (List.mem_cons_of_mem _ h)
  have hown : s.vm.findClass R_Ro = some m.cls := findClass_of_methodNamed B.named
  have hlocks := B.notSynchronized
  have hin : meth.name = "<init>" := (name_of_methodNamed B.named B.method).1
  subst hsz
  have hD := hD0.self (sz := s.heap.size)
  generalize hAe : va_A [(h, .inr (4, [.null, .null, .int (nI 0)]))] s.heap.size = A at hD ⊢
  have hA : ∀ q : Nat, s.heap.size ≤ q → A q := fun q h => by rw [← hAe]; exact Or.inr h
  have hS : va_S A s.heap s.heap [] := va_S.rf
  have hP : va_P DD vwCl [(h, .inr (4, [.null, .null, .int (nI 0)]))] s.heap := hP
  have hl := lv_entry ([.ref h]) (n := 1) (Nat.le_of_ble_eq_true rfl)
  rw [ha, lg_entry_eq, ← ha]
  generalize (lg_sl ([.ref h]) ++ List.replicate (1 - (lg_sl ([.ref h])).length) Slot.unset).toArray = ls at hl ⊢
  have hl : lv_has ls 1 [(0, .ref h)] := hl
  refine lv_aload_n hx hb d_Ro_init_0 rfl (lv_at hl 0 rfl) ?_
  refine W.objInit hx hb hown (hg _ mw_34) (hg _ mw_27) (hg _ mw_28) rfl (by rw [hml]; exact hl.1) rfl d_Ro_init_1 (Nat.le_of_ble_eq_true rfl) (Nat.le_of_ble_eq_true rfl) ?_
  refine W.eq (g2 := F0 m 4 ls []) rfl ?_
  refine lv_aload_n hx hb d_Ro_init_4 rfl (lv_at hl 0 rfl) ?_
  refine lv_sipush (v := nI 150) hx hb d_Ro_init_5 (by decide) ?_
  refine va_newa (atype := .int) (ty := .int) (a0 := (150, .inl zI)) hx hb (hg _ mw_45) rfl hK hP hD hS hA (fun _ => rfl) (by decide) (by decide) (by decide) (Nat.le_of_ble_eq_true rfl) (Nat.le_of_ble_eq_true rfl) d_Ro_init_8 (fun q_8 cA_8 H hK hP hD hS => ?_)
  have hK : va_K DD vwCl [(cA_8, .int)] s := hK
  have hP : va_P DD vwCl [(h, .inr (4, [.null, .null, .int (nI 0)])), (q_8, .inl (cA_8, 150, .inl zI))] H := hP
  have hD : va_D A [(h, .inr (4, [.null, .null, .int (nI 0)])), (q_8, .inl (cA_8, 150, .inl zI))] := hD
  refine W.widen (k := 1) (n := 150) (by decide) (by decide) ?_
  refine va_putF (D := DD) (ci := 4) (v := .ref q_8) (ty := .array .int) (C := R_Ro) (T := T_Ro) (N := 3) hx hb hg in_Ro t_Ro to_Ro n_Ro hown hK hP hD hS 0 rfl rfl 0 (by decide) (hg _ mw_35) (fun _ h9 => h9) rfl hin rfl (by decide +kernel) rfl rfl (Nat.le_of_ble_eq_true rfl) d_Ro_init_10 (fun H locs hP hD hS => ?_)
  have hP : va_P DD vwCl [(h, .inr (4, [.ref q_8, .null, .int (nI 0)])), (q_8, .inl (cA_8, 150, .inl zI))] H := hP
  have hD : va_D A [(h, .inr (4, [.ref q_8, .null, .int (nI 0)])), (q_8, .inl (cA_8, 150, .inl zI))] := hD
  refine lv_aload_n hx hb d_Ro_init_13 rfl (lv_at hl 0 rfl) ?_
  refine lv_sipush (v := nI 150) hx hb d_Ro_init_14 (by decide) ?_
  refine va_newa (atype := .int) (ty := .int) (a0 := (150, .inl zI)) hx hb (hg _ mw_45) rfl hK hP hD hS hA (fun _ => rfl) (by decide) (by decide) (by decide) (Nat.le_of_ble_eq_true rfl) (Nat.le_of_ble_eq_true rfl) d_Ro_init_17 (fun q_17 cA_17 H hK hP hD hS => ?_)
  have hK : va_K DD vwCl [(cA_8, .int), (cA_17, .int)] s := hK
  have hP : va_P DD vwCl [(h, .inr (4, [.ref q_8, .null, .int (nI 0)])), (q_8, .inl (cA_8, 150, .inl zI)), (q_17, .inl (cA_17, 150, .inl zI))] H := hP
  have hD : va_D A [(h, .inr (4, [.ref q_8, .null, .int (nI 0)])), (q_8, .inl (cA_8, 150, .inl zI)), (q_17, .inl (cA_17, 150, .inl zI))] := hD
  refine W.widen (k := 2) (n := 300) (by decide) (by decide) ?_
  refine va_putF (D := DD) (ci := 4) (v := .ref q_17) (ty := .array .int) (C := R_Ro) (T := T_Ro) (N := 3) hx hb hg in_Ro t_Ro to_Ro n_Ro hown hK hP hD hS 0 rfl rfl 1 (by decide) (hg _ mw_36) (fun _ h9 => h9) rfl hin rfl (by decide +kernel) rfl rfl (Nat.le_of_ble_eq_true rfl) d_Ro_init_19 (fun H locs hP hD hS => ?_)
  have hP : va_P DD vwCl [(h, .inr (4, [.ref q_8, .ref q_17, .int (nI 0)])), (q_8, .inl (cA_8, 150, .inl zI)), (q_17, .inl (cA_17, 150, .inl zI))] H := hP
  have hD : va_D A [(h, .inr (4, [.ref q_8, .ref q_17, .int (nI 0)])), (q_8, .inl (cA_8, 150, .inl zI)), (q_17, .inl (cA_17, 150, .inl zI))] := hD
  refine W.widen (k := 2) (n := 300) (by decide) (by decide) ?_
  have hK9 := hK.sub (tys' := [(cA_8, .int), (cA_17, .int)]) [0, 1] rfl
  have hP9 := hP.sub (ws' := [(h, .inr (4, [.ref q_8, .ref q_17, .int (nI 0)])), (q_8, .inl (cA_8, 150, .inl zI)), (q_17, .inl (cA_17, 150, .inl zI))]) [0, 1, 2] rfl
  have hD9 := hD.sub (ws' := [(h, .inr (4, [.ref q_8, .ref q_17, .int (nI 0)])), (q_8, .inl (cA_8, 150, .inl zI)), (q_17, .inl (cA_17, 150, .inl zI))]) [0, 1, 2] (by decide) rfl
  exact W.vret hx hb hr (fun t9 ht9 hW9 => ⟨⟨(q_8, cA_8, q_17, cA_17), rfl, trivial, by rw [ht9]; exact hP9, va_K.moved hW9.alike hK9, hD9⟩, hS.F ht9⟩) hS.2.2 d_Ro_init_22
theorem d_Ru_init_0 : decode b_Ru_init 0 = .ok (.aload_n 0, 1) := by decide +kernel
theorem d_Ru_init_1 : decode b_Ru_init 1 = .ok (.invokespecial 3, 3) := by decide +kernel
theorem d_Ru_init_4 : decode b_Ru_init 4 = .ok (.aload_n 0, 1) := by decide +kernel
theorem d_Ru_init_5 : decode b_Ru_init 5 = .ok (.bipush 12, 2) := by decide +kernel
theorem d_Ru_init_7 : decode b_Ru_init 7 = .ok (.newarray .int, 2) := by decide +kernel
theorem d_Ru_init_9 : decode b_Ru_init 9 = .ok (.putfield 9, 3) := by decide +kernel
theorem d_Ru_init_12 : decode b_Ru_init 12 = .ok (.aload_n 0, 1) := by decide +kernel
theorem d_Ru_init_13 : decode b_Ru_init 13 = .ok (.bipush 12, 2) := by decide +kernel
theorem d_Ru_init_15 : decode b_Ru_init 15 = .ok (.newarray .long, 2) := by decide +kernel
theorem d_Ru_init_17 : decode b_Ru_init 17 = .ok (.putfield 15, 3) := by decide +kernel
theorem d_Ru_init_20 : decode b_Ru_init 20 = .ok (.aload_n 0, 1) := by decide +kernel
theorem d_Ru_init_21 : decode b_Ru_init 21 = .ok (.bipush 12, 2) := by decide +kernel
theorem d_Ru_init_23 : decode b_Ru_init 23 = .ok (.newarray .long, 2) := by decide +kernel
theorem d_Ru_init_25 : decode b_Ru_init 25 = .ok (.putfield 19, 3) := by decide +kernel
theorem d_Ru_init_28 : decode b_Ru_init 28 = .ok (.aload_n 0, 1) := by decide +kernel
theorem d_Ru_init_29 : decode b_Ru_init 29 = .ok (.bipush 12, 2) := by decide +kernel
theorem d_Ru_init_31 : decode b_Ru_init 31 = .ok (.newarray .int, 2) := by decide +kernel
theorem d_Ru_init_33 : decode b_Ru_init 33 = .ok (.putfield 22, 3) := by decide +kernel
theorem d_Ru_init_36 : decode b_Ru_init 36 = .ok (.return_, 1) := by decide +kernel
abbrev ws_Ru_init : List Cond := .code y_Ru_init b_Ru_init 1 none :: ALLG
abbrev rm_Ru_init : Room := { frames := 1, cells := 4, slots := 48, locals := 12 }
set_option maxHeartbeats 4000000 in
set_option maxRecDepth 100000 in
theorem c_Ru_init (l : Launch) (DD : va_G) (sz : Nat) (ar : Nat) : Met l y_Ru_init ws_Ru_init rm_Ru_init (va_Pc [.ref ar] (fun U => U.heap.size = sz ∧ va_P DD vwCl [(ar, .inr (5, [.null, .null, .null, .null, .int (nI 0)]))] U.heap ∧ va_K DD vwCl [] U ∧ va_D (fun _ => True) [(ar, .inr (5, [.null, .null, .null, .null, .int (nI 0)]))])) (va_Qv (fun (u9 : Nat × ClassId × Nat × ClassId × Nat × ClassId × Nat × ClassId) => match u9 with | (hfg, cfg, hle, cle, hmo, cmo, hwy, cwy) => True) (fun (u9 : Nat × ClassId × Nat × ClassId × Nat × ClassId × Nat × ClassId) (t9 : State) => match u9 with | (hfg, cfg, hle, cle, hmo, cmo, hwy, cwy) => va_P DD vwCl [(ar, .inr (5, [.ref hfg, .ref hle, .ref hmo, .ref hwy, .int (nI 0)])), (hfg, .inl (cfg, 12, .inl (nF zN))), (hle, .inl (cle, 12, .inr (.inl zL))), (hmo, .inl (cmo, 12, .inr (.inl zL))), (hwy, .inl (cwy, 12, .inl (nF zN)))] t9.heap ∧ va_K DD vwCl [(cfg, .int), (cle, .long), (cmo, .long), (cwy, .int)] t9 ∧ va_D (va_A [(ar, .inr (5, [.null, .null, .null, .null, .int (nI 0)]))] sz) [(ar, .inr (5, [.ref hfg, .ref hle, .ref hmo, .ref hwy, .int (nI 0)])), (hfg, .inl (cfg, 12, .inl (nF zN))), (hle, .inl (cle, 12, .inr (.inl zL))), (hmo, .inl (cmo, 12, .inr (.inl zL))), (hwy, .inl (cwy, 12, .inl (nF zN)))]) (va_A [(ar, .inr (5, [.null, .null, .null, .null, .int (nI 0)]))] sz)) 4 48 (va_A [(ar, .inr (5, [.null, .null, .null, .null, .int (nI 0)]))] sz) := by
  refine Met.ofW (cc := b_Ru_init) (maxL := 1) (ret := none) (by decide) rfl ?_
  intro p e s m args below meth c s₁ B hml hv
  obtain ⟨ha, hsz, hP, hK, hD0⟩ := hv
  have hx := B.exec
  have hb := B.bytes
  have hr := B.returns
  have hts := atoms_spec (ws := ws_Ru_init) B.pre
  have hg : ∀ w ∈ ALLG, w.before args s = true := fun w h => hts w (List.mem_cons_of_mem _ h)
  have hown : s.vm.findClass R_Ru = some m.cls := findClass_of_methodNamed B.named
  have hlocks := B.notSynchronized
  have hin : meth.name = "<init>" := (name_of_methodNamed B.named B.method).1
  subst hsz
  have hD := hD0.self (sz := s.heap.size)
  generalize hAe : va_A [(ar, .inr (5, [.null, .null, .null, .null, .int (nI 0)]))] s.heap.size = A at hD ⊢
  have hA : ∀ q : Nat, s.heap.size ≤ q → A q := fun q h => by rw [← hAe]; exact Or.inr h
  have hS : va_S A s.heap s.heap [] := va_S.rf
  have hP : va_P DD vwCl [(ar, .inr (5, [.null, .null, .null, .null, .int (nI 0)]))] s.heap := hP
  have hl := lv_entry ([.ref ar]) (n := 1) (Nat.le_of_ble_eq_true rfl)
  rw [ha, lg_entry_eq, ← ha]
  generalize (lg_sl ([.ref ar]) ++ List.replicate (1 - (lg_sl ([.ref ar])).length) Slot.unset).toArray = ls at hl ⊢
  have hl : lv_has ls 1 [(0, .ref ar)] := hl
  refine lv_aload_n hx hb d_Ru_init_0 rfl (lv_at hl 0 rfl) ?_
  refine W.objInit hx hb hown (hg _ mw_51) (hg _ mw_27) (hg _ mw_28) rfl (by rw [hml]; exact hl.1) rfl d_Ru_init_1 (Nat.le_of_ble_eq_true rfl) (Nat.le_of_ble_eq_true rfl) ?_
  refine W.eq (g2 := F0 m 4 ls []) rfl ?_
  refine lv_aload_n hx hb d_Ru_init_4 rfl (lv_at hl 0 rfl) ?_
  refine lv_bipush (v := nI 12) hx hb d_Ru_init_5 (by decide) ?_
  refine va_newa (atype := .int) (ty := .int) (a0 := (12, .inl (nF zN))) hx hb (hg _ mw_45) rfl hK hP hD hS hA (fun _ => rfl) (by decide) (by decide) (by decide) (Nat.le_of_ble_eq_true rfl) (Nat.le_of_ble_eq_true rfl) d_Ru_init_7 (fun q_7 cA_7 H hK hP hD hS => ?_)
  have hK : va_K DD vwCl [(cA_7, .int)] s := hK
  have hP : va_P DD vwCl [(ar, .inr (5, [.null, .null, .null, .null, .int (nI 0)])), (q_7, .inl (cA_7, 12, .inl (nF zN)))] H := hP
  have hD : va_D A [(ar, .inr (5, [.null, .null, .null, .null, .int (nI 0)])), (q_7, .inl (cA_7, 12, .inl (nF zN)))] := hD
  refine W.widen (k := 1) (n := 12) (by decide) (by decide) ?_
  refine va_putF (D := DD) (ci := 5) (v := .ref q_7) (ty := .array .int) (C := R_Ru) (T := T_Ru) (N := 5) hx hb hg in_Ru t_Ru to_Ru n_Ru hown hK hP hD hS 0 rfl rfl 0 (by decide) (hg _ mw_52) (fun _ h9 => h9) rfl hin rfl (by decide +kernel) rfl rfl (Nat.le_of_ble_eq_true rfl) d_Ru_init_9 (fun H locs hP hD hS => ?_)
  have hP : va_P DD vwCl [(ar, .inr (5, [.ref q_7, .null, .null, .null, .int (nI 0)])), (q_7, .inl (cA_7, 12, .inl (nF zN)))] H := hP
  have hD : va_D A [(ar, .inr (5, [.ref q_7, .null, .null, .null, .int (nI 0)])), (q_7, .inl (cA_7, 12, .inl (nF zN)))] := hD
  refine lv_aload_n hx hb d_Ru_init_12 rfl (lv_at hl 0 rfl) ?_
  refine lv_bipush (v := nI 12) hx hb d_Ru_init_13 (by decide) ?_
  refine va_newa (atype := .long) (ty := .long) (a0 := (12, .inr (.inl zL))) hx hb (hg _ mw_68) rfl hK hP hD hS hA (fun _ => rfl) (by decide) (by decide) (by decide) (Nat.le_of_ble_eq_true rfl) (Nat.le_of_ble_eq_true rfl) d_Ru_init_15 (fun q_15 cA_15 H hK hP hD hS => ?_)
  have hK : va_K DD vwCl [(cA_7, .int), (cA_15, .long)] s := hK
  have hP : va_P DD vwCl [(ar, .inr (5, [.ref q_7, .null, .null, .null, .int (nI 0)])), (q_7, .inl (cA_7, 12, .inl (nF zN))), (q_15, .inl (cA_15, 12, .inr (.inl zL)))] H := hP
  have hD : va_D A [(ar, .inr (5, [.ref q_7, .null, .null, .null, .int (nI 0)])), (q_7, .inl (cA_7, 12, .inl (nF zN))), (q_15, .inl (cA_15, 12, .inr (.inl zL)))] := hD
  refine W.widen (k := 2) (n := 24) (by decide) (by decide) ?_
  refine va_putF (D := DD) (ci := 5) (v := .ref q_15) (ty := .array .long) (C := R_Ru) (T := T_Ru) (N := 5) hx hb hg in_Ru t_Ru to_Ru n_Ru hown hK hP hD hS 0 rfl rfl 1 (by decide) (hg _ mw_53) (fun _ h9 => h9) rfl hin rfl (by decide +kernel) rfl rfl (Nat.le_of_ble_eq_true rfl) d_Ru_init_17 (fun H locs hP hD hS => ?_)
  have hP : va_P DD vwCl [(ar, .inr (5, [.ref q_7, .ref q_15, .null, .null, .int (nI 0)])), (q_7, .inl (cA_7, 12, .inl (nF zN))), (q_15, .inl (cA_15, 12, .inr (.inl zL)))] H := hP
  have hD : va_D A [(ar, .inr (5, [.ref q_7, .ref q_15, .null, .null, .int (nI 0)])), (q_7, .inl (cA_7, 12, .inl (nF zN))), (q_15, .inl (cA_15, 12, .inr (.inl zL)))] := hD
  refine lv_aload_n hx hb d_Ru_init_20 rfl (lv_at hl 0 rfl) ?_
  refine lv_bipush (v := nI 12) hx hb d_Ru_init_21 (by decide) ?_
  refine va_newa (atype := .long) (ty := .long) (a0 := (12, .inr (.inl zL))) hx hb (hg _ mw_68) rfl hK hP hD hS hA (fun _ => rfl) (by decide) (by decide) (by decide) (Nat.le_of_ble_eq_true rfl) (Nat.le_of_ble_eq_true rfl) d_Ru_init_23 (fun q_23 cA_23 H hK hP hD hS => ?_)
  have hK : va_K DD vwCl [(cA_7, .int), (cA_15, .long), (cA_23, .long)] s := hK
  have hP : va_P DD vwCl [(ar, .inr (5, [.ref q_7, .ref q_15, .null, .null, .int (nI 0)])), (q_7, .inl (cA_7, 12, .inl (nF zN))), (q_15, .inl (cA_15, 12, .inr (.inl zL))), (q_23, .inl (cA_23, 12, .inr (.inl zL)))] H := hP
  have hD : va_D A [(ar, .inr (5, [.ref q_7, .ref q_15, .null, .null, .int (nI 0)])), (q_7, .inl (cA_7, 12, .inl (nF zN))), (q_15, .inl (cA_15, 12, .inr (.inl zL))), (q_23, .inl (cA_23, 12, .inr (.inl zL)))] := hD
  refine W.widen (k := 3) (n := 36) (by decide) (by decide) ?_
  refine va_putF (D := DD) (ci := 5) (v := .ref q_23) (ty := .array .long) (C := R_Ru) (T := T_Ru) (N := 5) hx hb hg in_Ru t_Ru to_Ru n_Ru hown hK hP hD hS 0 rfl rfl 2 (by decide) (hg _ mw_54) (fun _ h9 => h9) rfl hin rfl (by decide +kernel) rfl rfl (Nat.le_of_ble_eq_true rfl) d_Ru_init_25 (fun H locs hP hD hS => ?_)
  have hP : va_P DD vwCl [(ar, .inr (5, [.ref q_7, .ref q_15, .ref q_23, .null, .int (nI 0)])), (q_7, .inl (cA_7, 12, .inl (nF zN))), (q_15, .inl (cA_15, 12, .inr (.inl zL))), (q_23, .inl (cA_23, 12, .inr (.inl zL)))] H := hP
  have hD : va_D A [(ar, .inr (5, [.ref q_7, .ref q_15, .ref q_23, .null, .int (nI 0)])), (q_7, .inl (cA_7, 12, .inl (nF zN))), (q_15, .inl (cA_15, 12, .inr (.inl zL))), (q_23, .inl (cA_23, 12, .inr (.inl zL)))] := hD
  refine lv_aload_n hx hb d_Ru_init_28 rfl (lv_at hl 0 rfl) ?_
  refine lv_bipush (v := nI 12) hx hb d_Ru_init_29 (by decide) ?_
  refine va_newa (atype := .int) (ty := .int) (a0 := (12, .inl (nF zN))) hx hb (hg _ mw_45) rfl hK hP hD hS hA (fun _ => rfl) (by decide) (by decide) (by decide) (Nat.le_of_ble_eq_true rfl) (Nat.le_of_ble_eq_true rfl) d_Ru_init_31 (fun q_31 cA_31 H hK hP hD hS => ?_)
  have hK : va_K DD vwCl [(cA_7, .int), (cA_15, .long), (cA_23, .long), (cA_31, .int)] s := hK
  have hP : va_P DD vwCl [(ar, .inr (5, [.ref q_7, .ref q_15, .ref q_23, .null, .int (nI 0)])), (q_7, .inl (cA_7, 12, .inl (nF zN))), (q_15, .inl (cA_15, 12, .inr (.inl zL))), (q_23, .inl (cA_23, 12, .inr (.inl zL))), (q_31, .inl (cA_31, 12, .inl (nF zN)))] H := hP
  have hD : va_D A [(ar, .inr (5, [.ref q_7, .ref q_15, .ref q_23, .null, .int (nI 0)])), (q_7, .inl (cA_7, 12, .inl (nF zN))), (q_15, .inl (cA_15, 12, .inr (.inl zL))), (q_23, .inl (cA_23, 12, .inr (.inl zL))), (q_31, .inl (cA_31, 12, .inl (nF zN)))] := hD
  refine W.widen (k := 4) (n := 48) (by decide) (by decide) ?_
  refine va_putF (D := DD) (ci := 5) (v := .ref q_31) (ty := .array .int) (C := R_Ru) (T := T_Ru) (N := 5) hx hb hg in_Ru t_Ru to_Ru n_Ru hown hK hP hD hS 0 rfl rfl 3 (by decide) (hg _ mw_55) (fun _ h9 => h9) rfl hin rfl (by decide +kernel) rfl rfl (Nat.le_of_ble_eq_true rfl) d_Ru_init_33 (fun H locs hP hD hS => ?_)
  have hP : va_P DD vwCl [(ar, .inr (5, [.ref q_7, .ref q_15, .ref q_23, .ref q_31, .int (nI 0)])), (q_7, .inl (cA_7, 12, .inl (nF zN))), (q_15, .inl (cA_15, 12, .inr (.inl zL))), (q_23, .inl (cA_23, 12, .inr (.inl zL))), (q_31, .inl (cA_31, 12, .inl (nF zN)))] H := hP
  have hD : va_D A [(ar, .inr (5, [.ref q_7, .ref q_15, .ref q_23, .ref q_31, .int (nI 0)])), (q_7, .inl (cA_7, 12, .inl (nF zN))), (q_15, .inl (cA_15, 12, .inr (.inl zL))), (q_23, .inl (cA_23, 12, .inr (.inl zL))), (q_31, .inl (cA_31, 12, .inl (nF zN)))] := hD
  refine W.widen (k := 4) (n := 48) (by decide) (by decide) ?_
  have hK9 := hK.sub (tys' := [(cA_7, .int), (cA_15, .long), (cA_23, .long), (cA_31, .int)]) [0, 1, 2, 3] rfl
  have hP9 := hP.sub (ws' := [(ar, .inr (5, [.ref q_7, .ref q_15, .ref q_23, .ref q_31, .int (nI 0)])), (q_7, .inl (cA_7, 12, .inl (nF zN))), (q_15, .inl (cA_15, 12, .inr (.inl zL))), (q_23, .inl (cA_23, 12, .inr (.inl zL))), (q_31, .inl (cA_31, 12, .inl (nF zN)))]) [0, 1, 2, 3, 4] rfl
  have hD9 := hD.sub (ws' := [(ar, .inr (5, [.ref q_7, .ref q_15, .ref q_23, .ref q_31, .int (nI 0)])), (q_7, .inl (cA_7, 12, .inl (nF zN))), (q_15, .inl (cA_15, 12, .inr (.inl zL))), (q_23, .inl (cA_23, 12, .inr (.inl zL))), (q_31, .inl (cA_31, 12, .inl (nF zN)))]) [0, 1, 2, 3, 4] (by decide) rfl
  exact W.vret hx hb hr (fun t9 ht9 hW9 => ⟨⟨(q_7, cA_7, q_15, cA_15, q_23, cA_23, q_31, cA_31), rfl, trivial, by rw [ht9]; exact hP9, va_K.moved hW9.alike hK9, hD9⟩, hS.F ht9⟩) hS.2.2 d_Ru_init_36
theorem d_Tr_init_0 : decode b_Tr_init 0 = .ok (.aload_n 0, 1) := by decide +kernel
theorem d_Tr_init_1 : decode b_Tr_init 1 = .ok (.invokespecial 3, 3) := by decide +kernel
theorem d_Tr_init_4 : decode b_Tr_init 4 = .ok (.aload_n 0, 1) := by decide +kernel
theorem d_Tr_init_5 : decode b_Tr_init 5 = .ok (.sipush 450, 3) := by decide +kernel
theorem d_Tr_init_8 : decode b_Tr_init 8 = .ok (.newarray .int, 2) := by decide +kernel
theorem d_Tr_init_10 : decode b_Tr_init 10 = .ok (.putfield 9, 3) := by decide +kernel
theorem d_Tr_init_13 : decode b_Tr_init 13 = .ok (.return_, 1) := by decide +kernel
abbrev ws_Tr_init : List Cond := .code y_Tr_init b_Tr_init 1 none :: ALLG
abbrev rm_Tr_init : Room := { frames := 1, cells := 1, slots := 450, locals := 12 }
set_option maxHeartbeats 4000000 in
set_option maxRecDepth 100000 in
theorem c_Tr_init (l : Launch) (DD : va_G) (sz : Nat) (aq : Nat) : Met l y_Tr_init ws_Tr_init rm_Tr_init (va_Pc [.ref aq] (fun U => U.heap.size = sz ∧ va_P DD vwCl [(aq, .inr (6, [.null, .int (nI 0)]))] U.heap ∧ va_K DD vwCl [] U ∧ va_D (fun _ => True) [(aq, .inr (6, [.null, .int (nI 0)]))])) (va_Qv (fun (u9 : Nat × ClassId) => match u9 with | (htf, ctf) => True) (fun (u9 : Nat × ClassId) (t9 : State) => match u9 with | (htf, ctf) => va_P DD vwCl [(aq, .inr (6, [.ref htf, .int (nI 0)])), (htf, .inl (ctf, 450, .inl zI))] t9.heap ∧ va_K DD vwCl [(ctf, .int)] t9 ∧ va_D (va_A [(aq, .inr (6, [.null, .int (nI 0)]))] sz) [(aq, .inr (6, [.ref htf, .int (nI 0)])), (htf, .inl (ctf, 450, .inl zI))]) (va_A [(aq, .inr (6, [.null, .int (nI 0)]))] sz)) 1 450 (va_A [(aq, .inr (6, [.null, .int (nI 0)]))] sz) := by
  refine Met.ofW (cc := b_Tr_init) (maxL := 1) (ret := none) (by decide) rfl ?_
  intro p e s m args below meth c s₁ B hml hv
  obtain ⟨ha, hsz, hP, hK, hD0⟩ := hv
  have hx := B.exec
  have hb := B.bytes
  have hr := B.returns
  have hts := atoms_spec (ws := ws_Tr_init) B.pre
  have hg : ∀ w ∈ ALLG, w.before args s = true := fun w h => hts w (List.mem_cons_of_mem _ h)
  have hown : s.vm.findClass R_Tr = some m.cls := findClass_of_methodNamed B.named
  have hlocks := B.notSynchronized
  have hin : meth.name = "<init>" := (name_of_methodNamed B.named B.method).1
  subst hsz
  have hD := hD0.self (sz := s.heap.size)
  generalize hAe : va_A [(aq, .inr (6, [.null, .int (nI 0)]))] s.heap.size = A at hD ⊢
  have hA : ∀ q : Nat, s.heap.size ≤ q → A q := fun q h => by rw [← hAe]; exact Or.inr h
  have hS : va_S A s.heap s.heap [] := va_S.rf
  have hP : va_P DD vwCl [(aq, .inr (6, [.null, .int (nI 0)]))] s.heap := hP
  have hl := lv_entry ([.ref aq]) (n := 1) (Nat.le_of_ble_eq_true rfl)
  rw [ha, lg_entry_eq, ← ha]
  generalize (lg_sl ([.ref aq]) ++ List.replicate (1 - (lg_sl ([.ref aq])).length) Slot.unset).toArray = ls at hl ⊢
  have hl : lv_has ls 1 [(0, .ref aq)] := hl
  refine lv_aload_n hx hb d_Tr_init_0 rfl (lv_at hl 0 rfl) ?_
  refine W.objInit hx hb hown (hg _ mw_74) (hg _ mw_27) (hg _ mw_28) rfl (by rw [hml]; exact hl.1) rfl d_Tr_init_1 (Nat.le_of_ble_eq_true rfl) (Nat.le_of_ble_eq_true rfl) ?_
  refine W.eq (g2 := F0 m 4 ls []) rfl ?_
  refine lv_aload_n hx hb d_Tr_init_4 rfl (lv_at hl 0 rfl) ?_
  refine lv_sipush (v := nI 450) hx hb d_Tr_init_5 (by decide) ?_
  refine va_newa (atype := .int) (ty := .int) (a0 := (450, .inl zI)) hx hb (hg _ mw_45) rfl hK hP hD hS hA (fun _ => rfl) (by decide) (by decide) (by decide) (Nat.le_of_ble_eq_true rfl) (Nat.le_of_ble_eq_true rfl) d_Tr_init_8 (fun q_8 cA_8 H hK hP hD hS => ?_)
  have hK : va_K DD vwCl [(cA_8, .int)] s := hK
  have hP : va_P DD vwCl [(aq, .inr (6, [.null, .int (nI 0)])), (q_8, .inl (cA_8, 450, .inl zI))] H := hP
  have hD : va_D A [(aq, .inr (6, [.null, .int (nI 0)])), (q_8, .inl (cA_8, 450, .inl zI))] := hD
  refine W.widen (k := 1) (n := 450) (by decide) (by decide) ?_
  refine va_putF (D := DD) (ci := 6) (v := .ref q_8) (ty := .array .int) (C := R_Tr) (T := T_Tr) (N := 2) hx hb hg in_Tr t_Tr to_Tr n_Tr hown hK hP hD hS 0 rfl rfl 0 (by decide) (hg _ mw_75) (fun _ h9 => h9) rfl hin rfl (by decide +kernel) rfl rfl (Nat.le_of_ble_eq_true rfl) d_Tr_init_10 (fun H locs hP hD hS => ?_)
  have hP : va_P DD vwCl [(aq, .inr (6, [.ref q_8, .int (nI 0)])), (q_8, .inl (cA_8, 450, .inl zI))] H := hP
  have hD : va_D A [(aq, .inr (6, [.ref q_8, .int (nI 0)])), (q_8, .inl (cA_8, 450, .inl zI))] := hD
  refine W.widen (k := 1) (n := 450) (by decide) (by decide) ?_
  have hK9 := hK.sub (tys' := [(cA_8, .int)]) [0] rfl
  have hP9 := hP.sub (ws' := [(aq, .inr (6, [.ref q_8, .int (nI 0)])), (q_8, .inl (cA_8, 450, .inl zI))]) [0, 1] rfl
  have hD9 := hD.sub (ws' := [(aq, .inr (6, [.ref q_8, .int (nI 0)])), (q_8, .inl (cA_8, 450, .inl zI))]) [0, 1] (by decide) rfl
  exact W.vret hx hb hr (fun t9 ht9 hW9 => ⟨⟨(q_8, cA_8), rfl, trivial, by rw [ht9]; exact hP9, va_K.moved hW9.alike hK9, hD9⟩, hS.F ht9⟩) hS.2.2 d_Tr_init_13
theorem d_Wa_init_0 : decode b_Wa_init 0 = .ok (.aload_n 0, 1) := by decide +kernel
theorem d_Wa_init_1 : decode b_Wa_init 1 = .ok (.invokespecial 1, 3) := by decide +kernel
theorem d_Wa_init_4 : decode b_Wa_init 4 = .ok (.return_, 1) := by decide +kernel
abbrev ws_Wa_init : List Cond := .code y_Wa_init b_Wa_init 1 none :: ALLG
abbrev rm_Wa_init_Tu : Room := { frames := 1, cells := 0, slots := 0, locals := 12 }
set_option maxHeartbeats 4000000 in
set_option maxRecDepth 100000 in
theorem c_Wa_init_Tu (l : Launch) (DD : va_G) (sz : Nat) (aw : Nat) : Met l y_Wa_init ws_Wa_init rm_Wa_init_Tu (va_Pc [.ref aw] (fun U => U.heap.size = sz ∧ va_P DD vwCl [(aw, .inr (7, []))] U.heap ∧ va_K DD vwCl [] U ∧ va_D (fun _ => True) [(aw, .inr (7, []))])) (va_Qv (fun (u9 : Unit) => match u9 with | _ => True) (fun (u9 : Unit) (t9 : State) => match u9 with | _ => va_P DD vwCl [(aw, .inr (7, []))] t9.heap ∧ va_K DD vwCl [] t9 ∧ va_D (va_A [(aw, .inr (7, []))] sz) [(aw, .inr (7, []))]) (va_A [(aw, .inr (7, []))] sz)) 0 0 (va_A [(aw, .inr (7, []))] sz) := by
  refine Met.ofW (cc := b_Wa_init) (maxL := 1) (ret := none) (by decide) rfl ?_
  intro p e s m args below meth c s₁ B hml hv
  obtain ⟨ha, hsz, hP, hK, hD0⟩ := hv
  have hx := B.exec
  have hb := B.bytes
  have hr := B.returns
  have hts := atoms_spec (ws := ws_Wa_init) B.pre
  have hg : ∀ w ∈ ALLG, w.before args s = true := fun w h => hts w (List.mem_cons_of_mem _ h)
  have hown : s.vm.findClass R_Wa = some m.cls := findClass_of_methodNamed B.named
  have hlocks := B.notSynchronized
  have hin : meth.name = "<init>" := (name_of_methodNamed B.named B.method).1
  subst hsz
  have hD := hD0.self (sz := s.heap.size)
  generalize hAe : va_A [(aw, .inr (7, []))] s.heap.size = A at hD ⊢
  have hA : ∀ q : Nat, s.heap.size ≤ q → A q := fun q h => by rw [← hAe]; exact Or.inr h
  have hS : va_S A s.heap s.heap [] := va_S.rf
  have hP : va_P DD vwCl [(aw, .inr (7, []))] s.heap := hP
  have hl := lv_entry ([.ref aw]) (n := 1) (Nat.le_of_ble_eq_true rfl)
  rw [ha, lg_entry_eq, ← ha]
  generalize (lg_sl ([.ref aw]) ++ List.replicate (1 - (lg_sl ([.ref aw])).length) Slot.unset).toArray = ls at hl ⊢
  have hl : lv_has ls 1 [(0, .ref aw)] := hl
  refine lv_aload_n hx hb d_Wa_init_0 rfl (lv_at hl 0 rfl) ?_
  refine W.objInit hx hb hown (hg _ mw_92) (hg _ mw_27) (hg _ mw_28) rfl (by rw [hml]; exact hl.1) rfl d_Wa_init_1 (Nat.le_of_ble_eq_true rfl) (Nat.le_of_ble_eq_true rfl) ?_
  refine W.eq (g2 := F0 m 4 ls []) rfl ?_
  have hK9 := hK.sub (tys' := []) [] rfl
  have hP9 := hP.sub (ws' := [(aw, .inr (7, []))]) [0] rfl
  have hD9 := hD.sub (ws' := [(aw, .inr (7, []))]) [0] (by decide) rfl
  exact W.vret hx hb hr (fun t9 ht9 hW9 => ⟨⟨(), rfl, trivial, by rw [ht9]; exact hP9, va_K.moved hW9.alike hK9, hD9⟩, hS.F ht9⟩) hS.2.2 d_Wa_init_4
theorem d_Tu_init_0 : decode b_Tu_init 0 = .ok (.aload_n 0, 1) := by decide +kernel
theorem d_Tu_init_1 : decode b_Tu_init 1 = .ok (.invokespecial 3, 3) := by decide +kernel
theorem d_Tu_init_4 : decode b_Tu_init 4 = .ok (.return_, 1) := by decide +kernel
abbrev ws_Tu_init : List Cond := .code y_Tu_init b_Tu_init 1 none :: ALLG
abbrev rm_Tu_init : Room := { frames := 2, cells := 0, slots := 0, locals := 32 }
set_option maxHeartbeats 4000000 in
set_option maxRecDepth 100000 in
theorem c_Tu_init (l : Launch) (DD : va_G) (sz : Nat) (aw : Nat) : Met l y_Tu_init ws_Tu_init rm_Tu_init (va_Pc [.ref aw] (fun U => U.heap.size = sz ∧ va_P DD vwCl [(aw, .inr (7, []))] U.heap ∧ va_K DD vwCl [] U ∧ va_D (fun _ => True) [(aw, .inr (7, []))] ∧ XK U)) (va_Qv (fun (u9 : Unit) => match u9 with | _ => True) (fun (u9 : Unit) (t9 : State) => match u9 with | _ => va_P DD vwCl [(aw, .inr (7, []))] t9.heap ∧ va_K DD vwCl [] t9 ∧ va_D (va_A [(aw, .inr (7, []))] sz) [(aw, .inr (7, []))]) (va_A [(aw, .inr (7, []))] sz)) 0 0 (va_A [(aw, .inr (7, []))] sz) := by
  refine Met.ofW (cc := b_Tu_init) (maxL := 1) (ret := none) (by decide) rfl ?_
  intro p e s m args below meth c s₁ B hml hv
  obtain ⟨ha, hsz, hP, hK, hD0, hXK⟩ := hv
  have hx := B.exec
  have hb := B.bytes
  have hr := B.returns
  have hts := atoms_spec (ws := ws_Tu_init) B.pre
  have hg : ∀ w ∈ ALLG, w.before args s = true := fun w h => hts w (List.mem_cons_of_mem _ h)
  have hown : s.vm.findClass R_Tu = some m.cls := findClass_of_methodNamed B.named
  have hlocks := B.notSynchronized
  have hin : meth.name = "<init>" := (name_of_methodNamed B.named B.method).1
  subst hsz
  have hD := hD0.self (sz := s.heap.size)
  generalize hAe : va_A [(aw, .inr (7, []))] s.heap.size = A at hD ⊢
  have hA : ∀ q : Nat, s.heap.size ≤ q → A q := fun q h => by rw [← hAe]; exact Or.inr h
  have hS : va_S A s.heap s.heap [] := va_S.rf
  have hP : va_P DD vwCl [(aw, .inr (7, []))] s.heap := hP
  have hl := lv_entry ([.ref aw]) (n := 1) (Nat.le_of_ble_eq_true rfl)
  rw [ha, lg_entry_eq, ← ha]
  generalize (lg_sl ([.ref aw]) ++ List.replicate (1 - (lg_sl ([.ref aw])).length) Slot.unset).toArray = ls at hl ⊢
  have hl : lv_has ls 1 [(0, .ref aw)] := hl
  refine lv_aload_n hx hb d_Tu_init_0 rfl (lv_at hl 0 rfl) ?_
  have hPc := hP.sub (ws' := [(aw, .inr (7, []))]) [0] rfl
  have hKc := hK.sub (tys' := []) [] rfl
  have hDc := hD.sub (ws' := [(aw, .inr (7, []))]) [0] (by decide) rfl
  have hFc := va_free (wc := [(aw, .inr (7, []))]) hD hS hA [0] rfl
  refine va_callv (va_runIN (As := []) (rest := []) ⟨hx, hb, hml, hown, hg⟩ (c_Wa_init_Tu l DD s.heap.size aw) ⟨va_cnB 0 hg (gi_c mw_91) rfl rfl rfl (hXK.2.1 ("SortDesk$Turning", 3, ⟨"SortDesk$Way", "<init>", "()V"⟩, "SortDesk") (by decide)) (hg _ mw_5) (by decide +kernel) ⟨Nat.le_of_ble_eq_true rfl, Nat.le_of_ble_eq_true rfl⟩, rfl, hg _ mw_90⟩ ⟨z_blindQ, z_preQ hPc hKc hDc⟩ rfl rfl hl.1 rfl (lv_room (Nat.le_of_ble_eq_true rfl)) d_Tu_init_1 ⟨Nat.zero_le _, Nat.zero_le _⟩) hS (fun q _ h => hFc q h) hFc (fun u9 t9 H9 locs ht9 hvm9 hw9 hB9 hz9 hk9 hS => ?_)
  obtain ⟨hP1, hK1, hD1⟩ := hB9
  rw [ht9] at hP1
  try dsimp only at hw9
  obtain ⟨hP, hD⟩ := va_join (wr := []) (w1 := [(aw, .inr (7, []))]) hP hD [0] [] rfl rfl (by decide) (by decide) hk9 hFc hP1 hD1
  generalize H9 = H at hP hS ⊢
  have hP : va_P DD vwCl [(aw, .inr (7, []))] H := hP
  have hD : va_D A [(aw, .inr (7, []))] := hD
  have hK9 := hK.sub (tys' := []) [] rfl
  have hP9 := hP.sub (ws' := [(aw, .inr (7, []))]) [0] rfl
  have hD9 := hD.sub (ws' := [(aw, .inr (7, []))]) [0] (by decide) rfl
  exact W.vret hx hb hr (fun t9 ht9 hW9 => ⟨⟨(), rfl, trivial, by rw [ht9]; exact hP9, va_K.moved hW9.alike hK9, hD9⟩, hS.F ht9⟩) hS.2.2 d_Tu_init_4
abbrev rm_Wa_init_Pu : Room := { frames := 1, cells := 0, slots := 0, locals := 12 }
set_option maxHeartbeats 4000000 in
set_option maxRecDepth 100000 in
theorem c_Wa_init_Pu (l : Launch) (DD : va_G) (sz : Nat) (aw : Nat) : Met l y_Wa_init ws_Wa_init rm_Wa_init_Pu (va_Pc [.ref aw] (fun U => U.heap.size = sz ∧ va_P DD vwCl [(aw, .inr (3, []))] U.heap ∧ va_K DD vwCl [] U ∧ va_D (fun _ => True) [(aw, .inr (3, []))])) (va_Qv (fun (u9 : Unit) => match u9 with | _ => True) (fun (u9 : Unit) (t9 : State) => match u9 with | _ => va_P DD vwCl [(aw, .inr (3, []))] t9.heap ∧ va_K DD vwCl [] t9 ∧ va_D (va_A [(aw, .inr (3, []))] sz) [(aw, .inr (3, []))]) (va_A [(aw, .inr (3, []))] sz)) 0 0 (va_A [(aw, .inr (3, []))] sz) := by
  refine Met.ofW (cc := b_Wa_init) (maxL := 1) (ret := none) (by decide) rfl ?_
  intro p e s m args below meth c s₁ B hml hv
  obtain ⟨ha, hsz, hP, hK, hD0⟩ := hv
  have hx := B.exec
  have hb := B.bytes
  have hr := B.returns
  have hts := atoms_spec (ws := ws_Wa_init) B.pre
  have hg : ∀ w ∈ ALLG, w.before args s = true := fun w h => hts w (List.mem_cons_of_mem _ h)
  have hown : s.vm.findClass R_Wa = some m.cls := findClass_of_methodNamed B.named
  have hlocks := B.notSynchronized
  have hin : meth.name = "<init>" := (name_of_methodNamed B.named B.method).1
  subst hsz
  have hD := hD0.self (sz := s.heap.size)
  generalize hAe : va_A [(aw, .inr (3, []))] s.heap.size = A at hD ⊢
  have hA : ∀ q : Nat, s.heap.size ≤ q → A q := fun q h => by rw [← hAe]; exact Or.inr h
  have hS : va_S A s.heap s.heap [] := va_S.rf
  have hP : va_P DD vwCl [(aw, .inr (3, []))] s.heap := hP
  have hl := lv_entry ([.ref aw]) (n := 1) (Nat.le_of_ble_eq_true rfl)
  rw [ha, lg_entry_eq, ← ha]
  generalize (lg_sl ([.ref aw]) ++ List.replicate (1 - (lg_sl ([.ref aw])).length) Slot.unset).toArray = ls at hl ⊢
  have hl : lv_has ls 1 [(0, .ref aw)] := hl
  refine lv_aload_n hx hb d_Wa_init_0 rfl (lv_at hl 0 rfl) ?_
  refine W.objInit hx hb hown (hg _ mw_92) (hg _ mw_27) (hg _ mw_28) rfl (by rw [hml]; exact hl.1) rfl d_Wa_init_1 (Nat.le_of_ble_eq_true rfl) (Nat.le_of_ble_eq_true rfl) ?_
  refine W.eq (g2 := F0 m 4 ls []) rfl ?_
  have hK9 := hK.sub (tys' := []) [] rfl
  have hP9 := hP.sub (ws' := [(aw, .inr (3, []))]) [0] rfl
  have hD9 := hD.sub (ws' := [(aw, .inr (3, []))]) [0] (by decide) rfl
  exact W.vret hx hb hr (fun t9 ht9 hW9 => ⟨⟨(), rfl, trivial, by rw [ht9]; exact hP9, va_K.moved hW9.alike hK9, hD9⟩, hS.F ht9⟩) hS.2.2 d_Wa_init_4
theorem d_Pu_init_0 : decode b_Pu_init 0 = .ok (.aload_n 0, 1) := by decide +kernel
theorem d_Pu_init_1 : decode b_Pu_init 1 = .ok (.invokespecial 3, 3) := by decide +kernel
theorem d_Pu_init_4 : decode b_Pu_init 4 = .ok (.return_, 1) := by decide +kernel
abbrev ws_Pu_init : List Cond := .code y_Pu_init b_Pu_init 1 none :: ALLG
abbrev rm_Pu_init : Room := { frames := 2, cells := 0, slots := 0, locals := 32 }
set_option maxHeartbeats 4000000 in
set_option maxRecDepth 100000 in
theorem c_Pu_init (l : Launch) (DD : va_G) (sz : Nat) (aw : Nat) : Met l y_Pu_init ws_Pu_init rm_Pu_init (va_Pc [.ref aw] (fun U => U.heap.size = sz ∧ va_P DD vwCl [(aw, .inr (3, []))] U.heap ∧ va_K DD vwCl [] U ∧ va_D (fun _ => True) [(aw, .inr (3, []))] ∧ XK U)) (va_Qv (fun (u9 : Unit) => match u9 with | _ => True) (fun (u9 : Unit) (t9 : State) => match u9 with | _ => va_P DD vwCl [(aw, .inr (3, []))] t9.heap ∧ va_K DD vwCl [] t9 ∧ va_D (va_A [(aw, .inr (3, []))] sz) [(aw, .inr (3, []))]) (va_A [(aw, .inr (3, []))] sz)) 0 0 (va_A [(aw, .inr (3, []))] sz) := by
  refine Met.ofW (cc := b_Pu_init) (maxL := 1) (ret := none) (by decide) rfl ?_
  intro p e s m args below meth c s₁ B hml hv
  obtain ⟨ha, hsz, hP, hK, hD0, hXK⟩ := hv
  have hx := B.exec
  have hb := B.bytes
  have hr := B.returns
  have hts := atoms_spec (ws := ws_Pu_init) B.pre
  have hg : ∀ w ∈ ALLG, w.before args s = true := fun w h => hts w (List.mem_cons_of_mem _ h)
  have hown : s.vm.findClass R_Pu = some m.cls := findClass_of_methodNamed B.named
  have hlocks := B.notSynchronized
  have hin : meth.name = "<init>" := (name_of_methodNamed B.named B.method).1
  subst hsz
  have hD := hD0.self (sz := s.heap.size)
  generalize hAe : va_A [(aw, .inr (3, []))] s.heap.size = A at hD ⊢
  have hA : ∀ q : Nat, s.heap.size ≤ q → A q := fun q h => by rw [← hAe]; exact Or.inr h
  have hS : va_S A s.heap s.heap [] := va_S.rf
  have hP : va_P DD vwCl [(aw, .inr (3, []))] s.heap := hP
  have hl := lv_entry ([.ref aw]) (n := 1) (Nat.le_of_ble_eq_true rfl)
  rw [ha, lg_entry_eq, ← ha]
  generalize (lg_sl ([.ref aw]) ++ List.replicate (1 - (lg_sl ([.ref aw])).length) Slot.unset).toArray = ls at hl ⊢
  have hl : lv_has ls 1 [(0, .ref aw)] := hl
  refine lv_aload_n hx hb d_Pu_init_0 rfl (lv_at hl 0 rfl) ?_
  have hPc := hP.sub (ws' := [(aw, .inr (3, []))]) [0] rfl
  have hKc := hK.sub (tys' := []) [] rfl
  have hDc := hD.sub (ws' := [(aw, .inr (3, []))]) [0] (by decide) rfl
  have hFc := va_free (wc := [(aw, .inr (3, []))]) hD hS hA [0] rfl
  refine va_callv (va_runIN (As := []) (rest := []) ⟨hx, hb, hml, hown, hg⟩ (c_Wa_init_Pu l DD s.heap.size aw) ⟨va_cnB 0 hg (gi_c mw_91) rfl rfl rfl (hXK.2.1 ("SortDesk$PuttingIn", 3, ⟨"SortDesk$Way", "<init>", "()V"⟩, "SortDesk") (by decide)) (hg _ mw_5) (by decide +kernel) ⟨Nat.le_of_ble_eq_true rfl, Nat.le_of_ble_eq_true rfl⟩, rfl, hg _ mw_90⟩ ⟨z_blindQ, z_preQ hPc hKc hDc⟩ rfl rfl hl.1 rfl (lv_room (Nat.le_of_ble_eq_true rfl)) d_Pu_init_1 ⟨Nat.zero_le _, Nat.zero_le _⟩) hS (fun q _ h => hFc q h) hFc (fun u9 t9 H9 locs ht9 hvm9 hw9 hB9 hz9 hk9 hS => ?_)
  obtain ⟨hP1, hK1, hD1⟩ := hB9
  rw [ht9] at hP1
  try dsimp only at hw9
  obtain ⟨hP, hD⟩ := va_join (wr := []) (w1 := [(aw, .inr (3, []))]) hP hD [0] [] rfl rfl (by decide) (by decide) hk9 hFc hP1 hD1
  generalize H9 = H at hP hS ⊢
  have hP : va_P DD vwCl [(aw, .inr (3, []))] H := hP
  have hD : va_D A [(aw, .inr (3, []))] := hD
  have hK9 := hK.sub (tys' := []) [] rfl
  have hP9 := hP.sub (ws' := [(aw, .inr (3, []))]) [0] rfl
  have hD9 := hD.sub (ws' := [(aw, .inr (3, []))]) [0] (by decide) rfl
  exact W.vret hx hb hr (fun t9 ht9 hW9 => ⟨⟨(), rfl, trivial, by rw [ht9]; exact hP9, va_K.moved hW9.alike hK9, hD9⟩, hS.F ht9⟩) hS.2.2 d_Pu_init_4
abbrev rm_Wa_init_Jo : Room := { frames := 1, cells := 0, slots := 0, locals := 12 }
set_option maxHeartbeats 4000000 in
set_option maxRecDepth 100000 in
theorem c_Wa_init_Jo (l : Launch) (DD : va_G) (sz : Nat) (aw : Nat) : Met l y_Wa_init ws_Wa_init rm_Wa_init_Jo (va_Pc [.ref aw] (fun U => U.heap.size = sz ∧ va_P DD vwCl [(aw, .inr (2, [.null, .null]))] U.heap ∧ va_K DD vwCl [] U ∧ va_D (fun _ => True) [(aw, .inr (2, [.null, .null]))])) (va_Qv (fun (u9 : Unit) => match u9 with | _ => True) (fun (u9 : Unit) (t9 : State) => match u9 with | _ => va_P DD vwCl [(aw, .inr (2, [.null, .null]))] t9.heap ∧ va_K DD vwCl [] t9 ∧ va_D (va_A [(aw, .inr (2, [.null, .null]))] sz) [(aw, .inr (2, [.null, .null]))]) (va_A [(aw, .inr (2, [.null, .null]))] sz)) 0 0 (va_A [(aw, .inr (2, [.null, .null]))] sz) := by
  refine Met.ofW (cc := b_Wa_init) (maxL := 1) (ret := none) (by decide) rfl ?_
  intro p e s m args below meth c s₁ B hml hv
  obtain ⟨ha, hsz, hP, hK, hD0⟩ := hv
  have hx := B.exec
  have hb := B.bytes
  have hr := B.returns
  have hts := atoms_spec (ws := ws_Wa_init) B.pre
  have hg : ∀ w ∈ ALLG, w.before args s = true := fun w h => hts w (List.mem_cons_of_mem _ h)
  have hown : s.vm.findClass R_Wa = some m.cls := findClass_of_methodNamed B.named
  have hlocks := B.notSynchronized
  have hin : meth.name = "<init>" := (name_of_methodNamed B.named B.method).1
  subst hsz
  have hD := hD0.self (sz := s.heap.size)
  generalize hAe : va_A [(aw, .inr (2, [.null, .null]))] s.heap.size = A at hD ⊢
  have hA : ∀ q : Nat, s.heap.size ≤ q → A q := fun q h => by rw [← hAe]; exact Or.inr h
  have hS : va_S A s.heap s.heap [] := va_S.rf
  have hP : va_P DD vwCl [(aw, .inr (2, [.null, .null]))] s.heap := hP
  have hl := lv_entry ([.ref aw]) (n := 1) (Nat.le_of_ble_eq_true rfl)
  rw [ha, lg_entry_eq, ← ha]
  generalize (lg_sl ([.ref aw]) ++ List.replicate (1 - (lg_sl ([.ref aw])).length) Slot.unset).toArray = ls at hl ⊢
  have hl : lv_has ls 1 [(0, .ref aw)] := hl
  refine lv_aload_n hx hb d_Wa_init_0 rfl (lv_at hl 0 rfl) ?_
  refine W.objInit hx hb hown (hg _ mw_92) (hg _ mw_27) (hg _ mw_28) rfl (by rw [hml]; exact hl.1) rfl d_Wa_init_1 (Nat.le_of_ble_eq_true rfl) (Nat.le_of_ble_eq_true rfl) ?_
  refine W.eq (g2 := F0 m 4 ls []) rfl ?_
  have hK9 := hK.sub (tys' := []) [] rfl
  have hP9 := hP.sub (ws' := [(aw, .inr (2, [.null, .null]))]) [0] rfl
  have hD9 := hD.sub (ws' := [(aw, .inr (2, [.null, .null]))]) [0] (by decide) rfl
  exact W.vret hx hb hr (fun t9 ht9 hW9 => ⟨⟨(), rfl, trivial, by rw [ht9]; exact hP9, va_K.moved hW9.alike hK9, hD9⟩, hS.F ht9⟩) hS.2.2 d_Wa_init_4
theorem d_Jo_init_0 : decode b_Jo_init 0 = .ok (.aload_n 0, 1) := by decide +kernel
theorem d_Jo_init_1 : decode b_Jo_init 1 = .ok (.invokespecial 3, 3) := by decide +kernel
theorem d_Jo_init_4 : decode b_Jo_init 4 = .ok (.aload_n 0, 1) := by decide +kernel
theorem d_Jo_init_5 : decode b_Jo_init 5 = .ok (.sipush 151, 3) := by decide +kernel
theorem d_Jo_init_8 : decode b_Jo_init 8 = .ok (.newarray .int, 2) := by decide +kernel
theorem d_Jo_init_10 : decode b_Jo_init 10 = .ok (.putfield 9, 3) := by decide +kernel
theorem d_Jo_init_13 : decode b_Jo_init 13 = .ok (.aload_n 0, 1) := by decide +kernel
theorem d_Jo_init_14 : decode b_Jo_init 14 = .ok (.sipush 150, 3) := by decide +kernel
theorem d_Jo_init_17 : decode b_Jo_init 17 = .ok (.newarray .int, 2) := by decide +kernel
theorem d_Jo_init_19 : decode b_Jo_init 19 = .ok (.putfield 15, 3) := by decide +kernel
theorem d_Jo_init_22 : decode b_Jo_init 22 = .ok (.return_, 1) := by decide +kernel
abbrev ws_Jo_init : List Cond := .code y_Jo_init b_Jo_init 1 none :: ALLG
abbrev rm_Jo_init : Room := { frames := 2, cells := 2, slots := 301, locals := 32 }
set_option maxHeartbeats 4000000 in
set_option maxRecDepth 100000 in
theorem c_Jo_init (l : Launch) (DD : va_G) (sz : Nat) (aw : Nat) : Met l y_Jo_init ws_Jo_init rm_Jo_init (va_Pc [.ref aw] (fun U => U.heap.size = sz ∧ va_P DD vwCl [(aw, .inr (2, [.null, .null]))] U.heap ∧ va_K DD vwCl [] U ∧ va_D (fun _ => True) [(aw, .inr (2, [.null, .null]))] ∧ XK U)) (va_Qv (fun (u9 : Nat × ClassId × Nat × ClassId) => match u9 with | (hjs, cjs, hjj, cjj) => True) (fun (u9 : Nat × ClassId × Nat × ClassId) (t9 : State) => match u9 with | (hjs, cjs, hjj, cjj) => va_P DD vwCl [(aw, .inr (2, [.ref hjs, .ref hjj])), (hjs, .inl (cjs, 151, .inl (nF zN))), (hjj, .inl (cjj, 150, .inl (nF zN)))] t9.heap ∧ va_K DD vwCl [(cjs, .int), (cjj, .int)] t9 ∧ va_D (va_A [(aw, .inr (2, [.null, .null]))] sz) [(aw, .inr (2, [.ref hjs, .ref hjj])), (hjs, .inl (cjs, 151, .inl (nF zN))), (hjj, .inl (cjj, 150, .inl (nF zN)))]) (va_A [(aw, .inr (2, [.null, .null]))] sz)) 2 301 (va_A [(aw, .inr (2, [.null, .null]))] sz) := by
  refine Met.ofW (cc := b_Jo_init) (maxL := 1) (ret := none) (by decide) rfl ?_
  intro p e s m args below meth c s₁ B hml hv
  obtain ⟨ha, hsz, hP, hK, hD0, hXK⟩ := hv
  have hx := B.exec
  have hb := B.bytes
  have hr := B.returns
  have hts := atoms_spec (ws := ws_Jo_init) B.pre
  have hg : ∀ w ∈ ALLG, w.before args s = true := fun w h => hts w (List.mem_cons_of_mem _ h)
  have hown : s.vm.findClass R_Jo = some m.cls := findClass_of_methodNamed B.named
  have hlocks := B.notSynchronized
  have hin : meth.name = "<init>" := (name_of_methodNamed B.named B.method).1
  subst hsz
  have hD := hD0.self (sz := s.heap.size)
  generalize hAe : va_A [(aw, .inr (2, [.null, .null]))] s.heap.size = A at hD ⊢
  have hA : ∀ q : Nat, s.heap.size ≤ q → A q := fun q h => by rw [← hAe]; exact Or.inr h
  have hS : va_S A s.heap s.heap [] := va_S.rf
  have hP : va_P DD vwCl [(aw, .inr (2, [.null, .null]))] s.heap := hP
  have hl := lv_entry ([.ref aw]) (n := 1) (Nat.le_of_ble_eq_true rfl)
  rw [ha, lg_entry_eq, ← ha]
  generalize (lg_sl ([.ref aw]) ++ List.replicate (1 - (lg_sl ([.ref aw])).length) Slot.unset).toArray = ls at hl ⊢
  have hl : lv_has ls 1 [(0, .ref aw)] := hl
  refine lv_aload_n hx hb d_Jo_init_0 rfl (lv_at hl 0 rfl) ?_
  have hPc := hP.sub (ws' := [(aw, .inr (2, [.null, .null]))]) [0] rfl
  have hKc := hK.sub (tys' := []) [] rfl
  have hDc := hD.sub (ws' := [(aw, .inr (2, [.null, .null]))]) [0] (by decide) rfl
  have hFc := va_free (wc := [(aw, .inr (2, [.null, .null]))]) hD hS hA [0] rfl
  refine va_callv (va_runIN (As := []) (rest := []) ⟨hx, hb, hml, hown, hg⟩ (c_Wa_init_Jo l DD s.heap.size aw) ⟨va_cnB 0 hg (gi_c mw_91) rfl rfl rfl (hXK.2.1 ("SortDesk$Joining", 3, ⟨"SortDesk$Way", "<init>", "()V"⟩, "SortDesk") (by decide)) (hg _ mw_5) (by decide +kernel) ⟨Nat.le_of_ble_eq_true rfl, Nat.le_of_ble_eq_true rfl⟩, rfl, hg _ mw_90⟩ ⟨z_blindQ, z_preQ hPc hKc hDc⟩ rfl rfl hl.1 rfl (lv_room (Nat.le_of_ble_eq_true rfl)) d_Jo_init_1 ⟨Nat.le_of_ble_eq_true rfl, Nat.le_of_ble_eq_true rfl⟩) hS (fun q _ h => hFc q h) hFc (fun u9 t9 H9 locs ht9 hvm9 hw9 hB9 hz9 hk9 hS => ?_)
  obtain ⟨hP1, hK1, hD1⟩ := hB9
  rw [ht9] at hP1
  try dsimp only at hw9
  obtain ⟨hP, hD⟩ := va_join (wr := []) (w1 := [(aw, .inr (2, [.null, .null]))]) hP hD [0] [] rfl rfl (by decide) (by decide) hk9 hFc hP1 hD1
  generalize H9 = H at hP hS ⊢
  have hP : va_P DD vwCl [(aw, .inr (2, [.null, .null]))] H := hP
  have hD : va_D A [(aw, .inr (2, [.null, .null]))] := hD
  refine lv_aload_n hx hb d_Jo_init_4 rfl (lv_at hl 0 rfl) ?_
  refine lv_sipush (v := nI 151) hx hb d_Jo_init_5 (by decide) ?_
  refine va_newa (atype := .int) (ty := .int) (a0 := (151, .inl (nF zN))) hx hb (hg _ mw_45) rfl hK hP hD hS hA (fun _ => rfl) (by decide) (by decide) (by decide) (Nat.le_of_ble_eq_true rfl) (Nat.le_of_ble_eq_true rfl) d_Jo_init_8 (fun q_8 cA_8 H hK hP hD hS => ?_)
  have hK : va_K DD vwCl [(cA_8, .int)] s := hK
  have hP : va_P DD vwCl [(aw, .inr (2, [.null, .null])), (q_8, .inl (cA_8, 151, .inl (nF zN)))] H := hP
  have hD : va_D A [(aw, .inr (2, [.null, .null])), (q_8, .inl (cA_8, 151, .inl (nF zN)))] := hD
  refine W.widen (k := 1) (n := 151) (by decide) (by decide) ?_
  refine va_putF (D := DD) (ci := 2) (v := .ref q_8) (ty := .array .int) (C := R_Jo) (T := T_Jo) (N := 2) hx hb hg in_Jo t_Jo to_Jo n_Jo hown hK hP hD hS 0 rfl rfl 0 (by decide) (hg _ mw_107) (fun _ h9 => h9) rfl hin rfl (by decide +kernel) rfl rfl (Nat.le_of_ble_eq_true rfl) d_Jo_init_10 (fun H locs hP hD hS => ?_)
  have hP : va_P DD vwCl [(aw, .inr (2, [.ref q_8, .null])), (q_8, .inl (cA_8, 151, .inl (nF zN)))] H := hP
  have hD : va_D A [(aw, .inr (2, [.ref q_8, .null])), (q_8, .inl (cA_8, 151, .inl (nF zN)))] := hD
  refine lv_aload_n hx hb d_Jo_init_13 rfl (lv_at hl 0 rfl) ?_
  refine lv_sipush (v := nI 150) hx hb d_Jo_init_14 (by decide) ?_
  refine va_newa (atype := .int) (ty := .int) (a0 := (150, .inl (nF zN))) hx hb (hg _ mw_45) rfl hK hP hD hS hA (fun _ => rfl) (by decide) (by decide) (by decide) (Nat.le_of_ble_eq_true rfl) (Nat.le_of_ble_eq_true rfl) d_Jo_init_17 (fun q_17 cA_17 H hK hP hD hS => ?_)
  have hK : va_K DD vwCl [(cA_8, .int), (cA_17, .int)] s := hK
  have hP : va_P DD vwCl [(aw, .inr (2, [.ref q_8, .null])), (q_8, .inl (cA_8, 151, .inl (nF zN))), (q_17, .inl (cA_17, 150, .inl (nF zN)))] H := hP
  have hD : va_D A [(aw, .inr (2, [.ref q_8, .null])), (q_8, .inl (cA_8, 151, .inl (nF zN))), (q_17, .inl (cA_17, 150, .inl (nF zN)))] := hD
  refine W.widen (k := 2) (n := 301) (by decide) (by decide) ?_
  refine va_putF (D := DD) (ci := 2) (v := .ref q_17) (ty := .array .int) (C := R_Jo) (T := T_Jo) (N := 2) hx hb hg in_Jo t_Jo to_Jo n_Jo hown hK hP hD hS 0 rfl rfl 1 (by decide) (hg _ mw_108) (fun _ h9 => h9) rfl hin rfl (by decide +kernel) rfl rfl (Nat.le_of_ble_eq_true rfl) d_Jo_init_19 (fun H locs hP hD hS => ?_)
  have hP : va_P DD vwCl [(aw, .inr (2, [.ref q_8, .ref q_17])), (q_8, .inl (cA_8, 151, .inl (nF zN))), (q_17, .inl (cA_17, 150, .inl (nF zN)))] H := hP
  have hD : va_D A [(aw, .inr (2, [.ref q_8, .ref q_17])), (q_8, .inl (cA_8, 151, .inl (nF zN))), (q_17, .inl (cA_17, 150, .inl (nF zN)))] := hD
  refine W.widen (k := 2) (n := 301) (by decide) (by decide) ?_
  have hK9 := hK.sub (tys' := [(cA_8, .int), (cA_17, .int)]) [0, 1] rfl
  have hP9 := hP.sub (ws' := [(aw, .inr (2, [.ref q_8, .ref q_17])), (q_8, .inl (cA_8, 151, .inl (nF zN))), (q_17, .inl (cA_17, 150, .inl (nF zN)))]) [0, 1, 2] rfl
  have hD9 := hD.sub (ws' := [(aw, .inr (2, [.ref q_8, .ref q_17])), (q_8, .inl (cA_8, 151, .inl (nF zN))), (q_17, .inl (cA_17, 150, .inl (nF zN)))]) [0, 1, 2] (by decide) rfl
  exact W.vret hx hb hr (fun t9 ht9 hW9 => ⟨⟨(q_8, cA_8, q_17, cA_17), rfl, trivial, by rw [ht9]; exact hP9, va_K.moved hW9.alike hK9, hD9⟩, hS.F ht9⟩) hS.2.2 d_Jo_init_22
abbrev rm_Wa_init_Co : Room := { frames := 1, cells := 0, slots := 0, locals := 12 }
set_option maxHeartbeats 4000000 in
set_option maxRecDepth 100000 in
theorem c_Wa_init_Co (l : Launch) (DD : va_G) (sz : Nat) (aw : Nat) : Met l y_Wa_init ws_Wa_init rm_Wa_init_Co (va_Pc [.ref aw] (fun U => U.heap.size = sz ∧ va_P DD vwCl [(aw, .inr (1, [.null, .null]))] U.heap ∧ va_K DD vwCl [] U ∧ va_D (fun _ => True) [(aw, .inr (1, [.null, .null]))])) (va_Qv (fun (u9 : Unit) => match u9 with | _ => True) (fun (u9 : Unit) (t9 : State) => match u9 with | _ => va_P DD vwCl [(aw, .inr (1, [.null, .null]))] t9.heap ∧ va_K DD vwCl [] t9 ∧ va_D (va_A [(aw, .inr (1, [.null, .null]))] sz) [(aw, .inr (1, [.null, .null]))]) (va_A [(aw, .inr (1, [.null, .null]))] sz)) 0 0 (va_A [(aw, .inr (1, [.null, .null]))] sz) := by
  refine Met.ofW (cc := b_Wa_init) (maxL := 1) (ret := none) (by decide) rfl ?_
  intro p e s m args below meth c s₁ B hml hv
  obtain ⟨ha, hsz, hP, hK, hD0⟩ := hv
  have hx := B.exec
  have hb := B.bytes
  have hr := B.returns
  have hts := atoms_spec (ws := ws_Wa_init) B.pre
  have hg : ∀ w ∈ ALLG, w.before args s = true := fun w h => hts w (List.mem_cons_of_mem _ h)
  have hown : s.vm.findClass R_Wa = some m.cls := findClass_of_methodNamed B.named
  have hlocks := B.notSynchronized
  have hin : meth.name = "<init>" := (name_of_methodNamed B.named B.method).1
  subst hsz
  have hD := hD0.self (sz := s.heap.size)
  generalize hAe : va_A [(aw, .inr (1, [.null, .null]))] s.heap.size = A at hD ⊢
  have hA : ∀ q : Nat, s.heap.size ≤ q → A q := fun q h => by rw [← hAe]; exact Or.inr h
  have hS : va_S A s.heap s.heap [] := va_S.rf
  have hP : va_P DD vwCl [(aw, .inr (1, [.null, .null]))] s.heap := hP
  have hl := lv_entry ([.ref aw]) (n := 1) (Nat.le_of_ble_eq_true rfl)
  rw [ha, lg_entry_eq, ← ha]
  generalize (lg_sl ([.ref aw]) ++ List.replicate (1 - (lg_sl ([.ref aw])).length) Slot.unset).toArray = ls at hl ⊢
  have hl : lv_has ls 1 [(0, .ref aw)] := hl
  refine lv_aload_n hx hb d_Wa_init_0 rfl (lv_at hl 0 rfl) ?_
  refine W.objInit hx hb hown (hg _ mw_92) (hg _ mw_27) (hg _ mw_28) rfl (by rw [hml]; exact hl.1) rfl d_Wa_init_1 (Nat.le_of_ble_eq_true rfl) (Nat.le_of_ble_eq_true rfl) ?_
  refine W.eq (g2 := F0 m 4 ls []) rfl ?_
  have hK9 := hK.sub (tys' := []) [] rfl
  have hP9 := hP.sub (ws' := [(aw, .inr (1, [.null, .null]))]) [0] rfl
  have hD9 := hD.sub (ws' := [(aw, .inr (1, [.null, .null]))]) [0] (by decide) rfl
  exact W.vret hx hb hr (fun t9 ht9 hW9 => ⟨⟨(), rfl, trivial, by rw [ht9]; exact hP9, va_K.moved hW9.alike hK9, hD9⟩, hS.F ht9⟩) hS.2.2 d_Wa_init_4
theorem d_Co_init_0 : decode b_Co_init 0 = .ok (.aload_n 0, 1) := by decide +kernel
theorem d_Co_init_1 : decode b_Co_init 1 = .ok (.invokespecial 3, 3) := by decide +kernel
theorem d_Co_init_4 : decode b_Co_init 4 = .ok (.aload_n 0, 1) := by decide +kernel
theorem d_Co_init_5 : decode b_Co_init 5 = .ok (.sipush 501, 3) := by decide +kernel
theorem d_Co_init_8 : decode b_Co_init 8 = .ok (.newarray .int, 2) := by decide +kernel
theorem d_Co_init_10 : decode b_Co_init 10 = .ok (.putfield 9, 3) := by decide +kernel
theorem d_Co_init_13 : decode b_Co_init 13 = .ok (.aload_n 0, 1) := by decide +kernel
theorem d_Co_init_14 : decode b_Co_init 14 = .ok (.sipush 501, 3) := by decide +kernel
theorem d_Co_init_17 : decode b_Co_init 17 = .ok (.newarray .int, 2) := by decide +kernel
theorem d_Co_init_19 : decode b_Co_init 19 = .ok (.putfield 15, 3) := by decide +kernel
theorem d_Co_init_22 : decode b_Co_init 22 = .ok (.return_, 1) := by decide +kernel
abbrev ws_Co_init : List Cond := .code y_Co_init b_Co_init 1 none :: ALLG
abbrev rm_Co_init : Room := { frames := 2, cells := 2, slots := 1002, locals := 32 }
set_option maxHeartbeats 4000000 in
set_option maxRecDepth 100000 in
theorem c_Co_init (l : Launch) (DD : va_G) (sz : Nat) (aw : Nat) : Met l y_Co_init ws_Co_init rm_Co_init (va_Pc [.ref aw] (fun U => U.heap.size = sz ∧ va_P DD vwCl [(aw, .inr (1, [.null, .null]))] U.heap ∧ va_K DD vwCl [] U ∧ va_D (fun _ => True) [(aw, .inr (1, [.null, .null]))] ∧ XK U)) (va_Qv (fun (u9 : Nat × ClassId × Nat × ClassId) => match u9 with | (hcc, ccc, hcn, ccn) => True) (fun (u9 : Nat × ClassId × Nat × ClassId) (t9 : State) => match u9 with | (hcc, ccc, hcn, ccn) => va_P DD vwCl [(aw, .inr (1, [.ref hcc, .ref hcn])), (hcc, .inl (ccc, 501, .inl (nF zN))), (hcn, .inl (ccn, 501, .inl (nF zN)))] t9.heap ∧ va_K DD vwCl [(ccc, .int), (ccn, .int)] t9 ∧ va_D (va_A [(aw, .inr (1, [.null, .null]))] sz) [(aw, .inr (1, [.ref hcc, .ref hcn])), (hcc, .inl (ccc, 501, .inl (nF zN))), (hcn, .inl (ccn, 501, .inl (nF zN)))]) (va_A [(aw, .inr (1, [.null, .null]))] sz)) 2 1002 (va_A [(aw, .inr (1, [.null, .null]))] sz) := by
  refine Met.ofW (cc := b_Co_init) (maxL := 1) (ret := none) (by decide) rfl ?_
  intro p e s m args below meth c s₁ B hml hv
  obtain ⟨ha, hsz, hP, hK, hD0, hXK⟩ := hv
  have hx := B.exec
  have hb := B.bytes
  have hr := B.returns
  have hts := atoms_spec (ws := ws_Co_init) B.pre
  have hg : ∀ w ∈ ALLG, w.before args s = true := fun w h => hts w (List.mem_cons_of_mem _ h)
  have hown : s.vm.findClass R_Co = some m.cls := findClass_of_methodNamed B.named
  have hlocks := B.notSynchronized
  have hin : meth.name = "<init>" := (name_of_methodNamed B.named B.method).1
  subst hsz
  have hD := hD0.self (sz := s.heap.size)
  generalize hAe : va_A [(aw, .inr (1, [.null, .null]))] s.heap.size = A at hD ⊢
  have hA : ∀ q : Nat, s.heap.size ≤ q → A q := fun q h => by rw [← hAe]; exact Or.inr h
  have hS : va_S A s.heap s.heap [] := va_S.rf
  have hP : va_P DD vwCl [(aw, .inr (1, [.null, .null]))] s.heap := hP
  have hl := lv_entry ([.ref aw]) (n := 1) (Nat.le_of_ble_eq_true rfl)
  rw [ha, lg_entry_eq, ← ha]
  generalize (lg_sl ([.ref aw]) ++ List.replicate (1 - (lg_sl ([.ref aw])).length) Slot.unset).toArray = ls at hl ⊢
  have hl : lv_has ls 1 [(0, .ref aw)] := hl
  refine lv_aload_n hx hb d_Co_init_0 rfl (lv_at hl 0 rfl) ?_
  have hPc := hP.sub (ws' := [(aw, .inr (1, [.null, .null]))]) [0] rfl
  have hKc := hK.sub (tys' := []) [] rfl
  have hDc := hD.sub (ws' := [(aw, .inr (1, [.null, .null]))]) [0] (by decide) rfl
  have hFc := va_free (wc := [(aw, .inr (1, [.null, .null]))]) hD hS hA [0] rfl
  refine va_callv (va_runIN (As := []) (rest := []) ⟨hx, hb, hml, hown, hg⟩ (c_Wa_init_Co l DD s.heap.size aw) ⟨va_cnB 0 hg (gi_c mw_91) rfl rfl rfl (hXK.2.1 ("SortDesk$Counting", 3, ⟨"SortDesk$Way", "<init>", "()V"⟩, "SortDesk") (by decide)) (hg _ mw_5) (by decide +kernel) ⟨Nat.le_of_ble_eq_true rfl, Nat.le_of_ble_eq_true rfl⟩, rfl, hg _ mw_90⟩ ⟨z_blindQ, z_preQ hPc hKc hDc⟩ rfl rfl hl.1 rfl (lv_room (Nat.le_of_ble_eq_true rfl)) d_Co_init_1 ⟨Nat.le_of_ble_eq_true rfl, Nat.le_of_ble_eq_true rfl⟩) hS (fun q _ h => hFc q h) hFc (fun u9 t9 H9 locs ht9 hvm9 hw9 hB9 hz9 hk9 hS => ?_)
  obtain ⟨hP1, hK1, hD1⟩ := hB9
  rw [ht9] at hP1
  try dsimp only at hw9
  obtain ⟨hP, hD⟩ := va_join (wr := []) (w1 := [(aw, .inr (1, [.null, .null]))]) hP hD [0] [] rfl rfl (by decide) (by decide) hk9 hFc hP1 hD1
  generalize H9 = H at hP hS ⊢
  have hP : va_P DD vwCl [(aw, .inr (1, [.null, .null]))] H := hP
  have hD : va_D A [(aw, .inr (1, [.null, .null]))] := hD
  refine lv_aload_n hx hb d_Co_init_4 rfl (lv_at hl 0 rfl) ?_
  refine lv_sipush (v := nI 501) hx hb d_Co_init_5 (by decide) ?_
  refine va_newa (atype := .int) (ty := .int) (a0 := (501, .inl (nF zN))) hx hb (hg _ mw_45) rfl hK hP hD hS hA (fun _ => rfl) (by decide) (by decide) (by decide) (Nat.le_of_ble_eq_true rfl) (Nat.le_of_ble_eq_true rfl) d_Co_init_8 (fun q_8 cA_8 H hK hP hD hS => ?_)
  have hK : va_K DD vwCl [(cA_8, .int)] s := hK
  have hP : va_P DD vwCl [(aw, .inr (1, [.null, .null])), (q_8, .inl (cA_8, 501, .inl (nF zN)))] H := hP
  have hD : va_D A [(aw, .inr (1, [.null, .null])), (q_8, .inl (cA_8, 501, .inl (nF zN)))] := hD
  refine W.widen (k := 1) (n := 501) (by decide) (by decide) ?_
  refine va_putF (D := DD) (ci := 1) (v := .ref q_8) (ty := .array .int) (C := R_Co) (T := T_Co) (N := 2) hx hb hg in_Co t_Co to_Co n_Co hown hK hP hD hS 0 rfl rfl 0 (by decide) (hg _ mw_120) (fun _ h9 => h9) rfl hin rfl (by decide +kernel) rfl rfl (Nat.le_of_ble_eq_true rfl) d_Co_init_10 (fun H locs hP hD hS => ?_)
  have hP : va_P DD vwCl [(aw, .inr (1, [.ref q_8, .null])), (q_8, .inl (cA_8, 501, .inl (nF zN)))] H := hP
  have hD : va_D A [(aw, .inr (1, [.ref q_8, .null])), (q_8, .inl (cA_8, 501, .inl (nF zN)))] := hD
  refine lv_aload_n hx hb d_Co_init_13 rfl (lv_at hl 0 rfl) ?_
  refine lv_sipush (v := nI 501) hx hb d_Co_init_14 (by decide) ?_
  refine va_newa (atype := .int) (ty := .int) (a0 := (501, .inl (nF zN))) hx hb (hg _ mw_45) rfl hK hP hD hS hA (fun _ => rfl) (by decide) (by decide) (by decide) (Nat.le_of_ble_eq_true rfl) (Nat.le_of_ble_eq_true rfl) d_Co_init_17 (fun q_17 cA_17 H hK hP hD hS => ?_)
  have hK : va_K DD vwCl [(cA_8, .int), (cA_17, .int)] s := hK
  have hP : va_P DD vwCl [(aw, .inr (1, [.ref q_8, .null])), (q_8, .inl (cA_8, 501, .inl (nF zN))), (q_17, .inl (cA_17, 501, .inl (nF zN)))] H := hP
  have hD : va_D A [(aw, .inr (1, [.ref q_8, .null])), (q_8, .inl (cA_8, 501, .inl (nF zN))), (q_17, .inl (cA_17, 501, .inl (nF zN)))] := hD
  refine W.widen (k := 2) (n := 1002) (by decide) (by decide) ?_
  refine va_putF (D := DD) (ci := 1) (v := .ref q_17) (ty := .array .int) (C := R_Co) (T := T_Co) (N := 2) hx hb hg in_Co t_Co to_Co n_Co hown hK hP hD hS 0 rfl rfl 1 (by decide) (hg _ mw_121) (fun _ h9 => h9) rfl hin rfl (by decide +kernel) rfl rfl (Nat.le_of_ble_eq_true rfl) d_Co_init_19 (fun H locs hP hD hS => ?_)
  have hP : va_P DD vwCl [(aw, .inr (1, [.ref q_8, .ref q_17])), (q_8, .inl (cA_8, 501, .inl (nF zN))), (q_17, .inl (cA_17, 501, .inl (nF zN)))] H := hP
  have hD : va_D A [(aw, .inr (1, [.ref q_8, .ref q_17])), (q_8, .inl (cA_8, 501, .inl (nF zN))), (q_17, .inl (cA_17, 501, .inl (nF zN)))] := hD
  refine W.widen (k := 2) (n := 1002) (by decide) (by decide) ?_
  have hK9 := hK.sub (tys' := [(cA_8, .int), (cA_17, .int)]) [0, 1] rfl
  have hP9 := hP.sub (ws' := [(aw, .inr (1, [.ref q_8, .ref q_17])), (q_8, .inl (cA_8, 501, .inl (nF zN))), (q_17, .inl (cA_17, 501, .inl (nF zN)))]) [0, 1, 2] rfl
  have hD9 := hD.sub (ws' := [(aw, .inr (1, [.ref q_8, .ref q_17])), (q_8, .inl (cA_8, 501, .inl (nF zN))), (q_17, .inl (cA_17, 501, .inl (nF zN)))]) [0, 1, 2] (by decide) rfl
  exact W.vret hx hb hr (fun t9 ht9 hW9 => ⟨⟨(q_8, cA_8, q_17, cA_17), rfl, trivial, by rw [ht9]; exact hP9, va_K.moved hW9.alike hK9, hD9⟩, hS.F ht9⟩) hS.2.2 d_Co_init_22
abbrev rm_Wa_init_By : Room := { frames := 1, cells := 0, slots := 0, locals := 12 }
set_option maxHeartbeats 4000000 in
set_option maxRecDepth 100000 in
theorem c_Wa_init_By (l : Launch) (DD : va_G) (sz : Nat) (aw : Nat) : Met l y_Wa_init ws_Wa_init rm_Wa_init_By (va_Pc [.ref aw] (fun U => U.heap.size = sz ∧ va_P DD vwCl [(aw, .inr (0, [.null, .null]))] U.heap ∧ va_K DD vwCl [] U ∧ va_D (fun _ => True) [(aw, .inr (0, [.null, .null]))])) (va_Qv (fun (u9 : Unit) => match u9 with | _ => True) (fun (u9 : Unit) (t9 : State) => match u9 with | _ => va_P DD vwCl [(aw, .inr (0, [.null, .null]))] t9.heap ∧ va_K DD vwCl [] t9 ∧ va_D (va_A [(aw, .inr (0, [.null, .null]))] sz) [(aw, .inr (0, [.null, .null]))]) (va_A [(aw, .inr (0, [.null, .null]))] sz)) 0 0 (va_A [(aw, .inr (0, [.null, .null]))] sz) := by
  refine Met.ofW (cc := b_Wa_init) (maxL := 1) (ret := none) (by decide) rfl ?_
  intro p e s m args below meth c s₁ B hml hv
  obtain ⟨ha, hsz, hP, hK, hD0⟩ := hv
  have hx := B.exec
  have hb := B.bytes
  have hr := B.returns
  have hts := atoms_spec (ws := ws_Wa_init) B.pre
  have hg : ∀ w ∈ ALLG, w.before args s = true := fun w h => hts w (List.mem_cons_of_mem _ h)
  have hown : s.vm.findClass R_Wa = some m.cls := findClass_of_methodNamed B.named
  have hlocks := B.notSynchronized
  have hin : meth.name = "<init>" := (name_of_methodNamed B.named B.method).1
  subst hsz
  have hD := hD0.self (sz := s.heap.size)
  generalize hAe : va_A [(aw, .inr (0, [.null, .null]))] s.heap.size = A at hD ⊢
  have hA : ∀ q : Nat, s.heap.size ≤ q → A q := fun q h => by rw [← hAe]; exact Or.inr h
  have hS : va_S A s.heap s.heap [] := va_S.rf
  have hP : va_P DD vwCl [(aw, .inr (0, [.null, .null]))] s.heap := hP
  have hl := lv_entry ([.ref aw]) (n := 1) (Nat.le_of_ble_eq_true rfl)
  rw [ha, lg_entry_eq, ← ha]
  generalize (lg_sl ([.ref aw]) ++ List.replicate (1 - (lg_sl ([.ref aw])).length) Slot.unset).toArray = ls at hl ⊢
  have hl : lv_has ls 1 [(0, .ref aw)] := hl
  refine lv_aload_n hx hb d_Wa_init_0 rfl (lv_at hl 0 rfl) ?_
  refine W.objInit hx hb hown (hg _ mw_92) (hg _ mw_27) (hg _ mw_28) rfl (by rw [hml]; exact hl.1) rfl d_Wa_init_1 (Nat.le_of_ble_eq_true rfl) (Nat.le_of_ble_eq_true rfl) ?_
  refine W.eq (g2 := F0 m 4 ls []) rfl ?_
  have hK9 := hK.sub (tys' := []) [] rfl
  have hP9 := hP.sub (ws' := [(aw, .inr (0, [.null, .null]))]) [0] rfl
  have hD9 := hD.sub (ws' := [(aw, .inr (0, [.null, .null]))]) [0] (by decide) rfl
  exact W.vret hx hb hr (fun t9 ht9 hW9 => ⟨⟨(), rfl, trivial, by rw [ht9]; exact hP9, va_K.moved hW9.alike hK9, hD9⟩, hS.F ht9⟩) hS.2.2 d_Wa_init_4
theorem d_By_init_0 : decode b_By_init 0 = .ok (.aload_n 0, 1) := by decide +kernel
theorem d_By_init_1 : decode b_By_init 1 = .ok (.invokespecial 3, 3) := by decide +kernel
theorem d_By_init_4 : decode b_By_init 4 = .ok (.aload_n 0, 1) := by decide +kernel
theorem d_By_init_5 : decode b_By_init 5 = .ok (.sipush 256, 3) := by decide +kernel
theorem d_By_init_8 : decode b_By_init 8 = .ok (.newarray .int, 2) := by decide +kernel
theorem d_By_init_10 : decode b_By_init 10 = .ok (.putfield 11, 3) := by decide +kernel
theorem d_By_init_13 : decode b_By_init 13 = .ok (.aload_n 0, 1) := by decide +kernel
theorem d_By_init_14 : decode b_By_init 14 = .ok (.sipush 150, 3) := by decide +kernel
theorem d_By_init_17 : decode b_By_init 17 = .ok (.newarray .int, 2) := by decide +kernel
theorem d_By_init_19 : decode b_By_init 19 = .ok (.putfield 15, 3) := by decide +kernel
theorem d_By_init_22 : decode b_By_init 22 = .ok (.return_, 1) := by decide +kernel
abbrev ws_By_init : List Cond := .code y_By_init b_By_init 1 none :: ALLG
abbrev rm_By_init : Room := { frames := 2, cells := 2, slots := 406, locals := 32 }
set_option maxHeartbeats 4000000 in
set_option maxRecDepth 100000 in
theorem c_By_init (l : Launch) (DD : va_G) (sz : Nat) (aw : Nat) : Met l y_By_init ws_By_init rm_By_init (va_Pc [.ref aw] (fun U => U.heap.size = sz ∧ va_P DD vwCl [(aw, .inr (0, [.null, .null]))] U.heap ∧ va_K DD vwCl [] U ∧ va_D (fun _ => True) [(aw, .inr (0, [.null, .null]))] ∧ XK U)) (va_Qv (fun (u9 : Nat × ClassId × Nat × ClassId) => match u9 with | (hbn, cbn, hbd, cbd) => True) (fun (u9 : Nat × ClassId × Nat × ClassId) (t9 : State) => match u9 with | (hbn, cbn, hbd, cbd) => va_P DD vwCl [(aw, .inr (0, [.ref hbn, .ref hbd])), (hbn, .inl (cbn, 256, .inl (nF zN))), (hbd, .inl (cbd, 150, .inl (nF zN)))] t9.heap ∧ va_K DD vwCl [(cbn, .int), (cbd, .int)] t9 ∧ va_D (va_A [(aw, .inr (0, [.null, .null]))] sz) [(aw, .inr (0, [.ref hbn, .ref hbd])), (hbn, .inl (cbn, 256, .inl (nF zN))), (hbd, .inl (cbd, 150, .inl (nF zN)))]) (va_A [(aw, .inr (0, [.null, .null]))] sz)) 2 406 (va_A [(aw, .inr (0, [.null, .null]))] sz) := by
  refine Met.ofW (cc := b_By_init) (maxL := 1) (ret := none) (by decide) rfl ?_
  intro p e s m args below meth c s₁ B hml hv
  obtain ⟨ha, hsz, hP, hK, hD0, hXK⟩ := hv
  have hx := B.exec
  have hb := B.bytes
  have hr := B.returns
  have hts := atoms_spec (ws := ws_By_init) B.pre
  have hg : ∀ w ∈ ALLG, w.before args s = true := fun w h => hts w (List.mem_cons_of_mem _ h)
  have hown : s.vm.findClass R_By = some m.cls := findClass_of_methodNamed B.named
  have hlocks := B.notSynchronized
  have hin : meth.name = "<init>" := (name_of_methodNamed B.named B.method).1
  subst hsz
  have hD := hD0.self (sz := s.heap.size)
  generalize hAe : va_A [(aw, .inr (0, [.null, .null]))] s.heap.size = A at hD ⊢
  have hA : ∀ q : Nat, s.heap.size ≤ q → A q := fun q h => by rw [← hAe]; exact Or.inr h
  have hS : va_S A s.heap s.heap [] := va_S.rf
  have hP : va_P DD vwCl [(aw, .inr (0, [.null, .null]))] s.heap := hP
  have hl := lv_entry ([.ref aw]) (n := 1) (Nat.le_of_ble_eq_true rfl)
  rw [ha, lg_entry_eq, ← ha]
  generalize (lg_sl ([.ref aw]) ++ List.replicate (1 - (lg_sl ([.ref aw])).length) Slot.unset).toArray = ls at hl ⊢
  have hl : lv_has ls 1 [(0, .ref aw)] := hl
  refine lv_aload_n hx hb d_By_init_0 rfl (lv_at hl 0 rfl) ?_
  have hPc := hP.sub (ws' := [(aw, .inr (0, [.null, .null]))]) [0] rfl
  have hKc := hK.sub (tys' := []) [] rfl
  have hDc := hD.sub (ws' := [(aw, .inr (0, [.null, .null]))]) [0] (by decide) rfl
  have hFc := va_free (wc := [(aw, .inr (0, [.null, .null]))]) hD hS hA [0] rfl
  refine va_callv (va_runIN (As := []) (rest := []) ⟨hx, hb, hml, hown, hg⟩ (c_Wa_init_By l DD s.heap.size aw) ⟨va_cnB 0 hg (gi_c mw_91) rfl rfl rfl (hXK.2.1 ("SortDesk$ByBytes", 3, ⟨"SortDesk$Way", "<init>", "()V"⟩, "SortDesk") (by decide)) (hg _ mw_5) (by decide +kernel) ⟨Nat.le_of_ble_eq_true rfl, Nat.le_of_ble_eq_true rfl⟩, rfl, hg _ mw_90⟩ ⟨z_blindQ, z_preQ hPc hKc hDc⟩ rfl rfl hl.1 rfl (lv_room (Nat.le_of_ble_eq_true rfl)) d_By_init_1 ⟨Nat.le_of_ble_eq_true rfl, Nat.le_of_ble_eq_true rfl⟩) hS (fun q _ h => hFc q h) hFc (fun u9 t9 H9 locs ht9 hvm9 hw9 hB9 hz9 hk9 hS => ?_)
  obtain ⟨hP1, hK1, hD1⟩ := hB9
  rw [ht9] at hP1
  try dsimp only at hw9
  obtain ⟨hP, hD⟩ := va_join (wr := []) (w1 := [(aw, .inr (0, [.null, .null]))]) hP hD [0] [] rfl rfl (by decide) (by decide) hk9 hFc hP1 hD1
  generalize H9 = H at hP hS ⊢
  have hP : va_P DD vwCl [(aw, .inr (0, [.null, .null]))] H := hP
  have hD : va_D A [(aw, .inr (0, [.null, .null]))] := hD
  refine lv_aload_n hx hb d_By_init_4 rfl (lv_at hl 0 rfl) ?_
  refine lv_sipush (v := nI 256) hx hb d_By_init_5 (by decide) ?_
  refine va_newa (atype := .int) (ty := .int) (a0 := (256, .inl (nF zN))) hx hb (hg _ mw_45) rfl hK hP hD hS hA (fun _ => rfl) (by decide) (by decide) (by decide) (Nat.le_of_ble_eq_true rfl) (Nat.le_of_ble_eq_true rfl) d_By_init_8 (fun q_8 cA_8 H hK hP hD hS => ?_)
  have hK : va_K DD vwCl [(cA_8, .int)] s := hK
  have hP : va_P DD vwCl [(aw, .inr (0, [.null, .null])), (q_8, .inl (cA_8, 256, .inl (nF zN)))] H := hP
  have hD : va_D A [(aw, .inr (0, [.null, .null])), (q_8, .inl (cA_8, 256, .inl (nF zN)))] := hD
  refine W.widen (k := 1) (n := 256) (by decide) (by decide) ?_
  refine va_putF (D := DD) (ci := 0) (v := .ref q_8) (ty := .array .int) (C := R_By) (T := T_By) (N := 2) hx hb hg in_By t_By to_By n_By hown hK hP hD hS 0 rfl rfl 0 (by decide) (hg _ mw_133) (fun _ h9 => h9) rfl hin rfl (by decide +kernel) rfl rfl (Nat.le_of_ble_eq_true rfl) d_By_init_10 (fun H locs hP hD hS => ?_)
  have hP : va_P DD vwCl [(aw, .inr (0, [.ref q_8, .null])), (q_8, .inl (cA_8, 256, .inl (nF zN)))] H := hP
  have hD : va_D A [(aw, .inr (0, [.ref q_8, .null])), (q_8, .inl (cA_8, 256, .inl (nF zN)))] := hD
  refine lv_aload_n hx hb d_By_init_13 rfl (lv_at hl 0 rfl) ?_
  refine lv_sipush (v := nI 150) hx hb d_By_init_14 (by decide) ?_
  refine va_newa (atype := .int) (ty := .int) (a0 := (150, .inl (nF zN))) hx hb (hg _ mw_45) rfl hK hP hD hS hA (fun _ => rfl) (by decide) (by decide) (by decide) (Nat.le_of_ble_eq_true rfl) (Nat.le_of_ble_eq_true rfl) d_By_init_17 (fun q_17 cA_17 H hK hP hD hS => ?_)
  have hK : va_K DD vwCl [(cA_8, .int), (cA_17, .int)] s := hK
  have hP : va_P DD vwCl [(aw, .inr (0, [.ref q_8, .null])), (q_8, .inl (cA_8, 256, .inl (nF zN))), (q_17, .inl (cA_17, 150, .inl (nF zN)))] H := hP
  have hD : va_D A [(aw, .inr (0, [.ref q_8, .null])), (q_8, .inl (cA_8, 256, .inl (nF zN))), (q_17, .inl (cA_17, 150, .inl (nF zN)))] := hD
  refine W.widen (k := 2) (n := 406) (by decide) (by decide) ?_
  refine va_putF (D := DD) (ci := 0) (v := .ref q_17) (ty := .array .int) (C := R_By) (T := T_By) (N := 2) hx hb hg in_By t_By to_By n_By hown hK hP hD hS 0 rfl rfl 1 (by decide) (hg _ mw_134) (fun _ h9 => h9) rfl hin rfl (by decide +kernel) rfl rfl (Nat.le_of_ble_eq_true rfl) d_By_init_19 (fun H locs hP hD hS => ?_)
  have hP : va_P DD vwCl [(aw, .inr (0, [.ref q_8, .ref q_17])), (q_8, .inl (cA_8, 256, .inl (nF zN))), (q_17, .inl (cA_17, 150, .inl (nF zN)))] H := hP
  have hD : va_D A [(aw, .inr (0, [.ref q_8, .ref q_17])), (q_8, .inl (cA_8, 256, .inl (nF zN))), (q_17, .inl (cA_17, 150, .inl (nF zN)))] := hD
  refine W.widen (k := 2) (n := 406) (by decide) (by decide) ?_
  have hK9 := hK.sub (tys' := [(cA_8, .int), (cA_17, .int)]) [0, 1] rfl
  have hP9 := hP.sub (ws' := [(aw, .inr (0, [.ref q_8, .ref q_17])), (q_8, .inl (cA_8, 256, .inl (nF zN))), (q_17, .inl (cA_17, 150, .inl (nF zN)))]) [0, 1, 2] rfl
  have hD9 := hD.sub (ws' := [(aw, .inr (0, [.ref q_8, .ref q_17])), (q_8, .inl (cA_8, 256, .inl (nF zN))), (q_17, .inl (cA_17, 150, .inl (nF zN)))]) [0, 1, 2] (by decide) rfl
  exact W.vret hx hb hr (fun t9 ht9 hW9 => ⟨⟨(q_8, cA_8, q_17, cA_17), rfl, trivial, by rw [ht9]; exact hP9, va_K.moved hW9.alike hK9, hD9⟩, hS.F ht9⟩) hS.2.2 d_By_init_22
theorem d_De_init_0 : decode b_De_init 0 = .ok (.aload_n 0, 1) := by decide +kernel
theorem d_De_init_1 : decode b_De_init 1 = .ok (.invokespecial 3, 3) := by decide +kernel
theorem d_De_init_4 : decode b_De_init 4 = .ok (.aload_n 0, 1) := by decide +kernel
theorem d_De_init_5 : decode b_De_init 5 = .ok (.new 9, 3) := by decide +kernel
theorem d_De_init_8 : decode b_De_init 8 = .ok (.dup, 1) := by decide +kernel
theorem d_De_init_9 : decode b_De_init 9 = .ok (.invokespecial 11, 3) := by decide +kernel
theorem d_De_init_12 : decode b_De_init 12 = .ok (.putfield 12, 3) := by decide +kernel
theorem d_De_init_15 : decode b_De_init 15 = .ok (.aload_n 0, 1) := by decide +kernel
theorem d_De_init_16 : decode b_De_init 16 = .ok (.new 9, 3) := by decide +kernel
theorem d_De_init_19 : decode b_De_init 19 = .ok (.dup, 1) := by decide +kernel
theorem d_De_init_20 : decode b_De_init 20 = .ok (.invokespecial 11, 3) := by decide +kernel
theorem d_De_init_23 : decode b_De_init 23 = .ok (.putfield 16, 3) := by decide +kernel
theorem d_De_init_26 : decode b_De_init 26 = .ok (.aload_n 0, 1) := by decide +kernel
theorem d_De_init_27 : decode b_De_init 27 = .ok (.new 19, 3) := by decide +kernel
theorem d_De_init_30 : decode b_De_init 30 = .ok (.dup, 1) := by decide +kernel
theorem d_De_init_31 : decode b_De_init 31 = .ok (.invokespecial 21, 3) := by decide +kernel
theorem d_De_init_34 : decode b_De_init 34 = .ok (.putfield 22, 3) := by decide +kernel
theorem d_De_init_37 : decode b_De_init 37 = .ok (.aload_n 0, 1) := by decide +kernel
theorem d_De_init_38 : decode b_De_init 38 = .ok (.new 26, 3) := by decide +kernel
theorem d_De_init_41 : decode b_De_init 41 = .ok (.dup, 1) := by decide +kernel
theorem d_De_init_42 : decode b_De_init 42 = .ok (.invokespecial 28, 3) := by decide +kernel
theorem d_De_init_45 : decode b_De_init 45 = .ok (.putfield 29, 3) := by decide +kernel
theorem d_De_init_48 : decode b_De_init 48 = .ok (.aload_n 0, 1) := by decide +kernel
theorem d_De_init_49 : decode b_De_init 49 = .ok (.iconst 5, 1) := by decide +kernel
theorem d_De_init_50 : decode b_De_init 50 = .ok (.anewarray 33, 3) := by decide +kernel
theorem d_De_init_53 : decode b_De_init 53 = .ok (.putfield 35, 3) := by decide +kernel
theorem d_De_init_56 : decode b_De_init 56 = .ok (.aload_n 0, 1) := by decide +kernel
theorem d_De_init_57 : decode b_De_init 57 = .ok (.sipush 150, 3) := by decide +kernel
theorem d_De_init_60 : decode b_De_init 60 = .ok (.newarray .int, 2) := by decide +kernel
theorem d_De_init_62 : decode b_De_init 62 = .ok (.putfield 39, 3) := by decide +kernel
theorem d_De_init_65 : decode b_De_init 65 = .ok (.aload_n 0, 1) := by decide +kernel
theorem d_De_init_66 : decode b_De_init 66 = .ok (.iconst 5, 1) := by decide +kernel
theorem d_De_init_67 : decode b_De_init 67 = .ok (.newarray .int, 2) := by decide +kernel
theorem d_De_init_69 : decode b_De_init 69 = .ok (.putfield 43, 3) := by decide +kernel
theorem d_De_init_72 : decode b_De_init 72 = .ok (.aload_n 0, 1) := by decide +kernel
theorem d_De_init_73 : decode b_De_init 73 = .ok (.getfield 35, 3) := by decide +kernel
theorem d_De_init_76 : decode b_De_init 76 = .ok (.iconst 0, 1) := by decide +kernel
theorem d_De_init_77 : decode b_De_init 77 = .ok (.new 46, 3) := by decide +kernel
theorem d_De_init_80 : decode b_De_init 80 = .ok (.dup, 1) := by decide +kernel
theorem d_De_init_81 : decode b_De_init 81 = .ok (.invokespecial 48, 3) := by decide +kernel
theorem d_De_init_84 : decode b_De_init 84 = .ok (.aastore, 1) := by decide +kernel
theorem d_De_init_85 : decode b_De_init 85 = .ok (.aload_n 0, 1) := by decide +kernel
theorem d_De_init_86 : decode b_De_init 86 = .ok (.getfield 35, 3) := by decide +kernel
theorem d_De_init_89 : decode b_De_init 89 = .ok (.iconst 1, 1) := by decide +kernel
theorem d_De_init_90 : decode b_De_init 90 = .ok (.new 49, 3) := by decide +kernel
theorem d_De_init_93 : decode b_De_init 93 = .ok (.dup, 1) := by decide +kernel
theorem d_De_init_94 : decode b_De_init 94 = .ok (.invokespecial 51, 3) := by decide +kernel
theorem d_De_init_97 : decode b_De_init 97 = .ok (.aastore, 1) := by decide +kernel
theorem d_De_init_98 : decode b_De_init 98 = .ok (.aload_n 0, 1) := by decide +kernel
theorem d_De_init_99 : decode b_De_init 99 = .ok (.getfield 35, 3) := by decide +kernel
theorem d_De_init_102 : decode b_De_init 102 = .ok (.iconst 2, 1) := by decide +kernel
theorem d_De_init_103 : decode b_De_init 103 = .ok (.new 52, 3) := by decide +kernel
theorem d_De_init_106 : decode b_De_init 106 = .ok (.dup, 1) := by decide +kernel
theorem d_De_init_107 : decode b_De_init 107 = .ok (.invokespecial 54, 3) := by decide +kernel
theorem d_De_init_110 : decode b_De_init 110 = .ok (.aastore, 1) := by decide +kernel
theorem d_De_init_111 : decode b_De_init 111 = .ok (.aload_n 0, 1) := by decide +kernel
theorem d_De_init_112 : decode b_De_init 112 = .ok (.getfield 35, 3) := by decide +kernel
theorem d_De_init_115 : decode b_De_init 115 = .ok (.iconst 3, 1) := by decide +kernel
theorem d_De_init_116 : decode b_De_init 116 = .ok (.new 55, 3) := by decide +kernel
theorem d_De_init_119 : decode b_De_init 119 = .ok (.dup, 1) := by decide +kernel
theorem d_De_init_120 : decode b_De_init 120 = .ok (.invokespecial 57, 3) := by decide +kernel
theorem d_De_init_123 : decode b_De_init 123 = .ok (.aastore, 1) := by decide +kernel
theorem d_De_init_124 : decode b_De_init 124 = .ok (.aload_n 0, 1) := by decide +kernel
theorem d_De_init_125 : decode b_De_init 125 = .ok (.getfield 35, 3) := by decide +kernel
theorem d_De_init_128 : decode b_De_init 128 = .ok (.iconst 4, 1) := by decide +kernel
theorem d_De_init_129 : decode b_De_init 129 = .ok (.new 58, 3) := by decide +kernel
theorem d_De_init_132 : decode b_De_init 132 = .ok (.dup, 1) := by decide +kernel
theorem d_De_init_133 : decode b_De_init 133 = .ok (.invokespecial 60, 3) := by decide +kernel
theorem d_De_init_136 : decode b_De_init 136 = .ok (.aastore, 1) := by decide +kernel
theorem d_De_init_137 : decode b_De_init 137 = .ok (.return_, 1) := by decide +kernel
abbrev ws_De_init : List Cond := .code y_De_init b_De_init 1 none :: ALLG
abbrev rm_De_init : Room := { frames := 3, cells := 27, slots := 2986, locals := 52 }
set_option maxHeartbeats 4000000 in
set_option maxRecDepth 100000 in
theorem c_De_init (l : Launch) (DD : va_G) (sz : Nat) (ad : Nat) : Met l y_De_init ws_De_init rm_De_init (va_Pc [.ref ad] (fun U => U.heap.size = sz ∧ va_P DD vwCl [(ad, .inr (8, [.null, .null, .null, .null, .null, .null, .null, .long 0, .int (zb false), .int (zb false)]))] U.heap ∧ va_K DD vwCl [] U ∧ va_D (fun _ => True) [(ad, .inr (8, [.null, .null, .null, .null, .null, .null, .null, .long 0, .int (zb false), .int (zb false)]))] ∧ XK U)) (va_Qv (fun (u9 : Nat × Nat × ClassId × Nat × ClassId × Nat × Nat × ClassId × Nat × ClassId × Nat × Nat × ClassId × Nat × ClassId × Nat × ClassId × Nat × ClassId × Nat × Nat × ClassId × Nat × ClassId × Nat × Nat × Nat × Nat × ClassId × Nat × ClassId × Nat × Nat × ClassId × Nat × ClassId × Nat × Nat × ClassId × Nat × ClassId × Nat × ClassId × Nat × ClassId) => match u9 with | (h, hk, ck, ht, ct, h1, hk1, ck1, ht1, ct1, ar, hfg, cfg, hle, cle, hmo, cmo, hwy, cwy, aq, htf, ctf, hwv, cwv, aw0, aw1, aw2, hjs2, cjs2, hjj2, cjj2, aw3, hcc3, ccc3, hcn3, ccn3, aw4, hbn4, cbn4, hbd4, cbd4, hpn, cpn, hod, cod) => True) (fun (u9 : Nat × Nat × ClassId × Nat × ClassId × Nat × Nat × ClassId × Nat × ClassId × Nat × Nat × ClassId × Nat × ClassId × Nat × ClassId × Nat × ClassId × Nat × Nat × ClassId × Nat × ClassId × Nat × Nat × Nat × Nat × ClassId × Nat × ClassId × Nat × Nat × ClassId × Nat × ClassId × Nat × Nat × ClassId × Nat × ClassId × Nat × ClassId × Nat × ClassId) (t9 : State) => match u9 with | (h, hk, ck, ht, ct, h1, hk1, ck1, ht1, ct1, ar, hfg, cfg, hle, cle, hmo, cmo, hwy, cwy, aq, htf, ctf, hwv, cwv, aw0, aw1, aw2, hjs2, cjs2, hjj2, cjj2, aw3, hcc3, ccc3, hcn3, ccn3, aw4, hbn4, cbn4, hbd4, cbd4, hpn, cpn, hod, cod) => va_P DD vwCl [(ad, .inr (8, [.ref h, .ref h1, .ref ar, .ref aq, .ref hwv, .ref hpn, .ref hod, .long 0, .int (zb false), .int (zb false)])), (h, .inr (4, [.ref hk, .ref ht, .int (nI 0)])), (hk, .inl (ck, 150, .inl zI)), (ht, .inl (ct, 150, .inl zI)), (h1, .inr (4, [.ref hk1, .ref ht1, .int (nI 0)])), (hk1, .inl (ck1, 150, .inl zI)), (ht1, .inl (ct1, 150, .inl zI)), (ar, .inr (5, [.ref hfg, .ref hle, .ref hmo, .ref hwy, .int (nI 0)])), (hfg, .inl (cfg, 12, .inl (nF zN))), (hle, .inl (cle, 12, .inr (.inl zL))), (hmo, .inl (cmo, 12, .inr (.inl zL))), (hwy, .inl (cwy, 12, .inl (nF zN))), (aq, .inr (6, [.ref htf, .int (nI 0)])), (htf, .inl (ctf, 450, .inl zI)), (hwv, .inl (cwv, 5, .inr (.inr (.inr (.inr (wayF aw0 aw1 aw2 aw3 aw4)))))), (aw0, .inr (7, [])), (aw1, .inr (3, [])), (aw2, .inr (2, [.ref hjs2, .ref hjj2])), (hjs2, .inl (cjs2, 151, .inl (nF zN))), (hjj2, .inl (cjj2, 150, .inl (nF zN))), (aw3, .inr (1, [.ref hcc3, .ref hcn3])), (hcc3, .inl (ccc3, 501, .inl (nF zN))), (hcn3, .inl (ccn3, 501, .inl (nF zN))), (aw4, .inr (0, [.ref hbn4, .ref hbd4])), (hbn4, .inl (cbn4, 256, .inl (nF zN))), (hbd4, .inl (cbd4, 150, .inl (nF zN))), (hpn, .inl (cpn, 150, .inl (nF zN))), (hod, .inl (cod, 5, .inl (nF zN)))] t9.heap ∧ va_K DD vwCl [(ck, .int), (ct, .int), (ck1, .int), (ct1, .int), (cfg, .int), (cle, .long), (cmo, .long), (cwy, .int), (ctf, .int), (cwv, .object "SortDesk$Way"), (cjs2, .int), (cjj2, .int), (ccc3, .int), (ccn3, .int), (cbn4, .int), (cbd4, .int), (cpn, .int), (cod, .int)] t9 ∧ va_D (va_A [(ad, .inr (8, [.null, .null, .null, .null, .null, .null, .null, .long 0, .int (zb false), .int (zb false)]))] sz) [(ad, .inr (8, [.ref h, .ref h1, .ref ar, .ref aq, .ref hwv, .ref hpn, .ref hod, .long 0, .int (zb false), .int (zb false)])), (h, .inr (4, [.ref hk, .ref ht, .int (nI 0)])), (hk, .inl (ck, 150, .inl zI)), (ht, .inl (ct, 150, .inl zI)), (h1, .inr (4, [.ref hk1, .ref ht1, .int (nI 0)])), (hk1, .inl (ck1, 150, .inl zI)), (ht1, .inl (ct1, 150, .inl zI)), (ar, .inr (5, [.ref hfg, .ref hle, .ref hmo, .ref hwy, .int (nI 0)])), (hfg, .inl (cfg, 12, .inl (nF zN))), (hle, .inl (cle, 12, .inr (.inl zL))), (hmo, .inl (cmo, 12, .inr (.inl zL))), (hwy, .inl (cwy, 12, .inl (nF zN))), (aq, .inr (6, [.ref htf, .int (nI 0)])), (htf, .inl (ctf, 450, .inl zI)), (hwv, .inl (cwv, 5, .inr (.inr (.inr (.inr (wayF aw0 aw1 aw2 aw3 aw4)))))), (aw0, .inr (7, [])), (aw1, .inr (3, [])), (aw2, .inr (2, [.ref hjs2, .ref hjj2])), (hjs2, .inl (cjs2, 151, .inl (nF zN))), (hjj2, .inl (cjj2, 150, .inl (nF zN))), (aw3, .inr (1, [.ref hcc3, .ref hcn3])), (hcc3, .inl (ccc3, 501, .inl (nF zN))), (hcn3, .inl (ccn3, 501, .inl (nF zN))), (aw4, .inr (0, [.ref hbn4, .ref hbd4])), (hbn4, .inl (cbn4, 256, .inl (nF zN))), (hbd4, .inl (cbd4, 150, .inl (nF zN))), (hpn, .inl (cpn, 150, .inl (nF zN))), (hod, .inl (cod, 5, .inl (nF zN)))]) (va_A [(ad, .inr (8, [.null, .null, .null, .null, .null, .null, .null, .long 0, .int (zb false), .int (zb false)]))] sz)) 27 2986 (va_A [(ad, .inr (8, [.null, .null, .null, .null, .null, .null, .null, .long 0, .int (zb false), .int (zb false)]))] sz) := by
  refine Met.ofW (cc := b_De_init) (maxL := 1) (ret := none) (by decide) rfl ?_
  intro p e s m args below meth c s₁ B hml hv
  obtain ⟨ha, hsz, hP, hK, hD0, hXK⟩ := hv
  have hx := B.exec
  have hb := B.bytes
  have hr := B.returns
  have hts := atoms_spec (ws := ws_De_init) B.pre
  have hg : ∀ w ∈ ALLG, w.before args s = true := fun w h => hts w (List.mem_cons_of_mem _ h)
  have hown : s.vm.findClass R_De = some m.cls := findClass_of_methodNamed B.named
  have hlocks := B.notSynchronized
  have hin : meth.name = "<init>" := (name_of_methodNamed B.named B.method).1
  subst hsz
  have hD := hD0.self (sz := s.heap.size)
  generalize hAe : va_A [(ad, .inr (8, [.null, .null, .null, .null, .null, .null, .null, .long 0, .int (zb false), .int (zb false)]))] s.heap.size = A at hD ⊢
  have hA : ∀ q : Nat, s.heap.size ≤ q → A q := fun q h => by rw [← hAe]; exact Or.inr h
  have hS : va_S A s.heap s.heap [] := va_S.rf
  have hP : va_P DD vwCl [(ad, .inr (8, [.null, .null, .null, .null, .null, .null, .null, .long 0, .int (zb false), .int (zb false)]))] s.heap := hP
  have hl := lv_entry ([.ref ad]) (n := 1) (Nat.le_of_ble_eq_true rfl)
  rw [ha, lg_entry_eq, ← ha]
  generalize (lg_sl ([.ref ad]) ++ List.replicate (1 - (lg_sl ([.ref ad])).length) Slot.unset).toArray = ls at hl ⊢
  have hl : lv_has ls 1 [(0, .ref ad)] := hl
  refine lv_aload_n hx hb d_De_init_0 rfl (lv_at hl 0 rfl) ?_
  refine W.objInit hx hb hown (hg _ mw_26) (hg _ mw_27) (hg _ mw_28) rfl (by rw [hml]; exact hl.1) rfl d_De_init_1 (Nat.le_of_ble_eq_true rfl) (Nat.le_of_ble_eq_true rfl) ?_
  refine W.eq (g2 := F0 m 4 ls []) rfl ?_
  refine lv_aload_n hx hb d_De_init_4 rfl (lv_at hl 0 rfl) ?_
  refine va_new (D := DD) (ci := 4) (fs := [.null, .null, .int (nI 0)]) (C := R_Ro) (T := T_Ro) (N := 3) hx hb hg in_Ro t_Ro to_Ro hown (hg _ mw_29) (hg _ mw_30) (hg _ mw_2) hK hP hD hS hA rfl (fun j hj => by rcases (show j = 0 ∨ j = 1 ∨ j = 2 by omega) with rfl | rfl | rfl <;> rfl) (Nat.le_of_ble_eq_true rfl) (Nat.le_of_ble_eq_true rfl) d_De_init_5 (fun q_5 H hP hD hS => ?_)
  have hK : va_K DD vwCl [] s := hK
  have hP : va_P DD vwCl [(ad, .inr (8, [.null, .null, .null, .null, .null, .null, .null, .long 0, .int (zb false), .int (zb false)])), (q_5, .inr (4, [.null, .null, .int (nI 0)]))] H := hP
  have hD : va_D A [(ad, .inr (8, [.null, .null, .null, .null, .null, .null, .null, .long 0, .int (zb false), .int (zb false)])), (q_5, .inr (4, [.null, .null, .int (nI 0)]))] := hD
  refine W.widen (k := 1) (n := 3) (by decide) (by decide) ?_
  refine lv_dup hx hb d_De_init_8 rfl ?_
  have hPc := hP.sub (ws' := [(q_5, .inr (4, [.null, .null, .int (nI 0)]))]) [1] rfl
  have hKc := hK.sub (tys' := []) [] rfl
  have hDc := hD.sub (ws' := [(q_5, .inr (4, [.null, .null, .int (nI 0)]))]) [1] (by decide) rfl
  have hFc := va_free (wc := [(q_5, .inr (4, [.null, .null, .int (nI 0)]))]) hD hS hA [1] rfl
  refine va_callv (va_runIN (As := []) (rest := [.ref q_5, .ref ad]) ⟨hx, hb, hml, hown, hg⟩ (c_Ro_init l DD H.size q_5) ⟨va_cnB 0 hg (gi_c mw_33) rfl rfl rfl (hXK.2.1 ("SortDesk", 11, ⟨"SortDesk$Row", "<init>", "()V"⟩, "SortDesk") (by decide)) (hg _ mw_2) (by decide +kernel) ⟨Nat.le_of_ble_eq_true rfl, Nat.le_of_ble_eq_true rfl⟩, rfl, hg _ mw_32⟩ ⟨z_blindQ, z_preQ hPc hKc hDc⟩ rfl rfl hl.1 rfl (lv_room (Nat.le_of_ble_eq_true rfl)) d_De_init_9 ⟨Nat.le_of_ble_eq_true rfl, Nat.le_of_ble_eq_true rfl⟩) hS (fun q _ h => hFc q h) hFc (fun u9 t9 H9 locs ht9 hvm9 hw9 hB9 hz9 hk9 hS => ?_)
  obtain ⟨hk_9, ck_9, ht_9, ct_9⟩ := u9
  obtain ⟨hP1, hK1, hD1⟩ := hB9
  rw [ht9] at hP1
  try dsimp only at hw9
  obtain ⟨hP, hD⟩ := va_join (wr := [(ad, .inr (8, [.null, .null, .null, .null, .null, .null, .null, .long 0, .int (zb false), .int (zb false)]))]) (w1 := [(q_5, .inr (4, [.ref hk_9, .ref ht_9, .int (nI 0)])), (hk_9, .inl (ck_9, 150, .inl zI)), (ht_9, .inl (ct_9, 150, .inl zI))]) hP hD [1] [0] rfl rfl (by decide) (by decide) hk9 hFc hP1 hD1
  generalize H9 = H at hP hS ⊢
  have hK1 := va_K.moved hvm9.symm hK1
  have hK := hK.app hK1
  have hK : va_K DD vwCl [(ck_9, .int), (ct_9, .int)] s := hK
  have hP : va_P DD vwCl [(ad, .inr (8, [.null, .null, .null, .null, .null, .null, .null, .long 0, .int (zb false), .int (zb false)])), (q_5, .inr (4, [.ref hk_9, .ref ht_9, .int (nI 0)])), (hk_9, .inl (ck_9, 150, .inl zI)), (ht_9, .inl (ct_9, 150, .inl zI))] H := hP
  have hD : va_D A [(ad, .inr (8, [.null, .null, .null, .null, .null, .null, .null, .long 0, .int (zb false), .int (zb false)])), (q_5, .inr (4, [.ref hk_9, .ref ht_9, .int (nI 0)])), (hk_9, .inl (ck_9, 150, .inl zI)), (ht_9, .inl (ct_9, 150, .inl zI))] := hD
  refine W.widen (k := 3) (n := 303) (by decide) (by decide) ?_
  refine va_putF (D := DD) (ci := 8) (v := .ref q_5) (ty := .object "SortDesk$Row") (C := R_De) (T := T_De) (N := 10) hx hb hg in_De t_De to_De n_De hown hK hP hD hS 0 rfl rfl 0 (by decide) (hg _ mw_140) (fun _ h9 => h9) rfl hin rfl (by decide +kernel) rfl rfl (Nat.le_of_ble_eq_true rfl) d_De_init_12 (fun H locs hP hD hS => ?_)
  have hP : va_P DD vwCl [(ad, .inr (8, [.ref q_5, .null, .null, .null, .null, .null, .null, .long 0, .int (zb false), .int (zb false)])), (q_5, .inr (4, [.ref hk_9, .ref ht_9, .int (nI 0)])), (hk_9, .inl (ck_9, 150, .inl zI)), (ht_9, .inl (ct_9, 150, .inl zI))] H := hP
  have hD : va_D A [(ad, .inr (8, [.ref q_5, .null, .null, .null, .null, .null, .null, .long 0, .int (zb false), .int (zb false)])), (q_5, .inr (4, [.ref hk_9, .ref ht_9, .int (nI 0)])), (hk_9, .inl (ck_9, 150, .inl zI)), (ht_9, .inl (ct_9, 150, .inl zI))] := hD
  refine lv_aload_n hx hb d_De_init_15 rfl (lv_at hl 0 rfl) ?_
  refine va_new (D := DD) (ci := 4) (fs := [.null, .null, .int (nI 0)]) (C := R_Ro) (T := T_Ro) (N := 3) hx hb hg in_Ro t_Ro to_Ro hown (hg _ mw_29) (hg _ mw_30) (hg _ mw_2) hK hP hD hS hA rfl (fun j hj => by rcases (show j = 0 ∨ j = 1 ∨ j = 2 by omega) with rfl | rfl | rfl <;> rfl) (Nat.le_of_ble_eq_true rfl) (Nat.le_of_ble_eq_true rfl) d_De_init_16 (fun q_16 H hP hD hS => ?_)
  have hK : va_K DD vwCl [(ck_9, .int), (ct_9, .int)] s := hK
  have hP : va_P DD vwCl [(ad, .inr (8, [.ref q_5, .null, .null, .null, .null, .null, .null, .long 0, .int (zb false), .int (zb false)])), (q_5, .inr (4, [.ref hk_9, .ref ht_9, .int (nI 0)])), (hk_9, .inl (ck_9, 150, .inl zI)), (ht_9, .inl (ct_9, 150, .inl zI)), (q_16, .inr (4, [.null, .null, .int (nI 0)]))] H := hP
  have hD : va_D A [(ad, .inr (8, [.ref q_5, .null, .null, .null, .null, .null, .null, .long 0, .int (zb false), .int (zb false)])), (q_5, .inr (4, [.ref hk_9, .ref ht_9, .int (nI 0)])), (hk_9, .inl (ck_9, 150, .inl zI)), (ht_9, .inl (ct_9, 150, .inl zI)), (q_16, .inr (4, [.null, .null, .int (nI 0)]))] := hD
  refine W.widen (k := 4) (n := 306) (by decide) (by decide) ?_
  refine lv_dup hx hb d_De_init_19 rfl ?_
  have hPc := hP.sub (ws' := [(q_16, .inr (4, [.null, .null, .int (nI 0)]))]) [4] rfl
  have hKc := hK.sub (tys' := []) [] rfl
  have hDc := hD.sub (ws' := [(q_16, .inr (4, [.null, .null, .int (nI 0)]))]) [4] (by decide) rfl
  have hFc := va_free (wc := [(q_16, .inr (4, [.null, .null, .int (nI 0)]))]) hD hS hA [4] rfl
  refine va_callv (va_runIN (As := []) (rest := [.ref q_16, .ref ad]) ⟨hx, hb, hml, hown, hg⟩ (c_Ro_init l DD H.size q_16) ⟨va_cnB 0 hg (gi_c mw_33) rfl rfl rfl (hXK.2.1 ("SortDesk", 11, ⟨"SortDesk$Row", "<init>", "()V"⟩, "SortDesk") (by decide)) (hg _ mw_2) (by decide +kernel) ⟨Nat.le_of_ble_eq_true rfl, Nat.le_of_ble_eq_true rfl⟩, rfl, hg _ mw_32⟩ ⟨z_blindQ, z_preQ hPc hKc hDc⟩ rfl rfl hl.1 rfl (lv_room (Nat.le_of_ble_eq_true rfl)) d_De_init_20 ⟨Nat.le_of_ble_eq_true rfl, Nat.le_of_ble_eq_true rfl⟩) hS (fun q _ h => hFc q h) hFc (fun u9 t9 H9 locs ht9 hvm9 hw9 hB9 hz9 hk9 hS => ?_)
  obtain ⟨hk_20, ck_20, ht_20, ct_20⟩ := u9
  obtain ⟨hP1, hK1, hD1⟩ := hB9
  rw [ht9] at hP1
  try dsimp only at hw9
  obtain ⟨hP, hD⟩ := va_join (wr := [(ad, .inr (8, [.ref q_5, .null, .null, .null, .null, .null, .null, .long 0, .int (zb false), .int (zb false)])), (q_5, .inr (4, [.ref hk_9, .ref ht_9, .int (nI 0)])), (hk_9, .inl (ck_9, 150, .inl zI)), (ht_9, .inl (ct_9, 150, .inl zI))]) (w1 := [(q_16, .inr (4, [.ref hk_20, .ref ht_20, .int (nI 0)])), (hk_20, .inl (ck_20, 150, .inl zI)), (ht_20, .inl (ct_20, 150, .inl zI))]) hP hD [4] [0, 1, 2, 3] rfl rfl (by decide) (by decide) hk9 hFc hP1 hD1
  generalize H9 = H at hP hS ⊢
  have hK1 := va_K.moved hvm9.symm hK1
  have hK := hK.app hK1
  have hK : va_K DD vwCl [(ck_9, .int), (ct_9, .int), (ck_20, .int), (ct_20, .int)] s := hK
  have hP : va_P DD vwCl [(ad, .inr (8, [.ref q_5, .null, .null, .null, .null, .null, .null, .long 0, .int (zb false), .int (zb false)])), (q_5, .inr (4, [.ref hk_9, .ref ht_9, .int (nI 0)])), (hk_9, .inl (ck_9, 150, .inl zI)), (ht_9, .inl (ct_9, 150, .inl zI)), (q_16, .inr (4, [.ref hk_20, .ref ht_20, .int (nI 0)])), (hk_20, .inl (ck_20, 150, .inl zI)), (ht_20, .inl (ct_20, 150, .inl zI))] H := hP
  have hD : va_D A [(ad, .inr (8, [.ref q_5, .null, .null, .null, .null, .null, .null, .long 0, .int (zb false), .int (zb false)])), (q_5, .inr (4, [.ref hk_9, .ref ht_9, .int (nI 0)])), (hk_9, .inl (ck_9, 150, .inl zI)), (ht_9, .inl (ct_9, 150, .inl zI)), (q_16, .inr (4, [.ref hk_20, .ref ht_20, .int (nI 0)])), (hk_20, .inl (ck_20, 150, .inl zI)), (ht_20, .inl (ct_20, 150, .inl zI))] := hD
  refine W.widen (k := 6) (n := 606) (by decide) (by decide) ?_
  refine va_putF (D := DD) (ci := 8) (v := .ref q_16) (ty := .object "SortDesk$Row") (C := R_De) (T := T_De) (N := 10) hx hb hg in_De t_De to_De n_De hown hK hP hD hS 0 rfl rfl 1 (by decide) (hg _ mw_141) (fun _ h9 => h9) rfl hin rfl (by decide +kernel) rfl rfl (Nat.le_of_ble_eq_true rfl) d_De_init_23 (fun H locs hP hD hS => ?_)
  have hP : va_P DD vwCl [(ad, .inr (8, [.ref q_5, .ref q_16, .null, .null, .null, .null, .null, .long 0, .int (zb false), .int (zb false)])), (q_5, .inr (4, [.ref hk_9, .ref ht_9, .int (nI 0)])), (hk_9, .inl (ck_9, 150, .inl zI)), (ht_9, .inl (ct_9, 150, .inl zI)), (q_16, .inr (4, [.ref hk_20, .ref ht_20, .int (nI 0)])), (hk_20, .inl (ck_20, 150, .inl zI)), (ht_20, .inl (ct_20, 150, .inl zI))] H := hP
  have hD : va_D A [(ad, .inr (8, [.ref q_5, .ref q_16, .null, .null, .null, .null, .null, .long 0, .int (zb false), .int (zb false)])), (q_5, .inr (4, [.ref hk_9, .ref ht_9, .int (nI 0)])), (hk_9, .inl (ck_9, 150, .inl zI)), (ht_9, .inl (ct_9, 150, .inl zI)), (q_16, .inr (4, [.ref hk_20, .ref ht_20, .int (nI 0)])), (hk_20, .inl (ck_20, 150, .inl zI)), (ht_20, .inl (ct_20, 150, .inl zI))] := hD
  refine lv_aload_n hx hb d_De_init_26 rfl (lv_at hl 0 rfl) ?_
  refine va_new (D := DD) (ci := 5) (fs := [.null, .null, .null, .null, .int (nI 0)]) (C := R_Ru) (T := T_Ru) (N := 5) hx hb hg in_Ru t_Ru to_Ru hown (hg _ mw_46) (hg _ mw_47) (hg _ mw_3) hK hP hD hS hA rfl (fun j hj => by rcases (show j = 0 ∨ j = 1 ∨ j = 2 ∨ j = 3 ∨ j = 4 by omega) with rfl | rfl | rfl | rfl | rfl <;> rfl) (Nat.le_of_ble_eq_true rfl) (Nat.le_of_ble_eq_true rfl) d_De_init_27 (fun q_27 H hP hD hS => ?_)
  have hK : va_K DD vwCl [(ck_9, .int), (ct_9, .int), (ck_20, .int), (ct_20, .int)] s := hK
  have hP : va_P DD vwCl [(ad, .inr (8, [.ref q_5, .ref q_16, .null, .null, .null, .null, .null, .long 0, .int (zb false), .int (zb false)])), (q_5, .inr (4, [.ref hk_9, .ref ht_9, .int (nI 0)])), (hk_9, .inl (ck_9, 150, .inl zI)), (ht_9, .inl (ct_9, 150, .inl zI)), (q_16, .inr (4, [.ref hk_20, .ref ht_20, .int (nI 0)])), (hk_20, .inl (ck_20, 150, .inl zI)), (ht_20, .inl (ct_20, 150, .inl zI)), (q_27, .inr (5, [.null, .null, .null, .null, .int (nI 0)]))] H := hP
  have hD : va_D A [(ad, .inr (8, [.ref q_5, .ref q_16, .null, .null, .null, .null, .null, .long 0, .int (zb false), .int (zb false)])), (q_5, .inr (4, [.ref hk_9, .ref ht_9, .int (nI 0)])), (hk_9, .inl (ck_9, 150, .inl zI)), (ht_9, .inl (ct_9, 150, .inl zI)), (q_16, .inr (4, [.ref hk_20, .ref ht_20, .int (nI 0)])), (hk_20, .inl (ck_20, 150, .inl zI)), (ht_20, .inl (ct_20, 150, .inl zI)), (q_27, .inr (5, [.null, .null, .null, .null, .int (nI 0)]))] := hD
  refine W.widen (k := 7) (n := 611) (by decide) (by decide) ?_
  refine lv_dup hx hb d_De_init_30 rfl ?_
  have hPc := hP.sub (ws' := [(q_27, .inr (5, [.null, .null, .null, .null, .int (nI 0)]))]) [7] rfl
  have hKc := hK.sub (tys' := []) [] rfl
  have hDc := hD.sub (ws' := [(q_27, .inr (5, [.null, .null, .null, .null, .int (nI 0)]))]) [7] (by decide) rfl
  have hFc := va_free (wc := [(q_27, .inr (5, [.null, .null, .null, .null, .int (nI 0)]))]) hD hS hA [7] rfl
  refine va_callv (va_runIN (As := []) (rest := [.ref q_27, .ref ad]) ⟨hx, hb, hml, hown, hg⟩ (c_Ru_init l DD H.size q_27) ⟨va_cnB 0 hg (gi_c mw_50) rfl rfl rfl (hXK.2.1 ("SortDesk", 21, ⟨"SortDesk$RuleTable", "<init>", "()V"⟩, "SortDesk") (by decide)) (hg _ mw_3) (by decide +kernel) ⟨Nat.le_of_ble_eq_true rfl, Nat.le_of_ble_eq_true rfl⟩, rfl, hg _ mw_49⟩ ⟨z_blindQ, z_preQ hPc hKc hDc⟩ rfl rfl hl.1 rfl (lv_room (Nat.le_of_ble_eq_true rfl)) d_De_init_31 ⟨Nat.le_of_ble_eq_true rfl, Nat.le_of_ble_eq_true rfl⟩) hS (fun q _ h => hFc q h) hFc (fun u9 t9 H9 locs ht9 hvm9 hw9 hB9 hz9 hk9 hS => ?_)
  obtain ⟨hfg_31, cfg_31, hle_31, cle_31, hmo_31, cmo_31, hwy_31, cwy_31⟩ := u9
  obtain ⟨hP1, hK1, hD1⟩ := hB9
  rw [ht9] at hP1
  try dsimp only at hw9
  obtain ⟨hP, hD⟩ := va_join (wr := [(ad, .inr (8, [.ref q_5, .ref q_16, .null, .null, .null, .null, .null, .long 0, .int (zb false), .int (zb false)])), (q_5, .inr (4, [.ref hk_9, .ref ht_9, .int (nI 0)])), (hk_9, .inl (ck_9, 150, .inl zI)), (ht_9, .inl (ct_9, 150, .inl zI)), (q_16, .inr (4, [.ref hk_20, .ref ht_20, .int (nI 0)])), (hk_20, .inl (ck_20, 150, .inl zI)), (ht_20, .inl (ct_20, 150, .inl zI))]) (w1 := [(q_27, .inr (5, [.ref hfg_31, .ref hle_31, .ref hmo_31, .ref hwy_31, .int (nI 0)])), (hfg_31, .inl (cfg_31, 12, .inl (nF zN))), (hle_31, .inl (cle_31, 12, .inr (.inl zL))), (hmo_31, .inl (cmo_31, 12, .inr (.inl zL))), (hwy_31, .inl (cwy_31, 12, .inl (nF zN)))]) hP hD [7] [0, 1, 2, 3, 4, 5, 6] rfl rfl (by decide) (by decide) hk9 hFc hP1 hD1
  generalize H9 = H at hP hS ⊢
  have hK1 := va_K.moved hvm9.symm hK1
  have hK := hK.app hK1
  have hK : va_K DD vwCl [(ck_9, .int), (ct_9, .int), (ck_20, .int), (ct_20, .int), (cfg_31, .int), (cle_31, .long), (cmo_31, .long), (cwy_31, .int)] s := hK
  have hP : va_P DD vwCl [(ad, .inr (8, [.ref q_5, .ref q_16, .null, .null, .null, .null, .null, .long 0, .int (zb false), .int (zb false)])), (q_5, .inr (4, [.ref hk_9, .ref ht_9, .int (nI 0)])), (hk_9, .inl (ck_9, 150, .inl zI)), (ht_9, .inl (ct_9, 150, .inl zI)), (q_16, .inr (4, [.ref hk_20, .ref ht_20, .int (nI 0)])), (hk_20, .inl (ck_20, 150, .inl zI)), (ht_20, .inl (ct_20, 150, .inl zI)), (q_27, .inr (5, [.ref hfg_31, .ref hle_31, .ref hmo_31, .ref hwy_31, .int (nI 0)])), (hfg_31, .inl (cfg_31, 12, .inl (nF zN))), (hle_31, .inl (cle_31, 12, .inr (.inl zL))), (hmo_31, .inl (cmo_31, 12, .inr (.inl zL))), (hwy_31, .inl (cwy_31, 12, .inl (nF zN)))] H := hP
  have hD : va_D A [(ad, .inr (8, [.ref q_5, .ref q_16, .null, .null, .null, .null, .null, .long 0, .int (zb false), .int (zb false)])), (q_5, .inr (4, [.ref hk_9, .ref ht_9, .int (nI 0)])), (hk_9, .inl (ck_9, 150, .inl zI)), (ht_9, .inl (ct_9, 150, .inl zI)), (q_16, .inr (4, [.ref hk_20, .ref ht_20, .int (nI 0)])), (hk_20, .inl (ck_20, 150, .inl zI)), (ht_20, .inl (ct_20, 150, .inl zI)), (q_27, .inr (5, [.ref hfg_31, .ref hle_31, .ref hmo_31, .ref hwy_31, .int (nI 0)])), (hfg_31, .inl (cfg_31, 12, .inl (nF zN))), (hle_31, .inl (cle_31, 12, .inr (.inl zL))), (hmo_31, .inl (cmo_31, 12, .inr (.inl zL))), (hwy_31, .inl (cwy_31, 12, .inl (nF zN)))] := hD
  refine W.widen (k := 11) (n := 659) (by decide) (by decide) ?_
  refine va_putF (D := DD) (ci := 8) (v := .ref q_27) (ty := .object "SortDesk$RuleTable") (C := R_De) (T := T_De) (N := 10) hx hb hg in_De t_De to_De n_De hown hK hP hD hS 0 rfl rfl 2 (by decide) (hg _ mw_142) (fun _ h9 => h9) rfl hin rfl (by decide +kernel) rfl rfl (Nat.le_of_ble_eq_true rfl) d_De_init_34 (fun H locs hP hD hS => ?_)
  have hP : va_P DD vwCl [(ad, .inr (8, [.ref q_5, .ref q_16, .ref q_27, .null, .null, .null, .null, .long 0, .int (zb false), .int (zb false)])), (q_5, .inr (4, [.ref hk_9, .ref ht_9, .int (nI 0)])), (hk_9, .inl (ck_9, 150, .inl zI)), (ht_9, .inl (ct_9, 150, .inl zI)), (q_16, .inr (4, [.ref hk_20, .ref ht_20, .int (nI 0)])), (hk_20, .inl (ck_20, 150, .inl zI)), (ht_20, .inl (ct_20, 150, .inl zI)), (q_27, .inr (5, [.ref hfg_31, .ref hle_31, .ref hmo_31, .ref hwy_31, .int (nI 0)])), (hfg_31, .inl (cfg_31, 12, .inl (nF zN))), (hle_31, .inl (cle_31, 12, .inr (.inl zL))), (hmo_31, .inl (cmo_31, 12, .inr (.inl zL))), (hwy_31, .inl (cwy_31, 12, .inl (nF zN)))] H := hP
  have hD : va_D A [(ad, .inr (8, [.ref q_5, .ref q_16, .ref q_27, .null, .null, .null, .null, .long 0, .int (zb false), .int (zb false)])), (q_5, .inr (4, [.ref hk_9, .ref ht_9, .int (nI 0)])), (hk_9, .inl (ck_9, 150, .inl zI)), (ht_9, .inl (ct_9, 150, .inl zI)), (q_16, .inr (4, [.ref hk_20, .ref ht_20, .int (nI 0)])), (hk_20, .inl (ck_20, 150, .inl zI)), (ht_20, .inl (ct_20, 150, .inl zI)), (q_27, .inr (5, [.ref hfg_31, .ref hle_31, .ref hmo_31, .ref hwy_31, .int (nI 0)])), (hfg_31, .inl (cfg_31, 12, .inl (nF zN))), (hle_31, .inl (cle_31, 12, .inr (.inl zL))), (hmo_31, .inl (cmo_31, 12, .inr (.inl zL))), (hwy_31, .inl (cwy_31, 12, .inl (nF zN)))] := hD
  refine lv_aload_n hx hb d_De_init_37 rfl (lv_at hl 0 rfl) ?_
  refine va_new (D := DD) (ci := 6) (fs := [.null, .int (nI 0)]) (C := R_Tr) (T := T_Tr) (N := 2) hx hb hg in_Tr t_Tr to_Tr hown (hg _ mw_69) (hg _ mw_70) (hg _ mw_4) hK hP hD hS hA rfl (fun j hj => by rcases (show j = 0 ∨ j = 1 by omega) with rfl | rfl <;> rfl) (Nat.le_of_ble_eq_true rfl) (Nat.le_of_ble_eq_true rfl) d_De_init_38 (fun q_38 H hP hD hS => ?_)
  have hK : va_K DD vwCl [(ck_9, .int), (ct_9, .int), (ck_20, .int), (ct_20, .int), (cfg_31, .int), (cle_31, .long), (cmo_31, .long), (cwy_31, .int)] s := hK
  have hP : va_P DD vwCl [(ad, .inr (8, [.ref q_5, .ref q_16, .ref q_27, .null, .null, .null, .null, .long 0, .int (zb false), .int (zb false)])), (q_5, .inr (4, [.ref hk_9, .ref ht_9, .int (nI 0)])), (hk_9, .inl (ck_9, 150, .inl zI)), (ht_9, .inl (ct_9, 150, .inl zI)), (q_16, .inr (4, [.ref hk_20, .ref ht_20, .int (nI 0)])), (hk_20, .inl (ck_20, 150, .inl zI)), (ht_20, .inl (ct_20, 150, .inl zI)), (q_27, .inr (5, [.ref hfg_31, .ref hle_31, .ref hmo_31, .ref hwy_31, .int (nI 0)])), (hfg_31, .inl (cfg_31, 12, .inl (nF zN))), (hle_31, .inl (cle_31, 12, .inr (.inl zL))), (hmo_31, .inl (cmo_31, 12, .inr (.inl zL))), (hwy_31, .inl (cwy_31, 12, .inl (nF zN))), (q_38, .inr (6, [.null, .int (nI 0)]))] H := hP
  have hD : va_D A [(ad, .inr (8, [.ref q_5, .ref q_16, .ref q_27, .null, .null, .null, .null, .long 0, .int (zb false), .int (zb false)])), (q_5, .inr (4, [.ref hk_9, .ref ht_9, .int (nI 0)])), (hk_9, .inl (ck_9, 150, .inl zI)), (ht_9, .inl (ct_9, 150, .inl zI)), (q_16, .inr (4, [.ref hk_20, .ref ht_20, .int (nI 0)])), (hk_20, .inl (ck_20, 150, .inl zI)), (ht_20, .inl (ct_20, 150, .inl zI)), (q_27, .inr (5, [.ref hfg_31, .ref hle_31, .ref hmo_31, .ref hwy_31, .int (nI 0)])), (hfg_31, .inl (cfg_31, 12, .inl (nF zN))), (hle_31, .inl (cle_31, 12, .inr (.inl zL))), (hmo_31, .inl (cmo_31, 12, .inr (.inl zL))), (hwy_31, .inl (cwy_31, 12, .inl (nF zN))), (q_38, .inr (6, [.null, .int (nI 0)]))] := hD
  refine W.widen (k := 12) (n := 661) (by decide) (by decide) ?_
  refine lv_dup hx hb d_De_init_41 rfl ?_
  have hPc := hP.sub (ws' := [(q_38, .inr (6, [.null, .int (nI 0)]))]) [12] rfl
  have hKc := hK.sub (tys' := []) [] rfl
  have hDc := hD.sub (ws' := [(q_38, .inr (6, [.null, .int (nI 0)]))]) [12] (by decide) rfl
  have hFc := va_free (wc := [(q_38, .inr (6, [.null, .int (nI 0)]))]) hD hS hA [12] rfl
  refine va_callv (va_runIN (As := []) (rest := [.ref q_38, .ref ad]) ⟨hx, hb, hml, hown, hg⟩ (c_Tr_init l DD H.size q_38) ⟨va_cnB 0 hg (gi_c mw_73) rfl rfl rfl (hXK.2.1 ("SortDesk", 28, ⟨"SortDesk$Trail", "<init>", "()V"⟩, "SortDesk") (by decide)) (hg _ mw_4) (by decide +kernel) ⟨Nat.le_of_ble_eq_true rfl, Nat.le_of_ble_eq_true rfl⟩, rfl, hg _ mw_72⟩ ⟨z_blindQ, z_preQ hPc hKc hDc⟩ rfl rfl hl.1 rfl (lv_room (Nat.le_of_ble_eq_true rfl)) d_De_init_42 ⟨Nat.le_of_ble_eq_true rfl, Nat.le_of_ble_eq_true rfl⟩) hS (fun q _ h => hFc q h) hFc (fun u9 t9 H9 locs ht9 hvm9 hw9 hB9 hz9 hk9 hS => ?_)
  obtain ⟨htf_42, ctf_42⟩ := u9
  obtain ⟨hP1, hK1, hD1⟩ := hB9
  rw [ht9] at hP1
  try dsimp only at hw9
  obtain ⟨hP, hD⟩ := va_join (wr := [(ad, .inr (8, [.ref q_5, .ref q_16, .ref q_27, .null, .null, .null, .null, .long 0, .int (zb false), .int (zb false)])), (q_5, .inr (4, [.ref hk_9, .ref ht_9, .int (nI 0)])), (hk_9, .inl (ck_9, 150, .inl zI)), (ht_9, .inl (ct_9, 150, .inl zI)), (q_16, .inr (4, [.ref hk_20, .ref ht_20, .int (nI 0)])), (hk_20, .inl (ck_20, 150, .inl zI)), (ht_20, .inl (ct_20, 150, .inl zI)), (q_27, .inr (5, [.ref hfg_31, .ref hle_31, .ref hmo_31, .ref hwy_31, .int (nI 0)])), (hfg_31, .inl (cfg_31, 12, .inl (nF zN))), (hle_31, .inl (cle_31, 12, .inr (.inl zL))), (hmo_31, .inl (cmo_31, 12, .inr (.inl zL))), (hwy_31, .inl (cwy_31, 12, .inl (nF zN)))]) (w1 := [(q_38, .inr (6, [.ref htf_42, .int (nI 0)])), (htf_42, .inl (ctf_42, 450, .inl zI))]) hP hD [12] [0, 1, 2, 3, 4, 5, 6, 7, 8, 9, 10, 11] rfl rfl (by decide) (by decide) hk9 hFc hP1 hD1
  generalize H9 = H at hP hS ⊢
  have hK1 := va_K.moved hvm9.symm hK1
  have hK := hK.app hK1
  have hK : va_K DD vwCl [(ck_9, .int), (ct_9, .int), (ck_20, .int), (ct_20, .int), (cfg_31, .int), (cle_31, .long), (cmo_31, .long), (cwy_31, .int), (ctf_42, .int)] s := hK
  have hP : va_P DD vwCl [(ad, .inr (8, [.ref q_5, .ref q_16, .ref q_27, .null, .null, .null, .null, .long 0, .int (zb false), .int (zb false)])), (q_5, .inr (4, [.ref hk_9, .ref ht_9, .int (nI 0)])), (hk_9, .inl (ck_9, 150, .inl zI)), (ht_9, .inl (ct_9, 150, .inl zI)), (q_16, .inr (4, [.ref hk_20, .ref ht_20, .int (nI 0)])), (hk_20, .inl (ck_20, 150, .inl zI)), (ht_20, .inl (ct_20, 150, .inl zI)), (q_27, .inr (5, [.ref hfg_31, .ref hle_31, .ref hmo_31, .ref hwy_31, .int (nI 0)])), (hfg_31, .inl (cfg_31, 12, .inl (nF zN))), (hle_31, .inl (cle_31, 12, .inr (.inl zL))), (hmo_31, .inl (cmo_31, 12, .inr (.inl zL))), (hwy_31, .inl (cwy_31, 12, .inl (nF zN))), (q_38, .inr (6, [.ref htf_42, .int (nI 0)])), (htf_42, .inl (ctf_42, 450, .inl zI))] H := hP
  have hD : va_D A [(ad, .inr (8, [.ref q_5, .ref q_16, .ref q_27, .null, .null, .null, .null, .long 0, .int (zb false), .int (zb false)])), (q_5, .inr (4, [.ref hk_9, .ref ht_9, .int (nI 0)])), (hk_9, .inl (ck_9, 150, .inl zI)), (ht_9, .inl (ct_9, 150, .inl zI)), (q_16, .inr (4, [.ref hk_20, .ref ht_20, .int (nI 0)])), (hk_20, .inl (ck_20, 150, .inl zI)), (ht_20, .inl (ct_20, 150, .inl zI)), (q_27, .inr (5, [.ref hfg_31, .ref hle_31, .ref hmo_31, .ref hwy_31, .int (nI 0)])), (hfg_31, .inl (cfg_31, 12, .inl (nF zN))), (hle_31, .inl (cle_31, 12, .inr (.inl zL))), (hmo_31, .inl (cmo_31, 12, .inr (.inl zL))), (hwy_31, .inl (cwy_31, 12, .inl (nF zN))), (q_38, .inr (6, [.ref htf_42, .int (nI 0)])), (htf_42, .inl (ctf_42, 450, .inl zI))] := hD
  refine W.widen (k := 13) (n := 1111) (by decide) (by decide) ?_
  refine va_putF (D := DD) (ci := 8) (v := .ref q_38) (ty := .object "SortDesk$Trail") (C := R_De) (T := T_De) (N := 10) hx hb hg in_De t_De to_De n_De hown hK hP hD hS 0 rfl rfl 3 (by decide) (hg _ mw_143) (fun _ h9 => h9) rfl hin rfl (by decide +kernel) rfl rfl (Nat.le_of_ble_eq_true rfl) d_De_init_45 (fun H locs hP hD hS => ?_)
  have hP : va_P DD vwCl [(ad, .inr (8, [.ref q_5, .ref q_16, .ref q_27, .ref q_38, .null, .null, .null, .long 0, .int (zb false), .int (zb false)])), (q_5, .inr (4, [.ref hk_9, .ref ht_9, .int (nI 0)])), (hk_9, .inl (ck_9, 150, .inl zI)), (ht_9, .inl (ct_9, 150, .inl zI)), (q_16, .inr (4, [.ref hk_20, .ref ht_20, .int (nI 0)])), (hk_20, .inl (ck_20, 150, .inl zI)), (ht_20, .inl (ct_20, 150, .inl zI)), (q_27, .inr (5, [.ref hfg_31, .ref hle_31, .ref hmo_31, .ref hwy_31, .int (nI 0)])), (hfg_31, .inl (cfg_31, 12, .inl (nF zN))), (hle_31, .inl (cle_31, 12, .inr (.inl zL))), (hmo_31, .inl (cmo_31, 12, .inr (.inl zL))), (hwy_31, .inl (cwy_31, 12, .inl (nF zN))), (q_38, .inr (6, [.ref htf_42, .int (nI 0)])), (htf_42, .inl (ctf_42, 450, .inl zI))] H := hP
  have hD : va_D A [(ad, .inr (8, [.ref q_5, .ref q_16, .ref q_27, .ref q_38, .null, .null, .null, .long 0, .int (zb false), .int (zb false)])), (q_5, .inr (4, [.ref hk_9, .ref ht_9, .int (nI 0)])), (hk_9, .inl (ck_9, 150, .inl zI)), (ht_9, .inl (ct_9, 150, .inl zI)), (q_16, .inr (4, [.ref hk_20, .ref ht_20, .int (nI 0)])), (hk_20, .inl (ck_20, 150, .inl zI)), (ht_20, .inl (ct_20, 150, .inl zI)), (q_27, .inr (5, [.ref hfg_31, .ref hle_31, .ref hmo_31, .ref hwy_31, .int (nI 0)])), (hfg_31, .inl (cfg_31, 12, .inl (nF zN))), (hle_31, .inl (cle_31, 12, .inr (.inl zL))), (hmo_31, .inl (cmo_31, 12, .inr (.inl zL))), (hwy_31, .inl (cwy_31, 12, .inl (nF zN))), (q_38, .inr (6, [.ref htf_42, .int (nI 0)])), (htf_42, .inl (ctf_42, 450, .inl zI))] := hD
  refine lv_aload_n hx hb d_De_init_48 rfl (lv_at hl 0 rfl) ?_
  refine lv_iconst (v := nI 5) hx hb d_De_init_49 (by decide) ?_
  refine va_newq (N' := 5) hx hb hown (hg _ mw_82) hXK.2.2.2.1 hK hP hD hS hA (by decide) (by decide) (by decide) (Nat.le_of_ble_eq_true rfl) (Nat.le_of_ble_eq_true rfl) d_De_init_50 (fun q_50 cA_50 H hK hP hD hS => ?_)
  have hK : va_K DD vwCl [(ck_9, .int), (ct_9, .int), (ck_20, .int), (ct_20, .int), (cfg_31, .int), (cle_31, .long), (cmo_31, .long), (cwy_31, .int), (ctf_42, .int), (cA_50, .object "SortDesk$Way")] s := hK
  have hP : va_P DD vwCl [(ad, .inr (8, [.ref q_5, .ref q_16, .ref q_27, .ref q_38, .null, .null, .null, .long 0, .int (zb false), .int (zb false)])), (q_5, .inr (4, [.ref hk_9, .ref ht_9, .int (nI 0)])), (hk_9, .inl (ck_9, 150, .inl zI)), (ht_9, .inl (ct_9, 150, .inl zI)), (q_16, .inr (4, [.ref hk_20, .ref ht_20, .int (nI 0)])), (hk_20, .inl (ck_20, 150, .inl zI)), (ht_20, .inl (ct_20, 150, .inl zI)), (q_27, .inr (5, [.ref hfg_31, .ref hle_31, .ref hmo_31, .ref hwy_31, .int (nI 0)])), (hfg_31, .inl (cfg_31, 12, .inl (nF zN))), (hle_31, .inl (cle_31, 12, .inr (.inl zL))), (hmo_31, .inl (cmo_31, 12, .inr (.inl zL))), (hwy_31, .inl (cwy_31, 12, .inl (nF zN))), (q_38, .inr (6, [.ref htf_42, .int (nI 0)])), (htf_42, .inl (ctf_42, 450, .inl zI)), (q_50, .inl (cA_50, 5, .inr (.inr (.inr (.inr (fun _ => none))))))] H := hP
  have hD : va_D A [(ad, .inr (8, [.ref q_5, .ref q_16, .ref q_27, .ref q_38, .null, .null, .null, .long 0, .int (zb false), .int (zb false)])), (q_5, .inr (4, [.ref hk_9, .ref ht_9, .int (nI 0)])), (hk_9, .inl (ck_9, 150, .inl zI)), (ht_9, .inl (ct_9, 150, .inl zI)), (q_16, .inr (4, [.ref hk_20, .ref ht_20, .int (nI 0)])), (hk_20, .inl (ck_20, 150, .inl zI)), (ht_20, .inl (ct_20, 150, .inl zI)), (q_27, .inr (5, [.ref hfg_31, .ref hle_31, .ref hmo_31, .ref hwy_31, .int (nI 0)])), (hfg_31, .inl (cfg_31, 12, .inl (nF zN))), (hle_31, .inl (cle_31, 12, .inr (.inl zL))), (hmo_31, .inl (cmo_31, 12, .inr (.inl zL))), (hwy_31, .inl (cwy_31, 12, .inl (nF zN))), (q_38, .inr (6, [.ref htf_42, .int (nI 0)])), (htf_42, .inl (ctf_42, 450, .inl zI)), (q_50, .inl (cA_50, 5, .inr (.inr (.inr (.inr (fun _ => none))))))] := hD
  refine W.widen (k := 14) (n := 1116) (by decide) (by decide) ?_
  refine va_putF (D := DD) (ci := 8) (v := .ref q_50) (ty := .array (.object "SortDesk$Way")) (C := R_De) (T := T_De) (N := 10) hx hb hg in_De t_De to_De n_De hown hK hP hD hS 0 rfl rfl 4 (by decide) (hg _ mw_144) (fun _ h9 => h9) rfl hin rfl (by decide +kernel) rfl rfl (Nat.le_of_ble_eq_true rfl) d_De_init_53 (fun H locs hP hD hS => ?_)
  have hP : va_P DD vwCl [(ad, .inr (8, [.ref q_5, .ref q_16, .ref q_27, .ref q_38, .ref q_50, .null, .null, .long 0, .int (zb false), .int (zb false)])), (q_5, .inr (4, [.ref hk_9, .ref ht_9, .int (nI 0)])), (hk_9, .inl (ck_9, 150, .inl zI)), (ht_9, .inl (ct_9, 150, .inl zI)), (q_16, .inr (4, [.ref hk_20, .ref ht_20, .int (nI 0)])), (hk_20, .inl (ck_20, 150, .inl zI)), (ht_20, .inl (ct_20, 150, .inl zI)), (q_27, .inr (5, [.ref hfg_31, .ref hle_31, .ref hmo_31, .ref hwy_31, .int (nI 0)])), (hfg_31, .inl (cfg_31, 12, .inl (nF zN))), (hle_31, .inl (cle_31, 12, .inr (.inl zL))), (hmo_31, .inl (cmo_31, 12, .inr (.inl zL))), (hwy_31, .inl (cwy_31, 12, .inl (nF zN))), (q_38, .inr (6, [.ref htf_42, .int (nI 0)])), (htf_42, .inl (ctf_42, 450, .inl zI)), (q_50, .inl (cA_50, 5, .inr (.inr (.inr (.inr (fun _ => none))))))] H := hP
  have hD : va_D A [(ad, .inr (8, [.ref q_5, .ref q_16, .ref q_27, .ref q_38, .ref q_50, .null, .null, .long 0, .int (zb false), .int (zb false)])), (q_5, .inr (4, [.ref hk_9, .ref ht_9, .int (nI 0)])), (hk_9, .inl (ck_9, 150, .inl zI)), (ht_9, .inl (ct_9, 150, .inl zI)), (q_16, .inr (4, [.ref hk_20, .ref ht_20, .int (nI 0)])), (hk_20, .inl (ck_20, 150, .inl zI)), (ht_20, .inl (ct_20, 150, .inl zI)), (q_27, .inr (5, [.ref hfg_31, .ref hle_31, .ref hmo_31, .ref hwy_31, .int (nI 0)])), (hfg_31, .inl (cfg_31, 12, .inl (nF zN))), (hle_31, .inl (cle_31, 12, .inr (.inl zL))), (hmo_31, .inl (cmo_31, 12, .inr (.inl zL))), (hwy_31, .inl (cwy_31, 12, .inl (nF zN))), (q_38, .inr (6, [.ref htf_42, .int (nI 0)])), (htf_42, .inl (ctf_42, 450, .inl zI)), (q_50, .inl (cA_50, 5, .inr (.inr (.inr (.inr (fun _ => none))))))] := hD
  refine lv_aload_n hx hb d_De_init_56 rfl (lv_at hl 0 rfl) ?_
  refine lv_sipush (v := nI 150) hx hb d_De_init_57 (by decide) ?_
  refine va_newa (atype := .int) (ty := .int) (a0 := (150, .inl (nF zN))) hx hb (hg _ mw_45) rfl hK hP hD hS hA (fun _ => rfl) (by decide) (by decide) (by decide) (Nat.le_of_ble_eq_true rfl) (Nat.le_of_ble_eq_true rfl) d_De_init_60 (fun q_60 cA_60 H hK hP hD hS => ?_)
  have hK : va_K DD vwCl [(ck_9, .int), (ct_9, .int), (ck_20, .int), (ct_20, .int), (cfg_31, .int), (cle_31, .long), (cmo_31, .long), (cwy_31, .int), (ctf_42, .int), (cA_50, .object "SortDesk$Way"), (cA_60, .int)] s := hK
  have hP : va_P DD vwCl [(ad, .inr (8, [.ref q_5, .ref q_16, .ref q_27, .ref q_38, .ref q_50, .null, .null, .long 0, .int (zb false), .int (zb false)])), (q_5, .inr (4, [.ref hk_9, .ref ht_9, .int (nI 0)])), (hk_9, .inl (ck_9, 150, .inl zI)), (ht_9, .inl (ct_9, 150, .inl zI)), (q_16, .inr (4, [.ref hk_20, .ref ht_20, .int (nI 0)])), (hk_20, .inl (ck_20, 150, .inl zI)), (ht_20, .inl (ct_20, 150, .inl zI)), (q_27, .inr (5, [.ref hfg_31, .ref hle_31, .ref hmo_31, .ref hwy_31, .int (nI 0)])), (hfg_31, .inl (cfg_31, 12, .inl (nF zN))), (hle_31, .inl (cle_31, 12, .inr (.inl zL))), (hmo_31, .inl (cmo_31, 12, .inr (.inl zL))), (hwy_31, .inl (cwy_31, 12, .inl (nF zN))), (q_38, .inr (6, [.ref htf_42, .int (nI 0)])), (htf_42, .inl (ctf_42, 450, .inl zI)), (q_50, .inl (cA_50, 5, .inr (.inr (.inr (.inr (fun _ => none)))))), (q_60, .inl (cA_60, 150, .inl (nF zN)))] H := hP
  have hD : va_D A [(ad, .inr (8, [.ref q_5, .ref q_16, .ref q_27, .ref q_38, .ref q_50, .null, .null, .long 0, .int (zb false), .int (zb false)])), (q_5, .inr (4, [.ref hk_9, .ref ht_9, .int (nI 0)])), (hk_9, .inl (ck_9, 150, .inl zI)), (ht_9, .inl (ct_9, 150, .inl zI)), (q_16, .inr (4, [.ref hk_20, .ref ht_20, .int (nI 0)])), (hk_20, .inl (ck_20, 150, .inl zI)), (ht_20, .inl (ct_20, 150, .inl zI)), (q_27, .inr (5, [.ref hfg_31, .ref hle_31, .ref hmo_31, .ref hwy_31, .int (nI 0)])), (hfg_31, .inl (cfg_31, 12, .inl (nF zN))), (hle_31, .inl (cle_31, 12, .inr (.inl zL))), (hmo_31, .inl (cmo_31, 12, .inr (.inl zL))), (hwy_31, .inl (cwy_31, 12, .inl (nF zN))), (q_38, .inr (6, [.ref htf_42, .int (nI 0)])), (htf_42, .inl (ctf_42, 450, .inl zI)), (q_50, .inl (cA_50, 5, .inr (.inr (.inr (.inr (fun _ => none)))))), (q_60, .inl (cA_60, 150, .inl (nF zN)))] := hD
  refine W.widen (k := 15) (n := 1266) (by decide) (by decide) ?_
  refine va_putF (D := DD) (ci := 8) (v := .ref q_60) (ty := .array .int) (C := R_De) (T := T_De) (N := 10) hx hb hg in_De t_De to_De n_De hown hK hP hD hS 0 rfl rfl 5 (by decide) (hg _ mw_145) (fun _ h9 => h9) rfl hin rfl (by decide +kernel) rfl rfl (Nat.le_of_ble_eq_true rfl) d_De_init_62 (fun H locs hP hD hS => ?_)
  have hP : va_P DD vwCl [(ad, .inr (8, [.ref q_5, .ref q_16, .ref q_27, .ref q_38, .ref q_50, .ref q_60, .null, .long 0, .int (zb false), .int (zb false)])), (q_5, .inr (4, [.ref hk_9, .ref ht_9, .int (nI 0)])), (hk_9, .inl (ck_9, 150, .inl zI)), (ht_9, .inl (ct_9, 150, .inl zI)), (q_16, .inr (4, [.ref hk_20, .ref ht_20, .int (nI 0)])), (hk_20, .inl (ck_20, 150, .inl zI)), (ht_20, .inl (ct_20, 150, .inl zI)), (q_27, .inr (5, [.ref hfg_31, .ref hle_31, .ref hmo_31, .ref hwy_31, .int (nI 0)])), (hfg_31, .inl (cfg_31, 12, .inl (nF zN))), (hle_31, .inl (cle_31, 12, .inr (.inl zL))), (hmo_31, .inl (cmo_31, 12, .inr (.inl zL))), (hwy_31, .inl (cwy_31, 12, .inl (nF zN))), (q_38, .inr (6, [.ref htf_42, .int (nI 0)])), (htf_42, .inl (ctf_42, 450, .inl zI)), (q_50, .inl (cA_50, 5, .inr (.inr (.inr (.inr (fun _ => none)))))), (q_60, .inl (cA_60, 150, .inl (nF zN)))] H := hP
  have hD : va_D A [(ad, .inr (8, [.ref q_5, .ref q_16, .ref q_27, .ref q_38, .ref q_50, .ref q_60, .null, .long 0, .int (zb false), .int (zb false)])), (q_5, .inr (4, [.ref hk_9, .ref ht_9, .int (nI 0)])), (hk_9, .inl (ck_9, 150, .inl zI)), (ht_9, .inl (ct_9, 150, .inl zI)), (q_16, .inr (4, [.ref hk_20, .ref ht_20, .int (nI 0)])), (hk_20, .inl (ck_20, 150, .inl zI)), (ht_20, .inl (ct_20, 150, .inl zI)), (q_27, .inr (5, [.ref hfg_31, .ref hle_31, .ref hmo_31, .ref hwy_31, .int (nI 0)])), (hfg_31, .inl (cfg_31, 12, .inl (nF zN))), (hle_31, .inl (cle_31, 12, .inr (.inl zL))), (hmo_31, .inl (cmo_31, 12, .inr (.inl zL))), (hwy_31, .inl (cwy_31, 12, .inl (nF zN))), (q_38, .inr (6, [.ref htf_42, .int (nI 0)])), (htf_42, .inl (ctf_42, 450, .inl zI)), (q_50, .inl (cA_50, 5, .inr (.inr (.inr (.inr (fun _ => none)))))), (q_60, .inl (cA_60, 150, .inl (nF zN)))] := hD
  refine lv_aload_n hx hb d_De_init_65 rfl (lv_at hl 0 rfl) ?_
  refine lv_iconst (v := nI 5) hx hb d_De_init_66 (by decide) ?_
  refine va_newa (atype := .int) (ty := .int) (a0 := (5, .inl (nF zN))) hx hb (hg _ mw_45) rfl hK hP hD hS hA (fun _ => rfl) (by decide) (by decide) (by decide) (Nat.le_of_ble_eq_true rfl) (Nat.le_of_ble_eq_true rfl) d_De_init_67 (fun q_67 cA_67 H hK hP hD hS => ?_)
  have hK : va_K DD vwCl [(ck_9, .int), (ct_9, .int), (ck_20, .int), (ct_20, .int), (cfg_31, .int), (cle_31, .long), (cmo_31, .long), (cwy_31, .int), (ctf_42, .int), (cA_50, .object "SortDesk$Way"), (cA_60, .int), (cA_67, .int)] s := hK
  have hP : va_P DD vwCl [(ad, .inr (8, [.ref q_5, .ref q_16, .ref q_27, .ref q_38, .ref q_50, .ref q_60, .null, .long 0, .int (zb false), .int (zb false)])), (q_5, .inr (4, [.ref hk_9, .ref ht_9, .int (nI 0)])), (hk_9, .inl (ck_9, 150, .inl zI)), (ht_9, .inl (ct_9, 150, .inl zI)), (q_16, .inr (4, [.ref hk_20, .ref ht_20, .int (nI 0)])), (hk_20, .inl (ck_20, 150, .inl zI)), (ht_20, .inl (ct_20, 150, .inl zI)), (q_27, .inr (5, [.ref hfg_31, .ref hle_31, .ref hmo_31, .ref hwy_31, .int (nI 0)])), (hfg_31, .inl (cfg_31, 12, .inl (nF zN))), (hle_31, .inl (cle_31, 12, .inr (.inl zL))), (hmo_31, .inl (cmo_31, 12, .inr (.inl zL))), (hwy_31, .inl (cwy_31, 12, .inl (nF zN))), (q_38, .inr (6, [.ref htf_42, .int (nI 0)])), (htf_42, .inl (ctf_42, 450, .inl zI)), (q_50, .inl (cA_50, 5, .inr (.inr (.inr (.inr (fun _ => none)))))), (q_60, .inl (cA_60, 150, .inl (nF zN))), (q_67, .inl (cA_67, 5, .inl (nF zN)))] H := hP
  have hD : va_D A [(ad, .inr (8, [.ref q_5, .ref q_16, .ref q_27, .ref q_38, .ref q_50, .ref q_60, .null, .long 0, .int (zb false), .int (zb false)])), (q_5, .inr (4, [.ref hk_9, .ref ht_9, .int (nI 0)])), (hk_9, .inl (ck_9, 150, .inl zI)), (ht_9, .inl (ct_9, 150, .inl zI)), (q_16, .inr (4, [.ref hk_20, .ref ht_20, .int (nI 0)])), (hk_20, .inl (ck_20, 150, .inl zI)), (ht_20, .inl (ct_20, 150, .inl zI)), (q_27, .inr (5, [.ref hfg_31, .ref hle_31, .ref hmo_31, .ref hwy_31, .int (nI 0)])), (hfg_31, .inl (cfg_31, 12, .inl (nF zN))), (hle_31, .inl (cle_31, 12, .inr (.inl zL))), (hmo_31, .inl (cmo_31, 12, .inr (.inl zL))), (hwy_31, .inl (cwy_31, 12, .inl (nF zN))), (q_38, .inr (6, [.ref htf_42, .int (nI 0)])), (htf_42, .inl (ctf_42, 450, .inl zI)), (q_50, .inl (cA_50, 5, .inr (.inr (.inr (.inr (fun _ => none)))))), (q_60, .inl (cA_60, 150, .inl (nF zN))), (q_67, .inl (cA_67, 5, .inl (nF zN)))] := hD
  refine W.widen (k := 16) (n := 1271) (by decide) (by decide) ?_
  refine va_putF (D := DD) (ci := 8) (v := .ref q_67) (ty := .array .int) (C := R_De) (T := T_De) (N := 10) hx hb hg in_De t_De to_De n_De hown hK hP hD hS 0 rfl rfl 6 (by decide) (hg _ mw_146) (fun _ h9 => h9) rfl hin rfl (by decide +kernel) rfl rfl (Nat.le_of_ble_eq_true rfl) d_De_init_69 (fun H locs hP hD hS => ?_)
  have hP : va_P DD vwCl [(ad, .inr (8, [.ref q_5, .ref q_16, .ref q_27, .ref q_38, .ref q_50, .ref q_60, .ref q_67, .long 0, .int (zb false), .int (zb false)])), (q_5, .inr (4, [.ref hk_9, .ref ht_9, .int (nI 0)])), (hk_9, .inl (ck_9, 150, .inl zI)), (ht_9, .inl (ct_9, 150, .inl zI)), (q_16, .inr (4, [.ref hk_20, .ref ht_20, .int (nI 0)])), (hk_20, .inl (ck_20, 150, .inl zI)), (ht_20, .inl (ct_20, 150, .inl zI)), (q_27, .inr (5, [.ref hfg_31, .ref hle_31, .ref hmo_31, .ref hwy_31, .int (nI 0)])), (hfg_31, .inl (cfg_31, 12, .inl (nF zN))), (hle_31, .inl (cle_31, 12, .inr (.inl zL))), (hmo_31, .inl (cmo_31, 12, .inr (.inl zL))), (hwy_31, .inl (cwy_31, 12, .inl (nF zN))), (q_38, .inr (6, [.ref htf_42, .int (nI 0)])), (htf_42, .inl (ctf_42, 450, .inl zI)), (q_50, .inl (cA_50, 5, .inr (.inr (.inr (.inr (fun _ => none)))))), (q_60, .inl (cA_60, 150, .inl (nF zN))), (q_67, .inl (cA_67, 5, .inl (nF zN)))] H := hP
  have hD : va_D A [(ad, .inr (8, [.ref q_5, .ref q_16, .ref q_27, .ref q_38, .ref q_50, .ref q_60, .ref q_67, .long 0, .int (zb false), .int (zb false)])), (q_5, .inr (4, [.ref hk_9, .ref ht_9, .int (nI 0)])), (hk_9, .inl (ck_9, 150, .inl zI)), (ht_9, .inl (ct_9, 150, .inl zI)), (q_16, .inr (4, [.ref hk_20, .ref ht_20, .int (nI 0)])), (hk_20, .inl (ck_20, 150, .inl zI)), (ht_20, .inl (ct_20, 150, .inl zI)), (q_27, .inr (5, [.ref hfg_31, .ref hle_31, .ref hmo_31, .ref hwy_31, .int (nI 0)])), (hfg_31, .inl (cfg_31, 12, .inl (nF zN))), (hle_31, .inl (cle_31, 12, .inr (.inl zL))), (hmo_31, .inl (cmo_31, 12, .inr (.inl zL))), (hwy_31, .inl (cwy_31, 12, .inl (nF zN))), (q_38, .inr (6, [.ref htf_42, .int (nI 0)])), (htf_42, .inl (ctf_42, 450, .inl zI)), (q_50, .inl (cA_50, 5, .inr (.inr (.inr (.inr (fun _ => none)))))), (q_60, .inl (cA_60, 150, .inl (nF zN))), (q_67, .inl (cA_67, 5, .inl (nF zN)))] := hD
  refine lv_aload_n hx hb d_De_init_72 rfl (lv_at hl 0 rfl) ?_
  refine va_get (D := DD) (ci := 8) (v := .ref q_50) (C := R_De) (T := T_De) (N := 10) hx hb hg in_De hown hK hP 0 rfl rfl 4 (by decide) (hg _ mw_144) (fun _ h9 => h9) rfl d_De_init_73 ?_
  refine lv_iconst (v := nI 0) hx hb d_De_init_76 (by decide) ?_
  refine va_new (D := DD) (ci := 7) (fs := []) (C := R_Tu) (T := T_Tu) (N := 0) hx hb hg in_Tu t_Tu to_Tu hown (hg _ mw_84) (hg _ mw_85) (hg _ mw_6) hK hP hD hS hA rfl (fun j hj => absurd hj (Nat.not_lt_zero j)) (Nat.le_of_ble_eq_true rfl) (Nat.le_of_ble_eq_true rfl) d_De_init_77 (fun q_77 H hP hD hS => ?_)
  have hK : va_K DD vwCl [(ck_9, .int), (ct_9, .int), (ck_20, .int), (ct_20, .int), (cfg_31, .int), (cle_31, .long), (cmo_31, .long), (cwy_31, .int), (ctf_42, .int), (cA_50, .object "SortDesk$Way"), (cA_60, .int), (cA_67, .int)] s := hK
  have hP : va_P DD vwCl [(ad, .inr (8, [.ref q_5, .ref q_16, .ref q_27, .ref q_38, .ref q_50, .ref q_60, .ref q_67, .long 0, .int (zb false), .int (zb false)])), (q_5, .inr (4, [.ref hk_9, .ref ht_9, .int (nI 0)])), (hk_9, .inl (ck_9, 150, .inl zI)), (ht_9, .inl (ct_9, 150, .inl zI)), (q_16, .inr (4, [.ref hk_20, .ref ht_20, .int (nI 0)])), (hk_20, .inl (ck_20, 150, .inl zI)), (ht_20, .inl (ct_20, 150, .inl zI)), (q_27, .inr (5, [.ref hfg_31, .ref hle_31, .ref hmo_31, .ref hwy_31, .int (nI 0)])), (hfg_31, .inl (cfg_31, 12, .inl (nF zN))), (hle_31, .inl (cle_31, 12, .inr (.inl zL))), (hmo_31, .inl (cmo_31, 12, .inr (.inl zL))), (hwy_31, .inl (cwy_31, 12, .inl (nF zN))), (q_38, .inr (6, [.ref htf_42, .int (nI 0)])), (htf_42, .inl (ctf_42, 450, .inl zI)), (q_50, .inl (cA_50, 5, .inr (.inr (.inr (.inr (fun _ => none)))))), (q_60, .inl (cA_60, 150, .inl (nF zN))), (q_67, .inl (cA_67, 5, .inl (nF zN))), (q_77, .inr (7, []))] H := hP
  have hD : va_D A [(ad, .inr (8, [.ref q_5, .ref q_16, .ref q_27, .ref q_38, .ref q_50, .ref q_60, .ref q_67, .long 0, .int (zb false), .int (zb false)])), (q_5, .inr (4, [.ref hk_9, .ref ht_9, .int (nI 0)])), (hk_9, .inl (ck_9, 150, .inl zI)), (ht_9, .inl (ct_9, 150, .inl zI)), (q_16, .inr (4, [.ref hk_20, .ref ht_20, .int (nI 0)])), (hk_20, .inl (ck_20, 150, .inl zI)), (ht_20, .inl (ct_20, 150, .inl zI)), (q_27, .inr (5, [.ref hfg_31, .ref hle_31, .ref hmo_31, .ref hwy_31, .int (nI 0)])), (hfg_31, .inl (cfg_31, 12, .inl (nF zN))), (hle_31, .inl (cle_31, 12, .inr (.inl zL))), (hmo_31, .inl (cmo_31, 12, .inr (.inl zL))), (hwy_31, .inl (cwy_31, 12, .inl (nF zN))), (q_38, .inr (6, [.ref htf_42, .int (nI 0)])), (htf_42, .inl (ctf_42, 450, .inl zI)), (q_50, .inl (cA_50, 5, .inr (.inr (.inr (.inr (fun _ => none)))))), (q_60, .inl (cA_60, 150, .inl (nF zN))), (q_67, .inl (cA_67, 5, .inl (nF zN))), (q_77, .inr (7, []))] := hD
  refine W.widen (k := 17) (n := 1271) (by decide) (by decide) ?_
  refine lv_dup hx hb d_De_init_80 rfl ?_
  have hPc := hP.sub (ws' := [(q_77, .inr (7, []))]) [17] rfl
  have hKc := hK.sub (tys' := []) [] rfl
  have hDc := hD.sub (ws' := [(q_77, .inr (7, []))]) [17] (by decide) rfl
  have hFc := va_free (wc := [(q_77, .inr (7, []))]) hD hS hA [17] rfl
  refine va_callv (va_runIN (As := []) (rest := [.ref q_77, .int (nI 0), .ref q_50]) ⟨hx, hb, hml, hown, hg⟩ (c_Tu_init l DD H.size q_77) ⟨va_cnB 0 hg (gi_c mw_88) rfl rfl rfl (hXK.2.1 ("SortDesk", 48, ⟨"SortDesk$Turning", "<init>", "()V"⟩, "SortDesk") (by decide)) (hg _ mw_6) (by decide +kernel) ⟨Nat.le_of_ble_eq_true rfl, Nat.le_of_ble_eq_true rfl⟩, rfl, hg _ mw_87⟩ ⟨z_blindQE xk_bl, z_preQE hPc hKc hDc (fun U _ hW => hXK.warm hW)⟩ rfl rfl hl.1 rfl (lv_room (Nat.le_of_ble_eq_true rfl)) d_De_init_81 ⟨Nat.le_of_ble_eq_true rfl, Nat.le_of_ble_eq_true rfl⟩) hS (fun q _ h => hFc q h) hFc (fun u9 t9 H9 locs ht9 hvm9 hw9 hB9 hz9 hk9 hS => ?_)
  obtain ⟨hP1, hK1, hD1⟩ := hB9
  rw [ht9] at hP1
  try dsimp only at hw9
  obtain ⟨hP, hD⟩ := va_join (wr := [(ad, .inr (8, [.ref q_5, .ref q_16, .ref q_27, .ref q_38, .ref q_50, .ref q_60, .ref q_67, .long 0, .int (zb false), .int (zb false)])), (q_5, .inr (4, [.ref hk_9, .ref ht_9, .int (nI 0)])), (hk_9, .inl (ck_9, 150, .inl zI)), (ht_9, .inl (ct_9, 150, .inl zI)), (q_16, .inr (4, [.ref hk_20, .ref ht_20, .int (nI 0)])), (hk_20, .inl (ck_20, 150, .inl zI)), (ht_20, .inl (ct_20, 150, .inl zI)), (q_27, .inr (5, [.ref hfg_31, .ref hle_31, .ref hmo_31, .ref hwy_31, .int (nI 0)])), (hfg_31, .inl (cfg_31, 12, .inl (nF zN))), (hle_31, .inl (cle_31, 12, .inr (.inl zL))), (hmo_31, .inl (cmo_31, 12, .inr (.inl zL))), (hwy_31, .inl (cwy_31, 12, .inl (nF zN))), (q_38, .inr (6, [.ref htf_42, .int (nI 0)])), (htf_42, .inl (ctf_42, 450, .inl zI)), (q_50, .inl (cA_50, 5, .inr (.inr (.inr (.inr (fun _ => none)))))), (q_60, .inl (cA_60, 150, .inl (nF zN))), (q_67, .inl (cA_67, 5, .inl (nF zN)))]) (w1 := [(q_77, .inr (7, []))]) hP hD [17] [0, 1, 2, 3, 4, 5, 6, 7, 8, 9, 10, 11, 12, 13, 14, 15, 16] rfl rfl (by decide) (by decide) hk9 hFc hP1 hD1
  generalize H9 = H at hP hS ⊢
  have hP : va_P DD vwCl [(ad, .inr (8, [.ref q_5, .ref q_16, .ref q_27, .ref q_38, .ref q_50, .ref q_60, .ref q_67, .long 0, .int (zb false), .int (zb false)])), (q_5, .inr (4, [.ref hk_9, .ref ht_9, .int (nI 0)])), (hk_9, .inl (ck_9, 150, .inl zI)), (ht_9, .inl (ct_9, 150, .inl zI)), (q_16, .inr (4, [.ref hk_20, .ref ht_20, .int (nI 0)])), (hk_20, .inl (ck_20, 150, .inl zI)), (ht_20, .inl (ct_20, 150, .inl zI)), (q_27, .inr (5, [.ref hfg_31, .ref hle_31, .ref hmo_31, .ref hwy_31, .int (nI 0)])), (hfg_31, .inl (cfg_31, 12, .inl (nF zN))), (hle_31, .inl (cle_31, 12, .inr (.inl zL))), (hmo_31, .inl (cmo_31, 12, .inr (.inl zL))), (hwy_31, .inl (cwy_31, 12, .inl (nF zN))), (q_38, .inr (6, [.ref htf_42, .int (nI 0)])), (htf_42, .inl (ctf_42, 450, .inl zI)), (q_50, .inl (cA_50, 5, .inr (.inr (.inr (.inr (fun _ => none)))))), (q_60, .inl (cA_60, 150, .inl (nF zN))), (q_67, .inl (cA_67, 5, .inl (nF zN))), (q_77, .inr (7, []))] H := hP
  have hD : va_D A [(ad, .inr (8, [.ref q_5, .ref q_16, .ref q_27, .ref q_38, .ref q_50, .ref q_60, .ref q_67, .long 0, .int (zb false), .int (zb false)])), (q_5, .inr (4, [.ref hk_9, .ref ht_9, .int (nI 0)])), (hk_9, .inl (ck_9, 150, .inl zI)), (ht_9, .inl (ct_9, 150, .inl zI)), (q_16, .inr (4, [.ref hk_20, .ref ht_20, .int (nI 0)])), (hk_20, .inl (ck_20, 150, .inl zI)), (ht_20, .inl (ct_20, 150, .inl zI)), (q_27, .inr (5, [.ref hfg_31, .ref hle_31, .ref hmo_31, .ref hwy_31, .int (nI 0)])), (hfg_31, .inl (cfg_31, 12, .inl (nF zN))), (hle_31, .inl (cle_31, 12, .inr (.inl zL))), (hmo_31, .inl (cmo_31, 12, .inr (.inl zL))), (hwy_31, .inl (cwy_31, 12, .inl (nF zN))), (q_38, .inr (6, [.ref htf_42, .int (nI 0)])), (htf_42, .inl (ctf_42, 450, .inl zI)), (q_50, .inl (cA_50, 5, .inr (.inr (.inr (.inr (fun _ => none)))))), (q_60, .inl (cA_60, 150, .inl (nF zN))), (q_67, .inl (cA_67, 5, .inl (nF zN))), (q_77, .inr (7, []))] := hD
  refine z_aast hx hb hK hP hD hS 14 9 17 7 rfl rfl (hXK.2.2.1 ("SortDesk$Turning", "SortDesk$Way") (by decide)) rfl rfl (by decide) (by decide) d_De_init_84 (fun H locs hP hD hS => ?_)
  have hP : va_P DD vwCl [(ad, .inr (8, [.ref q_5, .ref q_16, .ref q_27, .ref q_38, .ref q_50, .ref q_60, .ref q_67, .long 0, .int (zb false), .int (zb false)])), (q_5, .inr (4, [.ref hk_9, .ref ht_9, .int (nI 0)])), (hk_9, .inl (ck_9, 150, .inl zI)), (ht_9, .inl (ct_9, 150, .inl zI)), (q_16, .inr (4, [.ref hk_20, .ref ht_20, .int (nI 0)])), (hk_20, .inl (ck_20, 150, .inl zI)), (ht_20, .inl (ct_20, 150, .inl zI)), (q_27, .inr (5, [.ref hfg_31, .ref hle_31, .ref hmo_31, .ref hwy_31, .int (nI 0)])), (hfg_31, .inl (cfg_31, 12, .inl (nF zN))), (hle_31, .inl (cle_31, 12, .inr (.inl zL))), (hmo_31, .inl (cmo_31, 12, .inr (.inl zL))), (hwy_31, .inl (cwy_31, 12, .inl (nF zN))), (q_38, .inr (6, [.ref htf_42, .int (nI 0)])), (htf_42, .inl (ctf_42, 450, .inl zI)), (q_50, .inl (cA_50, 5, .inr (.inr (.inr (.inr (va_up (fun _ => none) 0 (some q_77))))))), (q_60, .inl (cA_60, 150, .inl (nF zN))), (q_67, .inl (cA_67, 5, .inl (nF zN))), (q_77, .inr (7, []))] H := hP
  have hD : va_D A [(ad, .inr (8, [.ref q_5, .ref q_16, .ref q_27, .ref q_38, .ref q_50, .ref q_60, .ref q_67, .long 0, .int (zb false), .int (zb false)])), (q_5, .inr (4, [.ref hk_9, .ref ht_9, .int (nI 0)])), (hk_9, .inl (ck_9, 150, .inl zI)), (ht_9, .inl (ct_9, 150, .inl zI)), (q_16, .inr (4, [.ref hk_20, .ref ht_20, .int (nI 0)])), (hk_20, .inl (ck_20, 150, .inl zI)), (ht_20, .inl (ct_20, 150, .inl zI)), (q_27, .inr (5, [.ref hfg_31, .ref hle_31, .ref hmo_31, .ref hwy_31, .int (nI 0)])), (hfg_31, .inl (cfg_31, 12, .inl (nF zN))), (hle_31, .inl (cle_31, 12, .inr (.inl zL))), (hmo_31, .inl (cmo_31, 12, .inr (.inl zL))), (hwy_31, .inl (cwy_31, 12, .inl (nF zN))), (q_38, .inr (6, [.ref htf_42, .int (nI 0)])), (htf_42, .inl (ctf_42, 450, .inl zI)), (q_50, .inl (cA_50, 5, .inr (.inr (.inr (.inr (va_up (fun _ => none) 0 (some q_77))))))), (q_60, .inl (cA_60, 150, .inl (nF zN))), (q_67, .inl (cA_67, 5, .inl (nF zN))), (q_77, .inr (7, []))] := hD
  refine lv_aload_n hx hb d_De_init_85 rfl (lv_at hl 0 rfl) ?_
  refine va_get (D := DD) (ci := 8) (v := .ref q_50) (C := R_De) (T := T_De) (N := 10) hx hb hg in_De hown hK hP 0 rfl rfl 4 (by decide) (hg _ mw_144) (fun _ h9 => h9) rfl d_De_init_86 ?_
  refine lv_iconst (v := nI 1) hx hb d_De_init_89 (by decide) ?_
  refine va_new (D := DD) (ci := 3) (fs := []) (C := R_Pu) (T := T_Pu) (N := 0) hx hb hg in_Pu t_Pu to_Pu hown (hg _ mw_94) (hg _ mw_95) (hg _ mw_7) hK hP hD hS hA rfl (fun j hj => absurd hj (Nat.not_lt_zero j)) (Nat.le_of_ble_eq_true rfl) (Nat.le_of_ble_eq_true rfl) d_De_init_90 (fun q_90 H hP hD hS => ?_)
  have hK : va_K DD vwCl [(ck_9, .int), (ct_9, .int), (ck_20, .int), (ct_20, .int), (cfg_31, .int), (cle_31, .long), (cmo_31, .long), (cwy_31, .int), (ctf_42, .int), (cA_50, .object "SortDesk$Way"), (cA_60, .int), (cA_67, .int)] s := hK
  have hP : va_P DD vwCl [(ad, .inr (8, [.ref q_5, .ref q_16, .ref q_27, .ref q_38, .ref q_50, .ref q_60, .ref q_67, .long 0, .int (zb false), .int (zb false)])), (q_5, .inr (4, [.ref hk_9, .ref ht_9, .int (nI 0)])), (hk_9, .inl (ck_9, 150, .inl zI)), (ht_9, .inl (ct_9, 150, .inl zI)), (q_16, .inr (4, [.ref hk_20, .ref ht_20, .int (nI 0)])), (hk_20, .inl (ck_20, 150, .inl zI)), (ht_20, .inl (ct_20, 150, .inl zI)), (q_27, .inr (5, [.ref hfg_31, .ref hle_31, .ref hmo_31, .ref hwy_31, .int (nI 0)])), (hfg_31, .inl (cfg_31, 12, .inl (nF zN))), (hle_31, .inl (cle_31, 12, .inr (.inl zL))), (hmo_31, .inl (cmo_31, 12, .inr (.inl zL))), (hwy_31, .inl (cwy_31, 12, .inl (nF zN))), (q_38, .inr (6, [.ref htf_42, .int (nI 0)])), (htf_42, .inl (ctf_42, 450, .inl zI)), (q_50, .inl (cA_50, 5, .inr (.inr (.inr (.inr (va_up (fun _ => none) 0 (some q_77))))))), (q_60, .inl (cA_60, 150, .inl (nF zN))), (q_67, .inl (cA_67, 5, .inl (nF zN))), (q_77, .inr (7, [])), (q_90, .inr (3, []))] H := hP
  have hD : va_D A [(ad, .inr (8, [.ref q_5, .ref q_16, .ref q_27, .ref q_38, .ref q_50, .ref q_60, .ref q_67, .long 0, .int (zb false), .int (zb false)])), (q_5, .inr (4, [.ref hk_9, .ref ht_9, .int (nI 0)])), (hk_9, .inl (ck_9, 150, .inl zI)), (ht_9, .inl (ct_9, 150, .inl zI)), (q_16, .inr (4, [.ref hk_20, .ref ht_20, .int (nI 0)])), (hk_20, .inl (ck_20, 150, .inl zI)), (ht_20, .inl (ct_20, 150, .inl zI)), (q_27, .inr (5, [.ref hfg_31, .ref hle_31, .ref hmo_31, .ref hwy_31, .int (nI 0)])), (hfg_31, .inl (cfg_31, 12, .inl (nF zN))), (hle_31, .inl (cle_31, 12, .inr (.inl zL))), (hmo_31, .inl (cmo_31, 12, .inr (.inl zL))), (hwy_31, .inl (cwy_31, 12, .inl (nF zN))), (q_38, .inr (6, [.ref htf_42, .int (nI 0)])), (htf_42, .inl (ctf_42, 450, .inl zI)), (q_50, .inl (cA_50, 5, .inr (.inr (.inr (.inr (va_up (fun _ => none) 0 (some q_77))))))), (q_60, .inl (cA_60, 150, .inl (nF zN))), (q_67, .inl (cA_67, 5, .inl (nF zN))), (q_77, .inr (7, [])), (q_90, .inr (3, []))] := hD
  refine W.widen (k := 18) (n := 1271) (by decide) (by decide) ?_
  refine lv_dup hx hb d_De_init_93 rfl ?_
  have hPc := hP.sub (ws' := [(q_90, .inr (3, []))]) [18] rfl
  have hKc := hK.sub (tys' := []) [] rfl
  have hDc := hD.sub (ws' := [(q_90, .inr (3, []))]) [18] (by decide) rfl
  have hFc := va_free (wc := [(q_90, .inr (3, []))]) hD hS hA [18] rfl
  refine va_callv (va_runIN (As := []) (rest := [.ref q_90, .int (nI 1), .ref q_50]) ⟨hx, hb, hml, hown, hg⟩ (c_Pu_init l DD H.size q_90) ⟨va_cnB 0 hg (gi_c mw_98) rfl rfl rfl (hXK.2.1 ("SortDesk", 51, ⟨"SortDesk$PuttingIn", "<init>", "()V"⟩, "SortDesk") (by decide)) (hg _ mw_7) (by decide +kernel) ⟨Nat.le_of_ble_eq_true rfl, Nat.le_of_ble_eq_true rfl⟩, rfl, hg _ mw_97⟩ ⟨z_blindQE xk_bl, z_preQE hPc hKc hDc (fun U _ hW => hXK.warm hW)⟩ rfl rfl hl.1 rfl (lv_room (Nat.le_of_ble_eq_true rfl)) d_De_init_94 ⟨Nat.le_of_ble_eq_true rfl, Nat.le_of_ble_eq_true rfl⟩) hS (fun q _ h => hFc q h) hFc (fun u9 t9 H9 locs ht9 hvm9 hw9 hB9 hz9 hk9 hS => ?_)
  obtain ⟨hP1, hK1, hD1⟩ := hB9
  rw [ht9] at hP1
  try dsimp only at hw9
  obtain ⟨hP, hD⟩ := va_join (wr := [(ad, .inr (8, [.ref q_5, .ref q_16, .ref q_27, .ref q_38, .ref q_50, .ref q_60, .ref q_67, .long 0, .int (zb false), .int (zb false)])), (q_5, .inr (4, [.ref hk_9, .ref ht_9, .int (nI 0)])), (hk_9, .inl (ck_9, 150, .inl zI)), (ht_9, .inl (ct_9, 150, .inl zI)), (q_16, .inr (4, [.ref hk_20, .ref ht_20, .int (nI 0)])), (hk_20, .inl (ck_20, 150, .inl zI)), (ht_20, .inl (ct_20, 150, .inl zI)), (q_27, .inr (5, [.ref hfg_31, .ref hle_31, .ref hmo_31, .ref hwy_31, .int (nI 0)])), (hfg_31, .inl (cfg_31, 12, .inl (nF zN))), (hle_31, .inl (cle_31, 12, .inr (.inl zL))), (hmo_31, .inl (cmo_31, 12, .inr (.inl zL))), (hwy_31, .inl (cwy_31, 12, .inl (nF zN))), (q_38, .inr (6, [.ref htf_42, .int (nI 0)])), (htf_42, .inl (ctf_42, 450, .inl zI)), (q_50, .inl (cA_50, 5, .inr (.inr (.inr (.inr (va_up (fun _ => none) 0 (some q_77))))))), (q_60, .inl (cA_60, 150, .inl (nF zN))), (q_67, .inl (cA_67, 5, .inl (nF zN))), (q_77, .inr (7, []))]) (w1 := [(q_90, .inr (3, []))]) hP hD [18] [0, 1, 2, 3, 4, 5, 6, 7, 8, 9, 10, 11, 12, 13, 14, 15, 16, 17] rfl rfl (by decide) (by decide) hk9 hFc hP1 hD1
  generalize H9 = H at hP hS ⊢
  have hP : va_P DD vwCl [(ad, .inr (8, [.ref q_5, .ref q_16, .ref q_27, .ref q_38, .ref q_50, .ref q_60, .ref q_67, .long 0, .int (zb false), .int (zb false)])), (q_5, .inr (4, [.ref hk_9, .ref ht_9, .int (nI 0)])), (hk_9, .inl (ck_9, 150, .inl zI)), (ht_9, .inl (ct_9, 150, .inl zI)), (q_16, .inr (4, [.ref hk_20, .ref ht_20, .int (nI 0)])), (hk_20, .inl (ck_20, 150, .inl zI)), (ht_20, .inl (ct_20, 150, .inl zI)), (q_27, .inr (5, [.ref hfg_31, .ref hle_31, .ref hmo_31, .ref hwy_31, .int (nI 0)])), (hfg_31, .inl (cfg_31, 12, .inl (nF zN))), (hle_31, .inl (cle_31, 12, .inr (.inl zL))), (hmo_31, .inl (cmo_31, 12, .inr (.inl zL))), (hwy_31, .inl (cwy_31, 12, .inl (nF zN))), (q_38, .inr (6, [.ref htf_42, .int (nI 0)])), (htf_42, .inl (ctf_42, 450, .inl zI)), (q_50, .inl (cA_50, 5, .inr (.inr (.inr (.inr (va_up (fun _ => none) 0 (some q_77))))))), (q_60, .inl (cA_60, 150, .inl (nF zN))), (q_67, .inl (cA_67, 5, .inl (nF zN))), (q_77, .inr (7, [])), (q_90, .inr (3, []))] H := hP
  have hD : va_D A [(ad, .inr (8, [.ref q_5, .ref q_16, .ref q_27, .ref q_38, .ref q_50, .ref q_60, .ref q_67, .long 0, .int (zb false), .int (zb false)])), (q_5, .inr (4, [.ref hk_9, .ref ht_9, .int (nI 0)])), (hk_9, .inl (ck_9, 150, .inl zI)), (ht_9, .inl (ct_9, 150, .inl zI)), (q_16, .inr (4, [.ref hk_20, .ref ht_20, .int (nI 0)])), (hk_20, .inl (ck_20, 150, .inl zI)), (ht_20, .inl (ct_20, 150, .inl zI)), (q_27, .inr (5, [.ref hfg_31, .ref hle_31, .ref hmo_31, .ref hwy_31, .int (nI 0)])), (hfg_31, .inl (cfg_31, 12, .inl (nF zN))), (hle_31, .inl (cle_31, 12, .inr (.inl zL))), (hmo_31, .inl (cmo_31, 12, .inr (.inl zL))), (hwy_31, .inl (cwy_31, 12, .inl (nF zN))), (q_38, .inr (6, [.ref htf_42, .int (nI 0)])), (htf_42, .inl (ctf_42, 450, .inl zI)), (q_50, .inl (cA_50, 5, .inr (.inr (.inr (.inr (va_up (fun _ => none) 0 (some q_77))))))), (q_60, .inl (cA_60, 150, .inl (nF zN))), (q_67, .inl (cA_67, 5, .inl (nF zN))), (q_77, .inr (7, [])), (q_90, .inr (3, []))] := hD
  refine z_aast hx hb hK hP hD hS 14 9 18 3 rfl rfl (hXK.2.2.1 ("SortDesk$PuttingIn", "SortDesk$Way") (by decide)) rfl rfl (by decide) (by decide) d_De_init_97 (fun H locs hP hD hS => ?_)
  have hP : va_P DD vwCl [(ad, .inr (8, [.ref q_5, .ref q_16, .ref q_27, .ref q_38, .ref q_50, .ref q_60, .ref q_67, .long 0, .int (zb false), .int (zb false)])), (q_5, .inr (4, [.ref hk_9, .ref ht_9, .int (nI 0)])), (hk_9, .inl (ck_9, 150, .inl zI)), (ht_9, .inl (ct_9, 150, .inl zI)), (q_16, .inr (4, [.ref hk_20, .ref ht_20, .int (nI 0)])), (hk_20, .inl (ck_20, 150, .inl zI)), (ht_20, .inl (ct_20, 150, .inl zI)), (q_27, .inr (5, [.ref hfg_31, .ref hle_31, .ref hmo_31, .ref hwy_31, .int (nI 0)])), (hfg_31, .inl (cfg_31, 12, .inl (nF zN))), (hle_31, .inl (cle_31, 12, .inr (.inl zL))), (hmo_31, .inl (cmo_31, 12, .inr (.inl zL))), (hwy_31, .inl (cwy_31, 12, .inl (nF zN))), (q_38, .inr (6, [.ref htf_42, .int (nI 0)])), (htf_42, .inl (ctf_42, 450, .inl zI)), (q_50, .inl (cA_50, 5, .inr (.inr (.inr (.inr (va_up (va_up (fun _ => none) 0 (some q_77)) 1 (some q_90))))))), (q_60, .inl (cA_60, 150, .inl (nF zN))), (q_67, .inl (cA_67, 5, .inl (nF zN))), (q_77, .inr (7, [])), (q_90, .inr (3, []))] H := hP
  have hD : va_D A [(ad, .inr (8, [.ref q_5, .ref q_16, .ref q_27, .ref q_38, .ref q_50, .ref q_60, .ref q_67, .long 0, .int (zb false), .int (zb false)])), (q_5, .inr (4, [.ref hk_9, .ref ht_9, .int (nI 0)])), (hk_9, .inl (ck_9, 150, .inl zI)), (ht_9, .inl (ct_9, 150, .inl zI)), (q_16, .inr (4, [.ref hk_20, .ref ht_20, .int (nI 0)])), (hk_20, .inl (ck_20, 150, .inl zI)), (ht_20, .inl (ct_20, 150, .inl zI)), (q_27, .inr (5, [.ref hfg_31, .ref hle_31, .ref hmo_31, .ref hwy_31, .int (nI 0)])), (hfg_31, .inl (cfg_31, 12, .inl (nF zN))), (hle_31, .inl (cle_31, 12, .inr (.inl zL))), (hmo_31, .inl (cmo_31, 12, .inr (.inl zL))), (hwy_31, .inl (cwy_31, 12, .inl (nF zN))), (q_38, .inr (6, [.ref htf_42, .int (nI 0)])), (htf_42, .inl (ctf_42, 450, .inl zI)), (q_50, .inl (cA_50, 5, .inr (.inr (.inr (.inr (va_up (va_up (fun _ => none) 0 (some q_77)) 1 (some q_90))))))), (q_60, .inl (cA_60, 150, .inl (nF zN))), (q_67, .inl (cA_67, 5, .inl (nF zN))), (q_77, .inr (7, [])), (q_90, .inr (3, []))] := hD
  refine lv_aload_n hx hb d_De_init_98 rfl (lv_at hl 0 rfl) ?_
  refine va_get (D := DD) (ci := 8) (v := .ref q_50) (C := R_De) (T := T_De) (N := 10) hx hb hg in_De hown hK hP 0 rfl rfl 4 (by decide) (hg _ mw_144) (fun _ h9 => h9) rfl d_De_init_99 ?_
  refine lv_iconst (v := nI 2) hx hb d_De_init_102 (by decide) ?_
  refine va_new (D := DD) (ci := 2) (fs := [.null, .null]) (C := R_Jo) (T := T_Jo) (N := 2) hx hb hg in_Jo t_Jo to_Jo hown (hg _ mw_101) (hg _ mw_102) (hg _ mw_8) hK hP hD hS hA rfl (fun j hj => by rcases (show j = 0 ∨ j = 1 by omega) with rfl | rfl <;> rfl) (Nat.le_of_ble_eq_true rfl) (Nat.le_of_ble_eq_true rfl) d_De_init_103 (fun q_103 H hP hD hS => ?_)
  have hK : va_K DD vwCl [(ck_9, .int), (ct_9, .int), (ck_20, .int), (ct_20, .int), (cfg_31, .int), (cle_31, .long), (cmo_31, .long), (cwy_31, .int), (ctf_42, .int), (cA_50, .object "SortDesk$Way"), (cA_60, .int), (cA_67, .int)] s := hK
  have hP : va_P DD vwCl [(ad, .inr (8, [.ref q_5, .ref q_16, .ref q_27, .ref q_38, .ref q_50, .ref q_60, .ref q_67, .long 0, .int (zb false), .int (zb false)])), (q_5, .inr (4, [.ref hk_9, .ref ht_9, .int (nI 0)])), (hk_9, .inl (ck_9, 150, .inl zI)), (ht_9, .inl (ct_9, 150, .inl zI)), (q_16, .inr (4, [.ref hk_20, .ref ht_20, .int (nI 0)])), (hk_20, .inl (ck_20, 150, .inl zI)), (ht_20, .inl (ct_20, 150, .inl zI)), (q_27, .inr (5, [.ref hfg_31, .ref hle_31, .ref hmo_31, .ref hwy_31, .int (nI 0)])), (hfg_31, .inl (cfg_31, 12, .inl (nF zN))), (hle_31, .inl (cle_31, 12, .inr (.inl zL))), (hmo_31, .inl (cmo_31, 12, .inr (.inl zL))), (hwy_31, .inl (cwy_31, 12, .inl (nF zN))), (q_38, .inr (6, [.ref htf_42, .int (nI 0)])), (htf_42, .inl (ctf_42, 450, .inl zI)), (q_50, .inl (cA_50, 5, .inr (.inr (.inr (.inr (va_up (va_up (fun _ => none) 0 (some q_77)) 1 (some q_90))))))), (q_60, .inl (cA_60, 150, .inl (nF zN))), (q_67, .inl (cA_67, 5, .inl (nF zN))), (q_77, .inr (7, [])), (q_90, .inr (3, [])), (q_103, .inr (2, [.null, .null]))] H := hP
  have hD : va_D A [(ad, .inr (8, [.ref q_5, .ref q_16, .ref q_27, .ref q_38, .ref q_50, .ref q_60, .ref q_67, .long 0, .int (zb false), .int (zb false)])), (q_5, .inr (4, [.ref hk_9, .ref ht_9, .int (nI 0)])), (hk_9, .inl (ck_9, 150, .inl zI)), (ht_9, .inl (ct_9, 150, .inl zI)), (q_16, .inr (4, [.ref hk_20, .ref ht_20, .int (nI 0)])), (hk_20, .inl (ck_20, 150, .inl zI)), (ht_20, .inl (ct_20, 150, .inl zI)), (q_27, .inr (5, [.ref hfg_31, .ref hle_31, .ref hmo_31, .ref hwy_31, .int (nI 0)])), (hfg_31, .inl (cfg_31, 12, .inl (nF zN))), (hle_31, .inl (cle_31, 12, .inr (.inl zL))), (hmo_31, .inl (cmo_31, 12, .inr (.inl zL))), (hwy_31, .inl (cwy_31, 12, .inl (nF zN))), (q_38, .inr (6, [.ref htf_42, .int (nI 0)])), (htf_42, .inl (ctf_42, 450, .inl zI)), (q_50, .inl (cA_50, 5, .inr (.inr (.inr (.inr (va_up (va_up (fun _ => none) 0 (some q_77)) 1 (some q_90))))))), (q_60, .inl (cA_60, 150, .inl (nF zN))), (q_67, .inl (cA_67, 5, .inl (nF zN))), (q_77, .inr (7, [])), (q_90, .inr (3, [])), (q_103, .inr (2, [.null, .null]))] := hD
  refine W.widen (k := 19) (n := 1273) (by decide) (by decide) ?_
  refine lv_dup hx hb d_De_init_106 rfl ?_
  have hPc := hP.sub (ws' := [(q_103, .inr (2, [.null, .null]))]) [19] rfl
  have hKc := hK.sub (tys' := []) [] rfl
  have hDc := hD.sub (ws' := [(q_103, .inr (2, [.null, .null]))]) [19] (by decide) rfl
  have hFc := va_free (wc := [(q_103, .inr (2, [.null, .null]))]) hD hS hA [19] rfl
  refine va_callv (va_runIN (As := []) (rest := [.ref q_103, .int (nI 2), .ref q_50]) ⟨hx, hb, hml, hown, hg⟩ (c_Jo_init l DD H.size q_103) ⟨va_cnB 0 hg (gi_c mw_105) rfl rfl rfl (hXK.2.1 ("SortDesk", 54, ⟨"SortDesk$Joining", "<init>", "()V"⟩, "SortDesk") (by decide)) (hg _ mw_8) (by decide +kernel) ⟨Nat.le_of_ble_eq_true rfl, Nat.le_of_ble_eq_true rfl⟩, rfl, hg _ mw_104⟩ ⟨z_blindQE xk_bl, z_preQE hPc hKc hDc (fun U _ hW => hXK.warm hW)⟩ rfl rfl hl.1 rfl (lv_room (Nat.le_of_ble_eq_true rfl)) d_De_init_107 ⟨Nat.le_of_ble_eq_true rfl, Nat.le_of_ble_eq_true rfl⟩) hS (fun q _ h => hFc q h) hFc (fun u9 t9 H9 locs ht9 hvm9 hw9 hB9 hz9 hk9 hS => ?_)
  obtain ⟨hjs_107, cjs_107, hjj_107, cjj_107⟩ := u9
  obtain ⟨hP1, hK1, hD1⟩ := hB9
  rw [ht9] at hP1
  try dsimp only at hw9
  obtain ⟨hP, hD⟩ := va_join (wr := [(ad, .inr (8, [.ref q_5, .ref q_16, .ref q_27, .ref q_38, .ref q_50, .ref q_60, .ref q_67, .long 0, .int (zb false), .int (zb false)])), (q_5, .inr (4, [.ref hk_9, .ref ht_9, .int (nI 0)])), (hk_9, .inl (ck_9, 150, .inl zI)), (ht_9, .inl (ct_9, 150, .inl zI)), (q_16, .inr (4, [.ref hk_20, .ref ht_20, .int (nI 0)])), (hk_20, .inl (ck_20, 150, .inl zI)), (ht_20, .inl (ct_20, 150, .inl zI)), (q_27, .inr (5, [.ref hfg_31, .ref hle_31, .ref hmo_31, .ref hwy_31, .int (nI 0)])), (hfg_31, .inl (cfg_31, 12, .inl (nF zN))), (hle_31, .inl (cle_31, 12, .inr (.inl zL))), (hmo_31, .inl (cmo_31, 12, .inr (.inl zL))), (hwy_31, .inl (cwy_31, 12, .inl (nF zN))), (q_38, .inr (6, [.ref htf_42, .int (nI 0)])), (htf_42, .inl (ctf_42, 450, .inl zI)), (q_50, .inl (cA_50, 5, .inr (.inr (.inr (.inr (va_up (va_up (fun _ => none) 0 (some q_77)) 1 (some q_90))))))), (q_60, .inl (cA_60, 150, .inl (nF zN))), (q_67, .inl (cA_67, 5, .inl (nF zN))), (q_77, .inr (7, [])), (q_90, .inr (3, []))]) (w1 := [(q_103, .inr (2, [.ref hjs_107, .ref hjj_107])), (hjs_107, .inl (cjs_107, 151, .inl (nF zN))), (hjj_107, .inl (cjj_107, 150, .inl (nF zN)))]) hP hD [19] [0, 1, 2, 3, 4, 5, 6, 7, 8, 9, 10, 11, 12, 13, 14, 15, 16, 17, 18] rfl rfl (by decide) (by decide) hk9 hFc hP1 hD1
  generalize H9 = H at hP hS ⊢
  have hK1 := va_K.moved hvm9.symm hK1
  have hK := hK.app hK1
  have hK : va_K DD vwCl [(ck_9, .int), (ct_9, .int), (ck_20, .int), (ct_20, .int), (cfg_31, .int), (cle_31, .long), (cmo_31, .long), (cwy_31, .int), (ctf_42, .int), (cA_50, .object "SortDesk$Way"), (cA_60, .int), (cA_67, .int), (cjs_107, .int), (cjj_107, .int)] s := hK
  have hP : va_P DD vwCl [(ad, .inr (8, [.ref q_5, .ref q_16, .ref q_27, .ref q_38, .ref q_50, .ref q_60, .ref q_67, .long 0, .int (zb false), .int (zb false)])), (q_5, .inr (4, [.ref hk_9, .ref ht_9, .int (nI 0)])), (hk_9, .inl (ck_9, 150, .inl zI)), (ht_9, .inl (ct_9, 150, .inl zI)), (q_16, .inr (4, [.ref hk_20, .ref ht_20, .int (nI 0)])), (hk_20, .inl (ck_20, 150, .inl zI)), (ht_20, .inl (ct_20, 150, .inl zI)), (q_27, .inr (5, [.ref hfg_31, .ref hle_31, .ref hmo_31, .ref hwy_31, .int (nI 0)])), (hfg_31, .inl (cfg_31, 12, .inl (nF zN))), (hle_31, .inl (cle_31, 12, .inr (.inl zL))), (hmo_31, .inl (cmo_31, 12, .inr (.inl zL))), (hwy_31, .inl (cwy_31, 12, .inl (nF zN))), (q_38, .inr (6, [.ref htf_42, .int (nI 0)])), (htf_42, .inl (ctf_42, 450, .inl zI)), (q_50, .inl (cA_50, 5, .inr (.inr (.inr (.inr (va_up (va_up (fun _ => none) 0 (some q_77)) 1 (some q_90))))))), (q_60, .inl (cA_60, 150, .inl (nF zN))), (q_67, .inl (cA_67, 5, .inl (nF zN))), (q_77, .inr (7, [])), (q_90, .inr (3, [])), (q_103, .inr (2, [.ref hjs_107, .ref hjj_107])), (hjs_107, .inl (cjs_107, 151, .inl (nF zN))), (hjj_107, .inl (cjj_107, 150, .inl (nF zN)))] H := hP
  have hD : va_D A [(ad, .inr (8, [.ref q_5, .ref q_16, .ref q_27, .ref q_38, .ref q_50, .ref q_60, .ref q_67, .long 0, .int (zb false), .int (zb false)])), (q_5, .inr (4, [.ref hk_9, .ref ht_9, .int (nI 0)])), (hk_9, .inl (ck_9, 150, .inl zI)), (ht_9, .inl (ct_9, 150, .inl zI)), (q_16, .inr (4, [.ref hk_20, .ref ht_20, .int (nI 0)])), (hk_20, .inl (ck_20, 150, .inl zI)), (ht_20, .inl (ct_20, 150, .inl zI)), (q_27, .inr (5, [.ref hfg_31, .ref hle_31, .ref hmo_31, .ref hwy_31, .int (nI 0)])), (hfg_31, .inl (cfg_31, 12, .inl (nF zN))), (hle_31, .inl (cle_31, 12, .inr (.inl zL))), (hmo_31, .inl (cmo_31, 12, .inr (.inl zL))), (hwy_31, .inl (cwy_31, 12, .inl (nF zN))), (q_38, .inr (6, [.ref htf_42, .int (nI 0)])), (htf_42, .inl (ctf_42, 450, .inl zI)), (q_50, .inl (cA_50, 5, .inr (.inr (.inr (.inr (va_up (va_up (fun _ => none) 0 (some q_77)) 1 (some q_90))))))), (q_60, .inl (cA_60, 150, .inl (nF zN))), (q_67, .inl (cA_67, 5, .inl (nF zN))), (q_77, .inr (7, [])), (q_90, .inr (3, [])), (q_103, .inr (2, [.ref hjs_107, .ref hjj_107])), (hjs_107, .inl (cjs_107, 151, .inl (nF zN))), (hjj_107, .inl (cjj_107, 150, .inl (nF zN)))] := hD
  refine W.widen (k := 21) (n := 1574) (by decide) (by decide) ?_
  refine z_aast hx hb hK hP hD hS 14 9 19 2 rfl rfl (hXK.2.2.1 ("SortDesk$Joining", "SortDesk$Way") (by decide)) rfl rfl (by decide) (by decide) d_De_init_110 (fun H locs hP hD hS => ?_)
  have hP : va_P DD vwCl [(ad, .inr (8, [.ref q_5, .ref q_16, .ref q_27, .ref q_38, .ref q_50, .ref q_60, .ref q_67, .long 0, .int (zb false), .int (zb false)])), (q_5, .inr (4, [.ref hk_9, .ref ht_9, .int (nI 0)])), (hk_9, .inl (ck_9, 150, .inl zI)), (ht_9, .inl (ct_9, 150, .inl zI)), (q_16, .inr (4, [.ref hk_20, .ref ht_20, .int (nI 0)])), (hk_20, .inl (ck_20, 150, .inl zI)), (ht_20, .inl (ct_20, 150, .inl zI)), (q_27, .inr (5, [.ref hfg_31, .ref hle_31, .ref hmo_31, .ref hwy_31, .int (nI 0)])), (hfg_31, .inl (cfg_31, 12, .inl (nF zN))), (hle_31, .inl (cle_31, 12, .inr (.inl zL))), (hmo_31, .inl (cmo_31, 12, .inr (.inl zL))), (hwy_31, .inl (cwy_31, 12, .inl (nF zN))), (q_38, .inr (6, [.ref htf_42, .int (nI 0)])), (htf_42, .inl (ctf_42, 450, .inl zI)), (q_50, .inl (cA_50, 5, .inr (.inr (.inr (.inr (va_up (va_up (va_up (fun _ => none) 0 (some q_77)) 1 (some q_90)) 2 (some q_103))))))), (q_60, .inl (cA_60, 150, .inl (nF zN))), (q_67, .inl (cA_67, 5, .inl (nF zN))), (q_77, .inr (7, [])), (q_90, .inr (3, [])), (q_103, .inr (2, [.ref hjs_107, .ref hjj_107])), (hjs_107, .inl (cjs_107, 151, .inl (nF zN))), (hjj_107, .inl (cjj_107, 150, .inl (nF zN)))] H := hP
  have hD : va_D A [(ad, .inr (8, [.ref q_5, .ref q_16, .ref q_27, .ref q_38, .ref q_50, .ref q_60, .ref q_67, .long 0, .int (zb false), .int (zb false)])), (q_5, .inr (4, [.ref hk_9, .ref ht_9, .int (nI 0)])), (hk_9, .inl (ck_9, 150, .inl zI)), (ht_9, .inl (ct_9, 150, .inl zI)), (q_16, .inr (4, [.ref hk_20, .ref ht_20, .int (nI 0)])), (hk_20, .inl (ck_20, 150, .inl zI)), (ht_20, .inl (ct_20, 150, .inl zI)), (q_27, .inr (5, [.ref hfg_31, .ref hle_31, .ref hmo_31, .ref hwy_31, .int (nI 0)])), (hfg_31, .inl (cfg_31, 12, .inl (nF zN))), (hle_31, .inl (cle_31, 12, .inr (.inl zL))), (hmo_31, .inl (cmo_31, 12, .inr (.inl zL))), (hwy_31, .inl (cwy_31, 12, .inl (nF zN))), (q_38, .inr (6, [.ref htf_42, .int (nI 0)])), (htf_42, .inl (ctf_42, 450, .inl zI)), (q_50, .inl (cA_50, 5, .inr (.inr (.inr (.inr (va_up (va_up (va_up (fun _ => none) 0 (some q_77)) 1 (some q_90)) 2 (some q_103))))))), (q_60, .inl (cA_60, 150, .inl (nF zN))), (q_67, .inl (cA_67, 5, .inl (nF zN))), (q_77, .inr (7, [])), (q_90, .inr (3, [])), (q_103, .inr (2, [.ref hjs_107, .ref hjj_107])), (hjs_107, .inl (cjs_107, 151, .inl (nF zN))), (hjj_107, .inl (cjj_107, 150, .inl (nF zN)))] := hD
  refine lv_aload_n hx hb d_De_init_111 rfl (lv_at hl 0 rfl) ?_
  refine va_get (D := DD) (ci := 8) (v := .ref q_50) (C := R_De) (T := T_De) (N := 10) hx hb hg in_De hown hK hP 0 rfl rfl 4 (by decide) (hg _ mw_144) (fun _ h9 => h9) rfl d_De_init_112 ?_
  refine lv_iconst (v := nI 3) hx hb d_De_init_115 (by decide) ?_
  refine va_new (D := DD) (ci := 1) (fs := [.null, .null]) (C := R_Co) (T := T_Co) (N := 2) hx hb hg in_Co t_Co to_Co hown (hg _ mw_114) (hg _ mw_115) (hg _ mw_9) hK hP hD hS hA rfl (fun j hj => by rcases (show j = 0 ∨ j = 1 by omega) with rfl | rfl <;> rfl) (Nat.le_of_ble_eq_true rfl) (Nat.le_of_ble_eq_true rfl) d_De_init_116 (fun q_116 H hP hD hS => ?_)
  have hK : va_K DD vwCl [(ck_9, .int), (ct_9, .int), (ck_20, .int), (ct_20, .int), (cfg_31, .int), (cle_31, .long), (cmo_31, .long), (cwy_31, .int), (ctf_42, .int), (cA_50, .object "SortDesk$Way"), (cA_60, .int), (cA_67, .int), (cjs_107, .int), (cjj_107, .int)] s := hK
  have hP : va_P DD vwCl [(ad, .inr (8, [.ref q_5, .ref q_16, .ref q_27, .ref q_38, .ref q_50, .ref q_60, .ref q_67, .long 0, .int (zb false), .int (zb false)])), (q_5, .inr (4, [.ref hk_9, .ref ht_9, .int (nI 0)])), (hk_9, .inl (ck_9, 150, .inl zI)), (ht_9, .inl (ct_9, 150, .inl zI)), (q_16, .inr (4, [.ref hk_20, .ref ht_20, .int (nI 0)])), (hk_20, .inl (ck_20, 150, .inl zI)), (ht_20, .inl (ct_20, 150, .inl zI)), (q_27, .inr (5, [.ref hfg_31, .ref hle_31, .ref hmo_31, .ref hwy_31, .int (nI 0)])), (hfg_31, .inl (cfg_31, 12, .inl (nF zN))), (hle_31, .inl (cle_31, 12, .inr (.inl zL))), (hmo_31, .inl (cmo_31, 12, .inr (.inl zL))), (hwy_31, .inl (cwy_31, 12, .inl (nF zN))), (q_38, .inr (6, [.ref htf_42, .int (nI 0)])), (htf_42, .inl (ctf_42, 450, .inl zI)), (q_50, .inl (cA_50, 5, .inr (.inr (.inr (.inr (va_up (va_up (va_up (fun _ => none) 0 (some q_77)) 1 (some q_90)) 2 (some q_103))))))), (q_60, .inl (cA_60, 150, .inl (nF zN))), (q_67, .inl (cA_67, 5, .inl (nF zN))), (q_77, .inr (7, [])), (q_90, .inr (3, [])), (q_103, .inr (2, [.ref hjs_107, .ref hjj_107])), (hjs_107, .inl (cjs_107, 151, .inl (nF zN))), (hjj_107, .inl (cjj_107, 150, .inl (nF zN))), (q_116, .inr (1, [.null, .null]))] H := hP
  have hD : va_D A [(ad, .inr (8, [.ref q_5, .ref q_16, .ref q_27, .ref q_38, .ref q_50, .ref q_60, .ref q_67, .long 0, .int (zb false), .int (zb false)])), (q_5, .inr (4, [.ref hk_9, .ref ht_9, .int (nI 0)])), (hk_9, .inl (ck_9, 150, .inl zI)), (ht_9, .inl (ct_9, 150, .inl zI)), (q_16, .inr (4, [.ref hk_20, .ref ht_20, .int (nI 0)])), (hk_20, .inl (ck_20, 150, .inl zI)), (ht_20, .inl (ct_20, 150, .inl zI)), (q_27, .inr (5, [.ref hfg_31, .ref hle_31, .ref hmo_31, .ref hwy_31, .int (nI 0)])), (hfg_31, .inl (cfg_31, 12, .inl (nF zN))), (hle_31, .inl (cle_31, 12, .inr (.inl zL))), (hmo_31, .inl (cmo_31, 12, .inr (.inl zL))), (hwy_31, .inl (cwy_31, 12, .inl (nF zN))), (q_38, .inr (6, [.ref htf_42, .int (nI 0)])), (htf_42, .inl (ctf_42, 450, .inl zI)), (q_50, .inl (cA_50, 5, .inr (.inr (.inr (.inr (va_up (va_up (va_up (fun _ => none) 0 (some q_77)) 1 (some q_90)) 2 (some q_103))))))), (q_60, .inl (cA_60, 150, .inl (nF zN))), (q_67, .inl (cA_67, 5, .inl (nF zN))), (q_77, .inr (7, [])), (q_90, .inr (3, [])), (q_103, .inr (2, [.ref hjs_107, .ref hjj_107])), (hjs_107, .inl (cjs_107, 151, .inl (nF zN))), (hjj_107, .inl (cjj_107, 150, .inl (nF zN))), (q_116, .inr (1, [.null, .null]))] := hD
  refine W.widen (k := 22) (n := 1576) (by decide) (by decide) ?_
  refine lv_dup hx hb d_De_init_119 rfl ?_
  have hPc := hP.sub (ws' := [(q_116, .inr (1, [.null, .null]))]) [22] rfl
  have hKc := hK.sub (tys' := []) [] rfl
  have hDc := hD.sub (ws' := [(q_116, .inr (1, [.null, .null]))]) [22] (by decide) rfl
  have hFc := va_free (wc := [(q_116, .inr (1, [.null, .null]))]) hD hS hA [22] rfl
  refine va_callv (va_runIN (As := []) (rest := [.ref q_116, .int (nI 3), .ref q_50]) ⟨hx, hb, hml, hown, hg⟩ (c_Co_init l DD H.size q_116) ⟨va_cnB 0 hg (gi_c mw_118) rfl rfl rfl (hXK.2.1 ("SortDesk", 57, ⟨"SortDesk$Counting", "<init>", "()V"⟩, "SortDesk") (by decide)) (hg _ mw_9) (by decide +kernel) ⟨Nat.le_of_ble_eq_true rfl, Nat.le_of_ble_eq_true rfl⟩, rfl, hg _ mw_117⟩ ⟨z_blindQE xk_bl, z_preQE hPc hKc hDc (fun U _ hW => hXK.warm hW)⟩ rfl rfl hl.1 rfl (lv_room (Nat.le_of_ble_eq_true rfl)) d_De_init_120 ⟨Nat.le_of_ble_eq_true rfl, Nat.le_of_ble_eq_true rfl⟩) hS (fun q _ h => hFc q h) hFc (fun u9 t9 H9 locs ht9 hvm9 hw9 hB9 hz9 hk9 hS => ?_)
  obtain ⟨hcc_120, ccc_120, hcn_120, ccn_120⟩ := u9
  obtain ⟨hP1, hK1, hD1⟩ := hB9
  rw [ht9] at hP1
  try dsimp only at hw9
  obtain ⟨hP, hD⟩ := va_join (wr := [(ad, .inr (8, [.ref q_5, .ref q_16, .ref q_27, .ref q_38, .ref q_50, .ref q_60, .ref q_67, .long 0, .int (zb false), .int (zb false)])), (q_5, .inr (4, [.ref hk_9, .ref ht_9, .int (nI 0)])), (hk_9, .inl (ck_9, 150, .inl zI)), (ht_9, .inl (ct_9, 150, .inl zI)), (q_16, .inr (4, [.ref hk_20, .ref ht_20, .int (nI 0)])), (hk_20, .inl (ck_20, 150, .inl zI)), (ht_20, .inl (ct_20, 150, .inl zI)), (q_27, .inr (5, [.ref hfg_31, .ref hle_31, .ref hmo_31, .ref hwy_31, .int (nI 0)])), (hfg_31, .inl (cfg_31, 12, .inl (nF zN))), (hle_31, .inl (cle_31, 12, .inr (.inl zL))), (hmo_31, .inl (cmo_31, 12, .inr (.inl zL))), (hwy_31, .inl (cwy_31, 12, .inl (nF zN))), (q_38, .inr (6, [.ref htf_42, .int (nI 0)])), (htf_42, .inl (ctf_42, 450, .inl zI)), (q_50, .inl (cA_50, 5, .inr (.inr (.inr (.inr (va_up (va_up (va_up (fun _ => none) 0 (some q_77)) 1 (some q_90)) 2 (some q_103))))))), (q_60, .inl (cA_60, 150, .inl (nF zN))), (q_67, .inl (cA_67, 5, .inl (nF zN))), (q_77, .inr (7, [])), (q_90, .inr (3, [])), (q_103, .inr (2, [.ref hjs_107, .ref hjj_107])), (hjs_107, .inl (cjs_107, 151, .inl (nF zN))), (hjj_107, .inl (cjj_107, 150, .inl (nF zN)))]) (w1 := [(q_116, .inr (1, [.ref hcc_120, .ref hcn_120])), (hcc_120, .inl (ccc_120, 501, .inl (nF zN))), (hcn_120, .inl (ccn_120, 501, .inl (nF zN)))]) hP hD [22] [0, 1, 2, 3, 4, 5, 6, 7, 8, 9, 10, 11, 12, 13, 14, 15, 16, 17, 18, 19, 20, 21] rfl rfl (by decide) (by decide) hk9 hFc hP1 hD1
  generalize H9 = H at hP hS ⊢
  have hK1 := va_K.moved hvm9.symm hK1
  have hK := hK.app hK1
  have hK : va_K DD vwCl [(ck_9, .int), (ct_9, .int), (ck_20, .int), (ct_20, .int), (cfg_31, .int), (cle_31, .long), (cmo_31, .long), (cwy_31, .int), (ctf_42, .int), (cA_50, .object "SortDesk$Way"), (cA_60, .int), (cA_67, .int), (cjs_107, .int), (cjj_107, .int), (ccc_120, .int), (ccn_120, .int)] s := hK
  have hP : va_P DD vwCl [(ad, .inr (8, [.ref q_5, .ref q_16, .ref q_27, .ref q_38, .ref q_50, .ref q_60, .ref q_67, .long 0, .int (zb false), .int (zb false)])), (q_5, .inr (4, [.ref hk_9, .ref ht_9, .int (nI 0)])), (hk_9, .inl (ck_9, 150, .inl zI)), (ht_9, .inl (ct_9, 150, .inl zI)), (q_16, .inr (4, [.ref hk_20, .ref ht_20, .int (nI 0)])), (hk_20, .inl (ck_20, 150, .inl zI)), (ht_20, .inl (ct_20, 150, .inl zI)), (q_27, .inr (5, [.ref hfg_31, .ref hle_31, .ref hmo_31, .ref hwy_31, .int (nI 0)])), (hfg_31, .inl (cfg_31, 12, .inl (nF zN))), (hle_31, .inl (cle_31, 12, .inr (.inl zL))), (hmo_31, .inl (cmo_31, 12, .inr (.inl zL))), (hwy_31, .inl (cwy_31, 12, .inl (nF zN))), (q_38, .inr (6, [.ref htf_42, .int (nI 0)])), (htf_42, .inl (ctf_42, 450, .inl zI)), (q_50, .inl (cA_50, 5, .inr (.inr (.inr (.inr (va_up (va_up (va_up (fun _ => none) 0 (some q_77)) 1 (some q_90)) 2 (some q_103))))))), (q_60, .inl (cA_60, 150, .inl (nF zN))), (q_67, .inl (cA_67, 5, .inl (nF zN))), (q_77, .inr (7, [])), (q_90, .inr (3, [])), (q_103, .inr (2, [.ref hjs_107, .ref hjj_107])), (hjs_107, .inl (cjs_107, 151, .inl (nF zN))), (hjj_107, .inl (cjj_107, 150, .inl (nF zN))), (q_116, .inr (1, [.ref hcc_120, .ref hcn_120])), (hcc_120, .inl (ccc_120, 501, .inl (nF zN))), (hcn_120, .inl (ccn_120, 501, .inl (nF zN)))] H := hP
  have hD : va_D A [(ad, .inr (8, [.ref q_5, .ref q_16, .ref q_27, .ref q_38, .ref q_50, .ref q_60, .ref q_67, .long 0, .int (zb false), .int (zb false)])), (q_5, .inr (4, [.ref hk_9, .ref ht_9, .int (nI 0)])), (hk_9, .inl (ck_9, 150, .inl zI)), (ht_9, .inl (ct_9, 150, .inl zI)), (q_16, .inr (4, [.ref hk_20, .ref ht_20, .int (nI 0)])), (hk_20, .inl (ck_20, 150, .inl zI)), (ht_20, .inl (ct_20, 150, .inl zI)), (q_27, .inr (5, [.ref hfg_31, .ref hle_31, .ref hmo_31, .ref hwy_31, .int (nI 0)])), (hfg_31, .inl (cfg_31, 12, .inl (nF zN))), (hle_31, .inl (cle_31, 12, .inr (.inl zL))), (hmo_31, .inl (cmo_31, 12, .inr (.inl zL))), (hwy_31, .inl (cwy_31, 12, .inl (nF zN))), (q_38, .inr (6, [.ref htf_42, .int (nI 0)])), (htf_42, .inl (ctf_42, 450, .inl zI)), (q_50, .inl (cA_50, 5, .inr (.inr (.inr (.inr (va_up (va_up (va_up (fun _ => none) 0 (some q_77)) 1 (some q_90)) 2 (some q_103))))))), (q_60, .inl (cA_60, 150, .inl (nF zN))), (q_67, .inl (cA_67, 5, .inl (nF zN))), (q_77, .inr (7, [])), (q_90, .inr (3, [])), (q_103, .inr (2, [.ref hjs_107, .ref hjj_107])), (hjs_107, .inl (cjs_107, 151, .inl (nF zN))), (hjj_107, .inl (cjj_107, 150, .inl (nF zN))), (q_116, .inr (1, [.ref hcc_120, .ref hcn_120])), (hcc_120, .inl (ccc_120, 501, .inl (nF zN))), (hcn_120, .inl (ccn_120, 501, .inl (nF zN)))] := hD
  refine W.widen (k := 24) (n := 2578) (by decide) (by decide) ?_
  refine z_aast hx hb hK hP hD hS 14 9 22 1 rfl rfl (hXK.2.2.1 ("SortDesk$Counting", "SortDesk$Way") (by decide)) rfl rfl (by decide) (by decide) d_De_init_123 (fun H locs hP hD hS => ?_)
  have hP : va_P DD vwCl [(ad, .inr (8, [.ref q_5, .ref q_16, .ref q_27, .ref q_38, .ref q_50, .ref q_60, .ref q_67, .long 0, .int (zb false), .int (zb false)])), (q_5, .inr (4, [.ref hk_9, .ref ht_9, .int (nI 0)])), (hk_9, .inl (ck_9, 150, .inl zI)), (ht_9, .inl (ct_9, 150, .inl zI)), (q_16, .inr (4, [.ref hk_20, .ref ht_20, .int (nI 0)])), (hk_20, .inl (ck_20, 150, .inl zI)), (ht_20, .inl (ct_20, 150, .inl zI)), (q_27, .inr (5, [.ref hfg_31, .ref hle_31, .ref hmo_31, .ref hwy_31, .int (nI 0)])), (hfg_31, .inl (cfg_31, 12, .inl (nF zN))), (hle_31, .inl (cle_31, 12, .inr (.inl zL))), (hmo_31, .inl (cmo_31, 12, .inr (.inl zL))), (hwy_31, .inl (cwy_31, 12, .inl (nF zN))), (q_38, .inr (6, [.ref htf_42, .int (nI 0)])), (htf_42, .inl (ctf_42, 450, .inl zI)), (q_50, .inl (cA_50, 5, .inr (.inr (.inr (.inr (va_up (va_up (va_up (va_up (fun _ => none) 0 (some q_77)) 1 (some q_90)) 2 (some q_103)) 3 (some q_116))))))), (q_60, .inl (cA_60, 150, .inl (nF zN))), (q_67, .inl (cA_67, 5, .inl (nF zN))), (q_77, .inr (7, [])), (q_90, .inr (3, [])), (q_103, .inr (2, [.ref hjs_107, .ref hjj_107])), (hjs_107, .inl (cjs_107, 151, .inl (nF zN))), (hjj_107, .inl (cjj_107, 150, .inl (nF zN))), (q_116, .inr (1, [.ref hcc_120, .ref hcn_120])), (hcc_120, .inl (ccc_120, 501, .inl (nF zN))), (hcn_120, .inl (ccn_120, 501, .inl (nF zN)))] H := hP
  have hD : va_D A [(ad, .inr (8, [.ref q_5, .ref q_16, .ref q_27, .ref q_38, .ref q_50, .ref q_60, .ref q_67, .long 0, .int (zb false), .int (zb false)])), (q_5, .inr (4, [.ref hk_9, .ref ht_9, .int (nI 0)])), (hk_9, .inl (ck_9, 150, .inl zI)), (ht_9, .inl (ct_9, 150, .inl zI)), (q_16, .inr (4, [.ref hk_20, .ref ht_20, .int (nI 0)])), (hk_20, .inl (ck_20, 150, .inl zI)), (ht_20, .inl (ct_20, 150, .inl zI)), (q_27, .inr (5, [.ref hfg_31, .ref hle_31, .ref hmo_31, .ref hwy_31, .int (nI 0)])), (hfg_31, .inl (cfg_31, 12, .inl (nF zN))), (hle_31, .inl (cle_31, 12, .inr (.inl zL))), (hmo_31, .inl (cmo_31, 12, .inr (.inl zL))), (hwy_31, .inl (cwy_31, 12, .inl (nF zN))), (q_38, .inr (6, [.ref htf_42, .int (nI 0)])), (htf_42, .inl (ctf_42, 450, .inl zI)), (q_50, .inl (cA_50, 5, .inr (.inr (.inr (.inr (va_up (va_up (va_up (va_up (fun _ => none) 0 (some q_77)) 1 (some q_90)) 2 (some q_103)) 3 (some q_116))))))), (q_60, .inl (cA_60, 150, .inl (nF zN))), (q_67, .inl (cA_67, 5, .inl (nF zN))), (q_77, .inr (7, [])), (q_90, .inr (3, [])), (q_103, .inr (2, [.ref hjs_107, .ref hjj_107])), (hjs_107, .inl (cjs_107, 151, .inl (nF zN))), (hjj_107, .inl (cjj_107, 150, .inl (nF zN))), (q_116, .inr (1, [.ref hcc_120, .ref hcn_120])), (hcc_120, .inl (ccc_120, 501, .inl (nF zN))), (hcn_120, .inl (ccn_120, 501, .inl (nF zN)))] := hD
  refine lv_aload_n hx hb d_De_init_124 rfl (lv_at hl 0 rfl) ?_
  refine va_get (D := DD) (ci := 8) (v := .ref q_50) (C := R_De) (T := T_De) (N := 10) hx hb hg in_De hown hK hP 0 rfl rfl 4 (by decide) (hg _ mw_144) (fun _ h9 => h9) rfl d_De_init_125 ?_
  refine lv_iconst (v := nI 4) hx hb d_De_init_128 (by decide) ?_
  refine va_new (D := DD) (ci := 0) (fs := [.null, .null]) (C := R_By) (T := T_By) (N := 2) hx hb hg in_By t_By to_By hown (hg _ mw_127) (hg _ mw_128) (hg _ mw_10) hK hP hD hS hA rfl (fun j hj => by rcases (show j = 0 ∨ j = 1 by omega) with rfl | rfl <;> rfl) (Nat.le_of_ble_eq_true rfl) (Nat.le_of_ble_eq_true rfl) d_De_init_129 (fun q_129 H hP hD hS => ?_)
  have hK : va_K DD vwCl [(ck_9, .int), (ct_9, .int), (ck_20, .int), (ct_20, .int), (cfg_31, .int), (cle_31, .long), (cmo_31, .long), (cwy_31, .int), (ctf_42, .int), (cA_50, .object "SortDesk$Way"), (cA_60, .int), (cA_67, .int), (cjs_107, .int), (cjj_107, .int), (ccc_120, .int), (ccn_120, .int)] s := hK
  have hP : va_P DD vwCl [(ad, .inr (8, [.ref q_5, .ref q_16, .ref q_27, .ref q_38, .ref q_50, .ref q_60, .ref q_67, .long 0, .int (zb false), .int (zb false)])), (q_5, .inr (4, [.ref hk_9, .ref ht_9, .int (nI 0)])), (hk_9, .inl (ck_9, 150, .inl zI)), (ht_9, .inl (ct_9, 150, .inl zI)), (q_16, .inr (4, [.ref hk_20, .ref ht_20, .int (nI 0)])), (hk_20, .inl (ck_20, 150, .inl zI)), (ht_20, .inl (ct_20, 150, .inl zI)), (q_27, .inr (5, [.ref hfg_31, .ref hle_31, .ref hmo_31, .ref hwy_31, .int (nI 0)])), (hfg_31, .inl (cfg_31, 12, .inl (nF zN))), (hle_31, .inl (cle_31, 12, .inr (.inl zL))), (hmo_31, .inl (cmo_31, 12, .inr (.inl zL))), (hwy_31, .inl (cwy_31, 12, .inl (nF zN))), (q_38, .inr (6, [.ref htf_42, .int (nI 0)])), (htf_42, .inl (ctf_42, 450, .inl zI)), (q_50, .inl (cA_50, 5, .inr (.inr (.inr (.inr (va_up (va_up (va_up (va_up (fun _ => none) 0 (some q_77)) 1 (some q_90)) 2 (some q_103)) 3 (some q_116))))))), (q_60, .inl (cA_60, 150, .inl (nF zN))), (q_67, .inl (cA_67, 5, .inl (nF zN))), (q_77, .inr (7, [])), (q_90, .inr (3, [])), (q_103, .inr (2, [.ref hjs_107, .ref hjj_107])), (hjs_107, .inl (cjs_107, 151, .inl (nF zN))), (hjj_107, .inl (cjj_107, 150, .inl (nF zN))), (q_116, .inr (1, [.ref hcc_120, .ref hcn_120])), (hcc_120, .inl (ccc_120, 501, .inl (nF zN))), (hcn_120, .inl (ccn_120, 501, .inl (nF zN))), (q_129, .inr (0, [.null, .null]))] H := hP
  have hD : va_D A [(ad, .inr (8, [.ref q_5, .ref q_16, .ref q_27, .ref q_38, .ref q_50, .ref q_60, .ref q_67, .long 0, .int (zb false), .int (zb false)])), (q_5, .inr (4, [.ref hk_9, .ref ht_9, .int (nI 0)])), (hk_9, .inl (ck_9, 150, .inl zI)), (ht_9, .inl (ct_9, 150, .inl zI)), (q_16, .inr (4, [.ref hk_20, .ref ht_20, .int (nI 0)])), (hk_20, .inl (ck_20, 150, .inl zI)), (ht_20, .inl (ct_20, 150, .inl zI)), (q_27, .inr (5, [.ref hfg_31, .ref hle_31, .ref hmo_31, .ref hwy_31, .int (nI 0)])), (hfg_31, .inl (cfg_31, 12, .inl (nF zN))), (hle_31, .inl (cle_31, 12, .inr (.inl zL))), (hmo_31, .inl (cmo_31, 12, .inr (.inl zL))), (hwy_31, .inl (cwy_31, 12, .inl (nF zN))), (q_38, .inr (6, [.ref htf_42, .int (nI 0)])), (htf_42, .inl (ctf_42, 450, .inl zI)), (q_50, .inl (cA_50, 5, .inr (.inr (.inr (.inr (va_up (va_up (va_up (va_up (fun _ => none) 0 (some q_77)) 1 (some q_90)) 2 (some q_103)) 3 (some q_116))))))), (q_60, .inl (cA_60, 150, .inl (nF zN))), (q_67, .inl (cA_67, 5, .inl (nF zN))), (q_77, .inr (7, [])), (q_90, .inr (3, [])), (q_103, .inr (2, [.ref hjs_107, .ref hjj_107])), (hjs_107, .inl (cjs_107, 151, .inl (nF zN))), (hjj_107, .inl (cjj_107, 150, .inl (nF zN))), (q_116, .inr (1, [.ref hcc_120, .ref hcn_120])), (hcc_120, .inl (ccc_120, 501, .inl (nF zN))), (hcn_120, .inl (ccn_120, 501, .inl (nF zN))), (q_129, .inr (0, [.null, .null]))] := hD
  refine W.widen (k := 25) (n := 2580) (by decide) (by decide) ?_
  refine lv_dup hx hb d_De_init_132 rfl ?_
  have hPc := hP.sub (ws' := [(q_129, .inr (0, [.null, .null]))]) [25] rfl
  have hKc := hK.sub (tys' := []) [] rfl
  have hDc := hD.sub (ws' := [(q_129, .inr (0, [.null, .null]))]) [25] (by decide) rfl
  have hFc := va_free (wc := [(q_129, .inr (0, [.null, .null]))]) hD hS hA [25] rfl
  refine va_callv (va_runIN (As := []) (rest := [.ref q_129, .int (nI 4), .ref q_50]) ⟨hx, hb, hml, hown, hg⟩ (c_By_init l DD H.size q_129) ⟨va_cnB 0 hg (gi_c mw_131) rfl rfl rfl (hXK.2.1 ("SortDesk", 60, ⟨"SortDesk$ByBytes", "<init>", "()V"⟩, "SortDesk") (by decide)) (hg _ mw_10) (by decide +kernel) ⟨Nat.le_of_ble_eq_true rfl, Nat.le_of_ble_eq_true rfl⟩, rfl, hg _ mw_130⟩ ⟨z_blindQE xk_bl, z_preQE hPc hKc hDc (fun U _ hW => hXK.warm hW)⟩ rfl rfl hl.1 rfl (lv_room (Nat.le_of_ble_eq_true rfl)) d_De_init_133 ⟨Nat.le_of_ble_eq_true rfl, Nat.le_of_ble_eq_true rfl⟩) hS (fun q _ h => hFc q h) hFc (fun u9 t9 H9 locs ht9 hvm9 hw9 hB9 hz9 hk9 hS => ?_)
  obtain ⟨hbn_133, cbn_133, hbd_133, cbd_133⟩ := u9
  obtain ⟨hP1, hK1, hD1⟩ := hB9
  rw [ht9] at hP1
  try dsimp only at hw9
  obtain ⟨hP, hD⟩ := va_join (wr := [(ad, .inr (8, [.ref q_5, .ref q_16, .ref q_27, .ref q_38, .ref q_50, .ref q_60, .ref q_67, .long 0, .int (zb false), .int (zb false)])), (q_5, .inr (4, [.ref hk_9, .ref ht_9, .int (nI 0)])), (hk_9, .inl (ck_9, 150, .inl zI)), (ht_9, .inl (ct_9, 150, .inl zI)), (q_16, .inr (4, [.ref hk_20, .ref ht_20, .int (nI 0)])), (hk_20, .inl (ck_20, 150, .inl zI)), (ht_20, .inl (ct_20, 150, .inl zI)), (q_27, .inr (5, [.ref hfg_31, .ref hle_31, .ref hmo_31, .ref hwy_31, .int (nI 0)])), (hfg_31, .inl (cfg_31, 12, .inl (nF zN))), (hle_31, .inl (cle_31, 12, .inr (.inl zL))), (hmo_31, .inl (cmo_31, 12, .inr (.inl zL))), (hwy_31, .inl (cwy_31, 12, .inl (nF zN))), (q_38, .inr (6, [.ref htf_42, .int (nI 0)])), (htf_42, .inl (ctf_42, 450, .inl zI)), (q_50, .inl (cA_50, 5, .inr (.inr (.inr (.inr (va_up (va_up (va_up (va_up (fun _ => none) 0 (some q_77)) 1 (some q_90)) 2 (some q_103)) 3 (some q_116))))))), (q_60, .inl (cA_60, 150, .inl (nF zN))), (q_67, .inl (cA_67, 5, .inl (nF zN))), (q_77, .inr (7, [])), (q_90, .inr (3, [])), (q_103, .inr (2, [.ref hjs_107, .ref hjj_107])), (hjs_107, .inl (cjs_107, 151, .inl (nF zN))), (hjj_107, .inl (cjj_107, 150, .inl (nF zN))), (q_116, .inr (1, [.ref hcc_120, .ref hcn_120])), (hcc_120, .inl (ccc_120, 501, .inl (nF zN))), (hcn_120, .inl (ccn_120, 501, .inl (nF zN)))]) (w1 := [(q_129, .inr (0, [.ref hbn_133, .ref hbd_133])), (hbn_133, .inl (cbn_133, 256, .inl (nF zN))), (hbd_133, .inl (cbd_133, 150, .inl (nF zN)))]) hP hD [25] [0, 1, 2, 3, 4, 5, 6, 7, 8, 9, 10, 11, 12, 13, 14, 15, 16, 17, 18, 19, 20, 21, 22, 23, 24] rfl rfl (by decide) (by decide) hk9 hFc hP1 hD1
  generalize H9 = H at hP hS ⊢
  have hK1 := va_K.moved hvm9.symm hK1
  have hK := hK.app hK1
  have hK : va_K DD vwCl [(ck_9, .int), (ct_9, .int), (ck_20, .int), (ct_20, .int), (cfg_31, .int), (cle_31, .long), (cmo_31, .long), (cwy_31, .int), (ctf_42, .int), (cA_50, .object "SortDesk$Way"), (cA_60, .int), (cA_67, .int), (cjs_107, .int), (cjj_107, .int), (ccc_120, .int), (ccn_120, .int), (cbn_133, .int), (cbd_133, .int)] s := hK
  have hP : va_P DD vwCl [(ad, .inr (8, [.ref q_5, .ref q_16, .ref q_27, .ref q_38, .ref q_50, .ref q_60, .ref q_67, .long 0, .int (zb false), .int (zb false)])), (q_5, .inr (4, [.ref hk_9, .ref ht_9, .int (nI 0)])), (hk_9, .inl (ck_9, 150, .inl zI)), (ht_9, .inl (ct_9, 150, .inl zI)), (q_16, .inr (4, [.ref hk_20, .ref ht_20, .int (nI 0)])), (hk_20, .inl (ck_20, 150, .inl zI)), (ht_20, .inl (ct_20, 150, .inl zI)), (q_27, .inr (5, [.ref hfg_31, .ref hle_31, .ref hmo_31, .ref hwy_31, .int (nI 0)])), (hfg_31, .inl (cfg_31, 12, .inl (nF zN))), (hle_31, .inl (cle_31, 12, .inr (.inl zL))), (hmo_31, .inl (cmo_31, 12, .inr (.inl zL))), (hwy_31, .inl (cwy_31, 12, .inl (nF zN))), (q_38, .inr (6, [.ref htf_42, .int (nI 0)])), (htf_42, .inl (ctf_42, 450, .inl zI)), (q_50, .inl (cA_50, 5, .inr (.inr (.inr (.inr (va_up (va_up (va_up (va_up (fun _ => none) 0 (some q_77)) 1 (some q_90)) 2 (some q_103)) 3 (some q_116))))))), (q_60, .inl (cA_60, 150, .inl (nF zN))), (q_67, .inl (cA_67, 5, .inl (nF zN))), (q_77, .inr (7, [])), (q_90, .inr (3, [])), (q_103, .inr (2, [.ref hjs_107, .ref hjj_107])), (hjs_107, .inl (cjs_107, 151, .inl (nF zN))), (hjj_107, .inl (cjj_107, 150, .inl (nF zN))), (q_116, .inr (1, [.ref hcc_120, .ref hcn_120])), (hcc_120, .inl (ccc_120, 501, .inl (nF zN))), (hcn_120, .inl (ccn_120, 501, .inl (nF zN))), (q_129, .inr (0, [.ref hbn_133, .ref hbd_133])), (hbn_133, .inl (cbn_133, 256, .inl (nF zN))), (hbd_133, .inl (cbd_133, 150, .inl (nF zN)))] H := hP
  have hD : va_D A [(ad, .inr (8, [.ref q_5, .ref q_16, .ref q_27, .ref q_38, .ref q_50, .ref q_60, .ref q_67, .long 0, .int (zb false), .int (zb false)])), (q_5, .inr (4, [.ref hk_9, .ref ht_9, .int (nI 0)])), (hk_9, .inl (ck_9, 150, .inl zI)), (ht_9, .inl (ct_9, 150, .inl zI)), (q_16, .inr (4, [.ref hk_20, .ref ht_20, .int (nI 0)])), (hk_20, .inl (ck_20, 150, .inl zI)), (ht_20, .inl (ct_20, 150, .inl zI)), (q_27, .inr (5, [.ref hfg_31, .ref hle_31, .ref hmo_31, .ref hwy_31, .int (nI 0)])), (hfg_31, .inl (cfg_31, 12, .inl (nF zN))), (hle_31, .inl (cle_31, 12, .inr (.inl zL))), (hmo_31, .inl (cmo_31, 12, .inr (.inl zL))), (hwy_31, .inl (cwy_31, 12, .inl (nF zN))), (q_38, .inr (6, [.ref htf_42, .int (nI 0)])), (htf_42, .inl (ctf_42, 450, .inl zI)), (q_50, .inl (cA_50, 5, .inr (.inr (.inr (.inr (va_up (va_up (va_up (va_up (fun _ => none) 0 (some q_77)) 1 (some q_90)) 2 (some q_103)) 3 (some q_116))))))), (q_60, .inl (cA_60, 150, .inl (nF zN))), (q_67, .inl (cA_67, 5, .inl (nF zN))), (q_77, .inr (7, [])), (q_90, .inr (3, [])), (q_103, .inr (2, [.ref hjs_107, .ref hjj_107])), (hjs_107, .inl (cjs_107, 151, .inl (nF zN))), (hjj_107, .inl (cjj_107, 150, .inl (nF zN))), (q_116, .inr (1, [.ref hcc_120, .ref hcn_120])), (hcc_120, .inl (ccc_120, 501, .inl (nF zN))), (hcn_120, .inl (ccn_120, 501, .inl (nF zN))), (q_129, .inr (0, [.ref hbn_133, .ref hbd_133])), (hbn_133, .inl (cbn_133, 256, .inl (nF zN))), (hbd_133, .inl (cbd_133, 150, .inl (nF zN)))] := hD
  refine W.widen (k := 27) (n := 2986) (by decide) (by decide) ?_
  refine z_aast hx hb hK hP hD hS 14 9 25 0 rfl rfl (hXK.2.2.1 ("SortDesk$ByBytes", "SortDesk$Way") (by decide)) rfl rfl (by decide) (by decide) d_De_init_136 (fun H locs hP hD hS => ?_)
  have hP : va_P DD vwCl [(ad, .inr (8, [.ref q_5, .ref q_16, .ref q_27, .ref q_38, .ref q_50, .ref q_60, .ref q_67, .long 0, .int (zb false), .int (zb false)])), (q_5, .inr (4, [.ref hk_9, .ref ht_9, .int (nI 0)])), (hk_9, .inl (ck_9, 150, .inl zI)), (ht_9, .inl (ct_9, 150, .inl zI)), (q_16, .inr (4, [.ref hk_20, .ref ht_20, .int (nI 0)])), (hk_20, .inl (ck_20, 150, .inl zI)), (ht_20, .inl (ct_20, 150, .inl zI)), (q_27, .inr (5, [.ref hfg_31, .ref hle_31, .ref hmo_31, .ref hwy_31, .int (nI 0)])), (hfg_31, .inl (cfg_31, 12, .inl (nF zN))), (hle_31, .inl (cle_31, 12, .inr (.inl zL))), (hmo_31, .inl (cmo_31, 12, .inr (.inl zL))), (hwy_31, .inl (cwy_31, 12, .inl (nF zN))), (q_38, .inr (6, [.ref htf_42, .int (nI 0)])), (htf_42, .inl (ctf_42, 450, .inl zI)), (q_50, .inl (cA_50, 5, .inr (.inr (.inr (.inr (va_up (va_up (va_up (va_up (va_up (fun _ => none) 0 (some q_77)) 1 (some q_90)) 2 (some q_103)) 3 (some q_116)) 4 (some q_129))))))), (q_60, .inl (cA_60, 150, .inl (nF zN))), (q_67, .inl (cA_67, 5, .inl (nF zN))), (q_77, .inr (7, [])), (q_90, .inr (3, [])), (q_103, .inr (2, [.ref hjs_107, .ref hjj_107])), (hjs_107, .inl (cjs_107, 151, .inl (nF zN))), (hjj_107, .inl (cjj_107, 150, .inl (nF zN))), (q_116, .inr (1, [.ref hcc_120, .ref hcn_120])), (hcc_120, .inl (ccc_120, 501, .inl (nF zN))), (hcn_120, .inl (ccn_120, 501, .inl (nF zN))), (q_129, .inr (0, [.ref hbn_133, .ref hbd_133])), (hbn_133, .inl (cbn_133, 256, .inl (nF zN))), (hbd_133, .inl (cbd_133, 150, .inl (nF zN)))] H := hP
  have hD : va_D A [(ad, .inr (8, [.ref q_5, .ref q_16, .ref q_27, .ref q_38, .ref q_50, .ref q_60, .ref q_67, .long 0, .int (zb false), .int (zb false)])), (q_5, .inr (4, [.ref hk_9, .ref ht_9, .int (nI 0)])), (hk_9, .inl (ck_9, 150, .inl zI)), (ht_9, .inl (ct_9, 150, .inl zI)), (q_16, .inr (4, [.ref hk_20, .ref ht_20, .int (nI 0)])), (hk_20, .inl (ck_20, 150, .inl zI)), (ht_20, .inl (ct_20, 150, .inl zI)), (q_27, .inr (5, [.ref hfg_31, .ref hle_31, .ref hmo_31, .ref hwy_31, .int (nI 0)])), (hfg_31, .inl (cfg_31, 12, .inl (nF zN))), (hle_31, .inl (cle_31, 12, .inr (.inl zL))), (hmo_31, .inl (cmo_31, 12, .inr (.inl zL))), (hwy_31, .inl (cwy_31, 12, .inl (nF zN))), (q_38, .inr (6, [.ref htf_42, .int (nI 0)])), (htf_42, .inl (ctf_42, 450, .inl zI)), (q_50, .inl (cA_50, 5, .inr (.inr (.inr (.inr (va_up (va_up (va_up (va_up (va_up (fun _ => none) 0 (some q_77)) 1 (some q_90)) 2 (some q_103)) 3 (some q_116)) 4 (some q_129))))))), (q_60, .inl (cA_60, 150, .inl (nF zN))), (q_67, .inl (cA_67, 5, .inl (nF zN))), (q_77, .inr (7, [])), (q_90, .inr (3, [])), (q_103, .inr (2, [.ref hjs_107, .ref hjj_107])), (hjs_107, .inl (cjs_107, 151, .inl (nF zN))), (hjj_107, .inl (cjj_107, 150, .inl (nF zN))), (q_116, .inr (1, [.ref hcc_120, .ref hcn_120])), (hcc_120, .inl (ccc_120, 501, .inl (nF zN))), (hcn_120, .inl (ccn_120, 501, .inl (nF zN))), (q_129, .inr (0, [.ref hbn_133, .ref hbd_133])), (hbn_133, .inl (cbn_133, 256, .inl (nF zN))), (hbd_133, .inl (cbd_133, 150, .inl (nF zN)))] := hD
  rw [show va_up (va_up (va_up (va_up (va_up (fun _ => none) 0 (some q_77)) 1 (some q_90)) 2 (some q_103)) 3 (some q_116)) 4 (some q_129) = wayF q_77 q_90 q_103 q_116 q_129 from way_mk _ _ _ _ _] at hP hD
  refine W.widen (k := 27) (n := 2986) (by decide) (by decide) ?_
  have hK9 := hK.sub (tys' := [(ck_9, .int), (ct_9, .int), (ck_20, .int), (ct_20, .int), (cfg_31, .int), (cle_31, .long), (cmo_31, .long), (cwy_31, .int), (ctf_42, .int), (cA_50, .object "SortDesk$Way"), (cjs_107, .int), (cjj_107, .int), (ccc_120, .int), (ccn_120, .int), (cbn_133, .int), (cbd_133, .int), (cA_60, .int), (cA_67, .int)]) [0, 1, 2, 3, 4, 5, 6, 7, 8, 9, 12, 13, 14, 15, 16, 17, 10, 11] rfl
  have hP9 := hP.sub (ws' := [(ad, .inr (8, [.ref q_5, .ref q_16, .ref q_27, .ref q_38, .ref q_50, .ref q_60, .ref q_67, .long 0, .int (zb false), .int (zb false)])), (q_5, .inr (4, [.ref hk_9, .ref ht_9, .int (nI 0)])), (hk_9, .inl (ck_9, 150, .inl zI)), (ht_9, .inl (ct_9, 150, .inl zI)), (q_16, .inr (4, [.ref hk_20, .ref ht_20, .int (nI 0)])), (hk_20, .inl (ck_20, 150, .inl zI)), (ht_20, .inl (ct_20, 150, .inl zI)), (q_27, .inr (5, [.ref hfg_31, .ref hle_31, .ref hmo_31, .ref hwy_31, .int (nI 0)])), (hfg_31, .inl (cfg_31, 12, .inl (nF zN))), (hle_31, .inl (cle_31, 12, .inr (.inl zL))), (hmo_31, .inl (cmo_31, 12, .inr (.inl zL))), (hwy_31, .inl (cwy_31, 12, .inl (nF zN))), (q_38, .inr (6, [.ref htf_42, .int (nI 0)])), (htf_42, .inl (ctf_42, 450, .inl zI)), (q_50, .inl (cA_50, 5, .inr (.inr (.inr (.inr (wayF q_77 q_90 q_103 q_116 q_129)))))), (q_77, .inr (7, [])), (q_90, .inr (3, [])), (q_103, .inr (2, [.ref hjs_107, .ref hjj_107])), (hjs_107, .inl (cjs_107, 151, .inl (nF zN))), (hjj_107, .inl (cjj_107, 150, .inl (nF zN))), (q_116, .inr (1, [.ref hcc_120, .ref hcn_120])), (hcc_120, .inl (ccc_120, 501, .inl (nF zN))), (hcn_120, .inl (ccn_120, 501, .inl (nF zN))), (q_129, .inr (0, [.ref hbn_133, .ref hbd_133])), (hbn_133, .inl (cbn_133, 256, .inl (nF zN))), (hbd_133, .inl (cbd_133, 150, .inl (nF zN))), (q_60, .inl (cA_60, 150, .inl (nF zN))), (q_67, .inl (cA_67, 5, .inl (nF zN)))]) [0, 1, 2, 3, 4, 5, 6, 7, 8, 9, 10, 11, 12, 13, 14, 17, 18, 19, 20, 21, 22, 23, 24, 25, 26, 27, 15, 16] rfl
  have hD9 := hD.sub (ws' := [(ad, .inr (8, [.ref q_5, .ref q_16, .ref q_27, .ref q_38, .ref q_50, .ref q_60, .ref q_67, .long 0, .int (zb false), .int (zb false)])), (q_5, .inr (4, [.ref hk_9, .ref ht_9, .int (nI 0)])), (hk_9, .inl (ck_9, 150, .inl zI)), (ht_9, .inl (ct_9, 150, .inl zI)), (q_16, .inr (4, [.ref hk_20, .ref ht_20, .int (nI 0)])), (hk_20, .inl (ck_20, 150, .inl zI)), (ht_20, .inl (ct_20, 150, .inl zI)), (q_27, .inr (5, [.ref hfg_31, .ref hle_31, .ref hmo_31, .ref hwy_31, .int (nI 0)])), (hfg_31, .inl (cfg_31, 12, .inl (nF zN))), (hle_31, .inl (cle_31, 12, .inr (.inl zL))), (hmo_31, .inl (cmo_31, 12, .inr (.inl zL))), (hwy_31, .inl (cwy_31, 12, .inl (nF zN))), (q_38, .inr (6, [.ref htf_42, .int (nI 0)])), (htf_42, .inl (ctf_42, 450, .inl zI)), (q_50, .inl (cA_50, 5, .inr (.inr (.inr (.inr (wayF q_77 q_90 q_103 q_116 q_129)))))), (q_77, .inr (7, [])), (q_90, .inr (3, [])), (q_103, .inr (2, [.ref hjs_107, .ref hjj_107])), (hjs_107, .inl (cjs_107, 151, .inl (nF zN))), (hjj_107, .inl (cjj_107, 150, .inl (nF zN))), (q_116, .inr (1, [.ref hcc_120, .ref hcn_120])), (hcc_120, .inl (ccc_120, 501, .inl (nF zN))), (hcn_120, .inl (ccn_120, 501, .inl (nF zN))), (q_129, .inr (0, [.ref hbn_133, .ref hbd_133])), (hbn_133, .inl (cbn_133, 256, .inl (nF zN))), (hbd_133, .inl (cbd_133, 150, .inl (nF zN))), (q_60, .inl (cA_60, 150, .inl (nF zN))), (q_67, .inl (cA_67, 5, .inl (nF zN)))]) [0, 1, 2, 3, 4, 5, 6, 7, 8, 9, 10, 11, 12, 13, 14, 17, 18, 19, 20, 21, 22, 23, 24, 25, 26, 27, 15, 16] (by decide) rfl
  exact W.vret hx hb hr (fun t9 ht9 hW9 => ⟨⟨(q_5, hk_9, ck_9, ht_9, ct_9, q_16, hk_20, ck_20, ht_20, ct_20, q_27, hfg_31, cfg_31, hle_31, cle_31, hmo_31, cmo_31, hwy_31, cwy_31, q_38, htf_42, ctf_42, q_50, cA_50, q_77, q_90, q_103, hjs_107, cjs_107, hjj_107, cjj_107, q_116, hcc_120, ccc_120, hcn_120, ccn_120, q_129, hbn_133, cbn_133, hbd_133, cbd_133, q_60, cA_60, q_67, cA_67), rfl, trivial, by rw [ht9]; exact hP9, va_K.moved hW9.alike hK9, hD9⟩, hS.F ht9⟩) hS.2.2 d_De_init_137
theorem d_Mo_init_0 : decode b_Mo_init 0 = .ok (.aload_n 0, 1) := by decide +kernel
theorem d_Mo_init_1 : decode b_Mo_init 1 = .ok (.invokespecial 1, 3) := by decide +kernel
theorem d_Mo_init_4 : decode b_Mo_init 4 = .ok (.aload_n 0, 1) := by decide +kernel
theorem d_Mo_init_5 : decode b_Mo_init 5 = .ok (.sipush 150, 3) := by decide +kernel
theorem d_Mo_init_8 : decode b_Mo_init 8 = .ok (.newarray .int, 2) := by decide +kernel
theorem d_Mo_init_10 : decode b_Mo_init 10 = .ok (.putfield 7, 3) := by decide +kernel
theorem d_Mo_init_13 : decode b_Mo_init 13 = .ok (.aload_n 0, 1) := by decide +kernel
theorem d_Mo_init_14 : decode b_Mo_init 14 = .ok (.sipush 150, 3) := by decide +kernel
theorem d_Mo_init_17 : decode b_Mo_init 17 = .ok (.newarray .int, 2) := by decide +kernel
theorem d_Mo_init_19 : decode b_Mo_init 19 = .ok (.putfield 13, 3) := by decide +kernel
theorem d_Mo_init_22 : decode b_Mo_init 22 = .ok (.aload_n 0, 1) := by decide +kernel
theorem d_Mo_init_23 : decode b_Mo_init 23 = .ok (.sipush 150, 3) := by decide +kernel
theorem d_Mo_init_26 : decode b_Mo_init 26 = .ok (.newarray .int, 2) := by decide +kernel
theorem d_Mo_init_28 : decode b_Mo_init 28 = .ok (.putfield 16, 3) := by decide +kernel
theorem d_Mo_init_31 : decode b_Mo_init 31 = .ok (.aload_n 0, 1) := by decide +kernel
theorem d_Mo_init_32 : decode b_Mo_init 32 = .ok (.sipush 150, 3) := by decide +kernel
theorem d_Mo_init_35 : decode b_Mo_init 35 = .ok (.newarray .int, 2) := by decide +kernel
theorem d_Mo_init_37 : decode b_Mo_init 37 = .ok (.putfield 19, 3) := by decide +kernel
theorem d_Mo_init_40 : decode b_Mo_init 40 = .ok (.aload_n 0, 1) := by decide +kernel
theorem d_Mo_init_41 : decode b_Mo_init 41 = .ok (.bipush 12, 2) := by decide +kernel
theorem d_Mo_init_43 : decode b_Mo_init 43 = .ok (.newarray .int, 2) := by decide +kernel
theorem d_Mo_init_45 : decode b_Mo_init 45 = .ok (.putfield 22, 3) := by decide +kernel
theorem d_Mo_init_48 : decode b_Mo_init 48 = .ok (.aload_n 0, 1) := by decide +kernel
theorem d_Mo_init_49 : decode b_Mo_init 49 = .ok (.bipush 12, 2) := by decide +kernel
theorem d_Mo_init_51 : decode b_Mo_init 51 = .ok (.newarray .long, 2) := by decide +kernel
theorem d_Mo_init_53 : decode b_Mo_init 53 = .ok (.putfield 25, 3) := by decide +kernel
theorem d_Mo_init_56 : decode b_Mo_init 56 = .ok (.aload_n 0, 1) := by decide +kernel
theorem d_Mo_init_57 : decode b_Mo_init 57 = .ok (.bipush 12, 2) := by decide +kernel
theorem d_Mo_init_59 : decode b_Mo_init 59 = .ok (.newarray .long, 2) := by decide +kernel
theorem d_Mo_init_61 : decode b_Mo_init 61 = .ok (.putfield 29, 3) := by decide +kernel
theorem d_Mo_init_64 : decode b_Mo_init 64 = .ok (.aload_n 0, 1) := by decide +kernel
theorem d_Mo_init_65 : decode b_Mo_init 65 = .ok (.bipush 12, 2) := by decide +kernel
theorem d_Mo_init_67 : decode b_Mo_init 67 = .ok (.newarray .int, 2) := by decide +kernel
theorem d_Mo_init_69 : decode b_Mo_init 69 = .ok (.putfield 32, 3) := by decide +kernel
theorem d_Mo_init_72 : decode b_Mo_init 72 = .ok (.aload_n 0, 1) := by decide +kernel
theorem d_Mo_init_73 : decode b_Mo_init 73 = .ok (.sipush 900, 3) := by decide +kernel
theorem d_Mo_init_76 : decode b_Mo_init 76 = .ok (.newarray .int, 2) := by decide +kernel
theorem d_Mo_init_78 : decode b_Mo_init 78 = .ok (.putfield 35, 3) := by decide +kernel
theorem d_Mo_init_81 : decode b_Mo_init 81 = .ok (.aload_n 0, 1) := by decide +kernel
theorem d_Mo_init_82 : decode b_Mo_init 82 = .ok (.iconst 5, 1) := by decide +kernel
theorem d_Mo_init_83 : decode b_Mo_init 83 = .ok (.newarray .int, 2) := by decide +kernel
theorem d_Mo_init_85 : decode b_Mo_init 85 = .ok (.putfield 38, 3) := by decide +kernel
theorem d_Mo_init_88 : decode b_Mo_init 88 = .ok (.aload_n 0, 1) := by decide +kernel
theorem d_Mo_init_89 : decode b_Mo_init 89 = .ok (.sipush 150, 3) := by decide +kernel
theorem d_Mo_init_92 : decode b_Mo_init 92 = .ok (.newarray .int, 2) := by decide +kernel
theorem d_Mo_init_94 : decode b_Mo_init 94 = .ok (.putfield 41, 3) := by decide +kernel
theorem d_Mo_init_97 : decode b_Mo_init 97 = .ok (.aload_n 0, 1) := by decide +kernel
theorem d_Mo_init_98 : decode b_Mo_init 98 = .ok (.sipush 150, 3) := by decide +kernel
theorem d_Mo_init_101 : decode b_Mo_init 101 = .ok (.newarray .int, 2) := by decide +kernel
theorem d_Mo_init_103 : decode b_Mo_init 103 = .ok (.putfield 44, 3) := by decide +kernel
theorem d_Mo_init_106 : decode b_Mo_init 106 = .ok (.aload_n 0, 1) := by decide +kernel
theorem d_Mo_init_107 : decode b_Mo_init 107 = .ok (.sipush 150, 3) := by decide +kernel
theorem d_Mo_init_110 : decode b_Mo_init 110 = .ok (.newarray .int, 2) := by decide +kernel
theorem d_Mo_init_112 : decode b_Mo_init 112 = .ok (.putfield 47, 3) := by decide +kernel
theorem d_Mo_init_115 : decode b_Mo_init 115 = .ok (.return_, 1) := by decide +kernel
abbrev ws_Mo_init : List Cond := .code y_Mo_init b_Mo_init 1 none :: ALLG
abbrev rm_Mo_init : Room := { frames := 1, cells := 13, slots := 2003, locals := 12 }
set_option maxHeartbeats 4000000 in
set_option maxRecDepth 100000 in
theorem c_Mo_init (l : Launch) (DD : va_G) (sz : Nat) (am : Nat) : Met l y_Mo_init ws_Mo_init rm_Mo_init (va_Pc [.ref am] (fun U => U.heap.size = sz ∧ va_P DD vwCl [(am, .inr (9, [.int (nI 0), .int (nI 0), .null, .null, .int (nI 0), .null, .null, .int (zb false), .int (nI 0), .null, .null, .null, .null, .int (nI 0), .null, .long 0, .null, .null, .null, .int (nI 0), .null]))] U.heap ∧ va_K DD vwCl [] U ∧ va_D (fun _ => True) [(am, .inr (9, [.int (nI 0), .int (nI 0), .null, .null, .int (nI 0), .null, .null, .int (zb false), .int (nI 0), .null, .null, .null, .null, .int (nI 0), .null, .long 0, .null, .null, .null, .int (nI 0), .null]))])) (va_Qv (fun (u9 : Nat × ClassId × Nat × ClassId × Nat × ClassId × Nat × ClassId × Nat × ClassId × Nat × ClassId × Nat × ClassId × Nat × ClassId × Nat × ClassId × Nat × ClassId × Nat × ClassId × Nat × ClassId × Nat × ClassId) => match u9 with | (hk, ck, ht, ct, hk1, ck1, ht1, ct1, hfg, cfg, hle, cle, hmo, cmo, hwy, cwy, htf, ctf, hod, cod, hwk, cwk, hot, cot, hen, cen) => True) (fun (u9 : Nat × ClassId × Nat × ClassId × Nat × ClassId × Nat × ClassId × Nat × ClassId × Nat × ClassId × Nat × ClassId × Nat × ClassId × Nat × ClassId × Nat × ClassId × Nat × ClassId × Nat × ClassId × Nat × ClassId) (t9 : State) => match u9 with | (hk, ck, ht, ct, hk1, ck1, ht1, ct1, hfg, cfg, hle, cle, hmo, cmo, hwy, cwy, htf, ctf, hod, cod, hwk, cwk, hot, cot, hen, cen) => va_P DD vwCl [(am, .inr (9, [.int (nI 0), .int (nI 0), .ref hk, .ref ht, .int (nI 0), .ref hk1, .ref ht1, .int (zb false), .int (nI 0), .ref hfg, .ref hle, .ref hmo, .ref hwy, .int (nI 0), .ref htf, .long 0, .ref hod, .ref hwk, .ref hot, .int (nI 0), .ref hen])), (hk, .inl (ck, 150, .inl zI)), (ht, .inl (ct, 150, .inl zI)), (hk1, .inl (ck1, 150, .inl zI)), (ht1, .inl (ct1, 150, .inl zI)), (hfg, .inl (cfg, 12, .inl (nF zN))), (hle, .inl (cle, 12, .inr (.inl zL))), (hmo, .inl (cmo, 12, .inr (.inl zL))), (hwy, .inl (cwy, 12, .inl (nF zN))), (htf, .inl (ctf, 900, .inl zI)), (hod, .inl (cod, 5, .inl (nF zN))), (hwk, .inl (cwk, 150, .inl zI)), (hot, .inl (cot, 150, .inl zI)), (hen, .inl (cen, 150, .inl (nF zN)))] t9.heap ∧ va_K DD vwCl [(ck, .int), (ct, .int), (ck1, .int), (ct1, .int), (cfg, .int), (cle, .long), (cmo, .long), (cwy, .int), (ctf, .int), (cod, .int), (cwk, .int), (cot, .int), (cen, .int)] t9 ∧ va_D (va_A [(am, .inr (9, [.int (nI 0), .int (nI 0), .null, .null, .int (nI 0), .null, .null, .int (zb false), .int (nI 0), .null, .null, .null, .null, .int (nI 0), .null, .long 0, .null, .null, .null, .int (nI 0), .null]))] sz) [(am, .inr (9, [.int (nI 0), .int (nI 0), .ref hk, .ref ht, .int (nI 0), .ref hk1, .ref ht1, .int (zb false), .int (nI 0), .ref hfg, .ref hle, .ref hmo, .ref hwy, .int (nI 0), .ref htf, .long 0, .ref hod, .ref hwk, .ref hot, .int (nI 0), .ref hen])), (hk, .inl (ck, 150, .inl zI)), (ht, .inl (ct, 150, .inl zI)), (hk1, .inl (ck1, 150, .inl zI)), (ht1, .inl (ct1, 150, .inl zI)), (hfg, .inl (cfg, 12, .inl (nF zN))), (hle, .inl (cle, 12, .inr (.inl zL))), (hmo, .inl (cmo, 12, .inr (.inl zL))), (hwy, .inl (cwy, 12, .inl (nF zN))), (htf, .inl (ctf, 900, .inl zI)), (hod, .inl (cod, 5, .inl (nF zN))), (hwk, .inl (cwk, 150, .inl zI)), (hot, .inl (cot, 150, .inl zI)), (hen, .inl (cen, 150, .inl (nF zN)))]) (va_A [(am, .inr (9, [.int (nI 0), .int (nI 0), .null, .null, .int (nI 0), .null, .null, .int (zb false), .int (nI 0), .null, .null, .null, .null, .int (nI 0), .null, .long 0, .null, .null, .null, .int (nI 0), .null]))] sz)) 13 2003 (va_A [(am, .inr (9, [.int (nI 0), .int (nI 0), .null, .null, .int (nI 0), .null, .null, .int (zb false), .int (nI 0), .null, .null, .null, .null, .int (nI 0), .null, .long 0, .null, .null, .null, .int (nI 0), .null]))] sz) := by
  refine Met.ofW (cc := b_Mo_init) (maxL := 1) (ret := none) (by decide) rfl ?_
  intro p e s m args below meth c s₁ B hml hv
  obtain ⟨ha, hsz, hP, hK, hD0⟩ := hv
  have hx := B.exec
  have hb := B.bytes
  have hr := B.returns
  have hts := atoms_spec (ws := ws_Mo_init) B.pre
  have hg : ∀ w ∈ ALLG, w.before args s = true := fun w h => hts w (List.mem_cons_of_mem _ h)
  have hown : s.vm.findClass R_Mo = some m.cls := findClass_of_methodNamed B.named
  have hlocks := B.notSynchronized
  have hin : meth.name = "<init>" := (name_of_methodNamed B.named B.method).1
  subst hsz
  have hD := hD0.self (sz := s.heap.size)
  generalize hAe : va_A [(am, .inr (9, [.int (nI 0), .int (nI 0), .null, .null, .int (nI 0), .null, .null, .int (zb false), .int (nI 0), .null, .null, .null, .null, .int (nI 0), .null, .long 0, .null, .null, .null, .int (nI 0), .null]))] s.heap.size = A at hD ⊢
  have hA : ∀ q : Nat, s.heap.size ≤ q → A q := fun q h => by rw [← hAe]; exact Or.inr h
  have hS : va_S A s.heap s.heap [] := va_S.rf
  have hP : va_P DD vwCl [(am, .inr (9, [.int (nI 0), .int (nI 0), .null, .null, .int (nI 0), .null, .null, .int (zb false), .int (nI 0), .null, .null, .null, .null, .int (nI 0), .null, .long 0, .null, .null, .null, .int (nI 0), .null]))] s.heap := hP
  have hl := lv_entry ([.ref am]) (n := 1) (Nat.le_of_ble_eq_true rfl)
  rw [ha, lg_entry_eq, ← ha]
  generalize (lg_sl ([.ref am]) ++ List.replicate (1 - (lg_sl ([.ref am])).length) Slot.unset).toArray = ls at hl ⊢
  have hl : lv_has ls 1 [(0, .ref am)] := hl
  refine lv_aload_n hx hb d_Mo_init_0 rfl (lv_at hl 0 rfl) ?_
  refine W.objInit hx hb hown (hg _ mw_678) (hg _ mw_27) (hg _ mw_28) rfl (by rw [hml]; exact hl.1) rfl d_Mo_init_1 (Nat.le_of_ble_eq_true rfl) (Nat.le_of_ble_eq_true rfl) ?_
  refine W.eq (g2 := F0 m 4 ls []) rfl ?_
  refine lv_aload_n hx hb d_Mo_init_4 rfl (lv_at hl 0 rfl) ?_
  refine lv_sipush (v := nI 150) hx hb d_Mo_init_5 (by decide) ?_
  refine va_newa (atype := .int) (ty := .int) (a0 := (150, .inl zI)) hx hb (hg _ mw_45) rfl hK hP hD hS hA (fun _ => rfl) (by decide) (by decide) (by decide) (Nat.le_of_ble_eq_true rfl) (Nat.le_of_ble_eq_true rfl) d_Mo_init_8 (fun q_8 cA_8 H hK hP hD hS => ?_)
  have hK : va_K DD vwCl [(cA_8, .int)] s := hK
  have hP : va_P DD vwCl [(am, .inr (9, [.int (nI 0), .int (nI 0), .null, .null, .int (nI 0), .null, .null, .int (zb false), .int (nI 0), .null, .null, .null, .null, .int (nI 0), .null, .long 0, .null, .null, .null, .int (nI 0), .null])), (q_8, .inl (cA_8, 150, .inl zI))] H := hP
  have hD : va_D A [(am, .inr (9, [.int (nI 0), .int (nI 0), .null, .null, .int (nI 0), .null, .null, .int (zb false), .int (nI 0), .null, .null, .null, .null, .int (nI 0), .null, .long 0, .null, .null, .null, .int (nI 0), .null])), (q_8, .inl (cA_8, 150, .inl zI))] := hD
  refine W.widen (k := 1) (n := 150) (by decide) (by decide) ?_
  refine va_putF (D := DD) (ci := 9) (v := .ref q_8) (ty := .array .int) (C := R_Mo) (T := T_Mo) (N := 21) hx hb hg in_Mo t_Mo to_Mo n_Mo hown hK hP hD hS 0 rfl rfl 2 (by decide) (hg _ mw_681) (fun _ h9 => h9) rfl hin rfl (by decide +kernel) rfl rfl (Nat.le_of_ble_eq_true rfl) d_Mo_init_10 (fun H locs hP hD hS => ?_)
  have hP : va_P DD vwCl [(am, .inr (9, [.int (nI 0), .int (nI 0), .ref q_8, .null, .int (nI 0), .null, .null, .int (zb false), .int (nI 0), .null, .null, .null, .null, .int (nI 0), .null, .long 0, .null, .null, .null, .int (nI 0), .null])), (q_8, .inl (cA_8, 150, .inl zI))] H := hP
  have hD : va_D A [(am, .inr (9, [.int (nI 0), .int (nI 0), .ref q_8, .null, .int (nI 0), .null, .null, .int (zb false), .int (nI 0), .null, .null, .null, .null, .int (nI 0), .null, .long 0, .null, .null, .null, .int (nI 0), .null])), (q_8, .inl (cA_8, 150, .inl zI))] := hD
  refine lv_aload_n hx hb d_Mo_init_13 rfl (lv_at hl 0 rfl) ?_
  refine lv_sipush (v := nI 150) hx hb d_Mo_init_14 (by decide) ?_
  refine va_newa (atype := .int) (ty := .int) (a0 := (150, .inl zI)) hx hb (hg _ mw_45) rfl hK hP hD hS hA (fun _ => rfl) (by decide) (by decide) (by decide) (Nat.le_of_ble_eq_true rfl) (Nat.le_of_ble_eq_true rfl) d_Mo_init_17 (fun q_17 cA_17 H hK hP hD hS => ?_)
  have hK : va_K DD vwCl [(cA_8, .int), (cA_17, .int)] s := hK
  have hP : va_P DD vwCl [(am, .inr (9, [.int (nI 0), .int (nI 0), .ref q_8, .null, .int (nI 0), .null, .null, .int (zb false), .int (nI 0), .null, .null, .null, .null, .int (nI 0), .null, .long 0, .null, .null, .null, .int (nI 0), .null])), (q_8, .inl (cA_8, 150, .inl zI)), (q_17, .inl (cA_17, 150, .inl zI))] H := hP
  have hD : va_D A [(am, .inr (9, [.int (nI 0), .int (nI 0), .ref q_8, .null, .int (nI 0), .null, .null, .int (zb false), .int (nI 0), .null, .null, .null, .null, .int (nI 0), .null, .long 0, .null, .null, .null, .int (nI 0), .null])), (q_8, .inl (cA_8, 150, .inl zI)), (q_17, .inl (cA_17, 150, .inl zI))] := hD
  refine W.widen (k := 2) (n := 300) (by decide) (by decide) ?_
  refine va_putF (D := DD) (ci := 9) (v := .ref q_17) (ty := .array .int) (C := R_Mo) (T := T_Mo) (N := 21) hx hb hg in_Mo t_Mo to_Mo n_Mo hown hK hP hD hS 0 rfl rfl 3 (by decide) (hg _ mw_682) (fun _ h9 => h9) rfl hin rfl (by decide +kernel) rfl rfl (Nat.le_of_ble_eq_true rfl) d_Mo_init_19 (fun H locs hP hD hS => ?_)
  have hP : va_P DD vwCl [(am, .inr (9, [.int (nI 0), .int (nI 0), .ref q_8, .ref q_17, .int (nI 0), .null, .null, .int (zb false), .int (nI 0), .null, .null, .null, .null, .int (nI 0), .null, .long 0, .null, .null, .null, .int (nI 0), .null])), (q_8, .inl (cA_8, 150, .inl zI)), (q_17, .inl (cA_17, 150, .inl zI))] H := hP
  have hD : va_D A [(am, .inr (9, [.int (nI 0), .int (nI 0), .ref q_8, .ref q_17, .int (nI 0), .null, .null, .int (zb false), .int (nI 0), .null, .null, .null, .null, .int (nI 0), .null, .long 0, .null, .null, .null, .int (nI 0), .null])), (q_8, .inl (cA_8, 150, .inl zI)), (q_17, .inl (cA_17, 150, .inl zI))] := hD
  refine lv_aload_n hx hb d_Mo_init_22 rfl (lv_at hl 0 rfl) ?_
  refine lv_sipush (v := nI 150) hx hb d_Mo_init_23 (by decide) ?_
  refine va_newa (atype := .int) (ty := .int) (a0 := (150, .inl zI)) hx hb (hg _ mw_45) rfl hK hP hD hS hA (fun _ => rfl) (by decide) (by decide) (by decide) (Nat.le_of_ble_eq_true rfl) (Nat.le_of_ble_eq_true rfl) d_Mo_init_26 (fun q_26 cA_26 H hK hP hD hS => ?_)
  have hK : va_K DD vwCl [(cA_8, .int), (cA_17, .int), (cA_26, .int)] s := hK
  have hP : va_P DD vwCl [(am, .inr (9, [.int (nI 0), .int (nI 0), .ref q_8, .ref q_17, .int (nI 0), .null, .null, .int (zb false), .int (nI 0), .null, .null, .null, .null, .int (nI 0), .null, .long 0, .null, .null, .null, .int (nI 0), .null])), (q_8, .inl (cA_8, 150, .inl zI)), (q_17, .inl (cA_17, 150, .inl zI)), (q_26, .inl (cA_26, 150, .inl zI))] H := hP
  have hD : va_D A [(am, .inr (9, [.int (nI 0), .int (nI 0), .ref q_8, .ref q_17, .int (nI 0), .null, .null, .int (zb false), .int (nI 0), .null, .null, .null, .null, .int (nI 0), .null, .long 0, .null, .null, .null, .int (nI 0), .null])), (q_8, .inl (cA_8, 150, .inl zI)), (q_17, .inl (cA_17, 150, .inl zI)), (q_26, .inl (cA_26, 150, .inl zI))] := hD
  refine W.widen (k := 3) (n := 450) (by decide) (by decide) ?_
  refine va_putF (D := DD) (ci := 9) (v := .ref q_26) (ty := .array .int) (C := R_Mo) (T := T_Mo) (N := 21) hx hb hg in_Mo t_Mo to_Mo n_Mo hown hK hP hD hS 0 rfl rfl 5 (by decide) (hg _ mw_684) (fun _ h9 => h9) rfl hin rfl (by decide +kernel) rfl rfl (Nat.le_of_ble_eq_true rfl) d_Mo_init_28 (fun H locs hP hD hS => ?_)
  have hP : va_P DD vwCl [(am, .inr (9, [.int (nI 0), .int (nI 0), .ref q_8, .ref q_17, .int (nI 0), .ref q_26, .null, .int (zb false), .int (nI 0), .null, .null, .null, .null, .int (nI 0), .null, .long 0, .null, .null, .null, .int (nI 0), .null])), (q_8, .inl (cA_8, 150, .inl zI)), (q_17, .inl (cA_17, 150, .inl zI)), (q_26, .inl (cA_26, 150, .inl zI))] H := hP
  have hD : va_D A [(am, .inr (9, [.int (nI 0), .int (nI 0), .ref q_8, .ref q_17, .int (nI 0), .ref q_26, .null, .int (zb false), .int (nI 0), .null, .null, .null, .null, .int (nI 0), .null, .long 0, .null, .null, .null, .int (nI 0), .null])), (q_8, .inl (cA_8, 150, .inl zI)), (q_17, .inl (cA_17, 150, .inl zI)), (q_26, .inl (cA_26, 150, .inl zI))] := hD
  refine lv_aload_n hx hb d_Mo_init_31 rfl (lv_at hl 0 rfl) ?_
  refine lv_sipush (v := nI 150) hx hb d_Mo_init_32 (by decide) ?_
  refine va_newa (atype := .int) (ty := .int) (a0 := (150, .inl zI)) hx hb (hg _ mw_45) rfl hK hP hD hS hA (fun _ => rfl) (by decide) (by decide) (by decide) (Nat.le_of_ble_eq_true rfl) (Nat.le_of_ble_eq_true rfl) d_Mo_init_35 (fun q_35 cA_35 H hK hP hD hS => ?_)
  have hK : va_K DD vwCl [(cA_8, .int), (cA_17, .int), (cA_26, .int), (cA_35, .int)] s := hK
  have hP : va_P DD vwCl [(am, .inr (9, [.int (nI 0), .int (nI 0), .ref q_8, .ref q_17, .int (nI 0), .ref q_26, .null, .int (zb false), .int (nI 0), .null, .null, .null, .null, .int (nI 0), .null, .long 0, .null, .null, .null, .int (nI 0), .null])), (q_8, .inl (cA_8, 150, .inl zI)), (q_17, .inl (cA_17, 150, .inl zI)), (q_26, .inl (cA_26, 150, .inl zI)), (q_35, .inl (cA_35, 150, .inl zI))] H := hP
  have hD : va_D A [(am, .inr (9, [.int (nI 0), .int (nI 0), .ref q_8, .ref q_17, .int (nI 0), .ref q_26, .null, .int (zb false), .int (nI 0), .null, .null, .null, .null, .int (nI 0), .null, .long 0, .null, .null, .null, .int (nI 0), .null])), (q_8, .inl (cA_8, 150, .inl zI)), (q_17, .inl (cA_17, 150, .inl zI)), (q_26, .inl (cA_26, 150, .inl zI)), (q_35, .inl (cA_35, 150, .inl zI))] := hD
  refine W.widen (k := 4) (n := 600) (by decide) (by decide) ?_
  refine va_putF (D := DD) (ci := 9) (v := .ref q_35) (ty := .array .int) (C := R_Mo) (T := T_Mo) (N := 21) hx hb hg in_Mo t_Mo to_Mo n_Mo hown hK hP hD hS 0 rfl rfl 6 (by decide) (hg _ mw_685) (fun _ h9 => h9) rfl hin rfl (by decide +kernel) rfl rfl (Nat.le_of_ble_eq_true rfl) d_Mo_init_37 (fun H locs hP hD hS => ?_)
  have hP : va_P DD vwCl [(am, .inr (9, [.int (nI 0), .int (nI 0), .ref q_8, .ref q_17, .int (nI 0), .ref q_26, .ref q_35, .int (zb false), .int (nI 0), .null, .null, .null, .null, .int (nI 0), .null, .long 0, .null, .null, .null, .int (nI 0), .null])), (q_8, .inl (cA_8, 150, .inl zI)), (q_17, .inl (cA_17, 150, .inl zI)), (q_26, .inl (cA_26, 150, .inl zI)), (q_35, .inl (cA_35, 150, .inl zI))] H := hP
  have hD : va_D A [(am, .inr (9, [.int (nI 0), .int (nI 0), .ref q_8, .ref q_17, .int (nI 0), .ref q_26, .ref q_35, .int (zb false), .int (nI 0), .null, .null, .null, .null, .int (nI 0), .null, .long 0, .null, .null, .null, .int (nI 0), .null])), (q_8, .inl (cA_8, 150, .inl zI)), (q_17, .inl (cA_17, 150, .inl zI)), (q_26, .inl (cA_26, 150, .inl zI)), (q_35, .inl (cA_35, 150, .inl zI))] := hD
  refine lv_aload_n hx hb d_Mo_init_40 rfl (lv_at hl 0 rfl) ?_
  refine lv_bipush (v := nI 12) hx hb d_Mo_init_41 (by decide) ?_
  refine va_newa (atype := .int) (ty := .int) (a0 := (12, .inl (nF zN))) hx hb (hg _ mw_45) rfl hK hP hD hS hA (fun _ => rfl) (by decide) (by decide) (by decide) (Nat.le_of_ble_eq_true rfl) (Nat.le_of_ble_eq_true rfl) d_Mo_init_43 (fun q_43 cA_43 H hK hP hD hS => ?_)
  have hK : va_K DD vwCl [(cA_8, .int), (cA_17, .int), (cA_26, .int), (cA_35, .int), (cA_43, .int)] s := hK
  have hP : va_P DD vwCl [(am, .inr (9, [.int (nI 0), .int (nI 0), .ref q_8, .ref q_17, .int (nI 0), .ref q_26, .ref q_35, .int (zb false), .int (nI 0), .null, .null, .null, .null, .int (nI 0), .null, .long 0, .null, .null, .null, .int (nI 0), .null])), (q_8, .inl (cA_8, 150, .inl zI)), (q_17, .inl (cA_17, 150, .inl zI)), (q_26, .inl (cA_26, 150, .inl zI)), (q_35, .inl (cA_35, 150, .inl zI)), (q_43, .inl (cA_43, 12, .inl (nF zN)))] H := hP
  have hD : va_D A [(am, .inr (9, [.int (nI 0), .int (nI 0), .ref q_8, .ref q_17, .int (nI 0), .ref q_26, .ref q_35, .int (zb false), .int (nI 0), .null, .null, .null, .null, .int (nI 0), .null, .long 0, .null, .null, .null, .int (nI 0), .null])), (q_8, .inl (cA_8, 150, .inl zI)), (q_17, .inl (cA_17, 150, .inl zI)), (q_26, .inl (cA_26, 150, .inl zI)), (q_35, .inl (cA_35, 150, .inl zI)), (q_43, .inl (cA_43, 12, .inl (nF zN)))] := hD
  refine W.widen (k := 5) (n := 612) (by decide) (by decide) ?_
  refine va_putF (D := DD) (ci := 9) (v := .ref q_43) (ty := .array .int) (C := R_Mo) (T := T_Mo) (N := 21) hx hb hg in_Mo t_Mo to_Mo n_Mo hown hK hP hD hS 0 rfl rfl 9 (by decide) (hg _ mw_688) (fun _ h9 => h9) rfl hin rfl (by decide +kernel) rfl rfl (Nat.le_of_ble_eq_true rfl) d_Mo_init_45 (fun H locs hP hD hS => ?_)
  have hP : va_P DD vwCl [(am, .inr (9, [.int (nI 0), .int (nI 0), .ref q_8, .ref q_17, .int (nI 0), .ref q_26, .ref q_35, .int (zb false), .int (nI 0), .ref q_43, .null, .null, .null, .int (nI 0), .null, .long 0, .null, .null, .null, .int (nI 0), .null])), (q_8, .inl (cA_8, 150, .inl zI)), (q_17, .inl (cA_17, 150, .inl zI)), (q_26, .inl (cA_26, 150, .inl zI)), (q_35, .inl (cA_35, 150, .inl zI)), (q_43, .inl (cA_43, 12, .inl (nF zN)))] H := hP
  have hD : va_D A [(am, .inr (9, [.int (nI 0), .int (nI 0), .ref q_8, .ref q_17, .int (nI 0), .ref q_26, .ref q_35, .int (zb false), .int (nI 0), .ref q_43, .null, .null, .null, .int (nI 0), .null, .long 0, .null, .null, .null, .int (nI 0), .null])), (q_8, .inl (cA_8, 150, .inl zI)), (q_17, .inl (cA_17, 150, .inl zI)), (q_26, .inl (cA_26, 150, .inl zI)), (q_35, .inl (cA_35, 150, .inl zI)), (q_43, .inl (cA_43, 12, .inl (nF zN)))] := hD
  refine lv_aload_n hx hb d_Mo_init_48 rfl (lv_at hl 0 rfl) ?_
  refine lv_bipush (v := nI 12) hx hb d_Mo_init_49 (by decide) ?_
  refine va_newa (atype := .long) (ty := .long) (a0 := (12, .inr (.inl zL))) hx hb (hg _ mw_68) rfl hK hP hD hS hA (fun _ => rfl) (by decide) (by decide) (by decide) (Nat.le_of_ble_eq_true rfl) (Nat.le_of_ble_eq_true rfl) d_Mo_init_51 (fun q_51 cA_51 H hK hP hD hS => ?_)
  have hK : va_K DD vwCl [(cA_8, .int), (cA_17, .int), (cA_26, .int), (cA_35, .int), (cA_43, .int), (cA_51, .long)] s := hK
  have hP : va_P DD vwCl [(am, .inr (9, [.int (nI 0), .int (nI 0), .ref q_8, .ref q_17, .int (nI 0), .ref q_26, .ref q_35, .int (zb false), .int (nI 0), .ref q_43, .null, .null, .null, .int (nI 0), .null, .long 0, .null, .null, .null, .int (nI 0), .null])), (q_8, .inl (cA_8, 150, .inl zI)), (q_17, .inl (cA_17, 150, .inl zI)), (q_26, .inl (cA_26, 150, .inl zI)), (q_35, .inl (cA_35, 150, .inl zI)), (q_43, .inl (cA_43, 12, .inl (nF zN))), (q_51, .inl (cA_51, 12, .inr (.inl zL)))] H := hP
  have hD : va_D A [(am, .inr (9, [.int (nI 0), .int (nI 0), .ref q_8, .ref q_17, .int (nI 0), .ref q_26, .ref q_35, .int (zb false), .int (nI 0), .ref q_43, .null, .null, .null, .int (nI 0), .null, .long 0, .null, .null, .null, .int (nI 0), .null])), (q_8, .inl (cA_8, 150, .inl zI)), (q_17, .inl (cA_17, 150, .inl zI)), (q_26, .inl (cA_26, 150, .inl zI)), (q_35, .inl (cA_35, 150, .inl zI)), (q_43, .inl (cA_43, 12, .inl (nF zN))), (q_51, .inl (cA_51, 12, .inr (.inl zL)))] := hD
  refine W.widen (k := 6) (n := 624) (by decide) (by decide) ?_
  refine va_putF (D := DD) (ci := 9) (v := .ref q_51) (ty := .array .long) (C := R_Mo) (T := T_Mo) (N := 21) hx hb hg in_Mo t_Mo to_Mo n_Mo hown hK hP hD hS 0 rfl rfl 10 (by decide) (hg _ mw_689) (fun _ h9 => h9) rfl hin rfl (by decide +kernel) rfl rfl (Nat.le_of_ble_eq_true rfl) d_Mo_init_53 (fun H locs hP hD hS => ?_)
  have hP : va_P DD vwCl [(am, .inr (9, [.int (nI 0), .int (nI 0), .ref q_8, .ref q_17, .int (nI 0), .ref q_26, .ref q_35, .int (zb false), .int (nI 0), .ref q_43, .ref q_51, .null, .null, .int (nI 0), .null, .long 0, .null, .null, .null, .int (nI 0), .null])), (q_8, .inl (cA_8, 150, .inl zI)), (q_17, .inl (cA_17, 150, .inl zI)), (q_26, .inl (cA_26, 150, .inl zI)), (q_35, .inl (cA_35, 150, .inl zI)), (q_43, .inl (cA_43, 12, .inl (nF zN))), (q_51, .inl (cA_51, 12, .inr (.inl zL)))] H := hP
  have hD : va_D A [(am, .inr (9, [.int (nI 0), .int (nI 0), .ref q_8, .ref q_17, .int (nI 0), .ref q_26, .ref q_35, .int (zb false), .int (nI 0), .ref q_43, .ref q_51, .null, .null, .int (nI 0), .null, .long 0, .null, .null, .null, .int (nI 0), .null])), (q_8, .inl (cA_8, 150, .inl zI)), (q_17, .inl (cA_17, 150, .inl zI)), (q_26, .inl (cA_26, 150, .inl zI)), (q_35, .inl (cA_35, 150, .inl zI)), (q_43, .inl (cA_43, 12, .inl (nF zN))), (q_51, .inl (cA_51, 12, .inr (.inl zL)))] := hD
  refine lv_aload_n hx hb d_Mo_init_56 rfl (lv_at hl 0 rfl) ?_
  refine lv_bipush (v := nI 12) hx hb d_Mo_init_57 (by decide) ?_
  refine va_newa (atype := .long) (ty := .long) (a0 := (12, .inr (.inl zL))) hx hb (hg _ mw_68) rfl hK hP hD hS hA (fun _ => rfl) (by decide) (by decide) (by decide) (Nat.le_of_ble_eq_true rfl) (Nat.le_of_ble_eq_true rfl) d_Mo_init_59 (fun q_59 cA_59 H hK hP hD hS => ?_)
  have hK : va_K DD vwCl [(cA_8, .int), (cA_17, .int), (cA_26, .int), (cA_35, .int), (cA_43, .int), (cA_51, .long), (cA_59, .long)] s := hK
  have hP : va_P DD vwCl [(am, .inr (9, [.int (nI 0), .int (nI 0), .ref q_8, .ref q_17, .int (nI 0), .ref q_26, .ref q_35, .int (zb false), .int (nI 0), .ref q_43, .ref q_51, .null, .null, .int (nI 0), .null, .long 0, .null, .null, .null, .int (nI 0), .null])), (q_8, .inl (cA_8, 150, .inl zI)), (q_17, .inl (cA_17, 150, .inl zI)), (q_26, .inl (cA_26, 150, .inl zI)), (q_35, .inl (cA_35, 150, .inl zI)), (q_43, .inl (cA_43, 12, .inl (nF zN))), (q_51, .inl (cA_51, 12, .inr (.inl zL))), (q_59, .inl (cA_59, 12, .inr (.inl zL)))] H := hP
  have hD : va_D A [(am, .inr (9, [.int (nI 0), .int (nI 0), .ref q_8, .ref q_17, .int (nI 0), .ref q_26, .ref q_35, .int (zb false), .int (nI 0), .ref q_43, .ref q_51, .null, .null, .int (nI 0), .null, .long 0, .null, .null, .null, .int (nI 0), .null])), (q_8, .inl (cA_8, 150, .inl zI)), (q_17, .inl (cA_17, 150, .inl zI)), (q_26, .inl (cA_26, 150, .inl zI)), (q_35, .inl (cA_35, 150, .inl zI)), (q_43, .inl (cA_43, 12, .inl (nF zN))), (q_51, .inl (cA_51, 12, .inr (.inl zL))), (q_59, .inl (cA_59, 12, .inr (.inl zL)))] := hD
  refine W.widen (k := 7) (n := 636) (by decide) (by decide) ?_
  refine va_putF (D := DD) (ci := 9) (v := .ref q_59) (ty := .array .long) (C := R_Mo) (T := T_Mo) (N := 21) hx hb hg in_Mo t_Mo to_Mo n_Mo hown hK hP hD hS 0 rfl rfl 11 (by decide) (hg _ mw_690) (fun _ h9 => h9) rfl hin rfl (by decide +kernel) rfl rfl (Nat.le_of_ble_eq_true rfl) d_Mo_init_61 (fun H locs hP hD hS => ?_)
  have hP : va_P DD vwCl [(am, .inr (9, [.int (nI 0), .int (nI 0), .ref q_8, .ref q_17, .int (nI 0), .ref q_26, .ref q_35, .int (zb false), .int (nI 0), .ref q_43, .ref q_51, .ref q_59, .null, .int (nI 0), .null, .long 0, .null, .null, .null, .int (nI 0), .null])), (q_8, .inl (cA_8, 150, .inl zI)), (q_17, .inl (cA_17, 150, .inl zI)), (q_26, .inl (cA_26, 150, .inl zI)), (q_35, .inl (cA_35, 150, .inl zI)), (q_43, .inl (cA_43, 12, .inl (nF zN))), (q_51, .inl (cA_51, 12, .inr (.inl zL))), (q_59, .inl (cA_59, 12, .inr (.inl zL)))] H := hP
  have hD : va_D A [(am, .inr (9, [.int (nI 0), .int (nI 0), .ref q_8, .ref q_17, .int (nI 0), .ref q_26, .ref q_35, .int (zb false), .int (nI 0), .ref q_43, .ref q_51, .ref q_59, .null, .int (nI 0), .null, .long 0, .null, .null, .null, .int (nI 0), .null])), (q_8, .inl (cA_8, 150, .inl zI)), (q_17, .inl (cA_17, 150, .inl zI)), (q_26, .inl (cA_26, 150, .inl zI)), (q_35, .inl (cA_35, 150, .inl zI)), (q_43, .inl (cA_43, 12, .inl (nF zN))), (q_51, .inl (cA_51, 12, .inr (.inl zL))), (q_59, .inl (cA_59, 12, .inr (.inl zL)))] := hD
  refine lv_aload_n hx hb d_Mo_init_64 rfl (lv_at hl 0 rfl) ?_
  refine lv_bipush (v := nI 12) hx hb d_Mo_init_65 (by decide) ?_
  refine va_newa (atype := .int) (ty := .int) (a0 := (12, .inl (nF zN))) hx hb (hg _ mw_45) rfl hK hP hD hS hA (fun _ => rfl) (by decide) (by decide) (by decide) (Nat.le_of_ble_eq_true rfl) (Nat.le_of_ble_eq_true rfl) d_Mo_init_67 (fun q_67 cA_67 H hK hP hD hS => ?_)
  have hK : va_K DD vwCl [(cA_8, .int), (cA_17, .int), (cA_26, .int), (cA_35, .int), (cA_43, .int), (cA_51, .long), (cA_59, .long), (cA_67, .int)] s := hK
  have hP : va_P DD vwCl [(am, .inr (9, [.int (nI 0), .int (nI 0), .ref q_8, .ref q_17, .int (nI 0), .ref q_26, .ref q_35, .int (zb false), .int (nI 0), .ref q_43, .ref q_51, .ref q_59, .null, .int (nI 0), .null, .long 0, .null, .null, .null, .int (nI 0), .null])), (q_8, .inl (cA_8, 150, .inl zI)), (q_17, .inl (cA_17, 150, .inl zI)), (q_26, .inl (cA_26, 150, .inl zI)), (q_35, .inl (cA_35, 150, .inl zI)), (q_43, .inl (cA_43, 12, .inl (nF zN))), (q_51, .inl (cA_51, 12, .inr (.inl zL))), (q_59, .inl (cA_59, 12, .inr (.inl zL))), (q_67, .inl (cA_67, 12, .inl (nF zN)))] H := hP
  have hD : va_D A [(am, .inr (9, [.int (nI 0), .int (nI 0), .ref q_8, .ref q_17, .int (nI 0), .ref q_26, .ref q_35, .int (zb false), .int (nI 0), .ref q_43, .ref q_51, .ref q_59, .null, .int (nI 0), .null, .long 0, .null, .null, .null, .int (nI 0), .null])), (q_8, .inl (cA_8, 150, .inl zI)), (q_17, .inl (cA_17, 150, .inl zI)), (q_26, .inl (cA_26, 150, .inl zI)), (q_35, .inl (cA_35, 150, .inl zI)), (q_43, .inl (cA_43, 12, .inl (nF zN))), (q_51, .inl (cA_51, 12, .inr (.inl zL))), (q_59, .inl (cA_59, 12, .inr (.inl zL))), (q_67, .inl (cA_67, 12, .inl (nF zN)))] := hD
  refine W.widen (k := 8) (n := 648) (by decide) (by decide) ?_
  refine va_putF (D := DD) (ci := 9) (v := .ref q_67) (ty := .array .int) (C := R_Mo) (T := T_Mo) (N := 21) hx hb hg in_Mo t_Mo to_Mo n_Mo hown hK hP hD hS 0 rfl rfl 12 (by decide) (hg _ mw_691) (fun _ h9 => h9) rfl hin rfl (by decide +kernel) rfl rfl (Nat.le_of_ble_eq_true rfl) d_Mo_init_69 (fun H locs hP hD hS => ?_)
  have hP : va_P DD vwCl [(am, .inr (9, [.int (nI 0), .int (nI 0), .ref q_8, .ref q_17, .int (nI 0), .ref q_26, .ref q_35, .int (zb false), .int (nI 0), .ref q_43, .ref q_51, .ref q_59, .ref q_67, .int (nI 0), .null, .long 0, .null, .null, .null, .int (nI 0), .null])), (q_8, .inl (cA_8, 150, .inl zI)), (q_17, .inl (cA_17, 150, .inl zI)), (q_26, .inl (cA_26, 150, .inl zI)), (q_35, .inl (cA_35, 150, .inl zI)), (q_43, .inl (cA_43, 12, .inl (nF zN))), (q_51, .inl (cA_51, 12, .inr (.inl zL))), (q_59, .inl (cA_59, 12, .inr (.inl zL))), (q_67, .inl (cA_67, 12, .inl (nF zN)))] H := hP
  have hD : va_D A [(am, .inr (9, [.int (nI 0), .int (nI 0), .ref q_8, .ref q_17, .int (nI 0), .ref q_26, .ref q_35, .int (zb false), .int (nI 0), .ref q_43, .ref q_51, .ref q_59, .ref q_67, .int (nI 0), .null, .long 0, .null, .null, .null, .int (nI 0), .null])), (q_8, .inl (cA_8, 150, .inl zI)), (q_17, .inl (cA_17, 150, .inl zI)), (q_26, .inl (cA_26, 150, .inl zI)), (q_35, .inl (cA_35, 150, .inl zI)), (q_43, .inl (cA_43, 12, .inl (nF zN))), (q_51, .inl (cA_51, 12, .inr (.inl zL))), (q_59, .inl (cA_59, 12, .inr (.inl zL))), (q_67, .inl (cA_67, 12, .inl (nF zN)))] := hD
  refine lv_aload_n hx hb d_Mo_init_72 rfl (lv_at hl 0 rfl) ?_
  refine lv_sipush (v := nI 900) hx hb d_Mo_init_73 (by decide) ?_
  refine va_newa (atype := .int) (ty := .int) (a0 := (900, .inl zI)) hx hb (hg _ mw_45) rfl hK hP hD hS hA (fun _ => rfl) (by decide) (by decide) (by decide) (Nat.le_of_ble_eq_true rfl) (Nat.le_of_ble_eq_true rfl) d_Mo_init_76 (fun q_76 cA_76 H hK hP hD hS => ?_)
  have hK : va_K DD vwCl [(cA_8, .int), (cA_17, .int), (cA_26, .int), (cA_35, .int), (cA_43, .int), (cA_51, .long), (cA_59, .long), (cA_67, .int), (cA_76, .int)] s := hK
  have hP : va_P DD vwCl [(am, .inr (9, [.int (nI 0), .int (nI 0), .ref q_8, .ref q_17, .int (nI 0), .ref q_26, .ref q_35, .int (zb false), .int (nI 0), .ref q_43, .ref q_51, .ref q_59, .ref q_67, .int (nI 0), .null, .long 0, .null, .null, .null, .int (nI 0), .null])), (q_8, .inl (cA_8, 150, .inl zI)), (q_17, .inl (cA_17, 150, .inl zI)), (q_26, .inl (cA_26, 150, .inl zI)), (q_35, .inl (cA_35, 150, .inl zI)), (q_43, .inl (cA_43, 12, .inl (nF zN))), (q_51, .inl (cA_51, 12, .inr (.inl zL))), (q_59, .inl (cA_59, 12, .inr (.inl zL))), (q_67, .inl (cA_67, 12, .inl (nF zN))), (q_76, .inl (cA_76, 900, .inl zI))] H := hP
  have hD : va_D A [(am, .inr (9, [.int (nI 0), .int (nI 0), .ref q_8, .ref q_17, .int (nI 0), .ref q_26, .ref q_35, .int (zb false), .int (nI 0), .ref q_43, .ref q_51, .ref q_59, .ref q_67, .int (nI 0), .null, .long 0, .null, .null, .null, .int (nI 0), .null])), (q_8, .inl (cA_8, 150, .inl zI)), (q_17, .inl (cA_17, 150, .inl zI)), (q_26, .inl (cA_26, 150, .inl zI)), (q_35, .inl (cA_35, 150, .inl zI)), (q_43, .inl (cA_43, 12, .inl (nF zN))), (q_51, .inl (cA_51, 12, .inr (.inl zL))), (q_59, .inl (cA_59, 12, .inr (.inl zL))), (q_67, .inl (cA_67, 12, .inl (nF zN))), (q_76, .inl (cA_76, 900, .inl zI))] := hD
  refine W.widen (k := 9) (n := 1548) (by decide) (by decide) ?_
  refine va_putF (D := DD) (ci := 9) (v := .ref q_76) (ty := .array .int) (C := R_Mo) (T := T_Mo) (N := 21) hx hb hg in_Mo t_Mo to_Mo n_Mo hown hK hP hD hS 0 rfl rfl 14 (by decide) (hg _ mw_693) (fun _ h9 => h9) rfl hin rfl (by decide +kernel) rfl rfl (Nat.le_of_ble_eq_true rfl) d_Mo_init_78 (fun H locs hP hD hS => ?_)
  have hP : va_P DD vwCl [(am, .inr (9, [.int (nI 0), .int (nI 0), .ref q_8, .ref q_17, .int (nI 0), .ref q_26, .ref q_35, .int (zb false), .int (nI 0), .ref q_43, .ref q_51, .ref q_59, .ref q_67, .int (nI 0), .ref q_76, .long 0, .null, .null, .null, .int (nI 0), .null])), (q_8, .inl (cA_8, 150, .inl zI)), (q_17, .inl (cA_17, 150, .inl zI)), (q_26, .inl (cA_26, 150, .inl zI)), (q_35, .inl (cA_35, 150, .inl zI)), (q_43, .inl (cA_43, 12, .inl (nF zN))), (q_51, .inl (cA_51, 12, .inr (.inl zL))), (q_59, .inl (cA_59, 12, .inr (.inl zL))), (q_67, .inl (cA_67, 12, .inl (nF zN))), (q_76, .inl (cA_76, 900, .inl zI))] H := hP
  have hD : va_D A [(am, .inr (9, [.int (nI 0), .int (nI 0), .ref q_8, .ref q_17, .int (nI 0), .ref q_26, .ref q_35, .int (zb false), .int (nI 0), .ref q_43, .ref q_51, .ref q_59, .ref q_67, .int (nI 0), .ref q_76, .long 0, .null, .null, .null, .int (nI 0), .null])), (q_8, .inl (cA_8, 150, .inl zI)), (q_17, .inl (cA_17, 150, .inl zI)), (q_26, .inl (cA_26, 150, .inl zI)), (q_35, .inl (cA_35, 150, .inl zI)), (q_43, .inl (cA_43, 12, .inl (nF zN))), (q_51, .inl (cA_51, 12, .inr (.inl zL))), (q_59, .inl (cA_59, 12, .inr (.inl zL))), (q_67, .inl (cA_67, 12, .inl (nF zN))), (q_76, .inl (cA_76, 900, .inl zI))] := hD
  refine lv_aload_n hx hb d_Mo_init_81 rfl (lv_at hl 0 rfl) ?_
  refine lv_iconst (v := nI 5) hx hb d_Mo_init_82 (by decide) ?_
  refine va_newa (atype := .int) (ty := .int) (a0 := (5, .inl (nF zN))) hx hb (hg _ mw_45) rfl hK hP hD hS hA (fun _ => rfl) (by decide) (by decide) (by decide) (Nat.le_of_ble_eq_true rfl) (Nat.le_of_ble_eq_true rfl) d_Mo_init_83 (fun q_83 cA_83 H hK hP hD hS => ?_)
  have hK : va_K DD vwCl [(cA_8, .int), (cA_17, .int), (cA_26, .int), (cA_35, .int), (cA_43, .int), (cA_51, .long), (cA_59, .long), (cA_67, .int), (cA_76, .int), (cA_83, .int)] s := hK
  have hP : va_P DD vwCl [(am, .inr (9, [.int (nI 0), .int (nI 0), .ref q_8, .ref q_17, .int (nI 0), .ref q_26, .ref q_35, .int (zb false), .int (nI 0), .ref q_43, .ref q_51, .ref q_59, .ref q_67, .int (nI 0), .ref q_76, .long 0, .null, .null, .null, .int (nI 0), .null])), (q_8, .inl (cA_8, 150, .inl zI)), (q_17, .inl (cA_17, 150, .inl zI)), (q_26, .inl (cA_26, 150, .inl zI)), (q_35, .inl (cA_35, 150, .inl zI)), (q_43, .inl (cA_43, 12, .inl (nF zN))), (q_51, .inl (cA_51, 12, .inr (.inl zL))), (q_59, .inl (cA_59, 12, .inr (.inl zL))), (q_67, .inl (cA_67, 12, .inl (nF zN))), (q_76, .inl (cA_76, 900, .inl zI)), (q_83, .inl (cA_83, 5, .inl (nF zN)))] H := hP
  have hD : va_D A [(am, .inr (9, [.int (nI 0), .int (nI 0), .ref q_8, .ref q_17, .int (nI 0), .ref q_26, .ref q_35, .int (zb false), .int (nI 0), .ref q_43, .ref q_51, .ref q_59, .ref q_67, .int (nI 0), .ref q_76, .long 0, .null, .null, .null, .int (nI 0), .null])), (q_8, .inl (cA_8, 150, .inl zI)), (q_17, .inl (cA_17, 150, .inl zI)), (q_26, .inl (cA_26, 150, .inl zI)), (q_35, .inl (cA_35, 150, .inl zI)), (q_43, .inl (cA_43, 12, .inl (nF zN))), (q_51, .inl (cA_51, 12, .inr (.inl zL))), (q_59, .inl (cA_59, 12, .inr (.inl zL))), (q_67, .inl (cA_67, 12, .inl (nF zN))), (q_76, .inl (cA_76, 900, .inl zI)), (q_83, .inl (cA_83, 5, .inl (nF zN)))] := hD
  refine W.widen (k := 10) (n := 1553) (by decide) (by decide) ?_
  refine va_putF (D := DD) (ci := 9) (v := .ref q_83) (ty := .array .int) (C := R_Mo) (T := T_Mo) (N := 21) hx hb hg in_Mo t_Mo to_Mo n_Mo hown hK hP hD hS 0 rfl rfl 16 (by decide) (hg _ mw_695) (fun _ h9 => h9) rfl hin rfl (by decide +kernel) rfl rfl (Nat.le_of_ble_eq_true rfl) d_Mo_init_85 (fun H locs hP hD hS => ?_)
  have hP : va_P DD vwCl [(am, .inr (9, [.int (nI 0), .int (nI 0), .ref q_8, .ref q_17, .int (nI 0), .ref q_26, .ref q_35, .int (zb false), .int (nI 0), .ref q_43, .ref q_51, .ref q_59, .ref q_67, .int (nI 0), .ref q_76, .long 0, .ref q_83, .null, .null, .int (nI 0), .null])), (q_8, .inl (cA_8, 150, .inl zI)), (q_17, .inl (cA_17, 150, .inl zI)), (q_26, .inl (cA_26, 150, .inl zI)), (q_35, .inl (cA_35, 150, .inl zI)), (q_43, .inl (cA_43, 12, .inl (nF zN))), (q_51, .inl (cA_51, 12, .inr (.inl zL))), (q_59, .inl (cA_59, 12, .inr (.inl zL))), (q_67, .inl (cA_67, 12, .inl (nF zN))), (q_76, .inl (cA_76, 900, .inl zI)), (q_83, .inl (cA_83, 5, .inl (nF zN)))] H := hP
  have hD : va_D A [(am, .inr (9, [.int (nI 0), .int (nI 0), .ref q_8, .ref q_17, .int (nI 0), .ref q_26, .ref q_35, .int (zb false), .int (nI 0), .ref q_43, .ref q_51, .ref q_59, .ref q_67, .int (nI 0), .ref q_76, .long 0, .ref q_83, .null, .null, .int (nI 0), .null])), (q_8, .inl (cA_8, 150, .inl zI)), (q_17, .inl (cA_17, 150, .inl zI)), (q_26, .inl (cA_26, 150, .inl zI)), (q_35, .inl (cA_35, 150, .inl zI)), (q_43, .inl (cA_43, 12, .inl (nF zN))), (q_51, .inl (cA_51, 12, .inr (.inl zL))), (q_59, .inl (cA_59, 12, .inr (.inl zL))), (q_67, .inl (cA_67, 12, .inl (nF zN))), (q_76, .inl (cA_76, 900, .inl zI)), (q_83, .inl (cA_83, 5, .inl (nF zN)))] := hD
  refine lv_aload_n hx hb d_Mo_init_88 rfl (lv_at hl 0 rfl) ?_
  refine lv_sipush (v := nI 150) hx hb d_Mo_init_89 (by decide) ?_
  refine va_newa (atype := .int) (ty := .int) (a0 := (150, .inl zI)) hx hb (hg _ mw_45) rfl hK hP hD hS hA (fun _ => rfl) (by decide) (by decide) (by decide) (Nat.le_of_ble_eq_true rfl) (Nat.le_of_ble_eq_true rfl) d_Mo_init_92 (fun q_92 cA_92 H hK hP hD hS => ?_)
  have hK : va_K DD vwCl [(cA_8, .int), (cA_17, .int), (cA_26, .int), (cA_35, .int), (cA_43, .int), (cA_51, .long), (cA_59, .long), (cA_67, .int), (cA_76, .int), (cA_83, .int), (cA_92, .int)] s := hK
  have hP : va_P DD vwCl [(am, .inr (9, [.int (nI 0), .int (nI 0), .ref q_8, .ref q_17, .int (nI 0), .ref q_26, .ref q_35, .int (zb false), .int (nI 0), .ref q_43, .ref q_51, .ref q_59, .ref q_67, .int (nI 0), .ref q_76, .long 0, .ref q_83, .null, .null, .int (nI 0), .null])), (q_8, .inl (cA_8, 150, .inl zI)), (q_17, .inl (cA_17, 150, .inl zI)), (q_26, .inl (cA_26, 150, .inl zI)), (q_35, .inl (cA_35, 150, .inl zI)), (q_43, .inl (cA_43, 12, .inl (nF zN))), (q_51, .inl (cA_51, 12, .inr (.inl zL))), (q_59, .inl (cA_59, 12, .inr (.inl zL))), (q_67, .inl (cA_67, 12, .inl (nF zN))), (q_76, .inl (cA_76, 900, .inl zI)), (q_83, .inl (cA_83, 5, .inl (nF zN))), (q_92, .inl (cA_92, 150, .inl zI))] H := hP
  have hD : va_D A [(am, .inr (9, [.int (nI 0), .int (nI 0), .ref q_8, .ref q_17, .int (nI 0), .ref q_26, .ref q_35, .int (zb false), .int (nI 0), .ref q_43, .ref q_51, .ref q_59, .ref q_67, .int (nI 0), .ref q_76, .long 0, .ref q_83, .null, .null, .int (nI 0), .null])), (q_8, .inl (cA_8, 150, .inl zI)), (q_17, .inl (cA_17, 150, .inl zI)), (q_26, .inl (cA_26, 150, .inl zI)), (q_35, .inl (cA_35, 150, .inl zI)), (q_43, .inl (cA_43, 12, .inl (nF zN))), (q_51, .inl (cA_51, 12, .inr (.inl zL))), (q_59, .inl (cA_59, 12, .inr (.inl zL))), (q_67, .inl (cA_67, 12, .inl (nF zN))), (q_76, .inl (cA_76, 900, .inl zI)), (q_83, .inl (cA_83, 5, .inl (nF zN))), (q_92, .inl (cA_92, 150, .inl zI))] := hD
  refine W.widen (k := 11) (n := 1703) (by decide) (by decide) ?_
  refine va_putF (D := DD) (ci := 9) (v := .ref q_92) (ty := .array .int) (C := R_Mo) (T := T_Mo) (N := 21) hx hb hg in_Mo t_Mo to_Mo n_Mo hown hK hP hD hS 0 rfl rfl 17 (by decide) (hg _ mw_696) (fun _ h9 => h9) rfl hin rfl (by decide +kernel) rfl rfl (Nat.le_of_ble_eq_true rfl) d_Mo_init_94 (fun H locs hP hD hS => ?_)
  have hP : va_P DD vwCl [(am, .inr (9, [.int (nI 0), .int (nI 0), .ref q_8, .ref q_17, .int (nI 0), .ref q_26, .ref q_35, .int (zb false), .int (nI 0), .ref q_43, .ref q_51, .ref q_59, .ref q_67, .int (nI 0), .ref q_76, .long 0, .ref q_83, .ref q_92, .null, .int (nI 0), .null])), (q_8, .inl (cA_8, 150, .inl zI)), (q_17, .inl (cA_17, 150, .inl zI)), (q_26, .inl (cA_26, 150, .inl zI)), (q_35, .inl (cA_35, 150, .inl zI)), (q_43, .inl (cA_43, 12, .inl (nF zN))), (q_51, .inl (cA_51, 12, .inr (.inl zL))), (q_59, .inl (cA_59, 12, .inr (.inl zL))), (q_67, .inl (cA_67, 12, .inl (nF zN))), (q_76, .inl (cA_76, 900, .inl zI)), (q_83, .inl (cA_83, 5, .inl (nF zN))), (q_92, .inl (cA_92, 150, .inl zI))] H := hP
  have hD : va_D A [(am, .inr (9, [.int (nI 0), .int (nI 0), .ref q_8, .ref q_17, .int (nI 0), .ref q_26, .ref q_35, .int (zb false), .int (nI 0), .ref q_43, .ref q_51, .ref q_59, .ref q_67, .int (nI 0), .ref q_76, .long 0, .ref q_83, .ref q_92, .null, .int (nI 0), .null])), (q_8, .inl (cA_8, 150, .inl zI)), (q_17, .inl (cA_17, 150, .inl zI)), (q_26, .inl (cA_26, 150, .inl zI)), (q_35, .inl (cA_35, 150, .inl zI)), (q_43, .inl (cA_43, 12, .inl (nF zN))), (q_51, .inl (cA_51, 12, .inr (.inl zL))), (q_59, .inl (cA_59, 12, .inr (.inl zL))), (q_67, .inl (cA_67, 12, .inl (nF zN))), (q_76, .inl (cA_76, 900, .inl zI)), (q_83, .inl (cA_83, 5, .inl (nF zN))), (q_92, .inl (cA_92, 150, .inl zI))] := hD
  refine lv_aload_n hx hb d_Mo_init_97 rfl (lv_at hl 0 rfl) ?_
  refine lv_sipush (v := nI 150) hx hb d_Mo_init_98 (by decide) ?_
  refine va_newa (atype := .int) (ty := .int) (a0 := (150, .inl zI)) hx hb (hg _ mw_45) rfl hK hP hD hS hA (fun _ => rfl) (by decide) (by decide) (by decide) (Nat.le_of_ble_eq_true rfl) (Nat.le_of_ble_eq_true rfl) d_Mo_init_101 (fun q_101 cA_101 H hK hP hD hS => ?_)
  have hK : va_K DD vwCl [(cA_8, .int), (cA_17, .int), (cA_26, .int), (cA_35, .int), (cA_43, .int), (cA_51, .long), (cA_59, .long), (cA_67, .int), (cA_76, .int), (cA_83, .int), (cA_92, .int), (cA_101, .int)] s := hK
  have hP : va_P DD vwCl [(am, .inr (9, [.int (nI 0), .int (nI 0), .ref q_8, .ref q_17, .int (nI 0), .ref q_26, .ref q_35, .int (zb false), .int (nI 0), .ref q_43, .ref q_51, .ref q_59, .ref q_67, .int (nI 0), .ref q_76, .long 0, .ref q_83, .ref q_92, .null, .int (nI 0), .null])), (q_8, .inl (cA_8, 150, .inl zI)), (q_17, .inl (cA_17, 150, .inl zI)), (q_26, .inl (cA_26, 150, .inl zI)), (q_35, .inl (cA_35, 150, .inl zI)), (q_43, .inl (cA_43, 12, .inl (nF zN))), (q_51, .inl (cA_51, 12, .inr (.inl zL))), (q_59, .inl (cA_59, 12, .inr (.inl zL))), (q_67, .inl (cA_67, 12, .inl (nF zN))), (q_76, .inl (cA_76, 900, .inl zI)), (q_83, .inl (cA_83, 5, .inl (nF zN))), (q_92, .inl (cA_92, 150, .inl zI)), (q_101, .inl (cA_101, 150, .inl zI))] H := hP
  have hD : va_D A [(am, .inr (9, [.int (nI 0), .int (nI 0), .ref q_8, .ref q_17, .int (nI 0), .ref q_26, .ref q_35, .int (zb false), .int (nI 0), .ref q_43, .ref q_51, .ref q_59, .ref q_67, .int (nI 0), .ref q_76, .long 0, .ref q_83, .ref q_92, .null, .int (nI 0), .null])), (q_8, .inl (cA_8, 150, .inl zI)), (q_17, .inl (cA_17, 150, .inl zI)), (q_26, .inl (cA_26, 150, .inl zI)), (q_35, .inl (cA_35, 150, .inl zI)), (q_43, .inl (cA_43, 12, .inl (nF zN))), (q_51, .inl (cA_51, 12, .inr (.inl zL))), (q_59, .inl (cA_59, 12, .inr (.inl zL))), (q_67, .inl (cA_67, 12, .inl (nF zN))), (q_76, .inl (cA_76, 900, .inl zI)), (q_83, .inl (cA_83, 5, .inl (nF zN))), (q_92, .inl (cA_92, 150, .inl zI)), (q_101, .inl (cA_101, 150, .inl zI))] := hD
  refine W.widen (k := 12) (n := 1853) (by decide) (by decide) ?_
  refine va_putF (D := DD) (ci := 9) (v := .ref q_101) (ty := .array .int) (C := R_Mo) (T := T_Mo) (N := 21) hx hb hg in_Mo t_Mo to_Mo n_Mo hown hK hP hD hS 0 rfl rfl 18 (by decide) (hg _ mw_697) (fun _ h9 => h9) rfl hin rfl (by decide +kernel) rfl rfl (Nat.le_of_ble_eq_true rfl) d_Mo_init_103 (fun H locs hP hD hS => ?_)
  have hP : va_P DD vwCl [(am, .inr (9, [.int (nI 0), .int (nI 0), .ref q_8, .ref q_17, .int (nI 0), .ref q_26, .ref q_35, .int (zb false), .int (nI 0), .ref q_43, .ref q_51, .ref q_59, .ref q_67, .int (nI 0), .ref q_76, .long 0, .ref q_83, .ref q_92, .ref q_101, .int (nI 0), .null])), (q_8, .inl (cA_8, 150, .inl zI)), (q_17, .inl (cA_17, 150, .inl zI)), (q_26, .inl (cA_26, 150, .inl zI)), (q_35, .inl (cA_35, 150, .inl zI)), (q_43, .inl (cA_43, 12, .inl (nF zN))), (q_51, .inl (cA_51, 12, .inr (.inl zL))), (q_59, .inl (cA_59, 12, .inr (.inl zL))), (q_67, .inl (cA_67, 12, .inl (nF zN))), (q_76, .inl (cA_76, 900, .inl zI)), (q_83, .inl (cA_83, 5, .inl (nF zN))), (q_92, .inl (cA_92, 150, .inl zI)), (q_101, .inl (cA_101, 150, .inl zI))] H := hP
  have hD : va_D A [(am, .inr (9, [.int (nI 0), .int (nI 0), .ref q_8, .ref q_17, .int (nI 0), .ref q_26, .ref q_35, .int (zb false), .int (nI 0), .ref q_43, .ref q_51, .ref q_59, .ref q_67, .int (nI 0), .ref q_76, .long 0, .ref q_83, .ref q_92, .ref q_101, .int (nI 0), .null])), (q_8, .inl (cA_8, 150, .inl zI)), (q_17, .inl (cA_17, 150, .inl zI)), (q_26, .inl (cA_26, 150, .inl zI)), (q_35, .inl (cA_35, 150, .inl zI)), (q_43, .inl (cA_43, 12, .inl (nF zN))), (q_51, .inl (cA_51, 12, .inr (.inl zL))), (q_59, .inl (cA_59, 12, .inr (.inl zL))), (q_67, .inl (cA_67, 12, .inl (nF zN))), (q_76, .inl (cA_76, 900, .inl zI)), (q_83, .inl (cA_83, 5, .inl (nF zN))), (q_92, .inl (cA_92, 150, .inl zI)), (q_101, .inl (cA_101, 150, .inl zI))] := hD
  refine lv_aload_n hx hb d_Mo_init_106 rfl (lv_at hl 0 rfl) ?_
  refine lv_sipush (v := nI 150) hx hb d_Mo_init_107 (by decide) ?_
  refine va_newa (atype := .int) (ty := .int) (a0 := (150, .inl (nF zN))) hx hb (hg _ mw_45) rfl hK hP hD hS hA (fun _ => rfl) (by decide) (by decide) (by decide) (Nat.le_of_ble_eq_true rfl) (Nat.le_of_ble_eq_true rfl) d_Mo_init_110 (fun q_110 cA_110 H hK hP hD hS => ?_)
  have hK : va_K DD vwCl [(cA_8, .int), (cA_17, .int), (cA_26, .int), (cA_35, .int), (cA_43, .int), (cA_51, .long), (cA_59, .long), (cA_67, .int), (cA_76, .int), (cA_83, .int), (cA_92, .int), (cA_101, .int), (cA_110, .int)] s := hK
  have hP : va_P DD vwCl [(am, .inr (9, [.int (nI 0), .int (nI 0), .ref q_8, .ref q_17, .int (nI 0), .ref q_26, .ref q_35, .int (zb false), .int (nI 0), .ref q_43, .ref q_51, .ref q_59, .ref q_67, .int (nI 0), .ref q_76, .long 0, .ref q_83, .ref q_92, .ref q_101, .int (nI 0), .null])), (q_8, .inl (cA_8, 150, .inl zI)), (q_17, .inl (cA_17, 150, .inl zI)), (q_26, .inl (cA_26, 150, .inl zI)), (q_35, .inl (cA_35, 150, .inl zI)), (q_43, .inl (cA_43, 12, .inl (nF zN))), (q_51, .inl (cA_51, 12, .inr (.inl zL))), (q_59, .inl (cA_59, 12, .inr (.inl zL))), (q_67, .inl (cA_67, 12, .inl (nF zN))), (q_76, .inl (cA_76, 900, .inl zI)), (q_83, .inl (cA_83, 5, .inl (nF zN))), (q_92, .inl (cA_92, 150, .inl zI)), (q_101, .inl (cA_101, 150, .inl zI)), (q_110, .inl (cA_110, 150, .inl (nF zN)))] H := hP
  have hD : va_D A [(am, .inr (9, [.int (nI 0), .int (nI 0), .ref q_8, .ref q_17, .int (nI 0), .ref q_26, .ref q_35, .int (zb false), .int (nI 0), .ref q_43, .ref q_51, .ref q_59, .ref q_67, .int (nI 0), .ref q_76, .long 0, .ref q_83, .ref q_92, .ref q_101, .int (nI 0), .null])), (q_8, .inl (cA_8, 150, .inl zI)), (q_17, .inl (cA_17, 150, .inl zI)), (q_26, .inl (cA_26, 150, .inl zI)), (q_35, .inl (cA_35, 150, .inl zI)), (q_43, .inl (cA_43, 12, .inl (nF zN))), (q_51, .inl (cA_51, 12, .inr (.inl zL))), (q_59, .inl (cA_59, 12, .inr (.inl zL))), (q_67, .inl (cA_67, 12, .inl (nF zN))), (q_76, .inl (cA_76, 900, .inl zI)), (q_83, .inl (cA_83, 5, .inl (nF zN))), (q_92, .inl (cA_92, 150, .inl zI)), (q_101, .inl (cA_101, 150, .inl zI)), (q_110, .inl (cA_110, 150, .inl (nF zN)))] := hD
  refine W.widen (k := 13) (n := 2003) (by decide) (by decide) ?_
  refine va_putF (D := DD) (ci := 9) (v := .ref q_110) (ty := .array .int) (C := R_Mo) (T := T_Mo) (N := 21) hx hb hg in_Mo t_Mo to_Mo n_Mo hown hK hP hD hS 0 rfl rfl 20 (by decide) (hg _ mw_699) (fun _ h9 => h9) rfl hin rfl (by decide +kernel) rfl rfl (Nat.le_of_ble_eq_true rfl) d_Mo_init_112 (fun H locs hP hD hS => ?_)
  have hP : va_P DD vwCl [(am, .inr (9, [.int (nI 0), .int (nI 0), .ref q_8, .ref q_17, .int (nI 0), .ref q_26, .ref q_35, .int (zb false), .int (nI 0), .ref q_43, .ref q_51, .ref q_59, .ref q_67, .int (nI 0), .ref q_76, .long 0, .ref q_83, .ref q_92, .ref q_101, .int (nI 0), .ref q_110])), (q_8, .inl (cA_8, 150, .inl zI)), (q_17, .inl (cA_17, 150, .inl zI)), (q_26, .inl (cA_26, 150, .inl zI)), (q_35, .inl (cA_35, 150, .inl zI)), (q_43, .inl (cA_43, 12, .inl (nF zN))), (q_51, .inl (cA_51, 12, .inr (.inl zL))), (q_59, .inl (cA_59, 12, .inr (.inl zL))), (q_67, .inl (cA_67, 12, .inl (nF zN))), (q_76, .inl (cA_76, 900, .inl zI)), (q_83, .inl (cA_83, 5, .inl (nF zN))), (q_92, .inl (cA_92, 150, .inl zI)), (q_101, .inl (cA_101, 150, .inl zI)), (q_110, .inl (cA_110, 150, .inl (nF zN)))] H := hP
  have hD : va_D A [(am, .inr (9, [.int (nI 0), .int (nI 0), .ref q_8, .ref q_17, .int (nI 0), .ref q_26, .ref q_35, .int (zb false), .int (nI 0), .ref q_43, .ref q_51, .ref q_59, .ref q_67, .int (nI 0), .ref q_76, .long 0, .ref q_83, .ref q_92, .ref q_101, .int (nI 0), .ref q_110])), (q_8, .inl (cA_8, 150, .inl zI)), (q_17, .inl (cA_17, 150, .inl zI)), (q_26, .inl (cA_26, 150, .inl zI)), (q_35, .inl (cA_35, 150, .inl zI)), (q_43, .inl (cA_43, 12, .inl (nF zN))), (q_51, .inl (cA_51, 12, .inr (.inl zL))), (q_59, .inl (cA_59, 12, .inr (.inl zL))), (q_67, .inl (cA_67, 12, .inl (nF zN))), (q_76, .inl (cA_76, 900, .inl zI)), (q_83, .inl (cA_83, 5, .inl (nF zN))), (q_92, .inl (cA_92, 150, .inl zI)), (q_101, .inl (cA_101, 150, .inl zI)), (q_110, .inl (cA_110, 150, .inl (nF zN)))] := hD
  refine W.widen (k := 13) (n := 2003) (by decide) (by decide) ?_
  have hK9 := hK.sub (tys' := [(cA_8, .int), (cA_17, .int), (cA_26, .int), (cA_35, .int), (cA_43, .int), (cA_51, .long), (cA_59, .long), (cA_67, .int), (cA_76, .int), (cA_83, .int), (cA_92, .int), (cA_101, .int), (cA_110, .int)]) [0, 1, 2, 3, 4, 5, 6, 7, 8, 9, 10, 11, 12] rfl
  have hP9 := hP.sub (ws' := [(am, .inr (9, [.int (nI 0), .int (nI 0), .ref q_8, .ref q_17, .int (nI 0), .ref q_26, .ref q_35, .int (zb false), .int (nI 0), .ref q_43, .ref q_51, .ref q_59, .ref q_67, .int (nI 0), .ref q_76, .long 0, .ref q_83, .ref q_92, .ref q_101, .int (nI 0), .ref q_110])), (q_8, .inl (cA_8, 150, .inl zI)), (q_17, .inl (cA_17, 150, .inl zI)), (q_26, .inl (cA_26, 150, .inl zI)), (q_35, .inl (cA_35, 150, .inl zI)), (q_43, .inl (cA_43, 12, .inl (nF zN))), (q_51, .inl (cA_51, 12, .inr (.inl zL))), (q_59, .inl (cA_59, 12, .inr (.inl zL))), (q_67, .inl (cA_67, 12, .inl (nF zN))), (q_76, .inl (cA_76, 900, .inl zI)), (q_83, .inl (cA_83, 5, .inl (nF zN))), (q_92, .inl (cA_92, 150, .inl zI)), (q_101, .inl (cA_101, 150, .inl zI)), (q_110, .inl (cA_110, 150, .inl (nF zN)))]) [0, 1, 2, 3, 4, 5, 6, 7, 8, 9, 10, 11, 12, 13] rfl
  have hD9 := hD.sub (ws' := [(am, .inr (9, [.int (nI 0), .int (nI 0), .ref q_8, .ref q_17, .int (nI 0), .ref q_26, .ref q_35, .int (zb false), .int (nI 0), .ref q_43, .ref q_51, .ref q_59, .ref q_67, .int (nI 0), .ref q_76, .long 0, .ref q_83, .ref q_92, .ref q_101, .int (nI 0), .ref q_110])), (q_8, .inl (cA_8, 150, .inl zI)), (q_17, .inl (cA_17, 150, .inl zI)), (q_26, .inl (cA_26, 150, .inl zI)), (q_35, .inl (cA_35, 150, .inl zI)), (q_43, .inl (cA_43, 12, .inl (nF zN))), (q_51, .inl (cA_51, 12, .inr (.inl zL))), (q_59, .inl (cA_59, 12, .inr (.inl zL))), (q_67, .inl (cA_67, 12, .inl (nF zN))), (q_76, .inl (cA_76, 900, .inl zI)), (q_83, .inl (cA_83, 5, .inl (nF zN))), (q_92, .inl (cA_92, 150, .inl zI)), (q_101, .inl (cA_101, 150, .inl zI)), (q_110, .inl (cA_110, 150, .inl (nF zN)))]) [0, 1, 2, 3, 4, 5, 6, 7, 8, 9, 10, 11, 12, 13] (by decide) rfl
  exact W.vret hx hb hr (fun t9 ht9 hW9 => ⟨⟨(q_8, cA_8, q_17, cA_17, q_26, cA_26, q_35, cA_35, q_43, cA_43, q_51, cA_51, q_59, cA_59, q_67, cA_67, q_76, cA_76, q_83, cA_83, q_92, cA_92, q_101, cA_101, q_110, cA_110), rfl, trivial, by rw [ht9]; exact hP9, va_K.moved hW9.alike hK9, hD9⟩, hS.F ht9⟩) hS.2.2 d_Mo_init_115
