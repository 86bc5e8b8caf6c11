theorem d_Ro_open_0 : decode b_Ro_open 0 = .ok (.aload_n 0, 1) := by decide +kernel
theorem d_Ro_open_1 : decode b_Ro_open 1 = .ok (.getfield 9, 3) := by decide +kernel
theorem d_Ro_open_4 : decode b_Ro_open 4 = .ok (.iload_n 1, 1) := by decide +kernel
theorem d_Ro_open_5 : decode b_Ro_open 5 = .ok (.aload_n 0, 1) := by decide +kernel
theorem d_Ro_open_6 : decode b_Ro_open 6 = .ok (.getfield 9, 3) := by decide +kernel
theorem d_Ro_open_9 : decode b_Ro_open 9 = .ok (.iload_n 1, 1) := by decide +kernel
theorem d_Ro_open_10 : decode b_Ro_open 10 = .ok (.iconst 1, 1) := by decide +kernel
theorem d_Ro_open_11 : decode b_Ro_open 11 = .ok (.iadd, 1) := by decide +kernel
theorem d_Ro_open_12 : decode b_Ro_open 12 = .ok (.aload_n 0, 1) := by decide +kernel
theorem d_Ro_open_13 : decode b_Ro_open 13 = .ok (.getfield 18, 3) := by decide +kernel
theorem d_Ro_open_16 : decode b_Ro_open 16 = .ok (.iload_n 1, 1) := by decide +kernel
theorem d_Ro_open_17 : decode b_Ro_open 17 = .ok (.isub, 1) := by decide +kernel
theorem d_Ro_open_18 : decode b_Ro_open 18 = .ok (.invokestatic 22, 3) := by decide +kernel
theorem d_Ro_open_21 : decode b_Ro_open 21 = .ok (.aload_n 0, 1) := by decide +kernel
theorem d_Ro_open_22 : decode b_Ro_open 22 = .ok (.getfield 15, 3) := by decide +kernel
theorem d_Ro_open_25 : decode b_Ro_open 25 = .ok (.iload_n 1, 1) := by decide +kernel
theorem d_Ro_open_26 : decode b_Ro_open 26 = .ok (.aload_n 0, 1) := by decide +kernel
theorem d_Ro_open_27 : decode b_Ro_open 27 = .ok (.getfield 15, 3) := by decide +kernel
theorem d_Ro_open_30 : decode b_Ro_open 30 = .ok (.iload_n 1, 1) := by decide +kernel
theorem d_Ro_open_31 : decode b_Ro_open 31 = .ok (.iconst 1, 1) := by decide +kernel
theorem d_Ro_open_32 : decode b_Ro_open 32 = .ok (.iadd, 1) := by decide +kernel
theorem d_Ro_open_33 : decode b_Ro_open 33 = .ok (.aload_n 0, 1) := by decide +kernel
theorem d_Ro_open_34 : decode b_Ro_open 34 = .ok (.getfield 18, 3) := by decide +kernel
theorem d_Ro_open_37 : decode b_Ro_open 37 = .ok (.iload_n 1, 1) := by decide +kernel
theorem d_Ro_open_38 : decode b_Ro_open 38 = .ok (.isub, 1) := by decide +kernel
theorem d_Ro_open_39 : decode b_Ro_open 39 = .ok (.invokestatic 22, 3) := by decide +kernel
theorem d_Ro_open_42 : decode b_Ro_open 42 = .ok (.aload_n 0, 1) := by decide +kernel
theorem d_Ro_open_43 : decode b_Ro_open 43 = .ok (.getfield 9, 3) := by decide +kernel
theorem d_Ro_open_46 : decode b_Ro_open 46 = .ok (.iload_n 1, 1) := by decide +kernel
theorem d_Ro_open_47 : decode b_Ro_open 47 = .ok (.iload_n 2, 1) := by decide +kernel
theorem d_Ro_open_48 : decode b_Ro_open 48 = .ok (.iastore, 1) := by decide +kernel
theorem d_Ro_open_49 : decode b_Ro_open 49 = .ok (.aload_n 0, 1) := by decide +kernel
theorem d_Ro_open_50 : decode b_Ro_open 50 = .ok (.getfield 15, 3) := by decide +kernel
theorem d_Ro_open_53 : decode b_Ro_open 53 = .ok (.iload_n 1, 1) := by decide +kernel
theorem d_Ro_open_54 : decode b_Ro_open 54 = .ok (.iload_n 3, 1) := by decide +kernel
theorem d_Ro_open_55 : decode b_Ro_open 55 = .ok (.iastore, 1) := by decide +kernel
theorem d_Ro_open_56 : decode b_Ro_open 56 = .ok (.aload_n 0, 1) := by decide +kernel
theorem d_Ro_open_57 : decode b_Ro_open 57 = .ok (.dup, 1) := by decide +kernel
theorem d_Ro_open_58 : decode b_Ro_open 58 = .ok (.getfield 18, 3) := by decide +kernel
theorem d_Ro_open_61 : decode b_Ro_open 61 = .ok (.iconst 1, 1) := by decide +kernel
theorem d_Ro_open_62 : decode b_Ro_open 62 = .ok (.iadd, 1) := by decide +kernel
theorem d_Ro_open_63 : decode b_Ro_open 63 = .ok (.putfield 18, 3) := by decide +kernel
theorem d_Ro_open_66 : decode b_Ro_open 66 = .ok (.return_, 1) := by decide +kernel
abbrev ws_Ro_open : List Cond := .code y_Ro_open b_Ro_open 4 none :: ALLG
abbrev rm_Ro_open : Room := { frames := 1, cells := 0, slots := 0, locals := 18 }
set_option maxHeartbeats 4000000 in
set_option maxRecDepth 100000 in
theorem c_Ro_open (l : Launch) (DD : va_G) (sz : Nat) (h : Nat) (hk : Nat) (ht : Nat) (ck : ClassId) (n : Nat) (k : Nat → Int32) (ct : ClassId) (t : Nat → Int32) (j : Nat) (x : Int32) (y : Int32) (hn : n < 150) (hj : j ≤ n) : Met l y_Ro_open ws_Ro_open rm_Ro_open (va_Pc [.ref h, .int (nI j), .int x, .int y] (fun U => U.heap.size = sz ∧ va_P DD vwCl [(h, .inr (4, [.ref hk, .ref ht, .int (nI n)])), (hk, .inl (ck, 150, .inl k)), (ht, .inl (ct, 150, .inl t))] U.heap ∧ va_K DD vwCl [(ck, .int), (ct, .int)] U ∧ va_D (fun _ => True) [(h, .inr (4, [.ref hk, .ref ht, .int (nI n)])), (hk, .inl (ck, 150, .inl k)), (ht, .inl (ct, 150, .inl t))])) (va_Qv (fun (u9 : Unit) => match u9 with | _ => True) (fun (u9 : Unit) (t9 : State) => match u9 with | _ => va_P DD vwCl [(h, .inr (4, [.ref hk, .ref ht, .int (nI (n + 1))])), (hk, .inl (ck, 150, .inl (upd (va_cpy k k j (j + 1) (n - j)) j x))), (ht, .inl (ct, 150, .inl (upd (va_cpy t t j (j + 1) (n - j)) j y)))] t9.heap ∧ va_K DD vwCl [(ck, .int), (ct, .int)] t9 ∧ va_D (va_A [(h, .inr (4, [.ref hk, .ref ht, .int (nI n)])), (hk, .inl (ck, 150, .inl k)), (ht, .inl (ct, 150, .inl t))] sz) [(h, .inr (4, [.ref hk, .ref ht, .int (nI (n + 1))])), (hk, .inl (ck, 150, .inl (upd (va_cpy k k j (j + 1) (n - j)) j x))), (ht, .inl (ct, 150, .inl (upd (va_cpy t t j (j + 1) (n - j)) j y)))]) (va_A [(h, .inr (4, [.ref hk, .ref ht, .int (nI n)])), (hk, .inl (ck, 150, .inl k)), (ht, .inl (ct, 150, .inl t))] sz)) 0 0 (va_A [(h, .inr (4, [.ref hk, .ref ht, .int (nI n)])), (hk, .inl (ck, 150, .inl k)), (ht, .inl (ct, 150, .inl t))] sz) := by
  refine Met.ofW (cc := b_Ro_open) (maxL := 4) (ret := none) (by decide) rfl ?_
  intro p e s m args below meth c s₁ B hml hv
  obtain ⟨ha, hsz, hP, hK, hD0⟩ := hv
  have hx := B.exec
  have hb := B.bytes
  have hr := B.returns
  have hts := atoms_spec (ws := ws_Ro_open) B.pre
  have hg : ∀ w ∈ ALLG, w.before args s = true := fun w h => hts w (List.mem_cons_of_mem _ h)
  have hown : s.vm.findClass R_Ro = some m.cls := findClass_of_methodNamed B.named
  have hlocks := B.notSynchronized
  subst hsz
  have hD := hD0.self (sz := s.heap.size)
  generalize hAe : va_A [(h, .inr (4, [.ref hk, .ref ht, .int (nI n)])), (hk, .inl (ck, 150, .inl k)), (ht, .inl (ct, 150, .inl t))] s.heap.size = A at hD ⊢
  have hA : ∀ q : Nat, s.heap.size ≤ q → A q := fun q h => by rw [← hAe]; exact Or.inr h
  have hS : va_S A s.heap s.heap [] := va_S.rf
  have hP : va_P DD vwCl [(h, .inr (4, [.ref hk, .ref ht, .int (nI n)])), (hk, .inl (ck, 150, .inl k)), (ht, .inl (ct, 150, .inl t))] s.heap := hP
  have hl := lv_entry ([.ref h, .int (nI j), .int x, .int y]) (n := 4) (Nat.le_of_ble_eq_true rfl)
  rw [ha, lg_entry_eq, ← ha]
  generalize (lg_sl ([.ref h, .int (nI j), .int x, .int y]) ++ List.replicate (4 - (lg_sl ([.ref h, .int (nI j), .int x, .int y])).length) Slot.unset).toArray = ls at hl ⊢
  have hl : lv_has ls 4 [(0, .ref h), (1, .int (nI j)), (2, .int x), (3, .int y)] := hl
  refine lv_aload_n hx hb d_Ro_open_0 rfl (lv_at hl 0 rfl) ?_
  refine va_get (D := DD) (ci := 4) (v := .ref hk) (C := R_Ro) (T := T_Ro) (N := 3) hx hb hg in_Ro hown hK hP 0 rfl rfl 0 (by decide) (hg _ mw_35) (fun _ h9 => h9) rfl d_Ro_open_1 ?_
  refine lv_iload_n hx hb d_Ro_open_4 rfl (lv_at hl 1 rfl) ?_
  refine lv_aload_n hx hb d_Ro_open_5 rfl (lv_at hl 0 rfl) ?_
  refine va_get (D := DD) (ci := 4) (v := .ref hk) (C := R_Ro) (T := T_Ro) (N := 3) hx hb hg in_Ro hown hK hP 0 rfl rfl 0 (by decide) (hg _ mw_35) (fun _ h9 => h9) rfl d_Ro_open_6 ?_
  refine lv_iload_n hx hb d_Ro_open_9 rfl (lv_at hl 1 rfl) ?_
  refine lv_iconst (v := nI 1) hx hb d_Ro_open_10 (by decide) ?_
  refine z_iadd hx hb d_Ro_open_11 ?_
  refine lv_aload_n hx hb d_Ro_open_12 rfl (lv_at hl 0 rfl) ?_
  refine va_get (D := DD) (ci := 4) (v := .int (nI n)) (C := R_Ro) (T := T_Ro) (N := 3) hx hb hg in_Ro hown hK hP 0 rfl rfl 2 (by decide) (hg _ mw_37) (fun _ h9 => h9) rfl d_Ro_open_13 ?_
  refine lv_iload_n hx hb d_Ro_open_16 rfl (lv_at hl 1 rfl) ?_
  refine z_isub hx hb d_Ro_open_17 (by omega) ?_
  refine z_copyi hx hb (hml.trans hl.1.symm) hown (hg _ mw_371) (hg _ mw_373) (hg _ mw_372) (hg _ mw_16) hK hP hD hS 1 1 0 0 rfl rfl rfl rfl (by omega) (by omega) (by decide) (by decide) (Nat.le_of_ble_eq_true rfl) (Nat.le_of_ble_eq_true rfl) d_Ro_open_18 (fun H locs hP hD hS => ?_)
  have hP : va_P DD vwCl [(h, .inr (4, [.ref hk, .ref ht, .int (nI n)])), (hk, .inl (ck, 150, .inl (va_cpy k k j (j + 1) (n - j)))), (ht, .inl (ct, 150, .inl t))] H := hP
  have hD : va_D A [(h, .inr (4, [.ref hk, .ref ht, .int (nI n)])), (hk, .inl (ck, 150, .inl (va_cpy k k j (j + 1) (n - j)))), (ht, .inl (ct, 150, .inl t))] := hD
  refine lv_aload_n hx hb d_Ro_open_21 rfl (lv_at hl 0 rfl) ?_
  refine va_get (D := DD) (ci := 4) (v := .ref ht) (C := R_Ro) (T := T_Ro) (N := 3) hx hb hg in_Ro hown hK hP 0 rfl rfl 1 (by decide) (hg _ mw_36) (fun _ h9 => h9) rfl d_Ro_open_22 ?_
  refine lv_iload_n hx hb d_Ro_open_25 rfl (lv_at hl 1 rfl) ?_
  refine lv_aload_n hx hb d_Ro_open_26 rfl (lv_at hl 0 rfl) ?_
  refine va_get (D := DD) (ci := 4) (v := .ref ht) (C := R_Ro) (T := T_Ro) (N := 3) hx hb hg in_Ro hown hK hP 0 rfl rfl 1 (by decide) (hg _ mw_36) (fun _ h9 => h9) rfl d_Ro_open_27 ?_
  refine lv_iload_n hx hb d_Ro_open_30 rfl (lv_at hl 1 rfl) ?_
  refine lv_iconst (v := nI 1) hx hb d_Ro_open_31 (by decide) ?_
  refine z_iadd hx hb d_Ro_open_32 ?_
  refine lv_aload_n hx hb d_Ro_open_33 rfl (lv_at hl 0 rfl) ?_
  refine va_get (D := DD) (ci := 4) (v := .int (nI n)) (C := R_Ro) (T := T_Ro) (N := 3) hx hb hg in_Ro hown hK hP 0 rfl rfl 2 (by decide) (hg _ mw_37) (fun _ h9 => h9) rfl d_Ro_open_34 ?_
  refine lv_iload_n hx hb d_Ro_open_37 rfl (lv_at hl 1 rfl) ?_
  refine z_isub hx hb d_Ro_open_38 (by omega) ?_
  refine z_copyi hx hb (hml.trans hl.1.symm) hown (hg _ mw_371) (hg _ mw_373) (hg _ mw_372) (hg _ mw_16) hK hP hD hS 2 2 1 1 rfl rfl rfl rfl (by omega) (by omega) (by decide) (by decide) (Nat.le_of_ble_eq_true rfl) (Nat.le_of_ble_eq_true rfl) d_Ro_open_39 (fun H locs hP hD hS => ?_)
  have hP : va_P DD vwCl [(h, .inr (4, [.ref hk, .ref ht, .int (nI n)])), (hk, .inl (ck, 150, .inl (va_cpy k k j (j + 1) (n - j)))), (ht, .inl (ct, 150, .inl (va_cpy t t j (j + 1) (n - j))))] H := hP
  have hD : va_D A [(h, .inr (4, [.ref hk, .ref ht, .int (nI n)])), (hk, .inl (ck, 150, .inl (va_cpy k k j (j + 1) (n - j)))), (ht, .inl (ct, 150, .inl (va_cpy t t j (j + 1) (n - j))))] := hD
  refine lv_aload_n hx hb d_Ro_open_42 rfl (lv_at hl 0 rfl) ?_
  refine va_get (D := DD) (ci := 4) (v := .ref hk) (C := R_Ro) (T := T_Ro) (N := 3) hx hb hg in_Ro hown hK hP 0 rfl rfl 0 (by decide) (hg _ mw_35) (fun _ h9 => h9) rfl d_Ro_open_43 ?_
  refine lv_iload_n hx hb d_Ro_open_46 rfl (lv_at hl 1 rfl) ?_
  refine lv_iload_n hx hb d_Ro_open_47 rfl (lv_at hl 2 rfl) ?_
  refine z_iast hx hb hK hP hD hS 1 0 rfl rfl (by omega) (by decide) d_Ro_open_48 (fun H locs hP hD hS => ?_)
  have hP : va_P DD vwCl [(h, .inr (4, [.ref hk, .ref ht, .int (nI n)])), (hk, .inl (ck, 150, .inl (upd (va_cpy k k j (j + 1) (n - j)) j x))), (ht, .inl (ct, 150, .inl (va_cpy t t j (j + 1) (n - j))))] H := hP
  have hD : va_D A [(h, .inr (4, [.ref hk, .ref ht, .int (nI n)])), (hk, .inl (ck, 150, .inl (upd (va_cpy k k j (j + 1) (n - j)) j x))), (ht, .inl (ct, 150, .inl (va_cpy t t j (j + 1) (n - j))))] := hD
  refine lv_aload_n hx hb d_Ro_open_49 rfl (lv_at hl 0 rfl) ?_
  refine va_get (D := DD) (ci := 4) (v := .ref ht) (C := R_Ro) (T := T_Ro) (N := 3) hx hb hg in_Ro hown hK hP 0 rfl rfl 1 (by decide) (hg _ mw_36) (fun _ h9 => h9) rfl d_Ro_open_50 ?_
  refine lv_iload_n hx hb d_Ro_open_53 rfl (lv_at hl 1 rfl) ?_
  refine lv_iload_n hx hb d_Ro_open_54 rfl (lv_at hl 3 rfl) ?_
  refine z_iast hx hb hK hP hD hS 2 1 rfl rfl (by omega) (by decide) d_Ro_open_55 (fun H locs hP hD hS => ?_)
  have hP : va_P DD vwCl [(h, .inr (4, [.ref hk, .ref ht, .int (nI n)])), (hk, .inl (ck, 150, .inl (upd (va_cpy k k j (j + 1) (n - j)) j x))), (ht, .inl (ct, 150, .inl (upd (va_cpy t t j (j + 1) (n - j)) j y)))] H := hP
  have hD : va_D A [(h, .inr (4, [.ref hk, .ref ht, .int (nI n)])), (hk, .inl (ck, 150, .inl (upd (va_cpy k k j (j + 1) (n - j)) j x))), (ht, .inl (ct, 150, .inl (upd (va_cpy t t j (j + 1) (n - j)) j y)))] := hD
  refine lv_aload_n hx hb d_Ro_open_56 rfl (lv_at hl 0 rfl) ?_
  refine lv_dup hx hb d_Ro_open_57 rfl ?_
  refine va_get (D := DD) (ci := 4) (v := .int (nI n)) (C := R_Ro) (T := T_Ro) (N := 3) hx hb hg in_Ro hown hK hP 0 rfl rfl 2 (by decide) (hg _ mw_37) (fun _ h9 => h9) rfl d_Ro_open_58 ?_
  refine lv_iconst (v := nI 1) hx hb d_Ro_open_61 (by decide) ?_
  refine z_iadd hx hb d_Ro_open_62 ?_
  refine va_put (D := DD) (ci := 4) (v := .int (nI (n + 1))) (ty := .int) (C := R_Ro) (T := T_Ro) (N := 3) hx hb hg in_Ro t_Ro to_Ro n_Ro hown hK hP hD hS 0 rfl rfl 2 (by decide) (hg _ mw_37) (fun _ h9 => h9) rfl (by decide +kernel) rfl rfl (Nat.le_of_ble_eq_true rfl) d_Ro_open_63 (fun H locs hP hD hS => ?_)
  have hP : va_P DD vwCl [(h, .inr (4, [.ref hk, .ref ht, .int (nI (n + 1))])), (hk, .inl (ck, 150, .inl (upd (va_cpy k k j (j + 1) (n - j)) j x))), (ht, .inl (ct, 150, .inl (upd (va_cpy t t j (j + 1) (n - j)) j y)))] H := hP
  have hD : va_D A [(h, .inr (4, [.ref hk, .ref ht, .int (nI (n + 1))])), (hk, .inl (ck, 150, .inl (upd (va_cpy k k j (j + 1) (n - j)) j x))), (ht, .inl (ct, 150, .inl (upd (va_cpy t t j (j + 1) (n - j)) j y)))] := hD
  have hP9 := hP.sub (ws' := [(h, .inr (4, [.ref hk, .ref ht, .int (nI (n + 1))])), (hk, .inl (ck, 150, .inl (upd (va_cpy k k j (j + 1) (n - j)) j x))), (ht, .inl (ct, 150, .inl (upd (va_cpy t t j (j + 1) (n - j)) j y)))]) [0, 1, 2] rfl
  have hD9 := hD.sub (ws' := [(h, .inr (4, [.ref hk, .ref ht, .int (nI (n + 1))])), (hk, .inl (ck, 150, .inl (upd (va_cpy k k j (j + 1) (n - j)) j x))), (ht, .inl (ct, 150, .inl (upd (va_cpy t t j (j + 1) (n - j)) j y)))]) [0, 1, 2] (by decide) rfl
  exact W.vret hx hb hr (fun t9 ht9 hW9 => ⟨⟨(), rfl, trivial, by rw [ht9]; exact hP9, va_K.moved hW9.alike hK, hD9⟩, hS.F ht9⟩) hS.2.2 d_Ro_open_66
theorem d_Ro_close_0 : decode b_Ro_close 0 = .ok (.aload_n 0, 1) := by decide +kernel
theorem d_Ro_close_1 : decode b_Ro_close 1 = .ok (.dup, 1) := by decide +kernel
theorem d_Ro_close_2 : decode b_Ro_close 2 = .ok (.getfield 18, 3) := by decide +kernel
theorem d_Ro_close_5 : decode b_Ro_close 5 = .ok (.iconst 1, 1) := by decide +kernel
theorem d_Ro_close_6 : decode b_Ro_close 6 = .ok (.isub, 1) := by decide +kernel
theorem d_Ro_close_7 : decode b_Ro_close 7 = .ok (.putfield 18, 3) := by decide +kernel
theorem d_Ro_close_10 : decode b_Ro_close 10 = .ok (.aload_n 0, 1) := by decide +kernel
theorem d_Ro_close_11 : decode b_Ro_close 11 = .ok (.getfield 9, 3) := by decide +kernel
theorem d_Ro_close_14 : decode b_Ro_close 14 = .ok (.iload_n 1, 1) := by decide +kernel
theorem d_Ro_close_15 : decode b_Ro_close 15 = .ok (.iconst 1, 1) := by decide +kernel
theorem d_Ro_close_16 : decode b_Ro_close 16 = .ok (.iadd, 1) := by decide +kernel
theorem d_Ro_close_17 : decode b_Ro_close 17 = .ok (.aload_n 0, 1) := by decide +kernel
theorem d_Ro_close_18 : decode b_Ro_close 18 = .ok (.getfield 9, 3) := by decide +kernel
theorem d_Ro_close_21 : decode b_Ro_close 21 = .ok (.iload_n 1, 1) := by decide +kernel
theorem d_Ro_close_22 : decode b_Ro_close 22 = .ok (.aload_n 0, 1) := by decide +kernel
theorem d_Ro_close_23 : decode b_Ro_close 23 = .ok (.getfield 18, 3) := by decide +kernel
theorem d_Ro_close_26 : decode b_Ro_close 26 = .ok (.iload_n 1, 1) := by decide +kernel
theorem d_Ro_close_27 : decode b_Ro_close 27 = .ok (.isub, 1) := by decide +kernel
theorem d_Ro_close_28 : decode b_Ro_close 28 = .ok (.invokestatic 22, 3) := by decide +kernel
theorem d_Ro_close_31 : decode b_Ro_close 31 = .ok (.aload_n 0, 1) := by decide +kernel
theorem d_Ro_close_32 : decode b_Ro_close 32 = .ok (.getfield 15, 3) := by decide +kernel
theorem d_Ro_close_35 : decode b_Ro_close 35 = .ok (.iload_n 1, 1) := by decide +kernel
theorem d_Ro_close_36 : decode b_Ro_close 36 = .ok (.iconst 1, 1) := by decide +kernel
theorem d_Ro_close_37 : decode b_Ro_close 37 = .ok (.iadd, 1) := by decide +kernel
theorem d_Ro_close_38 : decode b_Ro_close 38 = .ok (.aload_n 0, 1) := by decide +kernel
theorem d_Ro_close_39 : decode b_Ro_close 39 = .ok (.getfield 15, 3) := by decide +kernel
theorem d_Ro_close_42 : decode b_Ro_close 42 = .ok (.iload_n 1, 1) := by decide +kernel
theorem d_Ro_close_43 : decode b_Ro_close 43 = .ok (.aload_n 0, 1) := by decide +kernel
theorem d_Ro_close_44 : decode b_Ro_close 44 = .ok (.getfield 18, 3) := by decide +kernel
theorem d_Ro_close_47 : decode b_Ro_close 47 = .ok (.iload_n 1, 1) := by decide +kernel
theorem d_Ro_close_48 : decode b_Ro_close 48 = .ok (.isub, 1) := by decide +kernel
theorem d_Ro_close_49 : decode b_Ro_close 49 = .ok (.invokestatic 22, 3) := by decide +kernel
theorem d_Ro_close_52 : decode b_Ro_close 52 = .ok (.return_, 1) := by decide +kernel
abbrev ws_Ro_close : List Cond := .code y_Ro_close b_Ro_close 2 none :: ALLG
abbrev rm_Ro_close : Room := { frames := 1, cells := 0, slots := 0, locals := 18 }
set_option maxHeartbeats 4000000 in
set_option maxRecDepth 100000 in
theorem c_Ro_close (l : Launch) (DD : va_G) (sz : Nat) (h : Nat) (hk : Nat) (ht : Nat) (ck : ClassId) (n : Nat) (k : Nat → Int32) (ct : ClassId) (t : Nat → Int32) (j : Nat) (hn : n ≤ 150) (hj : j < n) : Met l y_Ro_close ws_Ro_close rm_Ro_close (va_Pc [.ref h, .int (nI j)] (fun U => U.heap.size = sz ∧ va_P DD vwCl [(h, .inr (4, [.ref hk, .ref ht, .int (nI n)])), (hk, .inl (ck, 150, .inl k)), (ht, .inl (ct, 150, .inl t))] U.heap ∧ va_K DD vwCl [(ck, .int), (ct, .int)] U ∧ va_D (fun _ => True) [(h, .inr (4, [.ref hk, .ref ht, .int (nI n)])), (hk, .inl (ck, 150, .inl k)), (ht, .inl (ct, 150, .inl t))])) (va_Qv (fun (u9 : Unit) => match u9 with | _ => True) (fun (u9 : Unit) (t9 : State) => match u9 with | _ => va_P DD vwCl [(h, .inr (4, [.ref hk, .ref ht, .int (nI (n - 1))])), (hk, .inl (ck, 150, .inl (va_cpy k k (j + 1) j (n - 1 - j)))), (ht, .inl (ct, 150, .inl (va_cpy t t (j + 1) j (n - 1 - j))))] t9.heap ∧ va_K DD vwCl [(ck, .int), (ct, .int)] t9 ∧ va_D (va_A [(h, .inr (4, [.ref hk, .ref ht, .int (nI n)])), (hk, .inl (ck, 150, .inl k)), (ht, .inl (ct, 150, .inl t))] sz) [(h, .inr (4, [.ref hk, .ref ht, .int (nI (n - 1))])), (hk, .inl (ck, 150, .inl (va_cpy k k (j + 1) j (n - 1 - j)))), (ht, .inl (ct, 150, .inl (va_cpy t t (j + 1) j (n - 1 - j))))]) (va_A [(h, .inr (4, [.ref hk, .ref ht, .int (nI n)])), (hk, .inl (ck, 150, .inl k)), (ht, .inl (ct, 150, .inl t))] sz)) 0 0 (va_A [(h, .inr (4, [.ref hk, .ref ht, .int (nI n)])), (hk, .inl (ck, 150, .inl k)), (ht, .inl (ct, 150, .inl t))] sz) := by
  refine Met.ofW (cc := b_Ro_close) (maxL := 2) (ret := none) (by decide) rfl ?_
  intro p e s m args below meth c s₁ B hml hv
  obtain ⟨ha, hsz, hP, hK, hD0⟩ := hv
  have hx := B.exec
  have hb := B.bytes
  have hr := B.returns
  have hts := atoms_spec (ws := ws_Ro_close) B.pre
  have hg : ∀ w ∈ ALLG, w.before args s = true := fun w h => hts w (List.mem_cons_of_mem _ h)
  have hown : s.vm.findClass R_Ro = some m.cls := findClass_of_methodNamed B.named
  have hlocks := B.notSynchronized
  subst hsz
  have hD := hD0.self (sz := s.heap.size)
  generalize hAe : va_A [(h, .inr (4, [.ref hk, .ref ht, .int (nI n)])), (hk, .inl (ck, 150, .inl k)), (ht, .inl (ct, 150, .inl t))] s.heap.size = A at hD ⊢
  have hA : ∀ q : Nat, s.heap.size ≤ q → A q := fun q h => by rw [← hAe]; exact Or.inr h
  have hS : va_S A s.heap s.heap [] := va_S.rf
  have hP : va_P DD vwCl [(h, .inr (4, [.ref hk, .ref ht, .int (nI n)])), (hk, .inl (ck, 150, .inl k)), (ht, .inl (ct, 150, .inl t))] s.heap := hP
  have hl := lv_entry ([.ref h, .int (nI j)]) (n := 2) (Nat.le_of_ble_eq_true rfl)
  rw [ha, lg_entry_eq, ← ha]
  generalize (lg_sl ([.ref h, .int (nI j)]) ++ List.replicate (2 - (lg_sl ([.ref h, .int (nI j)])).length) Slot.unset).toArray = ls at hl ⊢
  have hl : lv_has ls 2 [(0, .ref h), (1, .int (nI j))] := hl
  refine lv_aload_n hx hb d_Ro_close_0 rfl (lv_at hl 0 rfl) ?_
  refine lv_dup hx hb d_Ro_close_1 rfl ?_
  refine va_get (D := DD) (ci := 4) (v := .int (nI n)) (C := R_Ro) (T := T_Ro) (N := 3) hx hb hg in_Ro hown hK hP 0 rfl rfl 2 (by decide) (hg _ mw_37) (fun _ h9 => h9) rfl d_Ro_close_2 ?_
  refine lv_iconst (v := nI 1) hx hb d_Ro_close_5 (by decide) ?_
  refine z_isub hx hb d_Ro_close_6 (by omega) ?_
  refine va_put (D := DD) (ci := 4) (v := .int (nI (n - 1))) (ty := .int) (C := R_Ro) (T := T_Ro) (N := 3) hx hb hg in_Ro t_Ro to_Ro n_Ro hown hK hP hD hS 0 rfl rfl 2 (by decide) (hg _ mw_37) (fun _ h9 => h9) rfl (by decide +kernel) rfl rfl (Nat.le_of_ble_eq_true rfl) d_Ro_close_7 (fun H locs hP hD hS => ?_)
  have hP : va_P DD vwCl [(h, .inr (4, [.ref hk, .ref ht, .int (nI (n - 1))])), (hk, .inl (ck, 150, .inl k)), (ht, .inl (ct, 150, .inl t))] H := hP
  have hD : va_D A [(h, .inr (4, [.ref hk, .ref ht, .int (nI (n - 1))])), (hk, .inl (ck, 150, .inl k)), (ht, .inl (ct, 150, .inl t))] := hD
  refine lv_aload_n hx hb d_Ro_close_10 rfl (lv_at hl 0 rfl) ?_
  refine va_get (D := DD) (ci := 4) (v := .ref hk) (C := R_Ro) (T := T_Ro) (N := 3) hx hb hg in_Ro hown hK hP 0 rfl rfl 0 (by decide) (hg _ mw_35) (fun _ h9 => h9) rfl d_Ro_close_11 ?_
  refine lv_iload_n hx hb d_Ro_close_14 rfl (lv_at hl 1 rfl) ?_
  refine lv_iconst (v := nI 1) hx hb d_Ro_close_15 (by decide) ?_
  refine z_iadd hx hb d_Ro_close_16 ?_
  refine lv_aload_n hx hb d_Ro_close_17 rfl (lv_at hl 0 rfl) ?_
  refine va_get (D := DD) (ci := 4) (v := .ref hk) (C := R_Ro) (T := T_Ro) (N := 3) hx hb hg in_Ro hown hK hP 0 rfl rfl 0 (by decide) (hg _ mw_35) (fun _ h9 => h9) rfl d_Ro_close_18 ?_
  refine lv_iload_n hx hb d_Ro_close_21 rfl (lv_at hl 1 rfl) ?_
  refine lv_aload_n hx hb d_Ro_close_22 rfl (lv_at hl 0 rfl) ?_
  refine va_get (D := DD) (ci := 4) (v := .int (nI (n - 1))) (C := R_Ro) (T := T_Ro) (N := 3) hx hb hg in_Ro hown hK hP 0 rfl rfl 2 (by decide) (hg _ mw_37) (fun _ h9 => h9) rfl d_Ro_close_23 ?_
  refine lv_iload_n hx hb d_Ro_close_26 rfl (lv_at hl 1 rfl) ?_
  refine z_isub hx hb d_Ro_close_27 (by omega) ?_
  refine z_copyi hx hb (hml.trans hl.1.symm) hown (hg _ mw_371) (hg _ mw_373) (hg _ mw_372) (hg _ mw_16) hK hP hD hS 1 1 0 0 rfl rfl rfl rfl (by omega) (by omega) (by decide) (by decide) (Nat.le_of_ble_eq_true rfl) (Nat.le_of_ble_eq_true rfl) d_Ro_close_28 (fun H locs hP hD hS => ?_)
  have hP : va_P DD vwCl [(h, .inr (4, [.ref hk, .ref ht, .int (nI (n - 1))])), (hk, .inl (ck, 150, .inl (va_cpy k k (j + 1) j ((n - 1) - j)))), (ht, .inl (ct, 150, .inl t))] H := hP
  have hD : va_D A [(h, .inr (4, [.ref hk, .ref ht, .int (nI (n - 1))])), (hk, .inl (ck, 150, .inl (va_cpy k k (j + 1) j ((n - 1) - j)))), (ht, .inl (ct, 150, .inl t))] := hD
  refine lv_aload_n hx hb d_Ro_close_31 rfl (lv_at hl 0 rfl) ?_
  refine va_get (D := DD) (ci := 4) (v := .ref ht) (C := R_Ro) (T := T_Ro) (N := 3) hx hb hg in_Ro hown hK hP 0 rfl rfl 1 (by decide) (hg _ mw_36) (fun _ h9 => h9) rfl d_Ro_close_32 ?_
  refine lv_iload_n hx hb d_Ro_close_35 rfl (lv_at hl 1 rfl) ?_
  refine lv_iconst (v := nI 1) hx hb d_Ro_close_36 (by decide) ?_
  refine z_iadd hx hb d_Ro_close_37 ?_
  refine lv_aload_n hx hb d_Ro_close_38 rfl (lv_at hl 0 rfl) ?_
  refine va_get (D := DD) (ci := 4) (v := .ref ht) (C := R_Ro) (T := T_Ro) (N := 3) hx hb hg in_Ro hown hK hP 0 rfl rfl 1 (by decide) (hg _ mw_36) (fun _ h9 => h9) rfl d_Ro_close_39 ?_
  refine lv_iload_n hx hb d_Ro_close_42 rfl (lv_at hl 1 rfl) ?_
  refine lv_aload_n hx hb d_Ro_close_43 rfl (lv_at hl 0 rfl) ?_
  refine va_get (D := DD) (ci := 4) (v := .int (nI (n - 1))) (C := R_Ro) (T := T_Ro) (N := 3) hx hb hg in_Ro hown hK hP 0 rfl rfl 2 (by decide) (hg _ mw_37) (fun _ h9 => h9) rfl d_Ro_close_44 ?_
  refine lv_iload_n hx hb d_Ro_close_47 rfl (lv_at hl 1 rfl) ?_
  refine z_isub hx hb d_Ro_close_48 (by omega) ?_
  refine z_copyi hx hb (hml.trans hl.1.symm) hown (hg _ mw_371) (hg _ mw_373) (hg _ mw_372) (hg _ mw_16) hK hP hD hS 2 2 1 1 rfl rfl rfl rfl (by omega) (by omega) (by decide) (by decide) (Nat.le_of_ble_eq_true rfl) (Nat.le_of_ble_eq_true rfl) d_Ro_close_49 (fun H locs hP hD hS => ?_)
  have hP : va_P DD vwCl [(h, .inr (4, [.ref hk, .ref ht, .int (nI (n - 1))])), (hk, .inl (ck, 150, .inl (va_cpy k k (j + 1) j ((n - 1) - j)))), (ht, .inl (ct, 150, .inl (va_cpy t t (j + 1) j ((n - 1) - j))))] H := hP
  have hD : va_D A [(h, .inr (4, [.ref hk, .ref ht, .int (nI (n - 1))])), (hk, .inl (ck, 150, .inl (va_cpy k k (j + 1) j ((n - 1) - j)))), (ht, .inl (ct, 150, .inl (va_cpy t t (j + 1) j ((n - 1) - j))))] := hD
  have hP9 := hP.sub (ws' := [(h, .inr (4, [.ref hk, .ref ht, .int (nI (n - 1))])), (hk, .inl (ck, 150, .inl (va_cpy k k (j + 1) j ((n - 1) - j)))), (ht, .inl (ct, 150, .inl (va_cpy t t (j + 1) j ((n - 1) - j))))]) [0, 1, 2] rfl
  have hD9 := hD.sub (ws' := [(h, .inr (4, [.ref hk, .ref ht, .int (nI (n - 1))])), (hk, .inl (ck, 150, .inl (va_cpy k k (j + 1) j ((n - 1) - j)))), (ht, .inl (ct, 150, .inl (va_cpy t t (j + 1) j ((n - 1) - j))))]) [0, 1, 2] (by decide) rfl
  exact W.vret hx hb hr (fun t9 ht9 hW9 => ⟨⟨(), rfl, trivial, by rw [ht9]; exact hP9, va_K.moved hW9.alike hK, hD9⟩, hS.F ht9⟩) hS.2.2 d_Ro_close_52
theorem d_Ro_copyFrom_0 : decode b_Ro_copyFrom 0 = .ok (.aload_n 0, 1) := by decide +kernel
theorem d_Ro_copyFrom_1 : decode b_Ro_copyFrom 1 = .ok (.aload_n 1, 1) := by decide +kernel
theorem d_Ro_copyFrom_2 : decode b_Ro_copyFrom 2 = .ok (.getfield 18, 3) := by decide +kernel
theorem d_Ro_copyFrom_5 : decode b_Ro_copyFrom 5 = .ok (.putfield 18, 3) := by decide +kernel
theorem d_Ro_copyFrom_8 : decode b_Ro_copyFrom 8 = .ok (.aload_n 1, 1) := by decide +kernel
theorem d_Ro_copyFrom_9 : decode b_Ro_copyFrom 9 = .ok (.getfield 9, 3) := by decide +kernel
theorem d_Ro_copyFrom_12 : decode b_Ro_copyFrom 12 = .ok (.iconst 0, 1) := by decide +kernel
theorem d_Ro_copyFrom_13 : decode b_Ro_copyFrom 13 = .ok (.aload_n 0, 1) := by decide +kernel
theorem d_Ro_copyFrom_14 : decode b_Ro_copyFrom 14 = .ok (.getfield 9, 3) := by decide +kernel
theorem d_Ro_copyFrom_17 : decode b_Ro_copyFrom 17 = .ok (.iconst 0, 1) := by decide +kernel
theorem d_Ro_copyFrom_18 : decode b_Ro_copyFrom 18 = .ok (.aload_n 0, 1) := by decide +kernel
theorem d_Ro_copyFrom_19 : decode b_Ro_copyFrom 19 = .ok (.getfield 18, 3) := by decide +kernel
theorem d_Ro_copyFrom_22 : decode b_Ro_copyFrom 22 = .ok (.invokestatic 22, 3) := by decide +kernel
theorem d_Ro_copyFrom_25 : decode b_Ro_copyFrom 25 = .ok (.aload_n 1, 1) := by decide +kernel
theorem d_Ro_copyFrom_26 : decode b_Ro_copyFrom 26 = .ok (.getfield 15, 3) := by decide +kernel
theorem d_Ro_copyFrom_29 : decode b_Ro_copyFrom 29 = .ok (.iconst 0, 1) := by decide +kernel
theorem d_Ro_copyFrom_30 : decode b_Ro_copyFrom 30 = .ok (.aload_n 0, 1) := by decide +kernel
theorem d_Ro_copyFrom_31 : decode b_Ro_copyFrom 31 = .ok (.getfield 15, 3) := by decide +kernel
theorem d_Ro_copyFrom_34 : decode b_Ro_copyFrom 34 = .ok (.iconst 0, 1) := by decide +kernel
theorem d_Ro_copyFrom_35 : decode b_Ro_copyFrom 35 = .ok (.aload_n 0, 1) := by decide +kernel
theorem d_Ro_copyFrom_36 : decode b_Ro_copyFrom 36 = .ok (.getfield 18, 3) := by decide +kernel
theorem d_Ro_copyFrom_39 : decode b_Ro_copyFrom 39 = .ok (.invokestatic 22, 3) := by decide +kernel
theorem d_Ro_copyFrom_42 : decode b_Ro_copyFrom 42 = .ok (.return_, 1) := by decide +kernel
abbrev ws_Ro_copyFrom : List Cond := .code y_Ro_copyFrom b_Ro_copyFrom 2 none :: ALLG
abbrev rm_Ro_copyFrom : Room := { frames := 1, cells := 0, slots := 0, locals := 18 }
set_option maxHeartbeats 4000000 in
set_option maxRecDepth 100000 in
theorem c_Ro_copyFrom (l : Launch) (DD : va_G) (sz : Nat) (h : Nat) (hk : Nat) (ht : Nat) (ck : ClassId) (n : Nat) (k : Nat → Int32) (ct : ClassId) (t : Nat → Int32) (h1 : Nat) (hk1 : Nat) (ht1 : Nat) (ck1 : ClassId) (n1 : Nat) (k1 : Nat → Int32) (ct1 : ClassId) (t1 : Nat → Int32) (hn1 : n1 ≤ 150) : Met l y_Ro_copyFrom ws_Ro_copyFrom rm_Ro_copyFrom (va_Pc [.ref h, .ref h1] (fun U => U.heap.size = sz ∧ va_P DD vwCl [(h, .inr (4, [.ref hk, .ref ht, .int (nI n)])), (hk, .inl (ck, 150, .inl k)), (ht, .inl (ct, 150, .inl t)), (h1, .inr (4, [.ref hk1, .ref ht1, .int (nI n1)])), (hk1, .inl (ck1, 150, .inl k1)), (ht1, .inl (ct1, 150, .inl t1))] U.heap ∧ va_K DD vwCl [(ck, .int), (ct, .int), (ck1, .int), (ct1, .int)] U ∧ va_D (fun _ => True) [(h, .inr (4, [.ref hk, .ref ht, .int (nI n)])), (hk, .inl (ck, 150, .inl k)), (ht, .inl (ct, 150, .inl t)), (h1, .inr (4, [.ref hk1, .ref ht1, .int (nI n1)])), (hk1, .inl (ck1, 150, .inl k1)), (ht1, .inl (ct1, 150, .inl t1))])) (va_Qv (fun (u9 : Unit) => match u9 with | _ => True) (fun (u9 : Unit) (t9 : State) => match u9 with | _ => va_P DD vwCl [(h, .inr (4, [.ref hk, .ref ht, .int (nI n1)])), (hk, .inl (ck, 150, .inl (va_cpy k1 k 0 0 n1))), (ht, .inl (ct, 150, .inl (va_cpy t1 t 0 0 n1))), (h1, .inr (4, [.ref hk1, .ref ht1, .int (nI n1)])), (hk1, .inl (ck1, 150, .inl k1)), (ht1, .inl (ct1, 150, .inl t1))] t9.heap ∧ va_K DD vwCl [(ck, .int), (ct, .int), (ck1, .int), (ct1, .int)] t9 ∧ va_D (va_A [(h, .inr (4, [.ref hk, .ref ht, .int (nI n)])), (hk, .inl (ck, 150, .inl k)), (ht, .inl (ct, 150, .inl t)), (h1, .inr (4, [.ref hk1, .ref ht1, .int (nI n1)])), (hk1, .inl (ck1, 150, .inl k1)), (ht1, .inl (ct1, 150, .inl t1))] sz) [(h, .inr (4, [.ref hk, .ref ht, .int (nI n1)])), (hk, .inl (ck, 150, .inl (va_cpy k1 k 0 0 n1))), (ht, .inl (ct, 150, .inl (va_cpy t1 t 0 0 n1))), (h1, .inr (4, [.ref hk1, .ref ht1, .int (nI n1)])), (hk1, .inl (ck1, 150, .inl k1)), (ht1, .inl (ct1, 150, .inl t1))]) (va_A [(h, .inr (4, [.ref hk, .ref ht, .int (nI n)])), (hk, .inl (ck, 150, .inl k)), (ht, .inl (ct, 150, .inl t)), (h1, .inr (4, [.ref hk1, .ref ht1, .int (nI n1)])), (hk1, .inl (ck1, 150, .inl k1)), (ht1, .inl (ct1, 150, .inl t1))] sz)) 0 0 (va_A [(h, .inr (4, [.ref hk, .ref ht, .int (nI n)])), (hk, .inl (ck, 150, .inl k)), (ht, .inl (ct, 150, .inl t)), (h1, .inr (4, [.ref hk1, .ref ht1, .int (nI n1)])), (hk1, .inl (ck1, 150, .inl k1)), (ht1, .inl (ct1, 150, .inl t1))] sz) := by
  refine Met.ofW (cc := b_Ro_copyFrom) (maxL := 2) (ret := none) (by decide) rfl ?_
  intro p e s m args below meth c s₁ B hml hv
  obtain ⟨ha, hsz, hP, hK, hD0⟩ := hv
  have hx := B.exec
  have hb := B.bytes
  have hr := B.returns
  have hts := atoms_spec (ws := ws_Ro_copyFrom) B.pre
  have hg : ∀ w ∈ ALLG, w.before args s = true := fun w h => hts w (List.mem_cons_of_mem _ h)
  have hown : s.vm.findClass R_Ro = some m.cls := findClass_of_methodNamed B.named
  have hlocks := B.notSynchronized
  subst hsz
  have hD := hD0.self (sz := s.heap.size)
  generalize hAe : va_A [(h, .inr (4, [.ref hk, .ref ht, .int (nI n)])), (hk, .inl (ck, 150, .inl k)), (ht, .inl (ct, 150, .inl t)), (h1, .inr (4, [.ref hk1, .ref ht1, .int (nI n1)])), (hk1, .inl (ck1, 150, .inl k1)), (ht1, .inl (ct1, 150, .inl t1))] s.heap.size = A at hD ⊢
  have hA : ∀ q : Nat, s.heap.size ≤ q → A q := fun q h => by rw [← hAe]; exact Or.inr h
  have hS : va_S A s.heap s.heap [] := va_S.rf
  have hP : va_P DD vwCl [(h, .inr (4, [.ref hk, .ref ht, .int (nI n)])), (hk, .inl (ck, 150, .inl k)), (ht, .inl (ct, 150, .inl t)), (h1, .inr (4, [.ref hk1, .ref ht1, .int (nI n1)])), (hk1, .inl (ck1, 150, .inl k1)), (ht1, .inl (ct1, 150, .inl t1))] s.heap := hP
  have hl := lv_entry ([.ref h, .ref h1]) (n := 2) (Nat.le_of_ble_eq_true rfl)
  rw [ha, lg_entry_eq, ← ha]
  generalize (lg_sl ([.ref h, .ref h1]) ++ List.replicate (2 - (lg_sl ([.ref h, .ref h1])).length) Slot.unset).toArray = ls at hl ⊢
  have hl : lv_has ls 2 [(0, .ref h), (1, .ref h1)] := hl
  refine lv_aload_n hx hb d_Ro_copyFrom_0 rfl (lv_at hl 0 rfl) ?_
  refine lv_aload_n hx hb d_Ro_copyFrom_1 rfl (lv_at hl 1 rfl) ?_
  refine va_get (D := DD) (ci := 4) (v := .int (nI n1)) (C := R_Ro) (T := T_Ro) (N := 3) hx hb hg in_Ro hown hK hP 3 rfl rfl 2 (by decide) (hg _ mw_37) (fun _ h9 => h9) rfl d_Ro_copyFrom_2 ?_
  refine va_put (D := DD) (ci := 4) (v := .int (nI n1)) (ty := .int) (C := R_Ro) (T := T_Ro) (N := 3) hx hb hg in_Ro t_Ro to_Ro n_Ro hown hK hP hD hS 0 rfl rfl 2 (by decide) (hg _ mw_37) (fun _ h9 => h9) rfl (by decide +kernel) rfl rfl (Nat.le_of_ble_eq_true rfl) d_Ro_copyFrom_5 (fun H locs hP hD hS => ?_)
  have hP : va_P DD vwCl [(h, .inr (4, [.ref hk, .ref ht, .int (nI n1)])), (hk, .inl (ck, 150, .inl k)), (ht, .inl (ct, 150, .inl t)), (h1, .inr (4, [.ref hk1, .ref ht1, .int (nI n1)])), (hk1, .inl (ck1, 150, .inl k1)), (ht1, .inl (ct1, 150, .inl t1))] H := hP
  have hD : va_D A [(h, .inr (4, [.ref hk, .ref ht, .int (nI n1)])), (hk, .inl (ck, 150, .inl k)), (ht, .inl (ct, 150, .inl t)), (h1, .inr (4, [.ref hk1, .ref ht1, .int (nI n1)])), (hk1, .inl (ck1, 150, .inl k1)), (ht1, .inl (ct1, 150, .inl t1))] := hD
  refine lv_aload_n hx hb d_Ro_copyFrom_8 rfl (lv_at hl 1 rfl) ?_
  refine va_get (D := DD) (ci := 4) (v := .ref hk1) (C := R_Ro) (T := T_Ro) (N := 3) hx hb hg in_Ro hown hK hP 3 rfl rfl 0 (by decide) (hg _ mw_35) (fun _ h9 => h9) rfl d_Ro_copyFrom_9 ?_
  refine lv_iconst (v := nI 0) hx hb d_Ro_copyFrom_12 (by decide) ?_
  refine lv_aload_n hx hb d_Ro_copyFrom_13 rfl (lv_at hl 0 rfl) ?_
  refine va_get (D := DD) (ci := 4) (v := .ref hk) (C := R_Ro) (T := T_Ro) (N := 3) hx hb hg in_Ro hown hK hP 0 rfl rfl 0 (by decide) (hg _ mw_35) (fun _ h9 => h9) rfl d_Ro_copyFrom_14 ?_
  refine lv_iconst (v := nI 0) hx hb d_Ro_copyFrom_17 (by decide) ?_
  refine lv_aload_n hx hb d_Ro_copyFrom_18 rfl (lv_at hl 0 rfl) ?_
  refine va_get (D := DD) (ci := 4) (v := .int (nI n1)) (C := R_Ro) (T := T_Ro) (N := 3) hx hb hg in_Ro hown hK hP 0 rfl rfl 2 (by decide) (hg _ mw_37) (fun _ h9 => h9) rfl d_Ro_copyFrom_19 ?_
  refine z_copyi hx hb (hml.trans hl.1.symm) hown (hg _ mw_371) (hg _ mw_373) (hg _ mw_372) (hg _ mw_16) hK hP hD hS 4 1 2 0 rfl rfl rfl rfl (by omega) (by omega) (by decide) (by decide) (Nat.le_of_ble_eq_true rfl) (Nat.le_of_ble_eq_true rfl) d_Ro_copyFrom_22 (fun H locs hP hD hS => ?_)
  have hP : va_P DD vwCl [(h, .inr (4, [.ref hk, .ref ht, .int (nI n1)])), (hk, .inl (ck, 150, .inl (va_cpy k1 k 0 0 n1))), (ht, .inl (ct, 150, .inl t)), (h1, .inr (4, [.ref hk1, .ref ht1, .int (nI n1)])), (hk1, .inl (ck1, 150, .inl k1)), (ht1, .inl (ct1, 150, .inl t1))] H := hP
  have hD : va_D A [(h, .inr (4, [.ref hk, .ref ht, .int (nI n1)])), (hk, .inl (ck, 150, .inl (va_cpy k1 k 0 0 n1))), (ht, .inl (ct, 150, .inl t)), (h1, .inr (4, [.ref hk1, .ref ht1, .int (nI n1)])), (hk1, .inl (ck1, 150, .inl k1)), (ht1, .inl (ct1, 150, .inl t1))] := hD
  refine lv_aload_n hx hb d_Ro_copyFrom_25 rfl (lv_at hl 1 rfl) ?_
  refine va_get (D := DD) (ci := 4) (v := .ref ht1) (C := R_Ro) (T := T_Ro) (N := 3) hx hb hg in_Ro hown hK hP 3 rfl rfl 1 (by decide) (hg _ mw_36) (fun _ h9 => h9) rfl d_Ro_copyFrom_26 ?_
  refine lv_iconst (v := nI 0) hx hb d_Ro_copyFrom_29 (by decide) ?_
  refine lv_aload_n hx hb d_Ro_copyFrom_30 rfl (lv_at hl 0 rfl) ?_
  refine va_get (D := DD) (ci := 4) (v := .ref ht) (C := R_Ro) (T := T_Ro) (N := 3) hx hb hg in_Ro hown hK hP 0 rfl rfl 1 (by decide) (hg _ mw_36) (fun _ h9 => h9) rfl d_Ro_copyFrom_31 ?_
  refine lv_iconst (v := nI 0) hx hb d_Ro_copyFrom_34 (by decide) ?_
  refine lv_aload_n hx hb d_Ro_copyFrom_35 rfl (lv_at hl 0 rfl) ?_
  refine va_get (D := DD) (ci := 4) (v := .int (nI n1)) (C := R_Ro) (T := T_Ro) (N := 3) hx hb hg in_Ro hown hK hP 0 rfl rfl 2 (by decide) (hg _ mw_37) (fun _ h9 => h9) rfl d_Ro_copyFrom_36 ?_
  refine z_copyi hx hb (hml.trans hl.1.symm) hown (hg _ mw_371) (hg _ mw_373) (hg _ mw_372) (hg _ mw_16) hK hP hD hS 5 2 3 1 rfl rfl rfl rfl (by omega) (by omega) (by decide) (by decide) (Nat.le_of_ble_eq_true rfl) (Nat.le_of_ble_eq_true rfl) d_Ro_copyFrom_39 (fun H locs hP hD hS => ?_)
  have hP : va_P DD vwCl [(h, .inr (4, [.ref hk, .ref ht, .int (nI n1)])), (hk, .inl (ck, 150, .inl (va_cpy k1 k 0 0 n1))), (ht, .inl (ct, 150, .inl (va_cpy t1 t 0 0 n1))), (h1, .inr (4, [.ref hk1, .ref ht1, .int (nI n1)])), (hk1, .inl (ck1, 150, .inl k1)), (ht1, .inl (ct1, 150, .inl t1))] H := hP
  have hD : va_D A [(h, .inr (4, [.ref hk, .ref ht, .int (nI n1)])), (hk, .inl (ck, 150, .inl (va_cpy k1 k 0 0 n1))), (ht, .inl (ct, 150, .inl (va_cpy t1 t 0 0 n1))), (h1, .inr (4, [.ref hk1, .ref ht1, .int (nI n1)])), (hk1, .inl (ck1, 150, .inl k1)), (ht1, .inl (ct1, 150, .inl t1))] := hD
  have hP9 := hP.sub (ws' := [(h, .inr (4, [.ref hk, .ref ht, .int (nI n1)])), (hk, .inl (ck, 150, .inl (va_cpy k1 k 0 0 n1))), (ht, .inl (ct, 150, .inl (va_cpy t1 t 0 0 n1))), (h1, .inr (4, [.ref hk1, .ref ht1, .int (nI n1)])), (hk1, .inl (ck1, 150, .inl k1)), (ht1, .inl (ct1, 150, .inl t1))]) [0, 1, 2, 3, 4, 5] rfl
  have hD9 := hD.sub (ws' := [(h, .inr (4, [.ref hk, .ref ht, .int (nI n1)])), (hk, .inl (ck, 150, .inl (va_cpy k1 k 0 0 n1))), (ht, .inl (ct, 150, .inl (va_cpy t1 t 0 0 n1))), (h1, .inr (4, [.ref hk1, .ref ht1, .int (nI n1)])), (hk1, .inl (ck1, 150, .inl k1)), (ht1, .inl (ct1, 150, .inl t1))]) [0, 1, 2, 3, 4, 5] (by decide) rfl
  exact W.vret hx hb hr (fun t9 ht9 hW9 => ⟨⟨(), rfl, trivial, by rw [ht9]; exact hP9, va_K.moved hW9.alike hK, hD9⟩, hS.F ht9⟩) hS.2.2 d_Ro_copyFrom_42
theorem d_Ro_arrangeFrom_0 : decode b_Ro_arrangeFrom 0 = .ok (.aload_n 0, 1) := by decide +kernel
theorem d_Ro_arrangeFrom_1 : decode b_Ro_arrangeFrom 1 = .ok (.aload_n 1, 1) := by decide +kernel
theorem d_Ro_arrangeFrom_2 : decode b_Ro_arrangeFrom 2 = .ok (.getfield 18, 3) := by decide +kernel
theorem d_Ro_arrangeFrom_5 : decode b_Ro_arrangeFrom 5 = .ok (.putfield 18, 3) := by decide +kernel
theorem d_Ro_arrangeFrom_8 : decode b_Ro_arrangeFrom 8 = .ok (.iconst 0, 1) := by decide +kernel
theorem d_Ro_arrangeFrom_9 : decode b_Ro_arrangeFrom 9 = .ok (.istore_n 3, 1) := by decide +kernel
theorem d_Ro_arrangeFrom_10 : decode b_Ro_arrangeFrom 10 = .ok (.iload_n 3, 1) := by decide +kernel
theorem d_Ro_arrangeFrom_11 : decode b_Ro_arrangeFrom 11 = .ok (.aload_n 0, 1) := by decide +kernel
theorem d_Ro_arrangeFrom_12 : decode b_Ro_arrangeFrom 12 = .ok (.getfield 18, 3) := by decide +kernel
theorem d_Ro_arrangeFrom_15 : decode b_Ro_arrangeFrom 15 = .ok (.if_icmp .ge 37, 3) := by decide +kernel
theorem d_Ro_arrangeFrom_18 : decode b_Ro_arrangeFrom 18 = .ok (.aload_n 0, 1) := by decide +kernel
theorem d_Ro_arrangeFrom_19 : decode b_Ro_arrangeFrom 19 = .ok (.getfield 9, 3) := by decide +kernel
theorem d_Ro_arrangeFrom_22 : decode b_Ro_arrangeFrom 22 = .ok (.iload_n 3, 1) := by decide +kernel
theorem d_Ro_arrangeFrom_23 : decode b_Ro_arrangeFrom 23 = .ok (.aload_n 1, 1) := by decide +kernel
theorem d_Ro_arrangeFrom_24 : decode b_Ro_arrangeFrom 24 = .ok (.getfield 9, 3) := by decide +kernel
theorem d_Ro_arrangeFrom_27 : decode b_Ro_arrangeFrom 27 = .ok (.aload_n 2, 1) := by decide +kernel
theorem d_Ro_arrangeFrom_28 : decode b_Ro_arrangeFrom 28 = .ok (.iload_n 3, 1) := by decide +kernel
theorem d_Ro_arrangeFrom_29 : decode b_Ro_arrangeFrom 29 = .ok (.iaload, 1) := by decide +kernel
theorem d_Ro_arrangeFrom_30 : decode b_Ro_arrangeFrom 30 = .ok (.iaload, 1) := by decide +kernel
theorem d_Ro_arrangeFrom_31 : decode b_Ro_arrangeFrom 31 = .ok (.iastore, 1) := by decide +kernel
theorem d_Ro_arrangeFrom_32 : decode b_Ro_arrangeFrom 32 = .ok (.aload_n 0, 1) := by decide +kernel
theorem d_Ro_arrangeFrom_33 : decode b_Ro_arrangeFrom 33 = .ok (.getfield 15, 3) := by decide +kernel
theorem d_Ro_arrangeFrom_36 : decode b_Ro_arrangeFrom 36 = .ok (.iload_n 3, 1) := by decide +kernel
theorem d_Ro_arrangeFrom_37 : decode b_Ro_arrangeFrom 37 = .ok (.aload_n 1, 1) := by decide +kernel
theorem d_Ro_arrangeFrom_38 : decode b_Ro_arrangeFrom 38 = .ok (.getfield 15, 3) := by decide +kernel
theorem d_Ro_arrangeFrom_41 : decode b_Ro_arrangeFrom 41 = .ok (.aload_n 2, 1) := by decide +kernel
theorem d_Ro_arrangeFrom_42 : decode b_Ro_arrangeFrom 42 = .ok (.iload_n 3, 1) := by decide +kernel
theorem d_Ro_arrangeFrom_43 : decode b_Ro_arrangeFrom 43 = .ok (.iaload, 1) := by decide +kernel
theorem d_Ro_arrangeFrom_44 : decode b_Ro_arrangeFrom 44 = .ok (.iaload, 1) := by decide +kernel
theorem d_Ro_arrangeFrom_45 : decode b_Ro_arrangeFrom 45 = .ok (.iastore, 1) := by decide +kernel
theorem d_Ro_arrangeFrom_46 : decode b_Ro_arrangeFrom 46 = .ok (.iinc 3 1, 3) := by decide +kernel
theorem d_Ro_arrangeFrom_49 : decode b_Ro_arrangeFrom 49 = .ok (.goto (-39), 3) := by decide +kernel
theorem d_Ro_arrangeFrom_52 : decode b_Ro_arrangeFrom 52 = .ok (.return_, 1) := by decide +kernel
abbrev ws_Ro_arrangeFrom : List Cond := .code y_Ro_arrangeFrom b_Ro_arrangeFrom 4 none :: ALLG
abbrev rm_Ro_arrangeFrom : Room := { frames := 0, cells := 0, slots := 0, locals := 0 }
set_option maxHeartbeats 4000000 in
set_option maxRecDepth 100000 in
theorem c_Ro_arrangeFrom (l : Launch) (DD : va_G) (sz : Nat) (h : Nat) (hk : Nat) (ht : Nat) (ck : ClassId) (n : Nat) (k : Nat → Int32) (ct : ClassId) (t : Nat → Int32) (h1 : Nat) (hk1 : Nat) (ht1 : Nat) (ck1 : ClassId) (n1 : Nat) (k1 : Nat → Int32) (ct1 : ClassId) (t1 : Nat → Int32) (hp : Nat) (cp : ClassId) (pn : Nat → Nat) (hn1 : n1 ≤ 150) (hpn : ∀ i, i < n1 → pn i < 150) : Met l y_Ro_arrangeFrom ws_Ro_arrangeFrom rm_Ro_arrangeFrom (va_Pc [.ref h, .ref h1, .ref hp] (fun U => U.heap.size = sz ∧ va_P DD vwCl [(h, .inr (4, [.ref hk, .ref ht, .int (nI n)])), (hk, .inl (ck, 150, .inl k)), (ht, .inl (ct, 150, .inl t)), (h1, .inr (4, [.ref hk1, .ref ht1, .int (nI n1)])), (hk1, .inl (ck1, 150, .inl k1)), (ht1, .inl (ct1, 150, .inl t1)), (hp, .inl (cp, 150, .inl (nF pn)))] U.heap ∧ va_K DD vwCl [(ck, .int), (ct, .int), (ck1, .int), (ct1, .int), (cp, .int)] U ∧ va_D (fun _ => True) [(h, .inr (4, [.ref hk, .ref ht, .int (nI n)])), (hk, .inl (ck, 150, .inl k)), (ht, .inl (ct, 150, .inl t)), (h1, .inr (4, [.ref hk1, .ref ht1, .int (nI n1)])), (hk1, .inl (ck1, 150, .inl k1)), (ht1, .inl (ct1, 150, .inl t1)), (hp, .inl (cp, 150, .inl (nF pn)))])) (va_Qv (fun (u9 : Unit) => match u9 with | _ => True) (fun (u9 : Unit) (t9 : State) => match u9 with | _ => va_P DD vwCl [(h, .inr (4, [.ref hk, .ref ht, .int (nI n1)])), (hk, .inl (ck, 150, .inl (arrF k1 pn k n1))), (ht, .inl (ct, 150, .inl (arrF t1 pn t n1))), (h1, .inr (4, [.ref hk1, .ref ht1, .int (nI n1)])), (hk1, .inl (ck1, 150, .inl k1)), (ht1, .inl (ct1, 150, .inl t1)), (hp, .inl (cp, 150, .inl (nF pn)))] t9.heap ∧ va_K DD vwCl [(ck, .int), (ct, .int), (ck1, .int), (ct1, .int), (cp, .int)] t9 ∧ va_D (va_A [(h, .inr (4, [.ref hk, .ref ht, .int (nI n)])), (hk, .inl (ck, 150, .inl k)), (ht, .inl (ct, 150, .inl t)), (h1, .inr (4, [.ref hk1, .ref ht1, .int (nI n1)])), (hk1, .inl (ck1, 150, .inl k1)), (ht1, .inl (ct1, 150, .inl t1)), (hp, .inl (cp, 150, .inl (nF pn)))] sz) [(h, .inr (4, [.ref hk, .ref ht, .int (nI n1)])), (hk, .inl (ck, 150, .inl (arrF k1 pn k n1))), (ht, .inl (ct, 150, .inl (arrF t1 pn t n1))), (h1, .inr (4, [.ref hk1, .ref ht1, .int (nI n1)])), (hk1, .inl (ck1, 150, .inl k1)), (ht1, .inl (ct1, 150, .inl t1)), (hp, .inl (cp, 150, .inl (nF pn)))]) (va_A [(h, .inr (4, [.ref hk, .ref ht, .int (nI n)])), (hk, .inl (ck, 150, .inl k)), (ht, .inl (ct, 150, .inl t)), (h1, .inr (4, [.ref hk1, .ref ht1, .int (nI n1)])), (hk1, .inl (ck1, 150, .inl k1)), (ht1, .inl (ct1, 150, .inl t1)), (hp, .inl (cp, 150, .inl (nF pn)))] sz)) 0 0 (va_A [(h, .inr (4, [.ref hk, .ref ht, .int (nI n)])), (hk, .inl (ck, 150, .inl k)), (ht, .inl (ct, 150, .inl t)), (h1, .inr (4, [.ref hk1, .ref ht1, .int (nI n1)])), (hk1, .inl (ck1, 150, .inl k1)), (ht1, .inl (ct1, 150, .inl t1)), (hp, .inl (cp, 150, .inl (nF pn)))] sz) := by
  refine Met.ofW (cc := b_Ro_arrangeFrom) (maxL := 4) (ret := none) (by decide) rfl ?_
  intro p e s m args below meth c s₁ B hml hv
  obtain ⟨ha, hsz, hP, hK, hD0⟩ := hv
  have hx := B.exec
  have hb := B.bytes
  have hr := B.returns
  have hts := atoms_spec (ws := ws_Ro_arrangeFrom) B.pre
  have hg : ∀ w ∈ ALLG, w.before args s = true := fun w h => hts w (List.mem_cons_of_mem _ h)
  have hown : s.vm.findClass R_Ro = some m.cls := findClass_of_methodNamed B.named
  have hlocks := B.notSynchronized
  subst hsz
  have hD := hD0.self (sz := s.heap.size)
  generalize hAe : va_A [(h, .inr (4, [.ref hk, .ref ht, .int (nI n)])), (hk, .inl (ck, 150, .inl k)), (ht, .inl (ct, 150, .inl t)), (h1, .inr (4, [.ref hk1, .ref ht1, .int (nI n1)])), (hk1, .inl (ck1, 150, .inl k1)), (ht1, .inl (ct1, 150, .inl t1)), (hp, .inl (cp, 150, .inl (nF pn)))] s.heap.size = A at hD ⊢
  have hA : ∀ q : Nat, s.heap.size ≤ q → A q := fun q h => by rw [← hAe]; exact Or.inr h
  have hS : va_S A s.heap s.heap [] := va_S.rf
  have hP : va_P DD vwCl [(h, .inr (4, [.ref hk, .ref ht, .int (nI n)])), (hk, .inl (ck, 150, .inl k)), (ht, .inl (ct, 150, .inl t)), (h1, .inr (4, [.ref hk1, .ref ht1, .int (nI n1)])), (hk1, .inl (ck1, 150, .inl k1)), (ht1, .inl (ct1, 150, .inl t1)), (hp, .inl (cp, 150, .inl (nF pn)))] s.heap := hP
  have hl := lv_entry ([.ref h, .ref h1, .ref hp]) (n := 4) (Nat.le_of_ble_eq_true rfl)
  rw [ha, lg_entry_eq, ← ha]
  generalize (lg_sl ([.ref h, .ref h1, .ref hp]) ++ List.replicate (4 - (lg_sl ([.ref h, .ref h1, .ref hp])).length) Slot.unset).toArray = ls at hl ⊢
  have hl : lv_has ls 4 [(0, .ref h), (1, .ref h1), (2, .ref hp)] := hl
  have K10 : ∀ (kk : Nat) (i : Nat), (hi : i ≤ n1) → n1 - i < kk → ∀ (H : Heap) (locs : List Loc), va_P DD vwCl [(h, .inr (4, [.ref hk, .ref ht, .int (nI n1)])), (hk, .inl (ck, 150, .inl (arrF k1 pn k i))), (ht, .inl (ct, 150, .inl (arrF t1 pn t i))), (h1, .inr (4, [.ref hk1, .ref ht1, .int (nI n1)])), (hk1, .inl (ck1, 150, .inl k1)), (ht1, .inl (ct1, 150, .inl t1)), (hp, .inl (cp, 150, .inl (nF pn)))] H → va_D A [(h, .inr (4, [.ref hk, .ref ht, .int (nI n1)])), (hk, .inl (ck, 150, .inl (arrF k1 pn k i))), (ht, .inl (ct, 150, .inl (arrF t1 pn t i))), (h1, .inr (4, [.ref hk1, .ref ht1, .int (nI n1)])), (hk1, .inl (ck1, 150, .inl k1)), (ht1, .inl (ct1, 150, .inl t1)), (hp, .inl (cp, 150, .inl (nF pn)))] → va_S A s.heap H locs → ∀ (ls : Array Slot), lv_has ls 4 [(0, .ref h), (1, .ref h1), (2, .ref hp), (3, .int (nI i))] → W p l e (headSpec ws_Ro_arrangeFrom rm_Ro_arrangeFrom).room s m args below meth c H locs 0 0 (MQ below (va_Qv (fun (u9 : Unit) => match u9 with | _ => True) (fun (u9 : Unit) (t9 : State) => match u9 with | _ => va_P DD vwCl [(h, .inr (4, [.ref hk, .ref ht, .int (nI n1)])), (hk, .inl (ck, 150, .inl (arrF k1 pn k n1))), (ht, .inl (ct, 150, .inl (arrF t1 pn t n1))), (h1, .inr (4, [.ref hk1, .ref ht1, .int (nI n1)])), (hk1, .inl (ck1, 150, .inl k1)), (ht1, .inl (ct1, 150, .inl t1)), (hp, .inl (cp, 150, .inl (nF pn)))] t9.heap ∧ va_K DD vwCl [(ck, .int), (ct, .int), (ck1, .int), (ct1, .int), (cp, .int)] t9 ∧ va_D A [(h, .inr (4, [.ref hk, .ref ht, .int (nI n1)])), (hk, .inl (ck, 150, .inl (arrF k1 pn k n1))), (ht, .inl (ct, 150, .inl (arrF t1 pn t n1))), (h1, .inr (4, [.ref hk1, .ref ht1, .int (nI n1)])), (hk1, .inl (ck1, 150, .inl k1)), (ht1, .inl (ct1, 150, .inl t1)), (hp, .inl (cp, 150, .inl (nF pn)))]) A) args s 0 0 A) (F0 m 10 ls []) := by
    intro kk
    induction kk with
    | zero => intros; omega
    | succ kk ih10 =>
      intro i hi hkk H locs hP hD hS ls hl
      refine lv_iload_n hx hb d_Ro_arrangeFrom_10 rfl (lv_at hl 3 rfl) ?_
      refine lv_aload_n hx hb d_Ro_arrangeFrom_11 rfl (lv_at hl 0 rfl) ?_
      refine va_get (D := DD) (ci := 4) (v := .int (nI n1)) (C := R_Ro) (T := T_Ro) (N := 3) hx hb hg in_Ro hown hK hP 0 rfl rfl 2 (by decide) (hg _ mw_37) (fun _ h9 => h9) rfl d_Ro_arrangeFrom_12 ?_
      refine z_icmp_ge (tgt := 52) hx hb d_Ro_arrangeFrom_15 (by decide) (by omega) (by omega) (fun c_15 => ?_) (fun c_15 => ?_)
      · rw [show arrF k1 pn k i = arrF k1 pn k n1 from by rw [Nat.le_antisymm hi c_15]] at hP hD
        rw [show arrF t1 pn t i = arrF t1 pn t n1 from by rw [Nat.le_antisymm hi c_15]] at hP hD
        have hP9 := hP.sub (ws' := [(h, .inr (4, [.ref hk, .ref ht, .int (nI n1)])), (hk, .inl (ck, 150, .inl (arrF k1 pn k n1))), (ht, .inl (ct, 150, .inl (arrF t1 pn t n1))), (h1, .inr (4, [.ref hk1, .ref ht1, .int (nI n1)])), (hk1, .inl (ck1, 150, .inl k1)), (ht1, .inl (ct1, 150, .inl t1)), (hp, .inl (cp, 150, .inl (nF pn)))]) [0, 1, 2, 3, 4, 5, 6] rfl
        have hD9 := hD.sub (ws' := [(h, .inr (4, [.ref hk, .ref ht, .int (nI n1)])), (hk, .inl (ck, 150, .inl (arrF k1 pn k n1))), (ht, .inl (ct, 150, .inl (arrF t1 pn t n1))), (h1, .inr (4, [.ref hk1, .ref ht1, .int (nI n1)])), (hk1, .inl (ck1, 150, .inl k1)), (ht1, .inl (ct1, 150, .inl t1)), (hp, .inl (cp, 150, .inl (nF pn)))]) [0, 1, 2, 3, 4, 5, 6] (by decide) rfl
        exact W.vret hx hb hr (fun t9 ht9 hW9 => ⟨⟨(), rfl, trivial, by rw [ht9]; exact hP9, va_K.moved hW9.alike hK, hD9⟩, hS.F ht9⟩) hS.2.2 d_Ro_arrangeFrom_52
      · refine lv_aload_n hx hb d_Ro_arrangeFrom_18 rfl (lv_at hl 0 rfl) ?_
        refine va_get (D := DD) (ci := 4) (v := .ref hk) (C := R_Ro) (T := T_Ro) (N := 3) hx hb hg in_Ro hown hK hP 0 rfl rfl 0 (by decide) (hg _ mw_35) (fun _ h9 => h9) rfl d_Ro_arrangeFrom_19 ?_
        refine lv_iload_n hx hb d_Ro_arrangeFrom_22 rfl (lv_at hl 3 rfl) ?_
        refine lv_aload_n hx hb d_Ro_arrangeFrom_23 rfl (lv_at hl 1 rfl) ?_
        refine va_get (D := DD) (ci := 4) (v := .ref hk1) (C := R_Ro) (T := T_Ro) (N := 3) hx hb hg in_Ro hown hK hP 3 rfl rfl 0 (by decide) (hg _ mw_35) (fun _ h9 => h9) rfl d_Ro_arrangeFrom_24 ?_
        refine lv_aload_n hx hb d_Ro_arrangeFrom_27 rfl (lv_at hl 2 rfl) ?_
        refine lv_iload_n hx hb d_Ro_arrangeFrom_28 rfl (lv_at hl 3 rfl) ?_
        refine z_ialdN hx hb hK hP 6 4 rfl rfl (by omega) (by decide) d_Ro_arrangeFrom_29 ?_
        refine z_iald hx hb hK hP 4 2 rfl rfl (by exact hpn i c_15) (by decide) d_Ro_arrangeFrom_30 ?_
        refine z_iast hx hb hK hP hD hS 1 0 rfl rfl (by omega) (by decide) d_Ro_arrangeFrom_31 (fun H locs hP hD hS => ?_)
        have hP : va_P DD vwCl [(h, .inr (4, [.ref hk, .ref ht, .int (nI n1)])), (hk, .inl (ck, 150, .inl (upd (arrF k1 pn k i) i (k1 (pn i))))), (ht, .inl (ct, 150, .inl (arrF t1 pn t i))), (h1, .inr (4, [.ref hk1, .ref ht1, .int (nI n1)])), (hk1, .inl (ck1, 150, .inl k1)), (ht1, .inl (ct1, 150, .inl t1)), (hp, .inl (cp, 150, .inl (nF pn)))] H := hP
        have hD : va_D A [(h, .inr (4, [.ref hk, .ref ht, .int (nI n1)])), (hk, .inl (ck, 150, .inl (upd (arrF k1 pn k i) i (k1 (pn i))))), (ht, .inl (ct, 150, .inl (arrF t1 pn t i))), (h1, .inr (4, [.ref hk1, .ref ht1, .int (nI n1)])), (hk1, .inl (ck1, 150, .inl k1)), (ht1, .inl (ct1, 150, .inl t1)), (hp, .inl (cp, 150, .inl (nF pn)))] := hD
        refine lv_aload_n hx hb d_Ro_arrangeFrom_32 rfl (lv_at hl 0 rfl) ?_
        refine va_get (D := DD) (ci := 4) (v := .ref ht) (C := R_Ro) (T := T_Ro) (N := 3) hx hb hg in_Ro hown hK hP 0 rfl rfl 1 (by decide) (hg _ mw_36) (fun _ h9 => h9) rfl d_Ro_arrangeFrom_33 ?_
        refine lv_iload_n hx hb d_Ro_arrangeFrom_36 rfl (lv_at hl 3 rfl) ?_
        refine lv_aload_n hx hb d_Ro_arrangeFrom_37 rfl (lv_at hl 1 rfl) ?_
        refine va_get (D := DD) (ci := 4) (v := .ref ht1) (C := R_Ro) (T := T_Ro) (N := 3) hx hb hg in_Ro hown hK hP 3 rfl rfl 1 (by decide) (hg _ mw_36) (fun _ h9 => h9) rfl d_Ro_arrangeFrom_38 ?_
        refine lv_aload_n hx hb d_Ro_arrangeFrom_41 rfl (lv_at hl 2 rfl) ?_
        refine lv_iload_n hx hb d_Ro_arrangeFrom_42 rfl (lv_at hl 3 rfl) ?_
        refine z_ialdN hx hb hK hP 6 4 rfl rfl (by omega) (by decide) d_Ro_arrangeFrom_43 ?_
        refine z_iald hx hb hK hP 5 3 rfl rfl (by exact hpn i c_15) (by decide) d_Ro_arrangeFrom_44 ?_
        refine z_iast hx hb hK hP hD hS 2 1 rfl rfl (by omega) (by decide) d_Ro_arrangeFrom_45 (fun H locs hP hD hS => ?_)
        have hP : va_P DD vwCl [(h, .inr (4, [.ref hk, .ref ht, .int (nI n1)])), (hk, .inl (ck, 150, .inl (upd (arrF k1 pn k i) i (k1 (pn i))))), (ht, .inl (ct, 150, .inl (upd (arrF t1 pn t i) i (t1 (pn i))))), (h1, .inr (4, [.ref hk1, .ref ht1, .int (nI n1)])), (hk1, .inl (ck1, 150, .inl k1)), (ht1, .inl (ct1, 150, .inl t1)), (hp, .inl (cp, 150, .inl (nF pn)))] H := hP
        have hD : va_D A [(h, .inr (4, [.ref hk, .ref ht, .int (nI n1)])), (hk, .inl (ck, 150, .inl (upd (arrF k1 pn k i) i (k1 (pn i))))), (ht, .inl (ct, 150, .inl (upd (arrF t1 pn t i) i (t1 (pn i))))), (h1, .inr (4, [.ref hk1, .ref ht1, .int (nI n1)])), (hk1, .inl (ck1, 150, .inl k1)), (ht1, .inl (ct1, 150, .inl t1)), (hp, .inl (cp, 150, .inl (nF pn)))] := hD
        rw [show upd (arrF k1 pn k i) i (k1 (pn i)) = arrF k1 pn k (i + 1) from arrF_s k1 pn k i] at hP hD
        rw [show upd (arrF t1 pn t i) i (t1 (pn i)) = arrF t1 pn t (i + 1) from arrF_s t1 pn t i] at hP hD
        refine lv_iinc (v := nI (i + 1)) (lv' := [(3, .int (nI (i + 1))), (0, .ref h), (1, .ref h1), (2, .ref hp)]) hx hb d_Ro_arrangeFrom_46 hl (k := 3) rfl (by exact nI_add i 1) (by decide) rfl (fun ls hl => ?_)
        refine lv_goto (tgt := 10) hx hb d_Ro_arrangeFrom_49 (by decide) ?_
        exact ih10 (i + 1) (by omega) (by omega) _ _ hP hD hS ls (lv_sub hl [1, 2, 3, 0] rfl)
  refine lv_aload_n hx hb d_Ro_arrangeFrom_0 rfl (lv_at hl 0 rfl) ?_
  refine lv_aload_n hx hb d_Ro_arrangeFrom_1 rfl (lv_at hl 1 rfl) ?_
  refine va_get (D := DD) (ci := 4) (v := .int (nI n1)) (C := R_Ro) (T := T_Ro) (N := 3) hx hb hg in_Ro hown hK hP 3 rfl rfl 2 (by decide) (hg _ mw_37) (fun _ h9 => h9) rfl d_Ro_arrangeFrom_2 ?_
  refine va_put (D := DD) (ci := 4) (v := .int (nI n1)) (ty := .int) (C := R_Ro) (T := T_Ro) (N := 3) hx hb hg in_Ro t_Ro to_Ro n_Ro hown hK hP hD hS 0 rfl rfl 2 (by decide) (hg _ mw_37) (fun _ h9 => h9) rfl (by decide +kernel) rfl rfl (Nat.le_of_ble_eq_true rfl) d_Ro_arrangeFrom_5 (fun H locs hP hD hS => ?_)
  have hP : va_P DD vwCl [(h, .inr (4, [.ref hk, .ref ht, .int (nI n1)])), (hk, .inl (ck, 150, .inl k)), (ht, .inl (ct, 150, .inl t)), (h1, .inr (4, [.ref hk1, .ref ht1, .int (nI n1)])), (hk1, .inl (ck1, 150, .inl k1)), (ht1, .inl (ct1, 150, .inl t1)), (hp, .inl (cp, 150, .inl (nF pn)))] H := hP
  have hD : va_D A [(h, .inr (4, [.ref hk, .ref ht, .int (nI n1)])), (hk, .inl (ck, 150, .inl k)), (ht, .inl (ct, 150, .inl t)), (h1, .inr (4, [.ref hk1, .ref ht1, .int (nI n1)])), (hk1, .inl (ck1, 150, .inl k1)), (ht1, .inl (ct1, 150, .inl t1)), (hp, .inl (cp, 150, .inl (nF pn)))] := hD
  rw [show k = arrF k1 pn k 0 from arrF_0 k1 pn k] at hP hD
  rw [show t = arrF t1 pn t 0 from arrF_0 t1 pn t] at hP hD
  refine lv_iconst (v := nI 0) hx hb d_Ro_arrangeFrom_8 (by decide) ?_
  refine lv_istore_n (lv' := [(3, .int (nI 0)), (0, .ref h), (1, .ref h1), (2, .ref hp)]) hx hb d_Ro_arrangeFrom_9 rfl hl (by decide) rfl (fun ls hl => ?_)
  exact K10 _ 0 (by omega) (Nat.lt_succ_self _) _ _ hP hD hS ls (lv_sub hl [1, 2, 3, 0] rfl)
