theorem d_Tu_suits_0 : decode b_Tu_suits 0 = .ok (.aload_n 1, 1) := by decide +kernel
theorem d_Tu_suits_1 : decode b_Tu_suits 1 = .ok (.invokevirtual 9, 3) := by decide +kernel
theorem d_Tu_suits_4 : decode b_Tu_suits 4 = .ok (.aload_n 1, 1) := by decide +kernel
theorem d_Tu_suits_5 : decode b_Tu_suits 5 = .ok (.invokevirtual 15, 3) := by decide +kernel
theorem d_Tu_suits_8 : decode b_Tu_suits 8 = .ok (.iconst 1, 1) := by decide +kernel
theorem d_Tu_suits_9 : decode b_Tu_suits 9 = .ok (.isub, 1) := by decide +kernel
theorem d_Tu_suits_10 : decode b_Tu_suits 10 = .ok (.if_icmp .lt 7, 3) := by decide +kernel
theorem d_Tu_suits_13 : decode b_Tu_suits 13 = .ok (.iconst 1, 1) := by decide +kernel
theorem d_Tu_suits_14 : decode b_Tu_suits 14 = .ok (.goto 4, 3) := by decide +kernel
theorem d_Tu_suits_17 : decode b_Tu_suits 17 = .ok (.iconst 0, 1) := by decide +kernel
theorem d_Tu_suits_18 : decode b_Tu_suits 18 = .ok (.ireturn, 1) := by decide +kernel
abbrev ws_Tu_suits : List Cond := .code y_Tu_suits b_Tu_suits 2 (some .boolean) :: ALLG
abbrev rm_Tu_suits : Room := { frames := 2, cells := 0, slots := 0, locals := 43 }
set_option maxHeartbeats 4000000 in
set_option maxRecDepth 100000 in
theorem c_Tu_suits (l : Launch) (DD : va_G) (aw : Nat) (h : Nat) (hk : Nat) (ck : ClassId) (k : Nat → Int32) (ht : Nat) (n : Nat) (hn : n ≤ 150) : Met l y_Tu_suits ws_Tu_suits rm_Tu_suits (va_Pc [.ref aw, .ref h] (fun U => va_P DD vwCl [(aw, .inr (7, [])), (h, .inr (4, [.ref hk, .ref ht, .int (nI n)])), (hk, .inl (ck, 150, .inl k))] U.heap ∧ va_K DD vwCl [(ck, .int)] U)) (vp_Si (fun r9 => r9 = zb (turnB k n))) 0 0 (fun _ => False) := by
  refine Met.ofW (cc := b_Tu_suits) (maxL := 2) (ret := (some .boolean)) (by decide) rfl ?_
  intro p e s m args below meth c s₁ B hml hv
  obtain ⟨ha, hP, hK⟩ := hv
  have hx := B.exec
  have hb := B.bytes
  have hr := B.returns
  have hts := atoms_spec (ws := ws_Tu_suits) B.pre
  have hg : ∀ w ∈ ALLG, w.before args s = true := fun w h => hts w (List.mem_cons_of_mem _ h)
  have hown : s.vm.findClass R_Tu = some m.cls := findClass_of_methodNamed B.named
  have hlocks := B.notSynchronized
  have hP : va_P DD vwCl [(aw, .inr (7, [])), (h, .inr (4, [.ref hk, .ref ht, .int (nI n)])), (hk, .inl (ck, 150, .inl k))] s.heap := hP
  have hl := lv_entry ([.ref aw, .ref h]) (n := 2) (Nat.le_of_ble_eq_true rfl)
  rw [ha, lg_entry_eq, ← ha]
  generalize (lg_sl ([.ref aw, .ref h]) ++ List.replicate (2 - (lg_sl ([.ref aw, .ref h])).length) Slot.unset).toArray = ls at hl ⊢
  have hl : lv_has ls 2 [(0, .ref aw), (1, .ref h)] := hl
  refine lv_aload_n hx hb d_Tu_suits_0 rfl (lv_at hl 1 rfl) ?_
  have hPc := hP.sub (ws' := [(h, .inr (4, [.ref hk, .ref ht, .int (nI n)])), (hk, .inl (ck, 150, .inl k))]) [1, 2] rfl
  have hKc := hK.sub (tys' := [(ck, .int)]) [0] rfl
  refine vp_callSi (W.runV (As := []) (rest := []) ⟨hx, hb, hml, hown, hg⟩ (c_Ro_drops l DD h hk ht ck n k (by omega)) (cwV 0 hg (gi_V mw_220 mw_221 mw_222 mw_2 mw_223) rfl rfl rfl (by decide +kernel) ⟨Nat.le_of_ble_eq_true rfl, Nat.le_of_ble_eq_true rfl⟩) ⟨z_blind, va_recv hKc hPc (ci := 4) (q0 := 0) rfl rfl, z_pre hPc hKc⟩ rfl rfl hl.1 rfl (lv_room (Nat.le_of_ble_eq_true rfl)) d_Tu_suits_1 ⟨Nat.zero_le _, Nat.zero_le _⟩) (fun r_1 hr_1 => ?_)
  subst hr_1
  refine lv_aload_n hx hb d_Tu_suits_4 rfl (lv_at hl 1 rfl) ?_
  have hPc := hP.sub (ws' := [(h, .inr (4, [.ref hk, .ref ht, .int (nI n)])), (hk, .inl (ck, 150, .inl k))]) [1, 2] rfl
  have hKc := hK.sub (tys' := [(ck, .int)]) [0] rfl
  refine vp_callSi (W.runV (As := []) (rest := [.int (nI (cnt (dropB k) n))]) ⟨hx, hb, hml, hown, hg⟩ (c_Ro_size l DD h hk ht ck n k) (cwV 0 hg (gi_V mw_228 mw_214 mw_215 mw_2 mw_216) rfl rfl rfl (by decide +kernel) ⟨Nat.le_of_ble_eq_true rfl, Nat.le_of_ble_eq_true rfl⟩) ⟨z_blind, va_recv hKc hPc (ci := 4) (q0 := 0) rfl rfl, z_pre hPc hKc⟩ rfl rfl hl.1 rfl (lv_room (Nat.le_of_ble_eq_true rfl)) d_Tu_suits_5 ⟨Nat.zero_le _, Nat.zero_le _⟩) (fun r_5 hr_5 => ?_)
  subst hr_5
  refine lv_iconst (v := nI 1) hx hb d_Tu_suits_8 (by decide) ?_
  refine lv_isub hx hb d_Tu_suits_9 ?_
  refine lv_icmp_lt (tgt := 17) hx hb d_Tu_suits_10 (by decide) (fun c_10 => ?_) (fun c_10 => ?_)
  · refine lv_iconst (v := nI 0) hx hb d_Tu_suits_17 (by decide) ?_
    exact W.zret (v := nI 0) hx hb hr (by rfl) (fun t9 ht9 hW9 => ⟨_, rfl, (by first | exact turn_t hn c_10 | exact turn_f hn c_10), ht9⟩) (fun _ h => nomatch h) d_Tu_suits_18
  · refine lv_iconst (v := nI 1) hx hb d_Tu_suits_13 (by decide) ?_
    refine lv_goto (tgt := 18) hx hb d_Tu_suits_14 (by decide) ?_
    exact W.zret (v := nI 1) hx hb hr (by rfl) (fun t9 ht9 hW9 => ⟨_, rfl, (by first | exact turn_t hn c_10 | exact turn_f hn c_10), ht9⟩) (fun _ h => nomatch h) d_Tu_suits_18
theorem d_Pu_suits_0 : decode b_Pu_suits 0 = .ok (.aload_n 1, 1) := by decide +kernel
theorem d_Pu_suits_1 : decode b_Pu_suits 1 = .ok (.invokevirtual 9, 3) := by decide +kernel
theorem d_Pu_suits_4 : decode b_Pu_suits 4 = .ok (.bipush 60, 2) := by decide +kernel
theorem d_Pu_suits_6 : decode b_Pu_suits 6 = .ok (.if_icmp .gt 7, 3) := by decide +kernel
theorem d_Pu_suits_9 : decode b_Pu_suits 9 = .ok (.iconst 1, 1) := by decide +kernel
theorem d_Pu_suits_10 : decode b_Pu_suits 10 = .ok (.goto 4, 3) := by decide +kernel
theorem d_Pu_suits_13 : decode b_Pu_suits 13 = .ok (.iconst 0, 1) := by decide +kernel
theorem d_Pu_suits_14 : decode b_Pu_suits 14 = .ok (.ireturn, 1) := by decide +kernel
abbrev ws_Pu_suits : List Cond := .code y_Pu_suits b_Pu_suits 2 (some .boolean) :: ALLG
abbrev rm_Pu_suits : Room := { frames := 1, cells := 0, slots := 0, locals := 20 }
set_option maxHeartbeats 4000000 in
set_option maxRecDepth 100000 in
theorem c_Pu_suits (l : Launch) (DD : va_G) (aw : Nat) (h : Nat) (hk : Nat) (ck : ClassId) (k : Nat → Int32) (ht : Nat) (n : Nat) (hn : n ≤ 150) : Met l y_Pu_suits ws_Pu_suits rm_Pu_suits (va_Pc [.ref aw, .ref h] (fun U => va_P DD vwCl [(aw, .inr (3, [])), (h, .inr (4, [.ref hk, .ref ht, .int (nI n)])), (hk, .inl (ck, 150, .inl k))] U.heap ∧ va_K DD vwCl [(ck, .int)] U)) (vp_Si (fun r9 => r9 = zb (decide (n ≤ 60)))) 0 0 (fun _ => False) := by
  refine Met.ofW (cc := b_Pu_suits) (maxL := 2) (ret := (some .boolean)) (by decide) rfl ?_
  intro p e s m args below meth c s₁ B hml hv
  obtain ⟨ha, hP, hK⟩ := hv
  have hx := B.exec
  have hb := B.bytes
  have hr := B.returns
  have hts := atoms_spec (ws := ws_Pu_suits) B.pre
  have hg : ∀ w ∈ ALLG, w.before args s = true := fun w h => hts w (List.mem_cons_of_mem _ h)
  have hown : s.vm.findClass R_Pu = some m.cls := findClass_of_methodNamed B.named
  have hlocks := B.notSynchronized
  have hP : va_P DD vwCl [(aw, .inr (3, [])), (h, .inr (4, [.ref hk, .ref ht, .int (nI n)])), (hk, .inl (ck, 150, .inl k))] s.heap := hP
  have hl := lv_entry ([.ref aw, .ref h]) (n := 2) (Nat.le_of_ble_eq_true rfl)
  rw [ha, lg_entry_eq, ← ha]
  generalize (lg_sl ([.ref aw, .ref h]) ++ List.replicate (2 - (lg_sl ([.ref aw, .ref h])).length) Slot.unset).toArray = ls at hl ⊢
  have hl : lv_has ls 2 [(0, .ref aw), (1, .ref h)] := hl
  refine lv_aload_n hx hb d_Pu_suits_0 rfl (lv_at hl 1 rfl) ?_
  have hPc := hP.sub (ws' := [(h, .inr (4, [.ref hk, .ref ht, .int (nI n)])), (hk, .inl (ck, 150, .inl k))]) [1, 2] rfl
  have hKc := hK.sub (tys' := [(ck, .int)]) [0] rfl
  refine vp_callSi (W.runV (As := []) (rest := []) ⟨hx, hb, hml, hown, hg⟩ (c_Ro_size l DD h hk ht ck n k) (cwV 0 hg (gi_V mw_213 mw_214 mw_215 mw_2 mw_216) rfl rfl rfl (by decide +kernel) ⟨Nat.le_of_ble_eq_true rfl, Nat.le_of_ble_eq_true rfl⟩) ⟨z_blind, va_recv hKc hPc (ci := 4) (q0 := 0) rfl rfl, z_pre hPc hKc⟩ rfl rfl hl.1 rfl (lv_room (Nat.le_of_ble_eq_true rfl)) d_Pu_suits_1 ⟨Nat.zero_le _, Nat.zero_le _⟩) (fun r_1 hr_1 => ?_)
  subst hr_1
  refine lv_bipush (v := nI 60) hx hb d_Pu_suits_4 (by decide) ?_
  refine z_icmp_gt (tgt := 13) hx hb d_Pu_suits_6 (by decide) (by omega) (by omega) (fun c_6 => ?_) (fun c_6 => ?_)
  · refine lv_iconst (v := nI 0) hx hb d_Pu_suits_13 (by decide) ?_
    exact W.zret (v := nI 0) hx hb hr (by rfl) (fun t9 ht9 hW9 => ⟨_, rfl, (by first | exact zb_t (decide_eq_true c_6) | exact zb_f (decide_eq_false (by omega))), ht9⟩) (fun _ h => nomatch h) d_Pu_suits_14
  · refine lv_iconst (v := nI 1) hx hb d_Pu_suits_9 (by decide) ?_
    refine lv_goto (tgt := 14) hx hb d_Pu_suits_10 (by decide) ?_
    exact W.zret (v := nI 1) hx hb hr (by rfl) (fun t9 ht9 hW9 => ⟨_, rfl, (by first | exact zb_t (decide_eq_true c_6) | exact zb_f (decide_eq_false (by omega))), ht9⟩) (fun _ h => nomatch h) d_Pu_suits_14
theorem d_Jo_suits_0 : decode b_Jo_suits 0 = .ok (.iconst 1, 1) := by decide +kernel
theorem d_Jo_suits_1 : decode b_Jo_suits 1 = .ok (.ireturn, 1) := by decide +kernel
abbrev ws_Jo_suits : List Cond := .code y_Jo_suits b_Jo_suits 2 (some .boolean) :: ALLG
abbrev rm_Jo_suits : Room := { frames := 0, cells := 0, slots := 0, locals := 0 }
set_option maxHeartbeats 4000000 in
set_option maxRecDepth 100000 in
theorem c_Jo_suits (l : Launch) (DD : va_G) (aw : Nat) (hjs : Nat) (hjj : Nat) (h : Nat) (hk : Nat) (ck : ClassId) (k : Nat → Int32) (ht : Nat) (n : Nat) : Met l y_Jo_suits ws_Jo_suits rm_Jo_suits (va_Pc [.ref aw, .ref h] (fun U => va_P DD vwCl [(aw, .inr (2, [.ref hjs, .ref hjj])), (h, .inr (4, [.ref hk, .ref ht, .int (nI n)])), (hk, .inl (ck, 150, .inl k))] U.heap ∧ va_K DD vwCl [(ck, .int)] U)) (vp_Si (fun r9 => r9 = zb true)) 0 0 (fun _ => False) := by
  refine Met.ofW (cc := b_Jo_suits) (maxL := 2) (ret := (some .boolean)) (by decide) rfl ?_
  intro p e s m args below meth c s₁ B hml hv
  obtain ⟨ha, hP, hK⟩ := hv
  have hx := B.exec
  have hb := B.bytes
  have hr := B.returns
  have hts := atoms_spec (ws := ws_Jo_suits) B.pre
  have hg : ∀ w ∈ ALLG, w.before args s = true := fun w h => hts w (List.mem_cons_of_mem _ h)
  have hown : s.vm.findClass R_Jo = some m.cls := findClass_of_methodNamed B.named
  have hlocks := B.notSynchronized
  have hP : va_P DD vwCl [(aw, .inr (2, [.ref hjs, .ref hjj])), (h, .inr (4, [.ref hk, .ref ht, .int (nI n)])), (hk, .inl (ck, 150, .inl k))] s.heap := hP
  have hl := lv_entry ([.ref aw, .ref h]) (n := 2) (Nat.le_of_ble_eq_true rfl)
  rw [ha, lg_entry_eq, ← ha]
  generalize (lg_sl ([.ref aw, .ref h]) ++ List.replicate (2 - (lg_sl ([.ref aw, .ref h])).length) Slot.unset).toArray = ls at hl ⊢
  have hl : lv_has ls 2 [(0, .ref aw), (1, .ref h)] := hl
  refine lv_iconst (v := nI 1) hx hb d_Jo_suits_0 (by decide) ?_
  exact W.zret (v := nI 1) hx hb hr (by rfl) (fun t9 ht9 hW9 => ⟨_, rfl, rfl, ht9⟩) (fun _ h => nomatch h) d_Jo_suits_1
theorem d_By_suits_0 : decode b_By_suits 0 = .ok (.iconst 1, 1) := by decide +kernel
theorem d_By_suits_1 : decode b_By_suits 1 = .ok (.ireturn, 1) := by decide +kernel
abbrev ws_By_suits : List Cond := .code y_By_suits b_By_suits 2 (some .boolean) :: ALLG
abbrev rm_By_suits : Room := { frames := 0, cells := 0, slots := 0, locals := 0 }
set_option maxHeartbeats 4000000 in
set_option maxRecDepth 100000 in
theorem c_By_suits (l : Launch) (DD : va_G) (aw : Nat) (hbn : Nat) (hbd : Nat) (h : Nat) (hk : Nat) (ck : ClassId) (k : Nat → Int32) (ht : Nat) (n : Nat) : Met l y_By_suits ws_By_suits rm_By_suits (va_Pc [.ref aw, .ref h] (fun U => va_P DD vwCl [(aw, .inr (0, [.ref hbn, .ref hbd])), (h, .inr (4, [.ref hk, .ref ht, .int (nI n)])), (hk, .inl (ck, 150, .inl k))] U.heap ∧ va_K DD vwCl [(ck, .int)] U)) (vp_Si (fun r9 => r9 = zb true)) 0 0 (fun _ => False) := by
  refine Met.ofW (cc := b_By_suits) (maxL := 2) (ret := (some .boolean)) (by decide) rfl ?_
  intro p e s m args below meth c s₁ B hml hv
  obtain ⟨ha, hP, hK⟩ := hv
  have hx := B.exec
  have hb := B.bytes
  have hr := B.returns
  have hts := atoms_spec (ws := ws_By_suits) B.pre
  have hg : ∀ w ∈ ALLG, w.before args s = true := fun w h => hts w (List.mem_cons_of_mem _ h)
  have hown : s.vm.findClass R_By = some m.cls := findClass_of_methodNamed B.named
  have hlocks := B.notSynchronized
  have hP : va_P DD vwCl [(aw, .inr (0, [.ref hbn, .ref hbd])), (h, .inr (4, [.ref hk, .ref ht, .int (nI n)])), (hk, .inl (ck, 150, .inl k))] s.heap := hP
  have hl := lv_entry ([.ref aw, .ref h]) (n := 2) (Nat.le_of_ble_eq_true rfl)
  rw [ha, lg_entry_eq, ← ha]
  generalize (lg_sl ([.ref aw, .ref h]) ++ List.replicate (2 - (lg_sl ([.ref aw, .ref h])).length) Slot.unset).toArray = ls at hl ⊢
  have hl : lv_has ls 2 [(0, .ref aw), (1, .ref h)] := hl
  refine lv_iconst (v := nI 1) hx hb d_By_suits_0 (by decide) ?_
  exact W.zret (v := nI 1) hx hb hr (by rfl) (fun t9 ht9 hW9 => ⟨_, rfl, rfl, ht9⟩) (fun _ h => nomatch h) d_By_suits_1
theorem d_Co_suits_0 : decode b_Co_suits 0 = .ok (.aload_n 1, 1) := by decide +kernel
theorem d_Co_suits_1 : decode b_Co_suits 1 = .ok (.invokevirtual 18, 3) := by decide +kernel
theorem d_Co_suits_4 : decode b_Co_suits 4 = .ok (.i2l, 1) := by decide +kernel
theorem d_Co_suits_5 : decode b_Co_suits 5 = .ok (.aload_n 1, 1) := by decide +kernel
theorem d_Co_suits_6 : decode b_Co_suits 6 = .ok (.invokevirtual 24, 3) := by decide +kernel
theorem d_Co_suits_9 : decode b_Co_suits 9 = .ok (.i2l, 1) := by decide +kernel
theorem d_Co_suits_10 : decode b_Co_suits 10 = .ok (.lsub, 1) := by decide +kernel
theorem d_Co_suits_11 : decode b_Co_suits 11 = .ok (.ldc2_w 27, 3) := by decide +kernel
theorem d_Co_suits_14 : decode b_Co_suits 14 = .ok (.lcmp, 1) := by decide +kernel
theorem d_Co_suits_15 : decode b_Co_suits 15 = .ok (.ifCond .gt 7, 3) := by decide +kernel
theorem d_Co_suits_18 : decode b_Co_suits 18 = .ok (.iconst 1, 1) := by decide +kernel
theorem d_Co_suits_19 : decode b_Co_suits 19 = .ok (.goto 4, 3) := by decide +kernel
theorem d_Co_suits_22 : decode b_Co_suits 22 = .ok (.iconst 0, 1) := by decide +kernel
theorem d_Co_suits_23 : decode b_Co_suits 23 = .ok (.ireturn, 1) := by decide +kernel
abbrev ws_Co_suits : List Cond := .code y_Co_suits b_Co_suits 2 (some .boolean) :: ALLG
abbrev rm_Co_suits : Room := { frames := 2, cells := 0, slots := 0, locals := 36 }
set_option maxHeartbeats 4000000 in
set_option maxRecDepth 100000 in
theorem c_Co_suits (l : Launch) (DD : va_G) (aw : Nat) (hcc : Nat) (hcn : Nat) (h : Nat) (hk : Nat) (ck : ClassId) (k : Nat → Int32) (ht : Nat) (n : Nat) (hn : n ≤ 150) : Met l y_Co_suits ws_Co_suits rm_Co_suits (va_Pc [.ref aw, .ref h] (fun U => va_P DD vwCl [(aw, .inr (1, [.ref hcc, .ref hcn])), (h, .inr (4, [.ref hk, .ref ht, .int (nI n)])), (hk, .inl (ck, 150, .inl k))] U.heap ∧ va_K DD vwCl [(ck, .int)] U)) (vp_Si (fun r9 => r9 = zb (cntB k n))) 0 0 (fun _ => False) := by
  refine Met.ofW (cc := b_Co_suits) (maxL := 2) (ret := (some .boolean)) (by decide) rfl ?_
  intro p e s m args below meth c s₁ B hml hv
  obtain ⟨ha, hP, hK⟩ := hv
  have hx := B.exec
  have hb := B.bytes
  have hr := B.returns
  have hts := atoms_spec (ws := ws_Co_suits) B.pre
  have hg : ∀ w ∈ ALLG, w.before args s = true := fun w h => hts w (List.mem_cons_of_mem _ h)
  have hown : s.vm.findClass R_Co = some m.cls := findClass_of_methodNamed B.named
  have hlocks := B.notSynchronized
  have hP : va_P DD vwCl [(aw, .inr (1, [.ref hcc, .ref hcn])), (h, .inr (4, [.ref hk, .ref ht, .int (nI n)])), (hk, .inl (ck, 150, .inl k))] s.heap := hP
  have hl := lv_entry ([.ref aw, .ref h]) (n := 2) (Nat.le_of_ble_eq_true rfl)
  rw [ha, lg_entry_eq, ← ha]
  generalize (lg_sl ([.ref aw, .ref h]) ++ List.replicate (2 - (lg_sl ([.ref aw, .ref h])).length) Slot.unset).toArray = ls at hl ⊢
  have hl : lv_has ls 2 [(0, .ref aw), (1, .ref h)] := hl
  refine lv_aload_n hx hb d_Co_suits_0 rfl (lv_at hl 1 rfl) ?_
  have hPc := hP.sub (ws' := [(h, .inr (4, [.ref hk, .ref ht, .int (nI n)])), (hk, .inl (ck, 150, .inl k))]) [1, 2] rfl
  have hKc := hK.sub (tys' := [(ck, .int)]) [0] rfl
  refine vp_callSi (W.runV (As := []) (rest := []) ⟨hx, hb, hml, hown, hg⟩ (c_Ro_greatestKey l DD h hk ht ck n k (by omega)) (cwV 0 hg (gi_V mw_192 mw_193 mw_194 mw_2 mw_195) rfl rfl rfl (by decide +kernel) ⟨Nat.le_of_ble_eq_true rfl, Nat.le_of_ble_eq_true rfl⟩) ⟨z_blind, va_recv hKc hPc (ci := 4) (q0 := 0) rfl rfl, z_pre hPc hKc⟩ rfl rfl hl.1 rfl (lv_room (Nat.le_of_ble_eq_true rfl)) d_Co_suits_1 ⟨Nat.zero_le _, Nat.zero_le _⟩) (fun r_1 hr_1 => ?_)
  subst hr_1
  refine lv_i2l hx hb d_Co_suits_4 rfl ?_
  refine lv_aload_n hx hb d_Co_suits_5 rfl (lv_at hl 1 rfl) ?_
  have hPc := hP.sub (ws' := [(h, .inr (4, [.ref hk, .ref ht, .int (nI n)])), (hk, .inl (ck, 150, .inl k))]) [1, 2] rfl
  have hKc := hK.sub (tys' := [(ck, .int)]) [0] rfl
  refine vp_callSi (W.runV (As := []) (rest := [.long ((greatF k n).toInt64)]) ⟨hx, hb, hml, hown, hg⟩ (c_Ro_leastKey l DD h hk ht ck n k (by omega)) (cwV 0 hg (gi_V mw_199 mw_200 mw_201 mw_2 mw_202) rfl rfl rfl (by decide +kernel) ⟨Nat.le_of_ble_eq_true rfl, Nat.le_of_ble_eq_true rfl⟩) ⟨z_blind, va_recv hKc hPc (ci := 4) (q0 := 0) rfl rfl, z_pre hPc hKc⟩ rfl rfl hl.1 rfl (lv_room (Nat.le_of_ble_eq_true rfl)) d_Co_suits_6 ⟨Nat.zero_le _, Nat.zero_le _⟩) (fun r_6 hr_6 => ?_)
  subst hr_6
  refine lv_i2l hx hb d_Co_suits_9 rfl ?_
  refine lv_lsub hx hb d_Co_suits_10 ?_
  refine lv_ldc2 (v := 500) hx hb hown (hg _ mw_206) d_Co_suits_11 ?_
  refine z_lcmp_gt (tgt := 22) hx hb d_Co_suits_14 d_Co_suits_15 (by decide) (fun c_14 => ?_) (fun c_14 => ?_)
  · refine lv_iconst (v := nI 0) hx hb d_Co_suits_22 (by decide) ?_
    exact W.zret (v := nI 0) hx hb hr (by rfl) (fun t9 ht9 hW9 => ⟨_, rfl, (by first | exact cntB_t c_14 | exact cntB_f c_14), ht9⟩) (fun _ h => nomatch h) d_Co_suits_23
  · refine lv_iconst (v := nI 1) hx hb d_Co_suits_18 (by decide) ?_
    refine lv_goto (tgt := 23) hx hb d_Co_suits_19 (by decide) ?_
    exact W.zret (v := nI 1) hx hb hr (by rfl) (fun t9 ht9 hW9 => ⟨_, rfl, (by first | exact cntB_t c_14 | exact cntB_f c_14), ht9⟩) (fun _ h => nomatch h) d_Co_suits_23
theorem d_Tu_arrange_0 : decode b_Tu_arrange 0 = .ok (.aload_n 1, 1) := by decide +kernel
theorem d_Tu_arrange_1 : decode b_Tu_arrange 1 = .ok (.invokevirtual 15, 3) := by decide +kernel
theorem d_Tu_arrange_4 : decode b_Tu_arrange 4 = .ok (.istore 4, 2) := by decide +kernel
theorem d_Tu_arrange_6 : decode b_Tu_arrange 6 = .ok (.iload 4, 2) := by decide +kernel
theorem d_Tu_arrange_8 : decode b_Tu_arrange 8 = .ok (.iconst 2, 1) := by decide +kernel
theorem d_Tu_arrange_9 : decode b_Tu_arrange 9 = .ok (.if_icmp .ge 5, 3) := by decide +kernel
theorem d_Tu_arrange_12 : decode b_Tu_arrange 12 = .ok (.iconst 0, 1) := by decide +kernel
theorem d_Tu_arrange_13 : decode b_Tu_arrange 13 = .ok (.ireturn, 1) := by decide +kernel
theorem d_Tu_arrange_14 : decode b_Tu_arrange 14 = .ok (.iconst 0, 1) := by decide +kernel
theorem d_Tu_arrange_15 : decode b_Tu_arrange 15 = .ok (.istore 5, 2) := by decide +kernel
theorem d_Tu_arrange_17 : decode b_Tu_arrange 17 = .ok (.iload 5, 2) := by decide +kernel
theorem d_Tu_arrange_19 : decode b_Tu_arrange 19 = .ok (.iload 4, 2) := by decide +kernel
theorem d_Tu_arrange_21 : decode b_Tu_arrange 21 = .ok (.iconst 2, 1) := by decide +kernel
theorem d_Tu_arrange_22 : decode b_Tu_arrange 22 = .ok (.idiv, 1) := by decide +kernel
theorem d_Tu_arrange_23 : decode b_Tu_arrange 23 = .ok (.if_icmp .ge 39, 3) := by decide +kernel
theorem d_Tu_arrange_26 : decode b_Tu_arrange 26 = .ok (.aload_n 2, 1) := by decide +kernel
theorem d_Tu_arrange_27 : decode b_Tu_arrange 27 = .ok (.iload 5, 2) := by decide +kernel
theorem d_Tu_arrange_29 : decode b_Tu_arrange 29 = .ok (.iaload, 1) := by decide +kernel
theorem d_Tu_arrange_30 : decode b_Tu_arrange 30 = .ok (.istore 6, 2) := by decide +kernel
theorem d_Tu_arrange_32 : decode b_Tu_arrange 32 = .ok (.aload_n 2, 1) := by decide +kernel
theorem d_Tu_arrange_33 : decode b_Tu_arrange 33 = .ok (.iload 5, 2) := by decide +kernel
theorem d_Tu_arrange_35 : decode b_Tu_arrange 35 = .ok (.aload_n 2, 1) := by decide +kernel
theorem d_Tu_arrange_36 : decode b_Tu_arrange 36 = .ok (.iload 4, 2) := by decide +kernel
theorem d_Tu_arrange_38 : decode b_Tu_arrange 38 = .ok (.iconst 1, 1) := by decide +kernel
theorem d_Tu_arrange_39 : decode b_Tu_arrange 39 = .ok (.isub, 1) := by decide +kernel
theorem d_Tu_arrange_40 : decode b_Tu_arrange 40 = .ok (.iload 5, 2) := by decide +kernel
theorem d_Tu_arrange_42 : decode b_Tu_arrange 42 = .ok (.isub, 1) := by decide +kernel
theorem d_Tu_arrange_43 : decode b_Tu_arrange 43 = .ok (.iaload, 1) := by decide +kernel
theorem d_Tu_arrange_44 : decode b_Tu_arrange 44 = .ok (.iastore, 1) := by decide +kernel
theorem d_Tu_arrange_45 : decode b_Tu_arrange 45 = .ok (.aload_n 2, 1) := by decide +kernel
theorem d_Tu_arrange_46 : decode b_Tu_arrange 46 = .ok (.iload 4, 2) := by decide +kernel
theorem d_Tu_arrange_48 : decode b_Tu_arrange 48 = .ok (.iconst 1, 1) := by decide +kernel
theorem d_Tu_arrange_49 : decode b_Tu_arrange 49 = .ok (.isub, 1) := by decide +kernel
theorem d_Tu_arrange_50 : decode b_Tu_arrange 50 = .ok (.iload 5, 2) := by decide +kernel
theorem d_Tu_arrange_52 : decode b_Tu_arrange 52 = .ok (.isub, 1) := by decide +kernel
theorem d_Tu_arrange_53 : decode b_Tu_arrange 53 = .ok (.iload 6, 2) := by decide +kernel
theorem d_Tu_arrange_55 : decode b_Tu_arrange 55 = .ok (.iastore, 1) := by decide +kernel
theorem d_Tu_arrange_56 : decode b_Tu_arrange 56 = .ok (.iinc 5 1, 3) := by decide +kernel
theorem d_Tu_arrange_59 : decode b_Tu_arrange 59 = .ok (.goto (-42), 3) := by decide +kernel
theorem d_Tu_arrange_62 : decode b_Tu_arrange 62 = .ok (.aload_n 3, 1) := by decide +kernel
theorem d_Tu_arrange_63 : decode b_Tu_arrange 63 = .ok (.iconst 0, 1) := by decide +kernel
theorem d_Tu_arrange_64 : decode b_Tu_arrange 64 = .ok (.iconst 0, 1) := by decide +kernel
theorem d_Tu_arrange_65 : decode b_Tu_arrange 65 = .ok (.iload 4, 2) := by decide +kernel
theorem d_Tu_arrange_67 : decode b_Tu_arrange 67 = .ok (.invokevirtual 18, 3) := by decide +kernel
theorem d_Tu_arrange_70 : decode b_Tu_arrange 70 = .ok (.iload 4, 2) := by decide +kernel
theorem d_Tu_arrange_72 : decode b_Tu_arrange 72 = .ok (.iconst 1, 1) := by decide +kernel
theorem d_Tu_arrange_73 : decode b_Tu_arrange 73 = .ok (.isub, 1) := by decide +kernel
theorem d_Tu_arrange_74 : decode b_Tu_arrange 74 = .ok (.ireturn, 1) := by decide +kernel
abbrev ws_Tu_arrange : List Cond := .code y_Tu_arrange b_Tu_arrange 7 (some .int) :: ALLG
abbrev rm_Tu_arrange : Room := { frames := 1, cells := 0, slots := 0, locals := 24 }
set_option maxHeartbeats 4000000 in
set_option maxRecDepth 100000 in
theorem c_Tu_arrange (l : Launch) (DD : va_G) (sz : Nat) (aw : Nat) (h : Nat) (hk : Nat) (ck : ClassId) (k : Nat → Int32) (ht : Nat) (n : Nat) (hpn : Nat) (cpn : ClassId) (pn : Nat → Nat) (aq : Nat) (htf : Nat) (ctf : ClassId) (tf : Nat → Int32) (tn : Nat) (hn : n ≤ 150) (htn : tn < 150) : Met l y_Tu_arrange ws_Tu_arrange rm_Tu_arrange (va_Pc [.ref aw, .ref h, .ref hpn, .ref aq] (fun U => U.heap.size = sz ∧ va_P DD vwCl [(aw, .inr (7, [])), (h, .inr (4, [.ref hk, .ref ht, .int (nI n)])), (hk, .inl (ck, 150, .inl k)), (hpn, .inl (cpn, 150, .inl (nF pn))), (aq, .inr (6, [.ref htf, .int (nI tn)])), (htf, .inl (ctf, 450, .inl tf))] U.heap ∧ va_K DD vwCl [(ck, .int), (cpn, .int), (ctf, .int)] U ∧ va_D (fun _ => True) [(aw, .inr (7, [])), (h, .inr (4, [.ref hk, .ref ht, .int (nI n)])), (hk, .inl (ck, 150, .inl k)), (hpn, .inl (cpn, 150, .inl (nF pn))), (aq, .inr (6, [.ref htf, .int (nI tn)])), (htf, .inl (ctf, 450, .inl tf))])) (va_Qi (fun (r9 : Int32) (u9 : Unit) => match u9 with | _ => r9 = nI (n - 1)) (fun (u9 : Unit) (t9 : State) => match u9 with | _ => va_P DD vwCl [(aw, .inr (7, [])), (h, .inr (4, [.ref hk, .ref ht, .int (nI n)])), (hk, .inl (ck, 150, .inl k)), (hpn, .inl (cpn, 150, .inl (nF (if n < 2 then pn else swF pn n (n / 2))))), (aq, .inr (6, [.ref htf, .int (nI (if n < 2 then tn else tn + 1))])), (htf, .inl (ctf, 450, .inl (if n < 2 then tf else tadd tf tn (nI 0) (nI 0) (nI n))))] t9.heap ∧ va_K DD vwCl [(ck, .int), (cpn, .int), (ctf, .int)] t9 ∧ va_D (va_A [(aw, .inr (7, [])), (h, .inr (4, [.ref hk, .ref ht, .int (nI n)])), (hk, .inl (ck, 150, .inl k)), (hpn, .inl (cpn, 150, .inl (nF pn))), (aq, .inr (6, [.ref htf, .int (nI tn)])), (htf, .inl (ctf, 450, .inl tf))] sz) [(aw, .inr (7, [])), (h, .inr (4, [.ref hk, .ref ht, .int (nI n)])), (hk, .inl (ck, 150, .inl k)), (hpn, .inl (cpn, 150, .inl (nF (if n < 2 then pn else swF pn n (n / 2))))), (aq, .inr (6, [.ref htf, .int (nI (if n < 2 then tn else tn + 1))])), (htf, .inl (ctf, 450, .inl (if n < 2 then tf else tadd tf tn (nI 0) (nI 0) (nI n))))]) (va_A [(aw, .inr (7, [])), (h, .inr (4, [.ref hk, .ref ht, .int (nI n)])), (hk, .inl (ck, 150, .inl k)), (hpn, .inl (cpn, 150, .inl (nF pn))), (aq, .inr (6, [.ref htf, .int (nI tn)])), (htf, .inl (ctf, 450, .inl tf))] sz)) 0 0 (va_A [(aw, .inr (7, [])), (h, .inr (4, [.ref hk, .ref ht, .int (nI n)])), (hk, .inl (ck, 150, .inl k)), (hpn, .inl (cpn, 150, .inl (nF pn))), (aq, .inr (6, [.ref htf, .int (nI tn)])), (htf, .inl (ctf, 450, .inl tf))] sz) := by
  refine Met.ofW (cc := b_Tu_arrange) (maxL := 7) (ret := (some .int)) (by decide) rfl ?_
  intro p e s m args below meth c s₁ B hml hv
  obtain ⟨ha, hsz, hP, hK, hD0⟩ := hv
  have hx := B.exec
  have hb := B.bytes
  have hr := B.returns
  have hts := atoms_spec (ws := ws_Tu_arrange) B.pre
  have hg : ∀ w ∈ ALLG, w.before args s = true := fun w h => hts w (List.mem_cons_of_mem _ h)
  have hown : s.vm.findClass R_Tu = some m.cls := findClass_of_methodNamed B.named
  have hlocks := B.notSynchronized
  subst hsz
  have hD := hD0.self (sz := s.heap.size)
  generalize hAe : va_A [(aw, .inr (7, [])), (h, .inr (4, [.ref hk, .ref ht, .int (nI n)])), (hk, .inl (ck, 150, .inl k)), (hpn, .inl (cpn, 150, .inl (nF pn))), (aq, .inr (6, [.ref htf, .int (nI tn)])), (htf, .inl (ctf, 450, .inl tf))] s.heap.size = A at hD ⊢
  have hA : ∀ q : Nat, s.heap.size ≤ q → A q := fun q h => by rw [← hAe]; exact Or.inr h
  have hS : va_S A s.heap s.heap [] := va_S.rf
  have hP : va_P DD vwCl [(aw, .inr (7, [])), (h, .inr (4, [.ref hk, .ref ht, .int (nI n)])), (hk, .inl (ck, 150, .inl k)), (hpn, .inl (cpn, 150, .inl (nF pn))), (aq, .inr (6, [.ref htf, .int (nI tn)])), (htf, .inl (ctf, 450, .inl tf))] s.heap := hP
  have hl := lv_entry ([.ref aw, .ref h, .ref hpn, .ref aq]) (n := 7) (Nat.le_of_ble_eq_true rfl)
  rw [ha, lg_entry_eq, ← ha]
  generalize (lg_sl ([.ref aw, .ref h, .ref hpn, .ref aq]) ++ List.replicate (7 - (lg_sl ([.ref aw, .ref h, .ref hpn, .ref aq])).length) Slot.unset).toArray = ls at hl ⊢
  have hl : lv_has ls 7 [(0, .ref aw), (1, .ref h), (2, .ref hpn), (3, .ref aq)] := hl
  have K17 : ∀ (kk : Nat) (i : Nat), (h2 : 2 ≤ n) → (hi : i ≤ n / 2) → n / 2 - i < kk → ∀ (H : Heap) (locs : List Loc), va_P DD vwCl [(aw, .inr (7, [])), (h, .inr (4, [.ref hk, .ref ht, .int (nI n)])), (hk, .inl (ck, 150, .inl k)), (hpn, .inl (cpn, 150, .inl (nF (swF pn n i)))), (aq, .inr (6, [.ref htf, .int (nI tn)])), (htf, .inl (ctf, 450, .inl tf))] H → va_D A [(aw, .inr (7, [])), (h, .inr (4, [.ref hk, .ref ht, .int (nI n)])), (hk, .inl (ck, 150, .inl k)), (hpn, .inl (cpn, 150, .inl (nF (swF pn n i)))), (aq, .inr (6, [.ref htf, .int (nI tn)])), (htf, .inl (ctf, 450, .inl tf))] → va_S A s.heap H locs → ∀ (ls : Array Slot), lv_has ls 7 [(0, .ref aw), (1, .ref h), (2, .ref hpn), (3, .ref aq), (4, .int (nI n)), (5, .int (nI i))] → W p l e (headSpec ws_Tu_arrange rm_Tu_arrange).room s m args below meth c H locs 0 0 (MQ below (va_Qi (fun (r9 : Int32) (u9 : Unit) => match u9 with | _ => r9 = nI (n - 1)) (fun (u9 : Unit) (t9 : State) => match u9 with | _ => va_P DD vwCl [(aw, .inr (7, [])), (h, .inr (4, [.ref hk, .ref ht, .int (nI n)])), (hk, .inl (ck, 150, .inl k)), (hpn, .inl (cpn, 150, .inl (nF (if n < 2 then pn else swF pn n (n / 2))))), (aq, .inr (6, [.ref htf, .int (nI (if n < 2 then tn else tn + 1))])), (htf, .inl (ctf, 450, .inl (if n < 2 then tf else tadd tf tn (nI 0) (nI 0) (nI n))))] t9.heap ∧ va_K DD vwCl [(ck, .int), (cpn, .int), (ctf, .int)] t9 ∧ va_D A [(aw, .inr (7, [])), (h, .inr (4, [.ref hk, .ref ht, .int (nI n)])), (hk, .inl (ck, 150, .inl k)), (hpn, .inl (cpn, 150, .inl (nF (if n < 2 then pn else swF pn n (n / 2))))), (aq, .inr (6, [.ref htf, .int (nI (if n < 2 then tn else tn + 1))])), (htf, .inl (ctf, 450, .inl (if n < 2 then tf else tadd tf tn (nI 0) (nI 0) (nI n))))]) A) args s 0 0 A) (F0 m 17 ls []) := by
    intro kk
    induction kk with
    | zero => intros; omega
    | succ kk ih17 =>
      intro i h2 hi hkk H locs hP hD hS ls hl
      refine lv_iload hx hb d_Tu_arrange_17 (lv_at hl 5 rfl) ?_
      refine lv_iload hx hb d_Tu_arrange_19 (lv_at hl 4 rfl) ?_
      refine lv_iconst (v := nI 2) hx hb d_Tu_arrange_21 (by decide) ?_
      refine z_idiv hx hb d_Tu_arrange_22 (by omega) ?_
      refine z_icmp_ge (tgt := 62) hx hb d_Tu_arrange_23 (by decide) (by omega) (by omega) (fun c_23 => ?_) (fun c_23 => ?_)
      · refine lv_aload_n hx hb d_Tu_arrange_62 rfl (lv_at hl 3 rfl) ?_
        refine lv_iconst (v := nI 0) hx hb d_Tu_arrange_63 (by decide) ?_
        refine lv_iconst (v := nI 0) hx hb d_Tu_arrange_64 (by decide) ?_
        refine lv_iload hx hb d_Tu_arrange_65 (lv_at hl 4 rfl) ?_
        have hPc := hP.sub (ws' := [(aq, .inr (6, [.ref htf, .int (nI tn)])), (htf, .inl (ctf, 450, .inl tf))]) [4, 5] rfl
        have hKc := hK.sub (tys' := [(ctf, .int)]) [2] rfl
        have hDc := hD.sub (ws' := [(aq, .inr (6, [.ref htf, .int (nI tn)])), (htf, .inl (ctf, 450, .inl tf))]) [4, 5] (by decide) rfl
        have hFc := va_free (wc := [(aq, .inr (6, [.ref htf, .int (nI tn)])), (htf, .inl (ctf, 450, .inl tf))]) hD hS hA [4, 5] rfl
        refine va_callv (va_runV (As := [.int (nI 0), .int (nI 0), .int (nI n)]) (rest := []) ⟨hx, hb, hml, hown, hg⟩ (c_Tr_add l DD H.size aq htf ctf tf tn (nI 0) (nI 0) (nI n) (by omega)) (cwV 3 hg (gi_V mw_614 mw_558 mw_559 mw_4 mw_560) rfl rfl rfl (by decide +kernel) ⟨Nat.le_of_ble_eq_true rfl, Nat.le_of_ble_eq_true rfl⟩) ⟨z_blindQ, va_recv hKc hPc (ci := 6) (q0 := 0) rfl rfl, z_preQ hPc hKc hDc⟩ rfl rfl hl.1 rfl (lv_room (Nat.le_of_ble_eq_true rfl)) d_Tu_arrange_67 ⟨Nat.zero_le _, Nat.zero_le _⟩) hS (fun q _ h => hFc q h) hFc (fun u9 t9 H9 locs ht9 hvm9 hw9 hB9 hz9 hk9 hS => ?_)
        obtain ⟨hP1, hK1, hD1⟩ := hB9
        rw [ht9] at hP1
        try dsimp only at hw9
        obtain ⟨hP, hD⟩ := va_join (wr := [(aw, .inr (7, [])), (h, .inr (4, [.ref hk, .ref ht, .int (nI n)])), (hk, .inl (ck, 150, .inl k)), (hpn, .inl (cpn, 150, .inl (nF (swF pn n i))))]) (w1 := [(aq, .inr (6, [.ref htf, .int (nI (tn + 1))])), (htf, .inl (ctf, 450, .inl (tadd tf tn (nI 0) (nI 0) (nI n))))]) hP hD [4, 5] [0, 1, 2, 3] rfl rfl (by decide) (by decide) hk9 hFc hP1 hD1
        generalize H9 = H at hP hS ⊢
        have hP : va_P DD vwCl [(aw, .inr (7, [])), (h, .inr (4, [.ref hk, .ref ht, .int (nI n)])), (hk, .inl (ck, 150, .inl k)), (hpn, .inl (cpn, 150, .inl (nF (swF pn n i)))), (aq, .inr (6, [.ref htf, .int (nI (tn + 1))])), (htf, .inl (ctf, 450, .inl (tadd tf tn (nI 0) (nI 0) (nI n))))] H := hP
        have hD : va_D A [(aw, .inr (7, [])), (h, .inr (4, [.ref hk, .ref ht, .int (nI n)])), (hk, .inl (ck, 150, .inl k)), (hpn, .inl (cpn, 150, .inl (nF (swF pn n i)))), (aq, .inr (6, [.ref htf, .int (nI (tn + 1))])), (htf, .inl (ctf, 450, .inl (tadd tf tn (nI 0) (nI 0) (nI n))))] := hD
        refine lv_iload hx hb d_Tu_arrange_70 (lv_at hl 4 rfl) ?_
        refine lv_iconst (v := nI 1) hx hb d_Tu_arrange_72 (by decide) ?_
        refine z_isub hx hb d_Tu_arrange_73 (by omega) ?_
        rw [show swF pn n i = if n < 2 then pn else swF pn n (n / 2) from (by rw [if_neg (by omega), Nat.le_antisymm hi c_23])] at hP hD
        rw [show tadd tf tn (nI 0) (nI 0) (nI n) = if n < 2 then tf else tadd tf tn (nI 0) (nI 0) (nI n) from (if_neg (by omega)).symm] at hP hD
        rw [show nI (tn + 1) = nI (if n < 2 then tn else tn + 1) from congrArg nI (if_neg (by omega)).symm] at hP hD
        have hP9 := hP.sub (ws' := [(aw, .inr (7, [])), (h, .inr (4, [.ref hk, .ref ht, .int (nI n)])), (hk, .inl (ck, 150, .inl k)), (hpn, .inl (cpn, 150, .inl (nF (if n < 2 then pn else swF pn n (n / 2))))), (aq, .inr (6, [.ref htf, .int (nI (if n < 2 then tn else tn + 1))])), (htf, .inl (ctf, 450, .inl (if n < 2 then tf else tadd tf tn (nI 0) (nI 0) (nI n))))]) [0, 1, 2, 3, 4, 5] rfl
        have hD9 := hD.sub (ws' := [(aw, .inr (7, [])), (h, .inr (4, [.ref hk, .ref ht, .int (nI n)])), (hk, .inl (ck, 150, .inl k)), (hpn, .inl (cpn, 150, .inl (nF (if n < 2 then pn else swF pn n (n / 2))))), (aq, .inr (6, [.ref htf, .int (nI (if n < 2 then tn else tn + 1))])), (htf, .inl (ctf, 450, .inl (if n < 2 then tf else tadd tf tn (nI 0) (nI 0) (nI n))))]) [0, 1, 2, 3, 4, 5] (by decide) rfl
        exact W.iret (v := nI (n - 1)) hx hb hr (fun t9 ht9 hW9 => ⟨⟨_, (), rfl, (by rfl), by rw [ht9]; exact hP9, va_K.moved hW9.alike hK, hD9⟩, hS.F ht9⟩) hS.2.2 d_Tu_arrange_74
      · refine lv_aload_n hx hb d_Tu_arrange_26 rfl (lv_at hl 2 rfl) ?_
        refine lv_iload hx hb d_Tu_arrange_27 (lv_at hl 5 rfl) ?_
        refine z_ialdN hx hb hK hP 3 1 rfl rfl (by omega) (by decide) d_Tu_arrange_29 ?_
        refine lv_istore (lv' := [(6, .int (nI ((swF pn n i) i))), (0, .ref aw), (1, .ref h), (2, .ref hpn), (3, .ref aq), (4, .int (nI n)), (5, .int (nI i))]) hx hb d_Tu_arrange_30 hl (by decide) rfl (fun ls hl => ?_)
        refine lv_aload_n hx hb d_Tu_arrange_32 rfl (lv_at hl 3 rfl) ?_
        refine lv_iload hx hb d_Tu_arrange_33 (lv_at hl 6 rfl) ?_
        refine lv_aload_n hx hb d_Tu_arrange_35 rfl (lv_at hl 3 rfl) ?_
        refine lv_iload hx hb d_Tu_arrange_36 (lv_at hl 5 rfl) ?_
        refine lv_iconst (v := nI 1) hx hb d_Tu_arrange_38 (by decide) ?_
        refine z_isub hx hb d_Tu_arrange_39 (by omega) ?_
        refine lv_iload hx hb d_Tu_arrange_40 (lv_at hl 6 rfl) ?_
        refine z_isub hx hb d_Tu_arrange_42 (by omega) ?_
        refine z_ialdN hx hb hK hP 3 1 rfl rfl (by omega) (by decide) d_Tu_arrange_43 ?_
        refine z_iastN hx hb hK hP hD hS 3 1 rfl rfl (by omega) (by decide) d_Tu_arrange_44 (fun H locs hP hD hS => ?_)
        have hP : va_P DD vwCl [(aw, .inr (7, [])), (h, .inr (4, [.ref hk, .ref ht, .int (nI n)])), (hk, .inl (ck, 150, .inl k)), (hpn, .inl (cpn, 150, .inl (nF (va_up (swF pn n i) i ((swF pn n i) ((n - 1) - i)))))), (aq, .inr (6, [.ref htf, .int (nI tn)])), (htf, .inl (ctf, 450, .inl tf))] H := hP
        have hD : va_D A [(aw, .inr (7, [])), (h, .inr (4, [.ref hk, .ref ht, .int (nI n)])), (hk, .inl (ck, 150, .inl k)), (hpn, .inl (cpn, 150, .inl (nF (va_up (swF pn n i) i ((swF pn n i) ((n - 1) - i)))))), (aq, .inr (6, [.ref htf, .int (nI tn)])), (htf, .inl (ctf, 450, .inl tf))] := hD
        refine lv_aload_n hx hb d_Tu_arrange_45 rfl (lv_at hl 3 rfl) ?_
        refine lv_iload hx hb d_Tu_arrange_46 (lv_at hl 5 rfl) ?_
        refine lv_iconst (v := nI 1) hx hb d_Tu_arrange_48 (by decide) ?_
        refine z_isub hx hb d_Tu_arrange_49 (by omega) ?_
        refine lv_iload hx hb d_Tu_arrange_50 (lv_at hl 6 rfl) ?_
        refine z_isub hx hb d_Tu_arrange_52 (by omega) ?_
        refine lv_iload hx hb d_Tu_arrange_53 (lv_at hl 0 rfl) ?_
        refine z_iastN hx hb hK hP hD hS 3 1 rfl rfl (by omega) (by decide) d_Tu_arrange_55 (fun H locs hP hD hS => ?_)
        have hP : va_P DD vwCl [(aw, .inr (7, [])), (h, .inr (4, [.ref hk, .ref ht, .int (nI n)])), (hk, .inl (ck, 150, .inl k)), (hpn, .inl (cpn, 150, .inl (nF (va_up (va_up (swF pn n i) i ((swF pn n i) ((n - 1) - i))) ((n - 1) - i) ((swF pn n i) i))))), (aq, .inr (6, [.ref htf, .int (nI tn)])), (htf, .inl (ctf, 450, .inl tf))] H := hP
        have hD : va_D A [(aw, .inr (7, [])), (h, .inr (4, [.ref hk, .ref ht, .int (nI n)])), (hk, .inl (ck, 150, .inl k)), (hpn, .inl (cpn, 150, .inl (nF (va_up (va_up (swF pn n i) i ((swF pn n i) ((n - 1) - i))) ((n - 1) - i) ((swF pn n i) i))))), (aq, .inr (6, [.ref htf, .int (nI tn)])), (htf, .inl (ctf, 450, .inl tf))] := hD
        rw [show va_up (va_up (swF pn n i) i ((swF pn n i) ((n - 1) - i))) ((n - 1) - i) ((swF pn n i) i) = swF pn n (i + 1) from rfl] at hP hD
        refine lv_iinc (v := nI (i + 1)) (lv' := [(5, .int (nI (i + 1))), (6, .int (nI ((swF pn n i) i))), (0, .ref aw), (1, .ref h), (2, .ref hpn), (3, .ref aq), (4, .int (nI n))]) hx hb d_Tu_arrange_56 hl (k := 6) rfl (by exact nI_add i 1) (by decide) rfl (fun ls hl => ?_)
        refine lv_goto (tgt := 17) hx hb d_Tu_arrange_59 (by decide) ?_
        exact ih17 (i + 1) (by omega) (by omega) (by omega) _ _ hP hD hS ls (lv_sub hl [2, 3, 4, 5, 6, 0] rfl)
  refine lv_aload_n hx hb d_Tu_arrange_0 rfl (lv_at hl 1 rfl) ?_
  have hPc := hP.sub (ws' := [(h, .inr (4, [.ref hk, .ref ht, .int (nI n)])), (hk, .inl (ck, 150, .inl k))]) [1, 2] rfl
  have hKc := hK.sub (tys' := [(ck, .int)]) [0] rfl
  refine vp_callSi (W.runV (As := []) (rest := []) ⟨hx, hb, hml, hown, hg⟩ (c_Ro_size l DD h hk ht ck n k) (cwV 0 hg (gi_V mw_228 mw_214 mw_215 mw_2 mw_216) rfl rfl rfl (by decide +kernel) ⟨Nat.le_of_ble_eq_true rfl, Nat.le_of_ble_eq_true rfl⟩) ⟨z_blind, va_recv hKc hPc (ci := 4) (q0 := 0) rfl rfl, z_pre hPc hKc⟩ rfl rfl hl.1 rfl (lv_room (Nat.le_of_ble_eq_true rfl)) d_Tu_arrange_1 ⟨Nat.zero_le _, Nat.zero_le _⟩) (fun r_1 hr_1 => ?_)
  subst hr_1
  refine lv_istore (lv' := [(4, .int (nI n)), (0, .ref aw), (1, .ref h), (2, .ref hpn), (3, .ref aq)]) hx hb d_Tu_arrange_4 hl (by decide) rfl (fun ls hl => ?_)
  refine lv_iload hx hb d_Tu_arrange_6 (lv_at hl 0 rfl) ?_
  refine lv_iconst (v := nI 2) hx hb d_Tu_arrange_8 (by decide) ?_
  refine z_icmp_ge (tgt := 14) hx hb d_Tu_arrange_9 (by decide) (by omega) (by omega) (fun c_9 => ?_) (fun c_9 => ?_)
  · rw [show pn = swF pn n 0 from rfl] at hP hD
    refine lv_iconst (v := nI 0) hx hb d_Tu_arrange_14 (by decide) ?_
    refine lv_istore (lv' := [(5, .int (nI 0)), (4, .int (nI n)), (0, .ref aw), (1, .ref h), (2, .ref hpn), (3, .ref aq)]) hx hb d_Tu_arrange_15 hl (by decide) rfl (fun ls hl => ?_)
    exact K17 _ 0 (by omega) (by omega) (Nat.lt_succ_self _) _ _ hP hD hS ls (lv_sub hl [2, 3, 4, 5, 1, 0] rfl)
  · refine lv_iconst (v := nI 0) hx hb d_Tu_arrange_12 (by decide) ?_
    rw [show pn = if n < 2 then pn else swF pn n (n / 2) from (if_pos c_9).symm] at hP hD
    rw [show tf = if n < 2 then tf else tadd tf tn (nI 0) (nI 0) (nI n) from (if_pos c_9).symm] at hP hD
    rw [show nI tn = nI (if n < 2 then tn else tn + 1) from congrArg nI (if_pos c_9).symm] at hP hD
    have hP9 := hP.sub (ws' := [(aw, .inr (7, [])), (h, .inr (4, [.ref hk, .ref ht, .int (nI n)])), (hk, .inl (ck, 150, .inl k)), (hpn, .inl (cpn, 150, .inl (nF (if n < 2 then pn else swF pn n (n / 2))))), (aq, .inr (6, [.ref htf, .int (nI (if n < 2 then tn else tn + 1))])), (htf, .inl (ctf, 450, .inl (if n < 2 then tf else tadd tf tn (nI 0) (nI 0) (nI n))))]) [0, 1, 2, 3, 4, 5] rfl
    have hD9 := hD.sub (ws' := [(aw, .inr (7, [])), (h, .inr (4, [.ref hk, .ref ht, .int (nI n)])), (hk, .inl (ck, 150, .inl k)), (hpn, .inl (cpn, 150, .inl (nF (if n < 2 then pn else swF pn n (n / 2))))), (aq, .inr (6, [.ref htf, .int (nI (if n < 2 then tn else tn + 1))])), (htf, .inl (ctf, 450, .inl (if n < 2 then tf else tadd tf tn (nI 0) (nI 0) (nI n))))]) [0, 1, 2, 3, 4, 5] (by decide) rfl
    exact W.iret (v := nI 0) hx hb hr (fun t9 ht9 hW9 => ⟨⟨_, (), rfl, (by exact congrArg nI (by omega)), by rw [ht9]; exact hP9, va_K.moved hW9.alike hK, hD9⟩, hS.F ht9⟩) hS.2.2 d_Tu_arrange_13
theorem d_Pu_target_0 : decode b_Pu_target 0 = .ok (.aload_n 0, 1) := by decide +kernel
theorem d_Pu_target_1 : decode b_Pu_target 1 = .ok (.aload_n 1, 1) := by decide +kernel
theorem d_Pu_target_2 : decode b_Pu_target 2 = .ok (.iload_n 2, 1) := by decide +kernel
theorem d_Pu_target_3 : decode b_Pu_target 3 = .ok (.iaload, 1) := by decide +kernel
theorem d_Pu_target_4 : decode b_Pu_target 4 = .ok (.invokevirtual 31, 3) := by decide +kernel
theorem d_Pu_target_7 : decode b_Pu_target 7 = .ok (.istore_n 3, 1) := by decide +kernel
theorem d_Pu_target_8 : decode b_Pu_target 8 = .ok (.iload_n 2, 1) := by decide +kernel
theorem d_Pu_target_9 : decode b_Pu_target 9 = .ok (.istore 4, 2) := by decide +kernel
theorem d_Pu_target_11 : decode b_Pu_target 11 = .ok (.iload 4, 2) := by decide +kernel
theorem d_Pu_target_13 : decode b_Pu_target 13 = .ok (.ifCond .le 23, 3) := by decide +kernel
theorem d_Pu_target_16 : decode b_Pu_target 16 = .ok (.aload_n 0, 1) := by decide +kernel
theorem d_Pu_target_17 : decode b_Pu_target 17 = .ok (.aload_n 1, 1) := by decide +kernel
theorem d_Pu_target_18 : decode b_Pu_target 18 = .ok (.iload 4, 2) := by decide +kernel
theorem d_Pu_target_20 : decode b_Pu_target 20 = .ok (.iconst 1, 1) := by decide +kernel
theorem d_Pu_target_21 : decode b_Pu_target 21 = .ok (.isub, 1) := by decide +kernel
theorem d_Pu_target_22 : decode b_Pu_target 22 = .ok (.iaload, 1) := by decide +kernel
theorem d_Pu_target_23 : decode b_Pu_target 23 = .ok (.invokevirtual 31, 3) := by decide +kernel
theorem d_Pu_target_26 : decode b_Pu_target 26 = .ok (.iload_n 3, 1) := by decide +kernel
theorem d_Pu_target_27 : decode b_Pu_target 27 = .ok (.if_icmp .le 9, 3) := by decide +kernel
theorem d_Pu_target_30 : decode b_Pu_target 30 = .ok (.iinc 4 (-1), 3) := by decide +kernel
theorem d_Pu_target_33 : decode b_Pu_target 33 = .ok (.goto (-22), 3) := by decide +kernel
theorem d_Pu_target_36 : decode b_Pu_target 36 = .ok (.iload 4, 2) := by decide +kernel
theorem d_Pu_target_38 : decode b_Pu_target 38 = .ok (.ireturn, 1) := by decide +kernel
abbrev ws_Pu_target : List Cond := .code y_Pu_target b_Pu_target 5 (some .int) :: ALLG
abbrev rm_Pu_target : Room := { frames := 1, cells := 0, slots := 0, locals := 21 }
set_option maxHeartbeats 4000000 in
set_option maxRecDepth 100000 in
theorem c_Pu_target (l : Launch) (DD : va_G) (h : Nat) (hk : Nat) (ck : ClassId) (k : Nat → Int32) (ht : Nat) (n : Nat) (hpn : Nat) (cpn : ClassId) (pn : Nat → Nat) (j : Nat) (hj : j < 150) (hp : ∀ x, pn x < 150) : Met l y_Pu_target ws_Pu_target rm_Pu_target (va_Pc [.ref h, .ref hpn, .int (nI j)] (fun U => va_P DD vwCl [(h, .inr (4, [.ref hk, .ref ht, .int (nI n)])), (hk, .inl (ck, 150, .inl k)), (hpn, .inl (cpn, 150, .inl (nF pn)))] U.heap ∧ va_K DD vwCl [(ck, .int), (cpn, .int)] U)) (vp_Si (fun r9 => r9 = nI (tgtF k pn (k (pn j)) j))) 0 0 (fun _ => False) := by
  refine Met.ofW (cc := b_Pu_target) (maxL := 5) (ret := (some .int)) (by decide) rfl ?_
  intro p e s m args below meth c s₁ B hml hv
  obtain ⟨ha, hP, hK⟩ := hv
  have hx := B.exec
  have hb := B.bytes
  have hr := B.returns
  have hts := atoms_spec (ws := ws_Pu_target) B.pre
  have hg : ∀ w ∈ ALLG, w.before args s = true := fun w h => hts w (List.mem_cons_of_mem _ h)
  have hown : s.vm.findClass R_Pu = some m.cls := findClass_of_methodNamed B.named
  have hlocks := B.notSynchronized
  have hP : va_P DD vwCl [(h, .inr (4, [.ref hk, .ref ht, .int (nI n)])), (hk, .inl (ck, 150, .inl k)), (hpn, .inl (cpn, 150, .inl (nF pn)))] s.heap := hP
  have hl := lv_entry ([.ref h, .ref hpn, .int (nI j)]) (n := 5) (Nat.le_of_ble_eq_true rfl)
  rw [ha, lg_entry_eq, ← ha]
  generalize (lg_sl ([.ref h, .ref hpn, .int (nI j)]) ++ List.replicate (5 - (lg_sl ([.ref h, .ref hpn, .int (nI j)])).length) Slot.unset).toArray = ls at hl ⊢
  have hl : lv_has ls 5 [(0, .ref h), (1, .ref hpn), (2, .int (nI j))] := hl
  have K11 : ∀ (kk : Nat) (i : Nat), (hi : i ≤ j) → (hv : tgtF k pn (k (pn j)) j = tgtF k pn (k (pn j)) i) → i < kk → ∀ (ls : Array Slot), lv_has ls 5 [(0, .ref h), (1, .ref hpn), (2, .int (nI j)), (3, .int (k (pn j))), (4, .int (nI i))] → W p l e (headSpec ws_Pu_target rm_Pu_target).room s m args below meth c s.heap [] 0 0 (MQ below (vp_Si (fun r9 => r9 = nI (tgtF k pn (k (pn j)) j))) args s 0 0 (fun _ => False)) (F0 m 11 ls []) := by
    intro kk
    induction kk with
    | zero => intros; omega
    | succ kk ih11 =>
      intro i hi hv hkk ls hl
      refine lv_iload hx hb d_Pu_target_11 (lv_at hl 4 rfl) ?_
      refine z_if_le (tgt := 36) hx hb d_Pu_target_13 (by decide) (by omega) (fun c_13 => ?_) (fun c_13 => ?_)
      · refine lv_iload hx hb d_Pu_target_36 (lv_at hl 4 rfl) ?_
        exact W.iret (v := nI i) hx hb hr (fun t9 ht9 hW9 => ⟨_, rfl, (by first | exact congrArg nI (tgt_x hv c_13 c_27) | exact congrArg nI (tgt_0 hv c_13)), ht9⟩) (fun _ h => nomatch h) d_Pu_target_38
      · refine lv_aload_n hx hb d_Pu_target_16 rfl (lv_at hl 0 rfl) ?_
        refine lv_aload_n hx hb d_Pu_target_17 rfl (lv_at hl 1 rfl) ?_
        refine lv_iload hx hb d_Pu_target_18 (lv_at hl 4 rfl) ?_
        refine lv_iconst (v := nI 1) hx hb d_Pu_target_20 (by decide) ?_
        refine z_isub hx hb d_Pu_target_21 (by omega) ?_
        refine z_ialdN hx hb hK hP 2 1 rfl rfl (by omega) (by decide) d_Pu_target_22 ?_
        have hPc := hP.sub (ws' := [(h, .inr (4, [.ref hk, .ref ht, .int (nI n)])), (hk, .inl (ck, 150, .inl k))]) [0, 1] rfl
        have hKc := hK.sub (tys' := [(ck, .int)]) [0] rfl
        refine vp_callSi (W.runV (As := [.int (nI (pn (i - 1)))]) (rest := []) ⟨hx, hb, hml, hown, hg⟩ (c_Ro_key l DD h hk ht ck n k (pn (i - 1)) (by exact hp _)) (cwV 1 hg (gi_V mw_605 mw_410 mw_411 mw_2 mw_412) rfl rfl rfl (by decide +kernel) ⟨Nat.le_of_ble_eq_true rfl, Nat.le_of_ble_eq_true rfl⟩) ⟨z_blind, va_recv hKc hPc (ci := 4) (q0 := 0) rfl rfl, z_pre hPc hKc⟩ rfl rfl hl.1 rfl (lv_room (Nat.le_of_ble_eq_true rfl)) d_Pu_target_23 ⟨Nat.zero_le _, Nat.zero_le _⟩) (fun r_23 hr_23 => ?_)
        subst hr_23
        refine lv_iload_n hx hb d_Pu_target_26 rfl (lv_at hl 3 rfl) ?_
        refine lv_icmp_le (tgt := 36) hx hb d_Pu_target_27 (by decide) (fun c_27 => ?_) (fun c_27 => ?_)
        · refine lv_iload hx hb d_Pu_target_36 (lv_at hl 4 rfl) ?_
          exact W.iret (v := nI i) hx hb hr (fun t9 ht9 hW9 => ⟨_, rfl, (by first | exact congrArg nI (tgt_x hv c_13 c_27) | exact congrArg nI (tgt_0 hv c_13)), ht9⟩) (fun _ h => nomatch h) d_Pu_target_38
        · refine lv_iinc (v := nI (i - 1)) (lv' := [(4, .int (nI (i - 1))), (0, .ref h), (1, .ref hpn), (2, .int (nI j)), (3, .int (k (pn j)))]) hx hb d_Pu_target_30 hl (k := 4) rfl (by exact z_dec 1 (by omega)) (by decide) rfl (fun ls hl => ?_)
          refine lv_goto (tgt := 11) hx hb d_Pu_target_33 (by decide) ?_
          exact ih11 (i - 1) (by omega) (by exact tgt_s hv c_13 c_27) (by omega) ls (lv_sub hl [1, 2, 3, 4, 0] rfl)
  refine lv_aload_n hx hb d_Pu_target_0 rfl (lv_at hl 0 rfl) ?_
  refine lv_aload_n hx hb d_Pu_target_1 rfl (lv_at hl 1 rfl) ?_
  refine lv_iload_n hx hb d_Pu_target_2 rfl (lv_at hl 2 rfl) ?_
  refine z_ialdN hx hb hK hP 2 1 rfl rfl (by omega) (by decide) d_Pu_target_3 ?_
  have hPc := hP.sub (ws' := [(h, .inr (4, [.ref hk, .ref ht, .int (nI n)])), (hk, .inl (ck, 150, .inl k))]) [0, 1] rfl
  have hKc := hK.sub (tys' := [(ck, .int)]) [0] rfl
  refine vp_callSi (W.runV (As := [.int (nI (pn j))]) (rest := []) ⟨hx, hb, hml, hown, hg⟩ (c_Ro_key l DD h hk ht ck n k (pn j) (by exact hp _)) (cwV 1 hg (gi_V mw_605 mw_410 mw_411 mw_2 mw_412) rfl rfl rfl (by decide +kernel) ⟨Nat.le_of_ble_eq_true rfl, Nat.le_of_ble_eq_true rfl⟩) ⟨z_blind, va_recv hKc hPc (ci := 4) (q0 := 0) rfl rfl, z_pre hPc hKc⟩ rfl rfl hl.1 rfl (lv_room (Nat.le_of_ble_eq_true rfl)) d_Pu_target_4 ⟨Nat.zero_le _, Nat.zero_le _⟩) (fun r_4 hr_4 => ?_)
  subst hr_4
  refine lv_istore_n (lv' := [(3, .int (k (pn j))), (0, .ref h), (1, .ref hpn), (2, .int (nI j))]) hx hb d_Pu_target_7 rfl hl (by decide) rfl (fun ls hl => ?_)
  refine lv_iload_n hx hb d_Pu_target_8 rfl (lv_at hl 3 rfl) ?_
  refine lv_istore (lv' := [(4, .int (nI j)), (3, .int (k (pn j))), (0, .ref h), (1, .ref hpn), (2, .int (nI j))]) hx hb d_Pu_target_9 hl (by decide) rfl (fun ls hl => ?_)
  exact K11 _ j (by omega) (by rfl) (Nat.lt_succ_self _) ls (lv_sub hl [2, 3, 4, 1, 0] rfl)
theorem d_Pu_carry_0 : decode b_Pu_carry 0 = .ok (.aload_n 0, 1) := by decide +kernel
theorem d_Pu_carry_1 : decode b_Pu_carry 1 = .ok (.iload_n 1, 1) := by decide +kernel
theorem d_Pu_carry_2 : decode b_Pu_carry 2 = .ok (.iaload, 1) := by decide +kernel
theorem d_Pu_carry_3 : decode b_Pu_carry 3 = .ok (.istore_n 3, 1) := by decide +kernel
theorem d_Pu_carry_4 : decode b_Pu_carry 4 = .ok (.aload_n 0, 1) := by decide +kernel
theorem d_Pu_carry_5 : decode b_Pu_carry 5 = .ok (.iload_n 2, 1) := by decide +kernel
theorem d_Pu_carry_6 : decode b_Pu_carry 6 = .ok (.aload_n 0, 1) := by decide +kernel
theorem d_Pu_carry_7 : decode b_Pu_carry 7 = .ok (.iload_n 2, 1) := by decide +kernel
theorem d_Pu_carry_8 : decode b_Pu_carry 8 = .ok (.iconst 1, 1) := by decide +kernel
theorem d_Pu_carry_9 : decode b_Pu_carry 9 = .ok (.iadd, 1) := by decide +kernel
theorem d_Pu_carry_10 : decode b_Pu_carry 10 = .ok (.iload_n 1, 1) := by decide +kernel
theorem d_Pu_carry_11 : decode b_Pu_carry 11 = .ok (.iload_n 2, 1) := by decide +kernel
theorem d_Pu_carry_12 : decode b_Pu_carry 12 = .ok (.isub, 1) := by decide +kernel
theorem d_Pu_carry_13 : decode b_Pu_carry 13 = .ok (.invokestatic 35, 3) := by decide +kernel
theorem d_Pu_carry_16 : decode b_Pu_carry 16 = .ok (.aload_n 0, 1) := by decide +kernel
theorem d_Pu_carry_17 : decode b_Pu_carry 17 = .ok (.iload_n 2, 1) := by decide +kernel
theorem d_Pu_carry_18 : decode b_Pu_carry 18 = .ok (.iload_n 3, 1) := by decide +kernel
theorem d_Pu_carry_19 : decode b_Pu_carry 19 = .ok (.iastore, 1) := by decide +kernel
theorem d_Pu_carry_20 : decode b_Pu_carry 20 = .ok (.return_, 1) := by decide +kernel
abbrev ws_Pu_carry : List Cond := .code y_Pu_carry b_Pu_carry 4 none :: ALLG
abbrev rm_Pu_carry : Room := { frames := 1, cells := 0, slots := 0, locals := 18 }
set_option maxHeartbeats 4000000 in
set_option maxRecDepth 100000 in
theorem c_Pu_carry (l : Launch) (DD : va_G) (sz : Nat) (hpn : Nat) (cpn : ClassId) (pn : Nat → Nat) (j : Nat) (i : Nat) (hj : j < 150) (hi : i < j) : Met l y_Pu_carry ws_Pu_carry rm_Pu_carry (va_Pc [.ref hpn, .int (nI j), .int (nI i)] (fun U => U.heap.size = sz ∧ va_P DD vwCl [(hpn, .inl (cpn, 150, .inl (nF pn)))] U.heap ∧ va_K DD vwCl [(cpn, .int)] U ∧ va_D (fun _ => True) [(hpn, .inl (cpn, 150, .inl (nF pn)))])) (va_Qv (fun (u9 : Unit) => match u9 with | _ => True) (fun (u9 : Unit) (t9 : State) => match u9 with | _ => va_P DD vwCl [(hpn, .inl (cpn, 150, .inl (nF (movF pn j i))))] t9.heap ∧ va_K DD vwCl [(cpn, .int)] t9 ∧ va_D (va_A [(hpn, .inl (cpn, 150, .inl (nF pn)))] sz) [(hpn, .inl (cpn, 150, .inl (nF (movF pn j i))))]) (va_A [(hpn, .inl (cpn, 150, .inl (nF pn)))] sz)) 0 0 (va_A [(hpn, .inl (cpn, 150, .inl (nF pn)))] sz) := by
  refine Met.ofW (cc := b_Pu_carry) (maxL := 4) (ret := none) (by decide) rfl ?_
  intro p e s m args below meth c s₁ B hml hv
  obtain ⟨ha, hsz, hP, hK, hD0⟩ := hv
  have hx := B.exec
  have hb := B.bytes
  have hr := B.returns
  have hts := atoms_spec (ws := ws_Pu_carry) B.pre
  have hg : ∀ w ∈ ALLG, w.before args s = true := fun w h => hts w (List.mem_cons_of_mem _ h)
  have hown : s.vm.findClass R_Pu = some m.cls := findClass_of_methodNamed B.named
  have hlocks := B.notSynchronized
  subst hsz
  have hD := hD0.self (sz := s.heap.size)
  generalize hAe : va_A [(hpn, .inl (cpn, 150, .inl (nF pn)))] s.heap.size = A at hD ⊢
  have hA : ∀ q : Nat, s.heap.size ≤ q → A q := fun q h => by rw [← hAe]; exact Or.inr h
  have hS : va_S A s.heap s.heap [] := va_S.rf
  have hP : va_P DD vwCl [(hpn, .inl (cpn, 150, .inl (nF pn)))] s.heap := hP
  have hl := lv_entry ([.ref hpn, .int (nI j), .int (nI i)]) (n := 4) (Nat.le_of_ble_eq_true rfl)
  rw [ha, lg_entry_eq, ← ha]
  generalize (lg_sl ([.ref hpn, .int (nI j), .int (nI i)]) ++ List.replicate (4 - (lg_sl ([.ref hpn, .int (nI j), .int (nI i)])).length) Slot.unset).toArray = ls at hl ⊢
  have hl : lv_has ls 4 [(0, .ref hpn), (1, .int (nI j)), (2, .int (nI i))] := hl
  refine lv_aload_n hx hb d_Pu_carry_0 rfl (lv_at hl 0 rfl) ?_
  refine lv_iload_n hx hb d_Pu_carry_1 rfl (lv_at hl 1 rfl) ?_
  refine z_ialdN hx hb hK hP 0 0 rfl rfl (by omega) (by decide) d_Pu_carry_2 ?_
  refine lv_istore_n (lv' := [(3, .int (nI (pn j))), (0, .ref hpn), (1, .int (nI j)), (2, .int (nI i))]) hx hb d_Pu_carry_3 rfl hl (by decide) rfl (fun ls hl => ?_)
  refine lv_aload_n hx hb d_Pu_carry_4 rfl (lv_at hl 1 rfl) ?_
  refine lv_iload_n hx hb d_Pu_carry_5 rfl (lv_at hl 3 rfl) ?_
  refine lv_aload_n hx hb d_Pu_carry_6 rfl (lv_at hl 1 rfl) ?_
  refine lv_iload_n hx hb d_Pu_carry_7 rfl (lv_at hl 3 rfl) ?_
  refine lv_iconst (v := nI 1) hx hb d_Pu_carry_8 (by decide) ?_
  refine z_iadd hx hb d_Pu_carry_9 ?_
  refine lv_iload_n hx hb d_Pu_carry_10 rfl (lv_at hl 2 rfl) ?_
  refine lv_iload_n hx hb d_Pu_carry_11 rfl (lv_at hl 3 rfl) ?_
  refine z_isub hx hb d_Pu_carry_12 (by omega) ?_
  refine z_copyN hx hb (hml.trans hl.1.symm) hown (hg _ mw_609) (hg _ mw_373) (hg _ mw_372) (hg _ mw_16) hK hP hD hS 0 0 0 0 rfl rfl rfl rfl (by omega) (by omega) (by decide) (by decide) (Nat.le_of_ble_eq_true rfl) (Nat.le_of_ble_eq_true rfl) d_Pu_carry_13 (fun H locs hP hD hS => ?_)
  have hP : va_P DD vwCl [(hpn, .inl (cpn, 150, .inl (nF (va_cpy pn pn i (i + 1) (j - i)))))] H := hP
  have hD : va_D A [(hpn, .inl (cpn, 150, .inl (nF (va_cpy pn pn i (i + 1) (j - i)))))] := hD
  refine lv_aload_n hx hb d_Pu_carry_16 rfl (lv_at hl 1 rfl) ?_
  refine lv_iload_n hx hb d_Pu_carry_17 rfl (lv_at hl 3 rfl) ?_
  refine lv_iload_n hx hb d_Pu_carry_18 rfl (lv_at hl 0 rfl) ?_
  refine z_iastN hx hb hK hP hD hS 0 0 rfl rfl (by omega) (by decide) d_Pu_carry_19 (fun H locs hP hD hS => ?_)
  have hP : va_P DD vwCl [(hpn, .inl (cpn, 150, .inl (nF (va_up (va_cpy pn pn i (i + 1) (j - i)) i (pn j)))))] H := hP
  have hD : va_D A [(hpn, .inl (cpn, 150, .inl (nF (va_up (va_cpy pn pn i (i + 1) (j - i)) i (pn j)))))] := hD
  rw [show va_up (va_cpy pn pn i (i + 1) (j - i)) i (pn j) = movF pn j i from rfl] at hP hD
  have hP9 := hP.sub (ws' := [(hpn, .inl (cpn, 150, .inl (nF (movF pn j i))))]) [0] rfl
  have hD9 := hD.sub (ws' := [(hpn, .inl (cpn, 150, .inl (nF (movF pn j i))))]) [0] (by decide) rfl
  exact W.vret hx hb hr (fun t9 ht9 hW9 => ⟨⟨(), rfl, trivial, by rw [ht9]; exact hP9, va_K.moved hW9.alike hK, hD9⟩, hS.F ht9⟩) hS.2.2 d_Pu_carry_20
theorem d_Pu_arrange_0 : decode b_Pu_arrange 0 = .ok (.iconst 0, 1) := by decide +kernel
theorem d_Pu_arrange_1 : decode b_Pu_arrange 1 = .ok (.istore 4, 2) := by decide +kernel
theorem d_Pu_arrange_3 : decode b_Pu_arrange 3 = .ok (.iconst 1, 1) := by decide +kernel
theorem d_Pu_arrange_4 : decode b_Pu_arrange 4 = .ok (.istore 5, 2) := by decide +kernel
theorem d_Pu_arrange_6 : decode b_Pu_arrange 6 = .ok (.iload 5, 2) := by decide +kernel
theorem d_Pu_arrange_8 : decode b_Pu_arrange 8 = .ok (.aload_n 1, 1) := by decide +kernel
theorem d_Pu_arrange_9 : decode b_Pu_arrange 9 = .ok (.invokevirtual 9, 3) := by decide +kernel
theorem d_Pu_arrange_12 : decode b_Pu_arrange 12 = .ok (.if_icmp .ge 63, 3) := by decide +kernel
theorem d_Pu_arrange_15 : decode b_Pu_arrange 15 = .ok (.aload_n 1, 1) := by decide +kernel
theorem d_Pu_arrange_16 : decode b_Pu_arrange 16 = .ok (.aload_n 2, 1) := by decide +kernel
theorem d_Pu_arrange_17 : decode b_Pu_arrange 17 = .ok (.iload 5, 2) := by decide +kernel
theorem d_Pu_arrange_19 : decode b_Pu_arrange 19 = .ok (.invokestatic 15, 3) := by decide +kernel
theorem d_Pu_arrange_22 : decode b_Pu_arrange 22 = .ok (.istore 6, 2) := by decide +kernel
theorem d_Pu_arrange_24 : decode b_Pu_arrange 24 = .ok (.iload 4, 2) := by decide +kernel
theorem d_Pu_arrange_26 : decode b_Pu_arrange 26 = .ok (.iload 5, 2) := by decide +kernel
theorem d_Pu_arrange_28 : decode b_Pu_arrange 28 = .ok (.iload 6, 2) := by decide +kernel
theorem d_Pu_arrange_30 : decode b_Pu_arrange 30 = .ok (.isub, 1) := by decide +kernel
theorem d_Pu_arrange_31 : decode b_Pu_arrange 31 = .ok (.iload 6, 2) := by decide +kernel
theorem d_Pu_arrange_33 : decode b_Pu_arrange 33 = .ok (.ifCond .le 7, 3) := by decide +kernel
theorem d_Pu_arrange_36 : decode b_Pu_arrange 36 = .ok (.iconst 1, 1) := by decide +kernel
theorem d_Pu_arrange_37 : decode b_Pu_arrange 37 = .ok (.goto 4, 3) := by decide +kernel
theorem d_Pu_arrange_40 : decode b_Pu_arrange 40 = .ok (.iconst 0, 1) := by decide +kernel
theorem d_Pu_arrange_41 : decode b_Pu_arrange 41 = .ok (.iadd, 1) := by decide +kernel
theorem d_Pu_arrange_42 : decode b_Pu_arrange 42 = .ok (.iadd, 1) := by decide +kernel
theorem d_Pu_arrange_43 : decode b_Pu_arrange 43 = .ok (.istore 4, 2) := by decide +kernel
theorem d_Pu_arrange_45 : decode b_Pu_arrange 45 = .ok (.iload 6, 2) := by decide +kernel
theorem d_Pu_arrange_47 : decode b_Pu_arrange 47 = .ok (.iload 5, 2) := by decide +kernel
theorem d_Pu_arrange_49 : decode b_Pu_arrange 49 = .ok (.if_icmp .ge 20, 3) := by decide +kernel
theorem d_Pu_arrange_52 : decode b_Pu_arrange 52 = .ok (.aload_n 2, 1) := by decide +kernel
theorem d_Pu_arrange_53 : decode b_Pu_arrange 53 = .ok (.iload 5, 2) := by decide +kernel
theorem d_Pu_arrange_55 : decode b_Pu_arrange 55 = .ok (.iload 6, 2) := by decide +kernel
theorem d_Pu_arrange_57 : decode b_Pu_arrange 57 = .ok (.invokestatic 21, 3) := by decide +kernel
theorem d_Pu_arrange_60 : decode b_Pu_arrange 60 = .ok (.aload_n 3, 1) := by decide +kernel
theorem d_Pu_arrange_61 : decode b_Pu_arrange 61 = .ok (.iconst 1, 1) := by decide +kernel
theorem d_Pu_arrange_62 : decode b_Pu_arrange 62 = .ok (.iload 5, 2) := by decide +kernel
theorem d_Pu_arrange_64 : decode b_Pu_arrange 64 = .ok (.iload 6, 2) := by decide +kernel
theorem d_Pu_arrange_66 : decode b_Pu_arrange 66 = .ok (.invokevirtual 25, 3) := by decide +kernel
theorem d_Pu_arrange_69 : decode b_Pu_arrange 69 = .ok (.iinc 5 1, 3) := by decide +kernel
theorem d_Pu_arrange_72 : decode b_Pu_arrange 72 = .ok (.goto (-66), 3) := by decide +kernel
theorem d_Pu_arrange_75 : decode b_Pu_arrange 75 = .ok (.iload 4, 2) := by decide +kernel
theorem d_Pu_arrange_77 : decode b_Pu_arrange 77 = .ok (.ireturn, 1) := by decide +kernel
abbrev ws_Pu_arrange : List Cond := .code y_Pu_arrange b_Pu_arrange 7 (some .int) :: ALLG
abbrev rm_Pu_arrange : Room := { frames := 2, cells := 0, slots := 0, locals := 45 }
set_option maxHeartbeats 4000000 in
set_option maxRecDepth 100000 in
theorem c_Pu_arrange (l : Launch) (DD : va_G) (sz : Nat) (aw : Nat) (h : Nat) (hk : Nat) (ck : ClassId) (k : Nat → Int32) (ht : Nat) (n : Nat) (hpn : Nat) (cpn : ClassId) (pn : Nat → Nat) (aq : Nat) (htf : Nat) (ctf : ClassId) (tf : Nat → Int32) (tn : Nat) (hn : n ≤ 150) (htn : tn + n ≤ 150) (hp : ∀ x, pn x < 150) : Met l y_Pu_arrange ws_Pu_arrange rm_Pu_arrange (va_Pc [.ref aw, .ref h, .ref hpn, .ref aq] (fun U => U.heap.size = sz ∧ va_P DD vwCl [(aw, .inr (3, [])), (h, .inr (4, [.ref hk, .ref ht, .int (nI n)])), (hk, .inl (ck, 150, .inl k)), (hpn, .inl (cpn, 150, .inl (nF pn))), (aq, .inr (6, [.ref htf, .int (nI tn)])), (htf, .inl (ctf, 450, .inl tf))] U.heap ∧ va_K DD vwCl [(ck, .int), (cpn, .int), (ctf, .int)] U ∧ va_D (fun _ => True) [(aw, .inr (3, [])), (h, .inr (4, [.ref hk, .ref ht, .int (nI n)])), (hk, .inl (ck, 150, .inl k)), (hpn, .inl (cpn, 150, .inl (nF pn))), (aq, .inr (6, [.ref htf, .int (nI tn)])), (htf, .inl (ctf, 450, .inl tf))])) (va_Qi (fun (r9 : Int32) (u9 : Unit) => match u9 with | _ => r9 = nI (pC k pn n)) (fun (u9 : Unit) (t9 : State) => match u9 with | _ => va_P DD vwCl [(aw, .inr (3, [])), (h, .inr (4, [.ref hk, .ref ht, .int (nI n)])), (hk, .inl (ck, 150, .inl k)), (hpn, .inl (cpn, 150, .inl (nF (pP k pn n)))), (aq, .inr (6, [.ref htf, .int (nI (pT k pn tn n))])), (htf, .inl (ctf, 450, .inl (pF k pn tn tf n)))] t9.heap ∧ va_K DD vwCl [(ck, .int), (cpn, .int), (ctf, .int)] t9 ∧ va_D (va_A [(aw, .inr (3, [])), (h, .inr (4, [.ref hk, .ref ht, .int (nI n)])), (hk, .inl (ck, 150, .inl k)), (hpn, .inl (cpn, 150, .inl (nF pn))), (aq, .inr (6, [.ref htf, .int (nI tn)])), (htf, .inl (ctf, 450, .inl tf))] sz) [(aw, .inr (3, [])), (h, .inr (4, [.ref hk, .ref ht, .int (nI n)])), (hk, .inl (ck, 150, .inl k)), (hpn, .inl (cpn, 150, .inl (nF (pP k pn n)))), (aq, .inr (6, [.ref htf, .int (nI (pT k pn tn n))])), (htf, .inl (ctf, 450, .inl (pF k pn tn tf n)))]) (va_A [(aw, .inr (3, [])), (h, .inr (4, [.ref hk, .ref ht, .int (nI n)])), (hk, .inl (ck, 150, .inl k)), (hpn, .inl (cpn, 150, .inl (nF pn))), (aq, .inr (6, [.ref htf, .int (nI tn)])), (htf, .inl (ctf, 450, .inl tf))] sz)) 0 0 (va_A [(aw, .inr (3, [])), (h, .inr (4, [.ref hk, .ref ht, .int (nI n)])), (hk, .inl (ck, 150, .inl k)), (hpn, .inl (cpn, 150, .inl (nF pn))), (aq, .inr (6, [.ref htf, .int (nI tn)])), (htf, .inl (ctf, 450, .inl tf))] sz) := by
  refine Met.ofW (cc := b_Pu_arrange) (maxL := 7) (ret := (some .int)) (by decide) rfl ?_
  intro p e s m args below meth c s₁ B hml hv
  obtain ⟨ha, hsz, hP, hK, hD0⟩ := hv
  have hx := B.exec
  have hb := B.bytes
  have hr := B.returns
  have hts := atoms_spec (ws := ws_Pu_arrange) B.pre
  have hg : ∀ w ∈ ALLG, w.before args s = true := fun w h => hts w (List.mem_cons_of_mem _ h)
  have hown : s.vm.findClass R_Pu = some m.cls := findClass_of_methodNamed B.named
  have hlocks := B.notSynchronized
  subst hsz
  have hD := hD0.self (sz := s.heap.size)
  generalize hAe : va_A [(aw, .inr (3, [])), (h, .inr (4, [.ref hk, .ref ht, .int (nI n)])), (hk, .inl (ck, 150, .inl k)), (hpn, .inl (cpn, 150, .inl (nF pn))), (aq, .inr (6, [.ref htf, .int (nI tn)])), (htf, .inl (ctf, 450, .inl tf))] s.heap.size = A at hD ⊢
  have hA : ∀ q : Nat, s.heap.size ≤ q → A q := fun q h => by rw [← hAe]; exact Or.inr h
  have hS : va_S A s.heap s.heap [] := va_S.rf
  have hP : va_P DD vwCl [(aw, .inr (3, [])), (h, .inr (4, [.ref hk, .ref ht, .int (nI n)])), (hk, .inl (ck, 150, .inl k)), (hpn, .inl (cpn, 150, .inl (nF pn))), (aq, .inr (6, [.ref htf, .int (nI tn)])), (htf, .inl (ctf, 450, .inl tf))] s.heap := hP
  have hl := lv_entry ([.ref aw, .ref h, .ref hpn, .ref aq]) (n := 7) (Nat.le_of_ble_eq_true rfl)
  rw [ha, lg_entry_eq, ← ha]
  generalize (lg_sl ([.ref aw, .ref h, .ref hpn, .ref aq]) ++ List.replicate (7 - (lg_sl ([.ref aw, .ref h, .ref hpn, .ref aq])).length) Slot.unset).toArray = ls at hl ⊢
  have hl : lv_has ls 7 [(0, .ref aw), (1, .ref h), (2, .ref hpn), (3, .ref aq)] := hl
  have K6 : ∀ (kk : Nat) (i : Nat) (q : Nat), (hi : 1 ≤ i) → (hin : i ≤ n ∨ (i = 1 ∧ n = 0)) → (hq : q = pC k pn i) → n - i < kk → ∀ (H : Heap) (locs : List Loc), va_P DD vwCl [(aw, .inr (3, [])), (h, .inr (4, [.ref hk, .ref ht, .int (nI n)])), (hk, .inl (ck, 150, .inl k)), (hpn, .inl (cpn, 150, .inl (nF (pP k pn i)))), (aq, .inr (6, [.ref htf, .int (nI (pT k pn tn i))])), (htf, .inl (ctf, 450, .inl (pF k pn tn tf i)))] H → va_D A [(aw, .inr (3, [])), (h, .inr (4, [.ref hk, .ref ht, .int (nI n)])), (hk, .inl (ck, 150, .inl k)), (hpn, .inl (cpn, 150, .inl (nF (pP k pn i)))), (aq, .inr (6, [.ref htf, .int (nI (pT k pn tn i))])), (htf, .inl (ctf, 450, .inl (pF k pn tn tf i)))] → va_S A s.heap H locs → ∀ (ls : Array Slot), lv_has ls 7 [(0, .ref aw), (1, .ref h), (2, .ref hpn), (3, .ref aq), (4, .int (nI q)), (5, .int (nI i))] → W p l e (headSpec ws_Pu_arrange rm_Pu_arrange).room s m args below meth c H locs 0 0 (MQ below (va_Qi (fun (r9 : Int32) (u9 : Unit) => match u9 with | _ => r9 = nI (pC k pn n)) (fun (u9 : Unit) (t9 : State) => match u9 with | _ => va_P DD vwCl [(aw, .inr (3, [])), (h, .inr (4, [.ref hk, .ref ht, .int (nI n)])), (hk, .inl (ck, 150, .inl k)), (hpn, .inl (cpn, 150, .inl (nF (pP k pn n)))), (aq, .inr (6, [.ref htf, .int (nI (pT k pn tn n))])), (htf, .inl (ctf, 450, .inl (pF k pn tn tf n)))] t9.heap ∧ va_K DD vwCl [(ck, .int), (cpn, .int), (ctf, .int)] t9 ∧ va_D A [(aw, .inr (3, [])), (h, .inr (4, [.ref hk, .ref ht, .int (nI n)])), (hk, .inl (ck, 150, .inl k)), (hpn, .inl (cpn, 150, .inl (nF (pP k pn n)))), (aq, .inr (6, [.ref htf, .int (nI (pT k pn tn n))])), (htf, .inl (ctf, 450, .inl (pF k pn tn tf n)))]) A) args s 0 0 A) (F0 m 6 ls []) := by
    intro kk
    induction kk with
    | zero => intros; omega
    | succ kk ih6 =>
      intro i q hi hin hq hkk H locs hP hD hS ls hl
      refine lv_iload hx hb d_Pu_arrange_6 (lv_at hl 5 rfl) ?_
      refine lv_aload_n hx hb d_Pu_arrange_8 rfl (lv_at hl 1 rfl) ?_
      have hPc := hP.sub (ws' := [(h, .inr (4, [.ref hk, .ref ht, .int (nI n)])), (hk, .inl (ck, 150, .inl k))]) [1, 2] rfl
      have hKc := hK.sub (tys' := [(ck, .int)]) [0] rfl
      refine vp_callSi (W.runV (As := []) (rest := [.int (nI i)]) ⟨hx, hb, hml, hown, hg⟩ (c_Ro_size l DD h hk ht ck n k) (cwV 0 hg (gi_V mw_213 mw_214 mw_215 mw_2 mw_216) rfl rfl rfl (by decide +kernel) ⟨Nat.le_of_ble_eq_true rfl, Nat.le_of_ble_eq_true rfl⟩) ⟨z_blind, va_recv hKc hPc (ci := 4) (q0 := 0) rfl rfl, z_pre hPc hKc⟩ rfl rfl hl.1 rfl (lv_room (Nat.le_of_ble_eq_true rfl)) d_Pu_arrange_9 ⟨Nat.zero_le _, Nat.zero_le _⟩) (fun r_9 hr_9 => ?_)
      subst hr_9
      refine z_icmp_ge (tgt := 75) hx hb d_Pu_arrange_12 (by decide) (by omega) (by omega) (fun c_12 => ?_) (fun c_12 => ?_)
      · rw [show pP k pn i = pP k pn n from one_eq (f := pP k pn) rfl c_12 hin] at hP hD
        rw [show pF k pn tn tf i = pF k pn tn tf n from one_eq (f := pF k pn tn tf) rfl c_12 hin] at hP hD
        rw [show nI (pT k pn tn i) = nI (pT k pn tn n) from congrArg nI (one_eq (f := pT k pn tn) rfl c_12 hin)] at hP hD
        refine lv_iload hx hb d_Pu_arrange_75 (lv_at hl 4 rfl) ?_
        have hP9 := hP.sub (ws' := [(aw, .inr (3, [])), (h, .inr (4, [.ref hk, .ref ht, .int (nI n)])), (hk, .inl (ck, 150, .inl k)), (hpn, .inl (cpn, 150, .inl (nF (pP k pn n)))), (aq, .inr (6, [.ref htf, .int (nI (pT k pn tn n))])), (htf, .inl (ctf, 450, .inl (pF k pn tn tf n)))]) [0, 1, 2, 3, 4, 5] rfl
        have hD9 := hD.sub (ws' := [(aw, .inr (3, [])), (h, .inr (4, [.ref hk, .ref ht, .int (nI n)])), (hk, .inl (ck, 150, .inl k)), (hpn, .inl (cpn, 150, .inl (nF (pP k pn n)))), (aq, .inr (6, [.ref htf, .int (nI (pT k pn tn n))])), (htf, .inl (ctf, 450, .inl (pF k pn tn tf n)))]) [0, 1, 2, 3, 4, 5] (by decide) rfl
        exact W.iret (v := nI q) hx hb hr (fun t9 ht9 hW9 => ⟨⟨_, (), rfl, (by exact congrArg nI (hq.trans (one_eq (f := pC k pn) rfl c_12 hin))), by rw [ht9]; exact hP9, va_K.moved hW9.alike hK, hD9⟩, hS.F ht9⟩) hS.2.2 d_Pu_arrange_77
      · refine lv_aload_n hx hb d_Pu_arrange_15 rfl (lv_at hl 1 rfl) ?_
        refine lv_aload_n hx hb d_Pu_arrange_16 rfl (lv_at hl 2 rfl) ?_
        refine lv_iload hx hb d_Pu_arrange_17 (lv_at hl 5 rfl) ?_
        have hPc := hP.sub (ws' := [(h, .inr (4, [.ref hk, .ref ht, .int (nI n)])), (hk, .inl (ck, 150, .inl k)), (hpn, .inl (cpn, 150, .inl (nF (pP k pn i))))]) [1, 2, 3] rfl
        have hKc := hK.sub (tys' := [(ck, .int), (cpn, .int)]) [0, 1] rfl
        refine vp_callSi (W.runS (As := [.ref h, .ref hpn, .int (nI i)]) (rest := []) ⟨hx, hb, hml, hown, hg⟩ (c_Pu_target l DD h hk ck k ht n hpn cpn (pP k pn i) i (by omega) (by exact pP_lt hp i)) (cwS 3 hg (gi_S mw_602 mw_603 mw_7 mw_604) rfl rfl rfl (by decide +kernel) ⟨Nat.le_of_ble_eq_true rfl, Nat.le_of_ble_eq_true rfl⟩) ⟨z_blind, z_pre hPc hKc⟩ rfl rfl hl.1 rfl (lv_room (Nat.le_of_ble_eq_true rfl)) d_Pu_arrange_19 ⟨Nat.zero_le _, Nat.zero_le _⟩) (fun r_19 hr_19 => ?_)
        subst hr_19
        have hto : tgtF k (pP k pn i) (k ((pP k pn i) i)) i ≤ i := tgtF_le _ _ _ _
        refine lv_istore (lv' := [(6, .int (nI (tgtF k (pP k pn i) (k ((pP k pn i) i)) i))), (0, .ref aw), (1, .ref h), (2, .ref hpn), (3, .ref aq), (4, .int (nI q)), (5, .int (nI i))]) hx hb d_Pu_arrange_22 hl (by decide) rfl (fun ls hl => ?_)
        refine lv_iload hx hb d_Pu_arrange_24 (lv_at hl 5 rfl) ?_
        refine lv_iload hx hb d_Pu_arrange_26 (lv_at hl 6 rfl) ?_
        refine lv_iload hx hb d_Pu_arrange_28 (lv_at hl 0 rfl) ?_
        refine z_isub hx hb d_Pu_arrange_30 (by omega) ?_
        refine lv_iload hx hb d_Pu_arrange_31 (lv_at hl 0 rfl) ?_
        refine z_if_le (tgt := 40) hx hb d_Pu_arrange_33 (by decide) (by omega) (fun c_33 => ?_) (fun c_33 => ?_)
        · refine lv_iconst (v := nI 0) hx hb d_Pu_arrange_40 (by decide) ?_
          refine z_iadd hx hb d_Pu_arrange_41 ?_
          refine z_iadd hx hb d_Pu_arrange_42 ?_
          refine lv_istore (lv' := [(4, .int (nI (q + ((i - (tgtF k (pP k pn i) (k ((pP k pn i) i)) i)) + 0)))), (6, .int (nI (tgtF k (pP k pn i) (k ((pP k pn i) i)) i))), (0, .ref aw), (1, .ref h), (2, .ref hpn), (3, .ref aq), (5, .int (nI i))]) hx hb d_Pu_arrange_43 hl (by decide) rfl (fun ls hl => ?_)
          refine lv_iload hx hb d_Pu_arrange_45 (lv_at hl 1 rfl) ?_
          refine lv_iload hx hb d_Pu_arrange_47 (lv_at hl 6 rfl) ?_
          refine z_icmp_ge (tgt := 69) hx hb d_Pu_arrange_49 (by decide) (by omega) (by omega) (fun c_49 => ?_) (fun c_49 => ?_)
          · rw [show pP k pn i = pP k pn (i + 1) from (if_neg (Nat.not_lt.mpr c_49)).symm] at hP hD
            rw [show pF k pn tn tf i = pF k pn tn tf (i + 1) from (if_neg (Nat.not_lt.mpr c_49)).symm] at hP hD
            rw [show nI (pT k pn tn i) = nI (pT k pn tn (i + 1)) from congrArg nI (if_neg (Nat.not_lt.mpr c_49)).symm] at hP hD
            refine lv_iinc (v := nI (i + 1)) (lv' := [(5, .int (nI (i + 1))), (4, .int (nI (q + ((i - (tgtF k (pP k pn i) (k ((pP k pn i) i)) i)) + 0)))), (6, .int (nI (tgtF k (pP k pn i) (k ((pP k pn i) i)) i))), (0, .ref aw), (1, .ref h), (2, .ref hpn), (3, .ref aq)]) hx hb d_Pu_arrange_69 hl (k := 6) rfl (by exact nI_add i 1) (by decide) rfl (fun ls hl => ?_)
            refine lv_goto (tgt := 6) hx hb d_Pu_arrange_72 (by decide) ?_
            exact ih6 (i + 1) (q + ((i - (tgtF k (pP k pn i) (k ((pP k pn i) i)) i)) + 0)) (by omega) (by omega) (by first | exact pC_t hq c_33 | exact pC_f hq c_33) (by omega) _ _ hP hD hS ls (lv_sub hl [3, 4, 5, 6, 1, 0] rfl)
          · refine lv_aload_n hx hb d_Pu_arrange_52 rfl (lv_at hl 4 rfl) ?_
            refine lv_iload hx hb d_Pu_arrange_53 (lv_at hl 6 rfl) ?_
            refine lv_iload hx hb d_Pu_arrange_55 (lv_at hl 1 rfl) ?_
            have hPc := hP.sub (ws' := [(hpn, .inl (cpn, 150, .inl (nF (pP k pn i))))]) [3] rfl
            have hKc := hK.sub (tys' := [(cpn, .int)]) [1] rfl
            have hDc := hD.sub (ws' := [(hpn, .inl (cpn, 150, .inl (nF (pP k pn i))))]) [3] (by decide) rfl
            have hFc := va_free (wc := [(hpn, .inl (cpn, 150, .inl (nF (pP k pn i))))]) hD hS hA [3] rfl
            refine va_callv (va_runS (As := [.ref hpn, .int (nI i), .int (nI (tgtF k (pP k pn i) (k ((pP k pn i) i)) i))]) (rest := []) ⟨hx, hb, hml, hown, hg⟩ (c_Pu_carry l DD H.size hpn cpn (pP k pn i) i (tgtF k (pP k pn i) (k ((pP k pn i) i)) i) (by omega) (by exact c_49)) (cwS 3 hg (gi_S mw_606 mw_607 mw_7 mw_608) rfl rfl rfl (by decide +kernel) ⟨Nat.le_of_ble_eq_true rfl, Nat.le_of_ble_eq_true rfl⟩) ⟨z_blindQ, z_preQ hPc hKc hDc⟩ rfl rfl hl.1 rfl (lv_room (Nat.le_of_ble_eq_true rfl)) d_Pu_arrange_57 ⟨Nat.zero_le _, Nat.zero_le _⟩) hS (fun q _ h => hFc q h) hFc (fun u9 t9 H9 locs ht9 hvm9 hw9 hB9 hz9 hk9 hS => ?_)
            obtain ⟨hP1, hK1, hD1⟩ := hB9
            rw [ht9] at hP1
            try dsimp only at hw9
            obtain ⟨hP, hD⟩ := va_join (wr := [(aw, .inr (3, [])), (h, .inr (4, [.ref hk, .ref ht, .int (nI n)])), (hk, .inl (ck, 150, .inl k)), (aq, .inr (6, [.ref htf, .int (nI (pT k pn tn i))])), (htf, .inl (ctf, 450, .inl (pF k pn tn tf i)))]) (w1 := [(hpn, .inl (cpn, 150, .inl (nF (movF (pP k pn i) i (tgtF k (pP k pn i) (k ((pP k pn i) i)) i)))))]) hP hD [3] [0, 1, 2, 4, 5] rfl rfl (by decide) (by decide) hk9 hFc hP1 hD1
            generalize H9 = H at hP hS ⊢
            have hP : va_P DD vwCl [(aw, .inr (3, [])), (h, .inr (4, [.ref hk, .ref ht, .int (nI n)])), (hk, .inl (ck, 150, .inl k)), (aq, .inr (6, [.ref htf, .int (nI (pT k pn tn i))])), (htf, .inl (ctf, 450, .inl (pF k pn tn tf i))), (hpn, .inl (cpn, 150, .inl (nF (movF (pP k pn i) i (tgtF k (pP k pn i) (k ((pP k pn i) i)) i)))))] H := hP
            have hD : va_D A [(aw, .inr (3, [])), (h, .inr (4, [.ref hk, .ref ht, .int (nI n)])), (hk, .inl (ck, 150, .inl k)), (aq, .inr (6, [.ref htf, .int (nI (pT k pn tn i))])), (htf, .inl (ctf, 450, .inl (pF k pn tn tf i))), (hpn, .inl (cpn, 150, .inl (nF (movF (pP k pn i) i (tgtF k (pP k pn i) (k ((pP k pn i) i)) i)))))] := hD
            refine lv_aload_n hx hb d_Pu_arrange_60 rfl (lv_at hl 5 rfl) ?_
            refine lv_iconst (v := nI 1) hx hb d_Pu_arrange_61 (by decide) ?_
            refine lv_iload hx hb d_Pu_arrange_62 (lv_at hl 6 rfl) ?_
            refine lv_iload hx hb d_Pu_arrange_64 (lv_at hl 1 rfl) ?_
            have hpt := pT_le k pn tn i
            have hPc := hP.sub (ws' := [(aq, .inr (6, [.ref htf, .int (nI (pT k pn tn i))])), (htf, .inl (ctf, 450, .inl (pF k pn tn tf i)))]) [3, 4] rfl
            have hKc := hK.sub (tys' := [(ctf, .int)]) [2] rfl
            have hDc := hD.sub (ws' := [(aq, .inr (6, [.ref htf, .int (nI (pT k pn tn i))])), (htf, .inl (ctf, 450, .inl (pF k pn tn tf i)))]) [3, 4] (by decide) rfl
            have hFc := va_free (wc := [(aq, .inr (6, [.ref htf, .int (nI (pT k pn tn i))])), (htf, .inl (ctf, 450, .inl (pF k pn tn tf i)))]) hD hS hA [3, 4] rfl
            refine va_callv (va_runV (As := [.int (nI 1), .int (nI i), .int (nI (tgtF k (pP k pn i) (k ((pP k pn i) i)) i))]) (rest := []) ⟨hx, hb, hml, hown, hg⟩ (c_Tr_add l DD H.size aq htf ctf (pF k pn tn tf i) (pT k pn tn i) (nI 1) (nI i) (nI (tgtF k (pP k pn i) (k ((pP k pn i) i)) i)) (by omega)) (cwV 3 hg (gi_V mw_610 mw_558 mw_559 mw_4 mw_560) rfl rfl rfl (by decide +kernel) ⟨Nat.le_of_ble_eq_true rfl, Nat.le_of_ble_eq_true rfl⟩) ⟨z_blindQ, va_recv hKc hPc (ci := 6) (q0 := 0) rfl rfl, z_preQ hPc hKc hDc⟩ rfl rfl hl.1 rfl (lv_room (Nat.le_of_ble_eq_true rfl)) d_Pu_arrange_66 ⟨Nat.zero_le _, Nat.zero_le _⟩) hS (fun q _ h => hFc q h) hFc (fun u9 t9 H9 locs ht9 hvm9 hw9 hB9 hz9 hk9 hS => ?_)
            obtain ⟨hP1, hK1, hD1⟩ := hB9
            rw [ht9] at hP1
            try dsimp only at hw9
            obtain ⟨hP, hD⟩ := va_join (wr := [(aw, .inr (3, [])), (h, .inr (4, [.ref hk, .ref ht, .int (nI n)])), (hk, .inl (ck, 150, .inl k)), (hpn, .inl (cpn, 150, .inl (nF (movF (pP k pn i) i (tgtF k (pP k pn i) (k ((pP k pn i) i)) i)))))]) (w1 := [(aq, .inr (6, [.ref htf, .int (nI ((pT k pn tn i) + 1))])), (htf, .inl (ctf, 450, .inl (tadd (pF k pn tn tf i) (pT k pn tn i) (nI 1) (nI i) (nI (tgtF k (pP k pn i) (k ((pP k pn i) i)) i)))))]) hP hD [3, 4] [0, 1, 2, 5] rfl rfl (by decide) (by decide) hk9 hFc hP1 hD1
            generalize H9 = H at hP hS ⊢
            have hP : va_P DD vwCl [(aw, .inr (3, [])), (h, .inr (4, [.ref hk, .ref ht, .int (nI n)])), (hk, .inl (ck, 150, .inl k)), (hpn, .inl (cpn, 150, .inl (nF (movF (pP k pn i) i (tgtF k (pP k pn i) (k ((pP k pn i) i)) i))))), (aq, .inr (6, [.ref htf, .int (nI ((pT k pn tn i) + 1))])), (htf, .inl (ctf, 450, .inl (tadd (pF k pn tn tf i) (pT k pn tn i) (nI 1) (nI i) (nI (tgtF k (pP k pn i) (k ((pP k pn i) i)) i)))))] H := hP
            have hD : va_D A [(aw, .inr (3, [])), (h, .inr (4, [.ref hk, .ref ht, .int (nI n)])), (hk, .inl (ck, 150, .inl k)), (hpn, .inl (cpn, 150, .inl (nF (movF (pP k pn i) i (tgtF k (pP k pn i) (k ((pP k pn i) i)) i))))), (aq, .inr (6, [.ref htf, .int (nI ((pT k pn tn i) + 1))])), (htf, .inl (ctf, 450, .inl (tadd (pF k pn tn tf i) (pT k pn tn i) (nI 1) (nI i) (nI (tgtF k (pP k pn i) (k ((pP k pn i) i)) i)))))] := hD
            rw [show movF (pP k pn i) i (tgtF k (pP k pn i) (k ((pP k pn i) i)) i) = pP k pn (i + 1) from (if_pos c_49).symm] at hP hD
            rw [show tadd (pF k pn tn tf i) (pT k pn tn i) (nI 1) (nI i) (nI (tgtF k (pP k pn i) (k ((pP k pn i) i)) i)) = pF k pn tn tf (i + 1) from (if_pos c_49).symm] at hP hD
            rw [show nI ((pT k pn tn i) + 1) = nI (pT k pn tn (i + 1)) from congrArg nI (if_pos c_49).symm] at hP hD
            refine lv_iinc (v := nI (i + 1)) (lv' := [(5, .int (nI (i + 1))), (4, .int (nI (q + ((i - (tgtF k (pP k pn i) (k ((pP k pn i) i)) i)) + 0)))), (6, .int (nI (tgtF k (pP k pn i) (k ((pP k pn i) i)) i))), (0, .ref aw), (1, .ref h), (2, .ref hpn), (3, .ref aq)]) hx hb d_Pu_arrange_69 hl (k := 6) rfl (by exact nI_add i 1) (by decide) rfl (fun ls hl => ?_)
            refine lv_goto (tgt := 6) hx hb d_Pu_arrange_72 (by decide) ?_
            exact ih6 (i + 1) (q + ((i - (tgtF k (pP k pn i) (k ((pP k pn i) i)) i)) + 0)) (by omega) (by omega) (by first | exact pC_t hq c_33 | exact pC_f hq c_33) (by omega) _ _ hP hD hS ls (lv_sub hl [3, 4, 5, 6, 1, 0] rfl)
        · refine lv_iconst (v := nI 1) hx hb d_Pu_arrange_36 (by decide) ?_
          refine lv_goto (tgt := 41) hx hb d_Pu_arrange_37 (by decide) ?_
          refine z_iadd hx hb d_Pu_arrange_41 ?_
          refine z_iadd hx hb d_Pu_arrange_42 ?_
          refine lv_istore (lv' := [(4, .int (nI (q + ((i - (tgtF k (pP k pn i) (k ((pP k pn i) i)) i)) + 1)))), (6, .int (nI (tgtF k (pP k pn i) (k ((pP k pn i) i)) i))), (0, .ref aw), (1, .ref h), (2, .ref hpn), (3, .ref aq), (5, .int (nI i))]) hx hb d_Pu_arrange_43 hl (by decide) rfl (fun ls hl => ?_)
          refine lv_iload hx hb d_Pu_arrange_45 (lv_at hl 1 rfl) ?_
          refine lv_iload hx hb d_Pu_arrange_47 (lv_at hl 6 rfl) ?_
          refine z_icmp_ge (tgt := 69) hx hb d_Pu_arrange_49 (by decide) (by omega) (by omega) (fun c_49 => ?_) (fun c_49 => ?_)
          · rw [show pP k pn i = pP k pn (i + 1) from (if_neg (Nat.not_lt.mpr c_49)).symm] at hP hD
            rw [show pF k pn tn tf i = pF k pn tn tf (i + 1) from (if_neg (Nat.not_lt.mpr c_49)).symm] at hP hD
            rw [show nI (pT k pn tn i) = nI (pT k pn tn (i + 1)) from congrArg nI (if_neg (Nat.not_lt.mpr c_49)).symm] at hP hD
            refine lv_iinc (v := nI (i + 1)) (lv' := [(5, .int (nI (i + 1))), (4, .int (nI (q + ((i - (tgtF k (pP k pn i) (k ((pP k pn i) i)) i)) + 1)))), (6, .int (nI (tgtF k (pP k pn i) (k ((pP k pn i) i)) i))), (0, .ref aw), (1, .ref h), (2, .ref hpn), (3, .ref aq)]) hx hb d_Pu_arrange_69 hl (k := 6) rfl (by exact nI_add i 1) (by decide) rfl (fun ls hl => ?_)
            refine lv_goto (tgt := 6) hx hb d_Pu_arrange_72 (by decide) ?_
            exact ih6 (i + 1) (q + ((i - (tgtF k (pP k pn i) (k ((pP k pn i) i)) i)) + 1)) (by omega) (by omega) (by first | exact pC_t hq c_33 | exact pC_f hq c_33) (by omega) _ _ hP hD hS ls (lv_sub hl [3, 4, 5, 6, 1, 0] rfl)
          · refine lv_aload_n hx hb d_Pu_arrange_52 rfl (lv_at hl 4 rfl) ?_
            refine lv_iload hx hb d_Pu_arrange_53 (lv_at hl 6 rfl) ?_
            refine lv_iload hx hb d_Pu_arrange_55 (lv_at hl 1 rfl) ?_
            have hPc := hP.sub (ws' := [(hpn, .inl (cpn, 150, .inl (nF (pP k pn i))))]) [3] rfl
            have hKc := hK.sub (tys' := [(cpn, .int)]) [1] rfl
            have hDc := hD.sub (ws' := [(hpn, .inl (cpn, 150, .inl (nF (pP k pn i))))]) [3] (by decide) rfl
            have hFc := va_free (wc := [(hpn, .inl (cpn, 150, .inl (nF (pP k pn i))))]) hD hS hA [3] rfl
            refine va_callv (va_runS (As := [.ref hpn, .int (nI i), .int (nI (tgtF k (pP k pn i) (k ((pP k pn i) i)) i))]) (rest := []) ⟨hx, hb, hml, hown, hg⟩ (c_Pu_carry l DD H.size hpn cpn (pP k pn i) i (tgtF k (pP k pn i) (k ((pP k pn i) i)) i) (by omega) (by exact c_49)) (cwS 3 hg (gi_S mw_606 mw_607 mw_7 mw_608) rfl rfl rfl (by decide +kernel) ⟨Nat.le_of_ble_eq_true rfl, Nat.le_of_ble_eq_true rfl⟩) ⟨z_blindQ, z_preQ hPc hKc hDc⟩ rfl rfl hl.1 rfl (lv_room (Nat.le_of_ble_eq_true rfl)) d_Pu_arrange_57 ⟨Nat.zero_le _, Nat.zero_le _⟩) hS (fun q _ h => hFc q h) hFc (fun u9 t9 H9 locs ht9 hvm9 hw9 hB9 hz9 hk9 hS => ?_)
            obtain ⟨hP1, hK1, hD1⟩ := hB9
            rw [ht9] at hP1
            try dsimp only at hw9
            obtain ⟨hP, hD⟩ := va_join (wr := [(aw, .inr (3, [])), (h, .inr (4, [.ref hk, .ref ht, .int (nI n)])), (hk, .inl (ck, 150, .inl k)), (aq, .inr (6, [.ref htf, .int (nI (pT k pn tn i))])), (htf, .inl (ctf, 450, .inl (pF k pn tn tf i)))]) (w1 := [(hpn, .inl (cpn, 150, .inl (nF (movF (pP k pn i) i (tgtF k (pP k pn i) (k ((pP k pn i) i)) i)))))]) hP hD [3] [0, 1, 2, 4, 5] rfl rfl (by decide) (by decide) hk9 hFc hP1 hD1
            generalize H9 = H at hP hS ⊢
            have hP : va_P DD vwCl [(aw, .inr (3, [])), (h, .inr (4, [.ref hk, .ref ht, .int (nI n)])), (hk, .inl (ck, 150, .inl k)), (aq, .inr (6, [.ref htf, .int (nI (pT k pn tn i))])), (htf, .inl (ctf, 450, .inl (pF k pn tn tf i))), (hpn, .inl (cpn, 150, .inl (nF (movF (pP k pn i) i (tgtF k (pP k pn i) (k ((pP k pn i) i)) i)))))] H := hP
            have hD : va_D A [(aw, .inr (3, [])), (h, .inr (4, [.ref hk, .ref ht, .int (nI n)])), (hk, .inl (ck, 150, .inl k)), (aq, .inr (6, [.ref htf, .int (nI (pT k pn tn i))])), (htf, .inl (ctf, 450, .inl (pF k pn tn tf i))), (hpn, .inl (cpn, 150, .inl (nF (movF (pP k pn i) i (tgtF k (pP k pn i) (k ((pP k pn i) i)) i)))))] := hD
            refine lv_aload_n hx hb d_Pu_arrange_60 rfl (lv_at hl 5 rfl) ?_
            refine lv_iconst (v := nI 1) hx hb d_Pu_arrange_61 (by decide) ?_
            refine lv_iload hx hb d_Pu_arrange_62 (lv_at hl 6 rfl) ?_
            refine lv_iload hx hb d_Pu_arrange_64 (lv_at hl 1 rfl) ?_
            have hpt := pT_le k pn tn i
            have hPc := hP.sub (ws' := [(aq, .inr (6, [.ref htf, .int (nI (pT k pn tn i))])), (htf, .inl (ctf, 450, .inl (pF k pn tn tf i)))]) [3, 4] rfl
            have hKc := hK.sub (tys' := [(ctf, .int)]) [2] rfl
            have hDc := hD.sub (ws' := [(aq, .inr (6, [.ref htf, .int (nI (pT k pn tn i))])), (htf, .inl (ctf, 450, .inl (pF k pn tn tf i)))]) [3, 4] (by decide) rfl
            have hFc := va_free (wc := [(aq, .inr (6, [.ref htf, .int (nI (pT k pn tn i))])), (htf, .inl (ctf, 450, .inl (pF k pn tn tf i)))]) hD hS hA [3, 4] rfl
            refine va_callv (va_runV (As := [.int (nI 1), .int (nI i), .int (nI (tgtF k (pP k pn i) (k ((pP k pn i) i)) i))]) (rest := []) ⟨hx, hb, hml, hown, hg⟩ (c_Tr_add l DD H.size aq htf ctf (pF k pn tn tf i) (pT k pn tn i) (nI 1) (nI i) (nI (tgtF k (pP k pn i) (k ((pP k pn i) i)) i)) (by omega)) (cwV 3 hg (gi_V mw_610 mw_558 mw_559 mw_4 mw_560) rfl rfl rfl (by decide +kernel) ⟨Nat.le_of_ble_eq_true rfl, Nat.le_of_ble_eq_true rfl⟩) ⟨z_blindQ, va_recv hKc hPc (ci := 6) (q0 := 0) rfl rfl, z_preQ hPc hKc hDc⟩ rfl rfl hl.1 rfl (lv_room (Nat.le_of_ble_eq_true rfl)) d_Pu_arrange_66 ⟨Nat.zero_le _, Nat.zero_le _⟩) hS (fun q _ h => hFc q h) hFc (fun u9 t9 H9 locs ht9 hvm9 hw9 hB9 hz9 hk9 hS => ?_)
            obtain ⟨hP1, hK1, hD1⟩ := hB9
            rw [ht9] at hP1
            try dsimp only at hw9
            obtain ⟨hP, hD⟩ := va_join (wr := [(aw, .inr (3, [])), (h, .inr (4, [.ref hk, .ref ht, .int (nI n)])), (hk, .inl (ck, 150, .inl k)), (hpn, .inl (cpn, 150, .inl (nF (movF (pP k pn i) i (tgtF k (pP k pn i) (k ((pP k pn i) i)) i)))))]) (w1 := [(aq, .inr (6, [.ref htf, .int (nI ((pT k pn tn i) + 1))])), (htf, .inl (ctf, 450, .inl (tadd (pF k pn tn tf i) (pT k pn tn i) (nI 1) (nI i) (nI (tgtF k (pP k pn i) (k ((pP k pn i) i)) i)))))]) hP hD [3, 4] [0, 1, 2, 5] rfl rfl (by decide) (by decide) hk9 hFc hP1 hD1
            generalize H9 = H at hP hS ⊢
            have hP : va_P DD vwCl [(aw, .inr (3, [])), (h, .inr (4, [.ref hk, .ref ht, .int (nI n)])), (hk, .inl (ck, 150, .inl k)), (hpn, .inl (cpn, 150, .inl (nF (movF (pP k pn i) i (tgtF k (pP k pn i) (k ((pP k pn i) i)) i))))), (aq, .inr (6, [.ref htf, .int (nI ((pT k pn tn i) + 1))])), (htf, .inl (ctf, 450, .inl (tadd (pF k pn tn tf i) (pT k pn tn i) (nI 1) (nI i) (nI (tgtF k (pP k pn i) (k ((pP k pn i) i)) i)))))] H := hP
            have hD : va_D A [(aw, .inr (3, [])), (h, .inr (4, [.ref hk, .ref ht, .int (nI n)])), (hk, .inl (ck, 150, .inl k)), (hpn, .inl (cpn, 150, .inl (nF (movF (pP k pn i) i (tgtF k (pP k pn i) (k ((pP k pn i) i)) i))))), (aq, .inr (6, [.ref htf, .int (nI ((pT k pn tn i) + 1))])), (htf, .inl (ctf, 450, .inl (tadd (pF k pn tn tf i) (pT k pn tn i) (nI 1) (nI i) (nI (tgtF k (pP k pn i) (k ((pP k pn i) i)) i)))))] := hD
            rw [show movF (pP k pn i) i (tgtF k (pP k pn i) (k ((pP k pn i) i)) i) = pP k pn (i + 1) from (if_pos c_49).symm] at hP hD
            rw [show tadd (pF k pn tn tf i) (pT k pn tn i) (nI 1) (nI i) (nI (tgtF k (pP k pn i) (k ((pP k pn i) i)) i)) = pF k pn tn tf (i + 1) from (if_pos c_49).symm] at hP hD
            rw [show nI ((pT k pn tn i) + 1) = nI (pT k pn tn (i + 1)) from congrArg nI (if_pos c_49).symm] at hP hD
            refine lv_iinc (v := nI (i + 1)) (lv' := [(5, .int (nI (i + 1))), (4, .int (nI (q + ((i - (tgtF k (pP k pn i) (k ((pP k pn i) i)) i)) + 1)))), (6, .int (nI (tgtF k (pP k pn i) (k ((pP k pn i) i)) i))), (0, .ref aw), (1, .ref h), (2, .ref hpn), (3, .ref aq)]) hx hb d_Pu_arrange_69 hl (k := 6) rfl (by exact nI_add i 1) (by decide) rfl (fun ls hl => ?_)
            refine lv_goto (tgt := 6) hx hb d_Pu_arrange_72 (by decide) ?_
            exact ih6 (i + 1) (q + ((i - (tgtF k (pP k pn i) (k ((pP k pn i) i)) i)) + 1)) (by omega) (by omega) (by first | exact pC_t hq c_33 | exact pC_f hq c_33) (by omega) _ _ hP hD hS ls (lv_sub hl [3, 4, 5, 6, 1, 0] rfl)
  refine lv_iconst (v := nI 0) hx hb d_Pu_arrange_0 (by decide) ?_
  refine lv_istore (lv' := [(4, .int (nI 0)), (0, .ref aw), (1, .ref h), (2, .ref hpn), (3, .ref aq)]) hx hb d_Pu_arrange_1 hl (by decide) rfl (fun ls hl => ?_)
  rw [show pn = pP k pn 1 from rfl] at hP hD
  rw [show tf = pF k pn tn tf 1 from rfl] at hP hD
  rw [show nI tn = nI (pT k pn tn 1) from rfl] at hP hD
  refine lv_iconst (v := nI 1) hx hb d_Pu_arrange_3 (by decide) ?_
  refine lv_istore (lv' := [(5, .int (nI 1)), (4, .int (nI 0)), (0, .ref aw), (1, .ref h), (2, .ref hpn), (3, .ref aq)]) hx hb d_Pu_arrange_4 hl (by decide) rfl (fun ls hl => ?_)
  exact K6 _ 1 0 (by omega) (by omega) (by rfl) (Nat.lt_succ_self _) _ _ hP hD hS ls (lv_sub hl [2, 3, 4, 5, 1, 0] rfl)
theorem d_Jo_findRuns_0 : decode b_Jo_findRuns 0 = .ok (.iconst 0, 1) := by decide +kernel
theorem d_Jo_findRuns_1 : decode b_Jo_findRuns 1 = .ok (.istore_n 2, 1) := by decide +kernel
theorem d_Jo_findRuns_2 : decode b_Jo_findRuns 2 = .ok (.iconst 0, 1) := by decide +kernel
theorem d_Jo_findRuns_3 : decode b_Jo_findRuns 3 = .ok (.istore_n 3, 1) := by decide +kernel
theorem d_Jo_findRuns_4 : decode b_Jo_findRuns 4 = .ok (.iload_n 3, 1) := by decide +kernel
theorem d_Jo_findRuns_5 : decode b_Jo_findRuns 5 = .ok (.aload_n 1, 1) := by decide +kernel
theorem d_Jo_findRuns_6 : decode b_Jo_findRuns 6 = .ok (.invokevirtual 30, 3) := by decide +kernel
theorem d_Jo_findRuns_9 : decode b_Jo_findRuns 9 = .ok (.if_icmp .ge 31, 3) := by decide +kernel
theorem d_Jo_findRuns_12 : decode b_Jo_findRuns 12 = .ok (.iload_n 3, 1) := by decide +kernel
theorem d_Jo_findRuns_13 : decode b_Jo_findRuns 13 = .ok (.ifCond .eq 11, 3) := by decide +kernel
theorem d_Jo_findRuns_16 : decode b_Jo_findRuns 16 = .ok (.aload_n 1, 1) := by decide +kernel
theorem d_Jo_findRuns_17 : decode b_Jo_findRuns 17 = .ok (.iload_n 3, 1) := by decide +kernel
theorem d_Jo_findRuns_18 : decode b_Jo_findRuns 18 = .ok (.invokevirtual 36, 3) := by decide +kernel
theorem d_Jo_findRuns_21 : decode b_Jo_findRuns 21 = .ok (.ifCond .eq 13, 3) := by decide +kernel
theorem d_Jo_findRuns_24 : decode b_Jo_findRuns 24 = .ok (.aload_n 0, 1) := by decide +kernel
theorem d_Jo_findRuns_25 : decode b_Jo_findRuns 25 = .ok (.getfield 9, 3) := by decide +kernel
theorem d_Jo_findRuns_28 : decode b_Jo_findRuns 28 = .ok (.iload_n 2, 1) := by decide +kernel
theorem d_Jo_findRuns_29 : decode b_Jo_findRuns 29 = .ok (.iload_n 3, 1) := by decide +kernel
theorem d_Jo_findRuns_30 : decode b_Jo_findRuns 30 = .ok (.iastore, 1) := by decide +kernel
theorem d_Jo_findRuns_31 : decode b_Jo_findRuns 31 = .ok (.iinc 2 1, 3) := by decide +kernel
theorem d_Jo_findRuns_34 : decode b_Jo_findRuns 34 = .ok (.iinc 3 1, 3) := by decide +kernel
theorem d_Jo_findRuns_37 : decode b_Jo_findRuns 37 = .ok (.goto (-33), 3) := by decide +kernel
theorem d_Jo_findRuns_40 : decode b_Jo_findRuns 40 = .ok (.aload_n 0, 1) := by decide +kernel
theorem d_Jo_findRuns_41 : decode b_Jo_findRuns 41 = .ok (.getfield 9, 3) := by decide +kernel
theorem d_Jo_findRuns_44 : decode b_Jo_findRuns 44 = .ok (.iload_n 2, 1) := by decide +kernel
theorem d_Jo_findRuns_45 : decode b_Jo_findRuns 45 = .ok (.aload_n 1, 1) := by decide +kernel
theorem d_Jo_findRuns_46 : decode b_Jo_findRuns 46 = .ok (.invokevirtual 30, 3) := by decide +kernel
theorem d_Jo_findRuns_49 : decode b_Jo_findRuns 49 = .ok (.iastore, 1) := by decide +kernel
theorem d_Jo_findRuns_50 : decode b_Jo_findRuns 50 = .ok (.iload_n 2, 1) := by decide +kernel
theorem d_Jo_findRuns_51 : decode b_Jo_findRuns 51 = .ok (.ireturn, 1) := by decide +kernel
abbrev ws_Jo_findRuns : List Cond := .code y_Jo_findRuns b_Jo_findRuns 4 (some .int) :: ALLG
abbrev rm_Jo_findRuns : Room := { frames := 1, cells := 0, slots := 0, locals := 21 }
set_option maxHeartbeats 4000000 in
set_option maxRecDepth 100000 in
theorem c_Jo_findRuns (l : Launch) (DD : va_G) (sz : Nat) (aw : Nat) (hjs : Nat) (cjs : ClassId) (js : Nat → Nat) (hjj : Nat) (h : Nat) (hk : Nat) (ck : ClassId) (k : Nat → Int32) (ht : Nat) (n : Nat) (hn : n ≤ 150) : Met l y_Jo_findRuns ws_Jo_findRuns rm_Jo_findRuns (va_Pc [.ref aw, .ref h] (fun U => U.heap.size = sz ∧ va_P DD vwCl [(aw, .inr (2, [.ref hjs, .ref hjj])), (hjs, .inl (cjs, 151, .inl (nF js))), (h, .inr (4, [.ref hk, .ref ht, .int (nI n)])), (hk, .inl (ck, 150, .inl k))] U.heap ∧ va_K DD vwCl [(cjs, .int), (ck, .int)] U ∧ va_D (fun _ => True) [(aw, .inr (2, [.ref hjs, .ref hjj])), (hjs, .inl (cjs, 151, .inl (nF js))), (h, .inr (4, [.ref hk, .ref ht, .int (nI n)])), (hk, .inl (ck, 150, .inl k))])) (va_Qi (fun (r9 : Int32) (u9 : Unit) => match u9 with | _ => r9 = nI (cnt (stB k) n)) (fun (u9 : Unit) (t9 : State) => match u9 with | _ => va_P DD vwCl [(aw, .inr (2, [.ref hjs, .ref hjj])), (hjs, .inl (cjs, 151, .inl (nF (fRun k n js)))), (h, .inr (4, [.ref hk, .ref ht, .int (nI n)])), (hk, .inl (ck, 150, .inl k))] t9.heap ∧ va_K DD vwCl [(cjs, .int), (ck, .int)] t9 ∧ va_D (va_A [(aw, .inr (2, [.ref hjs, .ref hjj])), (hjs, .inl (cjs, 151, .inl (nF js))), (h, .inr (4, [.ref hk, .ref ht, .int (nI n)])), (hk, .inl (ck, 150, .inl k))] sz) [(aw, .inr (2, [.ref hjs, .ref hjj])), (hjs, .inl (cjs, 151, .inl (nF (fRun k n js)))), (h, .inr (4, [.ref hk, .ref ht, .int (nI n)])), (hk, .inl (ck, 150, .inl k))]) (va_A [(aw, .inr (2, [.ref hjs, .ref hjj])), (hjs, .inl (cjs, 151, .inl (nF js))), (h, .inr (4, [.ref hk, .ref ht, .int (nI n)])), (hk, .inl (ck, 150, .inl k))] sz)) 0 0 (va_A [(aw, .inr (2, [.ref hjs, .ref hjj])), (hjs, .inl (cjs, 151, .inl (nF js))), (h, .inr (4, [.ref hk, .ref ht, .int (nI n)])), (hk, .inl (ck, 150, .inl k))] sz) := by
  refine Met.ofW (cc := b_Jo_findRuns) (maxL := 4) (ret := (some .int)) (by decide) rfl ?_
  intro p e s m args below meth c s₁ B hml hv
  obtain ⟨ha, hsz, hP, hK, hD0⟩ := hv
  have hx := B.exec
  have hb := B.bytes
  have hr := B.returns
  have hts := atoms_spec (ws := ws_Jo_findRuns) B.pre
  have hg : ∀ w ∈ ALLG, w.before args s = true := fun w h => hts w (List.mem_cons_of_mem _ h)
  have hown : s.vm.findClass R_Jo = some m.cls := findClass_of_methodNamed B.named
  have hlocks := B.notSynchronized
  subst hsz
  have hD := hD0.self (sz := s.heap.size)
  generalize hAe : va_A [(aw, .inr (2, [.ref hjs, .ref hjj])), (hjs, .inl (cjs, 151, .inl (nF js))), (h, .inr (4, [.ref hk, .ref ht, .int (nI n)])), (hk, .inl (ck, 150, .inl k))] s.heap.size = A at hD ⊢
  have hA : ∀ q : Nat, s.heap.size ≤ q → A q := fun q h => by rw [← hAe]; exact Or.inr h
  have hS : va_S A s.heap s.heap [] := va_S.rf
  have hP : va_P DD vwCl [(aw, .inr (2, [.ref hjs, .ref hjj])), (hjs, .inl (cjs, 151, .inl (nF js))), (h, .inr (4, [.ref hk, .ref ht, .int (nI n)])), (hk, .inl (ck, 150, .inl k))] s.heap := hP
  have hl := lv_entry ([.ref aw, .ref h]) (n := 4) (Nat.le_of_ble_eq_true rfl)
  rw [ha, lg_entry_eq, ← ha]
  generalize (lg_sl ([.ref aw, .ref h]) ++ List.replicate (4 - (lg_sl ([.ref aw, .ref h])).length) Slot.unset).toArray = ls at hl ⊢
  have hl : lv_has ls 4 [(0, .ref aw), (1, .ref h)] := hl
  have K4 : ∀ (kk : Nat) (i : Nat) (q : Nat), (hi : i ≤ n) → (hq : q = cnt (stB k) i) → n - i < kk → ∀ (H : Heap) (locs : List Loc), va_P DD vwCl [(aw, .inr (2, [.ref hjs, .ref hjj])), (hjs, .inl (cjs, 151, .inl (nF (frF k js i)))), (h, .inr (4, [.ref hk, .ref ht, .int (nI n)])), (hk, .inl (ck, 150, .inl k))] H → va_D A [(aw, .inr (2, [.ref hjs, .ref hjj])), (hjs, .inl (cjs, 151, .inl (nF (frF k js i)))), (h, .inr (4, [.ref hk, .ref ht, .int (nI n)])), (hk, .inl (ck, 150, .inl k))] → va_S A s.heap H locs → ∀ (ls : Array Slot), lv_has ls 4 [(0, .ref aw), (1, .ref h), (2, .int (nI q)), (3, .int (nI i))] → W p l e (headSpec ws_Jo_findRuns rm_Jo_findRuns).room s m args below meth c H locs 0 0 (MQ below (va_Qi (fun (r9 : Int32) (u9 : Unit) => match u9 with | _ => r9 = nI (cnt (stB k) n)) (fun (u9 : Unit) (t9 : State) => match u9 with | _ => va_P DD vwCl [(aw, .inr (2, [.ref hjs, .ref hjj])), (hjs, .inl (cjs, 151, .inl (nF (fRun k n js)))), (h, .inr (4, [.ref hk, .ref ht, .int (nI n)])), (hk, .inl (ck, 150, .inl k))] t9.heap ∧ va_K DD vwCl [(cjs, .int), (ck, .int)] t9 ∧ va_D A [(aw, .inr (2, [.ref hjs, .ref hjj])), (hjs, .inl (cjs, 151, .inl (nF (fRun k n js)))), (h, .inr (4, [.ref hk, .ref ht, .int (nI n)])), (hk, .inl (ck, 150, .inl k))]) A) args s 0 0 A) (F0 m 4 ls []) := by
    intro kk
    induction kk with
    | zero => intros; omega
    | succ kk ih4 =>
      intro i q hi hq hkk H locs hP hD hS ls hl
      have hcl : cnt (stB k) i ≤ i := cnt_le _ i
      refine lv_iload_n hx hb d_Jo_findRuns_4 rfl (lv_at hl 3 rfl) ?_
      refine lv_aload_n hx hb d_Jo_findRuns_5 rfl (lv_at hl 1 rfl) ?_
      have hPc := hP.sub (ws' := [(h, .inr (4, [.ref hk, .ref ht, .int (nI n)])), (hk, .inl (ck, 150, .inl k))]) [2, 3] rfl
      have hKc := hK.sub (tys' := [(ck, .int)]) [1] rfl
      refine vp_callSi (W.runV (As := []) (rest := [.int (nI i)]) ⟨hx, hb, hml, hown, hg⟩ (c_Ro_size l DD h hk ht ck n k) (cwV 0 hg (gi_V mw_582 mw_214 mw_215 mw_2 mw_216) rfl rfl rfl (by decide +kernel) ⟨Nat.le_of_ble_eq_true rfl, Nat.le_of_ble_eq_true rfl⟩) ⟨z_blind, va_recv hKc hPc (ci := 4) (q0 := 0) rfl rfl, z_pre hPc hKc⟩ rfl rfl hl.1 rfl (lv_room (Nat.le_of_ble_eq_true rfl)) d_Jo_findRuns_6 ⟨Nat.zero_le _, Nat.zero_le _⟩) (fun r_6 hr_6 => ?_)
      subst hr_6
      refine z_icmp_ge (tgt := 40) hx hb d_Jo_findRuns_9 (by decide) (by omega) (by omega) (fun c_9 => ?_) (fun c_9 => ?_)
      · refine lv_aload_n hx hb d_Jo_findRuns_40 rfl (lv_at hl 0 rfl) ?_
        refine va_get (D := DD) (ci := 2) (v := .ref hjs) (C := R_Jo) (T := T_Jo) (N := 2) hx hb hg in_Jo hown hK hP 0 rfl rfl 0 (by decide) (hg _ mw_107) (fun _ h9 => h9) rfl d_Jo_findRuns_41 ?_
        refine lv_iload_n hx hb d_Jo_findRuns_44 rfl (lv_at hl 2 rfl) ?_
        refine lv_aload_n hx hb d_Jo_findRuns_45 rfl (lv_at hl 1 rfl) ?_
        have hPc := hP.sub (ws' := [(h, .inr (4, [.ref hk, .ref ht, .int (nI n)])), (hk, .inl (ck, 150, .inl k))]) [2, 3] rfl
        have hKc := hK.sub (tys' := [(ck, .int)]) [1] rfl
        refine vp_callSi (W.runV (As := []) (rest := [.int (nI q), .ref hjs]) ⟨hx, hb, hml, hown, hg⟩ (c_Ro_size l DD h hk ht ck n k) (cwV 0 hg (gi_V mw_582 mw_214 mw_215 mw_2 mw_216) rfl rfl rfl (by decide +kernel) ⟨Nat.le_of_ble_eq_true rfl, Nat.le_of_ble_eq_true rfl⟩) ⟨z_blind, va_recv hKc hPc (ci := 4) (q0 := 0) rfl rfl, z_pre hPc hKc⟩ rfl rfl hl.1 rfl (lv_room (Nat.le_of_ble_eq_true rfl)) d_Jo_findRuns_46 ⟨Nat.zero_le _, Nat.zero_le _⟩) (fun r_46 hr_46 => ?_)
        subst hr_46
        refine z_iastN hx hb hK hP hD hS 1 0 rfl rfl (by omega) (by decide) d_Jo_findRuns_49 (fun H locs hP hD hS => ?_)
        have hP : va_P DD vwCl [(aw, .inr (2, [.ref hjs, .ref hjj])), (hjs, .inl (cjs, 151, .inl (nF (va_up (frF k js i) q n)))), (h, .inr (4, [.ref hk, .ref ht, .int (nI n)])), (hk, .inl (ck, 150, .inl k))] H := hP
        have hD : va_D A [(aw, .inr (2, [.ref hjs, .ref hjj])), (hjs, .inl (cjs, 151, .inl (nF (va_up (frF k js i) q n)))), (h, .inr (4, [.ref hk, .ref ht, .int (nI n)])), (hk, .inl (ck, 150, .inl k))] := hD
        rw [show va_up (frF k js i) q n = fRun k n js from by rw [hq, Nat.le_antisymm hi c_9]; rfl] at hP hD
        refine lv_iload_n hx hb d_Jo_findRuns_50 rfl (lv_at hl 2 rfl) ?_
        have hP9 := hP.sub (ws' := [(aw, .inr (2, [.ref hjs, .ref hjj])), (hjs, .inl (cjs, 151, .inl (nF (fRun k n js)))), (h, .inr (4, [.ref hk, .ref ht, .int (nI n)])), (hk, .inl (ck, 150, .inl k))]) [0, 1, 2, 3] rfl
        have hD9 := hD.sub (ws' := [(aw, .inr (2, [.ref hjs, .ref hjj])), (hjs, .inl (cjs, 151, .inl (nF (fRun k n js)))), (h, .inr (4, [.ref hk, .ref ht, .int (nI n)])), (hk, .inl (ck, 150, .inl k))]) [0, 1, 2, 3] (by decide) rfl
        exact W.iret (v := nI q) hx hb hr (fun t9 ht9 hW9 => ⟨⟨_, (), rfl, (by exact congrArg nI (by rw [hq, Nat.le_antisymm hi c_9])), by rw [ht9]; exact hP9, va_K.moved hW9.alike hK, hD9⟩, hS.F ht9⟩) hS.2.2 d_Jo_findRuns_51
      · refine lv_iload_n hx hb d_Jo_findRuns_12 rfl (lv_at hl 3 rfl) ?_
        refine z_if_eq (tgt := 24) hx hb d_Jo_findRuns_13 (by decide) (by omega) (fun c_13 => ?_) (fun c_13 => ?_)
        · refine lv_aload_n hx hb d_Jo_findRuns_24 rfl (lv_at hl 0 rfl) ?_
          refine va_get (D := DD) (ci := 2) (v := .ref hjs) (C := R_Jo) (T := T_Jo) (N := 2) hx hb hg in_Jo hown hK hP 0 rfl rfl 0 (by decide) (hg _ mw_107) (fun _ h9 => h9) rfl d_Jo_findRuns_25 ?_
          refine lv_iload_n hx hb d_Jo_findRuns_28 rfl (lv_at hl 2 rfl) ?_
          refine lv_iload_n hx hb d_Jo_findRuns_29 rfl (lv_at hl 3 rfl) ?_
          refine z_iastN hx hb hK hP hD hS 1 0 rfl rfl (by omega) (by decide) d_Jo_findRuns_30 (fun H locs hP hD hS => ?_)
          have hP : va_P DD vwCl [(aw, .inr (2, [.ref hjs, .ref hjj])), (hjs, .inl (cjs, 151, .inl (nF (va_up (frF k js i) q i)))), (h, .inr (4, [.ref hk, .ref ht, .int (nI n)])), (hk, .inl (ck, 150, .inl k))] H := hP
          have hD : va_D A [(aw, .inr (2, [.ref hjs, .ref hjj])), (hjs, .inl (cjs, 151, .inl (nF (va_up (frF k js i) q i)))), (h, .inr (4, [.ref hk, .ref ht, .int (nI n)])), (hk, .inl (ck, 150, .inl k))] := hD
          rw [show va_up (frF k js i) q i = frF k js (i + 1) from by first | exact frF_t hq (stB_0 c_13) | exact frF_t hq (stB_d c_21)] at hP hD
          refine lv_iinc (v := nI (q + 1)) (lv' := [(2, .int (nI (q + 1))), (0, .ref aw), (1, .ref h), (3, .int (nI i))]) hx hb d_Jo_findRuns_31 hl (k := 2) rfl (by exact nI_add q 1) (by decide) rfl (fun ls hl => ?_)
          refine lv_iinc (v := nI (i + 1)) (lv' := [(3, .int (nI (i + 1))), (2, .int (nI (q + 1))), (0, .ref aw), (1, .ref h)]) hx hb d_Jo_findRuns_34 hl (k := 3) rfl (by exact nI_add i 1) (by decide) rfl (fun ls hl => ?_)
          refine lv_goto (tgt := 4) hx hb d_Jo_findRuns_37 (by decide) ?_
          exact ih4 (i + 1) (q + 1) (by omega) (by first | exact cnt_t hq (stB_0 c_13) | exact cnt_t hq (stB_d c_21) | exact cnt_f hq (stB_f c_13 c_21)) (by omega) _ _ hP hD hS ls (lv_sub hl [2, 3, 1, 0] rfl)
        · refine lv_aload_n hx hb d_Jo_findRuns_16 rfl (lv_at hl 1 rfl) ?_
          refine lv_iload_n hx hb d_Jo_findRuns_17 rfl (lv_at hl 3 rfl) ?_
          have hPc := hP.sub (ws' := [(h, .inr (4, [.ref hk, .ref ht, .int (nI n)])), (hk, .inl (ck, 150, .inl k))]) [2, 3] rfl
          have hKc := hK.sub (tys' := [(ck, .int)]) [1] rfl
          refine vp_callSi (W.runV (As := [.int (nI i)]) (rest := []) ⟨hx, hb, hml, hown, hg⟩ (c_Ro_dropsBefore l DD h hk ht ck n k i (by omega)) (cwV 1 hg (gi_V mw_583 mw_225 mw_226 mw_2 mw_227) rfl rfl rfl (by decide +kernel) ⟨Nat.le_of_ble_eq_true rfl, Nat.le_of_ble_eq_true rfl⟩) ⟨z_blind, va_recv hKc hPc (ci := 4) (q0 := 0) rfl rfl, z_pre hPc hKc⟩ rfl rfl hl.1 rfl (lv_room (Nat.le_of_ble_eq_true rfl)) d_Jo_findRuns_18 ⟨Nat.zero_le _, Nat.zero_le _⟩) (fun r_18 hr_18 => ?_)
          subst hr_18
          refine z_ifb_eq (tgt := 34) hx hb d_Jo_findRuns_21 (by decide) (fun c_21 => ?_) (fun c_21 => ?_)
          · rw [show frF k js i = frF k js (i + 1) from frF_f (stB_f c_13 c_21)] at hP hD
            refine lv_iinc (v := nI (i + 1)) (lv' := [(3, .int (nI (i + 1))), (0, .ref aw), (1, .ref h), (2, .int (nI q))]) hx hb d_Jo_findRuns_34 hl (k := 3) rfl (by exact nI_add i 1) (by decide) rfl (fun ls hl => ?_)
            refine lv_goto (tgt := 4) hx hb d_Jo_findRuns_37 (by decide) ?_
            exact ih4 (i + 1) q (by omega) (by first | exact cnt_t hq (stB_0 c_13) | exact cnt_t hq (stB_d c_21) | exact cnt_f hq (stB_f c_13 c_21)) (by omega) _ _ hP hD hS ls (lv_sub hl [1, 2, 3, 0] rfl)
          · refine lv_aload_n hx hb d_Jo_findRuns_24 rfl (lv_at hl 0 rfl) ?_
            refine va_get (D := DD) (ci := 2) (v := .ref hjs) (C := R_Jo) (T := T_Jo) (N := 2) hx hb hg in_Jo hown hK hP 0 rfl rfl 0 (by decide) (hg _ mw_107) (fun _ h9 => h9) rfl d_Jo_findRuns_25 ?_
            refine lv_iload_n hx hb d_Jo_findRuns_28 rfl (lv_at hl 2 rfl) ?_
            refine lv_iload_n hx hb d_Jo_findRuns_29 rfl (lv_at hl 3 rfl) ?_
            refine z_iastN hx hb hK hP hD hS 1 0 rfl rfl (by omega) (by decide) d_Jo_findRuns_30 (fun H locs hP hD hS => ?_)
            have hP : va_P DD vwCl [(aw, .inr (2, [.ref hjs, .ref hjj])), (hjs, .inl (cjs, 151, .inl (nF (va_up (frF k js i) q i)))), (h, .inr (4, [.ref hk, .ref ht, .int (nI n)])), (hk, .inl (ck, 150, .inl k))] H := hP
            have hD : va_D A [(aw, .inr (2, [.ref hjs, .ref hjj])), (hjs, .inl (cjs, 151, .inl (nF (va_up (frF k js i) q i)))), (h, .inr (4, [.ref hk, .ref ht, .int (nI n)])), (hk, .inl (ck, 150, .inl k))] := hD
            rw [show va_up (frF k js i) q i = frF k js (i + 1) from by first | exact frF_t hq (stB_0 c_13) | exact frF_t hq (stB_d c_21)] at hP hD
            refine lv_iinc (v := nI (q + 1)) (lv' := [(2, .int (nI (q + 1))), (0, .ref aw), (1, .ref h), (3, .int (nI i))]) hx hb d_Jo_findRuns_31 hl (k := 2) rfl (by exact nI_add q 1) (by decide) rfl (fun ls hl => ?_)
            refine lv_iinc (v := nI (i + 1)) (lv' := [(3, .int (nI (i + 1))), (2, .int (nI (q + 1))), (0, .ref aw), (1, .ref h)]) hx hb d_Jo_findRuns_34 hl (k := 3) rfl (by exact nI_add i 1) (by decide) rfl (fun ls hl => ?_)
            refine lv_goto (tgt := 4) hx hb d_Jo_findRuns_37 (by decide) ?_
            exact ih4 (i + 1) (q + 1) (by omega) (by first | exact cnt_t hq (stB_0 c_13) | exact cnt_t hq (stB_d c_21) | exact cnt_f hq (stB_f c_13 c_21)) (by omega) _ _ hP hD hS ls (lv_sub hl [2, 3, 1, 0] rfl)
  refine lv_iconst (v := nI 0) hx hb d_Jo_findRuns_0 (by decide) ?_
  refine lv_istore_n (lv' := [(2, .int (nI 0)), (0, .ref aw), (1, .ref h)]) hx hb d_Jo_findRuns_1 rfl hl (by decide) rfl (fun ls hl => ?_)
  rw [show js = frF k js 0 from rfl] at hP hD
  refine lv_iconst (v := nI 0) hx hb d_Jo_findRuns_2 (by decide) ?_
  refine lv_istore_n (lv' := [(3, .int (nI 0)), (2, .int (nI 0)), (0, .ref aw), (1, .ref h)]) hx hb d_Jo_findRuns_3 rfl hl (by decide) rfl (fun ls hl => ?_)
  exact K4 _ 0 0 (by omega) (by rfl) (Nat.lt_succ_self _) _ _ hP hD hS ls (lv_sub hl [2, 3, 1, 0] rfl)
theorem d_Jo_keepEverySecondStart_0 : decode b_Jo_keepEverySecondStart 0 = .ok (.aload_n 0, 1) := by decide +kernel
theorem d_Jo_keepEverySecondStart_1 : decode b_Jo_keepEverySecondStart 1 = .ok (.getfield 9, 3) := by decide +kernel
theorem d_Jo_keepEverySecondStart_4 : decode b_Jo_keepEverySecondStart 4 = .ok (.iload_n 1, 1) := by decide +kernel
theorem d_Jo_keepEverySecondStart_5 : decode b_Jo_keepEverySecondStart 5 = .ok (.iaload, 1) := by decide +kernel
theorem d_Jo_keepEverySecondStart_6 : decode b_Jo_keepEverySecondStart 6 = .ok (.istore_n 2, 1) := by decide +kernel
theorem d_Jo_keepEverySecondStart_7 : decode b_Jo_keepEverySecondStart 7 = .ok (.iload_n 1, 1) := by decide +kernel
theorem d_Jo_keepEverySecondStart_8 : decode b_Jo_keepEverySecondStart 8 = .ok (.iconst 1, 1) := by decide +kernel
theorem d_Jo_keepEverySecondStart_9 : decode b_Jo_keepEverySecondStart 9 = .ok (.iadd, 1) := by decide +kernel
theorem d_Jo_keepEverySecondStart_10 : decode b_Jo_keepEverySecondStart 10 = .ok (.iconst 2, 1) := by decide +kernel
theorem d_Jo_keepEverySecondStart_11 : decode b_Jo_keepEverySecondStart 11 = .ok (.idiv, 1) := by decide +kernel
theorem d_Jo_keepEverySecondStart_12 : decode b_Jo_keepEverySecondStart 12 = .ok (.istore_n 3, 1) := by decide +kernel
theorem d_Jo_keepEverySecondStart_13 : decode b_Jo_keepEverySecondStart 13 = .ok (.iconst 1, 1) := by decide +kernel
theorem d_Jo_keepEverySecondStart_14 : decode b_Jo_keepEverySecondStart 14 = .ok (.istore 4, 2) := by decide +kernel
theorem d_Jo_keepEverySecondStart_16 : decode b_Jo_keepEverySecondStart 16 = .ok (.iload 4, 2) := by decide +kernel
theorem d_Jo_keepEverySecondStart_18 : decode b_Jo_keepEverySecondStart 18 = .ok (.iload_n 3, 1) := by decide +kernel
theorem d_Jo_keepEverySecondStart_19 : decode b_Jo_keepEverySecondStart 19 = .ok (.if_icmp .ge 25, 3) := by decide +kernel
theorem d_Jo_keepEverySecondStart_22 : decode b_Jo_keepEverySecondStart 22 = .ok (.aload_n 0, 1) := by decide +kernel
theorem d_Jo_keepEverySecondStart_23 : decode b_Jo_keepEverySecondStart 23 = .ok (.getfield 9, 3) := by decide +kernel
theorem d_Jo_keepEverySecondStart_26 : decode b_Jo_keepEverySecondStart 26 = .ok (.iload 4, 2) := by decide +kernel
theorem d_Jo_keepEverySecondStart_28 : decode b_Jo_keepEverySecondStart 28 = .ok (.aload_n 0, 1) := by decide +kernel
theorem d_Jo_keepEverySecondStart_29 : decode b_Jo_keepEverySecondStart 29 = .ok (.getfield 9, 3) := by decide +kernel
theorem d_Jo_keepEverySecondStart_32 : decode b_Jo_keepEverySecondStart 32 = .ok (.iconst 2, 1) := by decide +kernel
theorem d_Jo_keepEverySecondStart_33 : decode b_Jo_keepEverySecondStart 33 = .ok (.iload 4, 2) := by decide +kernel
theorem d_Jo_keepEverySecondStart_35 : decode b_Jo_keepEverySecondStart 35 = .ok (.imul, 1) := by decide +kernel
theorem d_Jo_keepEverySecondStart_36 : decode b_Jo_keepEverySecondStart 36 = .ok (.iaload, 1) := by decide +kernel
theorem d_Jo_keepEverySecondStart_37 : decode b_Jo_keepEverySecondStart 37 = .ok (.iastore, 1) := by decide +kernel
theorem d_Jo_keepEverySecondStart_38 : decode b_Jo_keepEverySecondStart 38 = .ok (.iinc 4 1, 3) := by decide +kernel
theorem d_Jo_keepEverySecondStart_41 : decode b_Jo_keepEverySecondStart 41 = .ok (.goto (-25), 3) := by decide +kernel
theorem d_Jo_keepEverySecondStart_44 : decode b_Jo_keepEverySecondStart 44 = .ok (.aload_n 0, 1) := by decide +kernel
theorem d_Jo_keepEverySecondStart_45 : decode b_Jo_keepEverySecondStart 45 = .ok (.getfield 9, 3) := by decide +kernel
theorem d_Jo_keepEverySecondStart_48 : decode b_Jo_keepEverySecondStart 48 = .ok (.iload_n 3, 1) := by decide +kernel
theorem d_Jo_keepEverySecondStart_49 : decode b_Jo_keepEverySecondStart 49 = .ok (.iload_n 2, 1) := by decide +kernel
theorem d_Jo_keepEverySecondStart_50 : decode b_Jo_keepEverySecondStart 50 = .ok (.iastore, 1) := by decide +kernel
theorem d_Jo_keepEverySecondStart_51 : decode b_Jo_keepEverySecondStart 51 = .ok (.return_, 1) := by decide +kernel
abbrev ws_Jo_keepEverySecondStart : List Cond := .code y_Jo_keepEverySecondStart b_Jo_keepEverySecondStart 5 none :: ALLG
abbrev rm_Jo_keepEverySecondStart : Room := { frames := 0, cells := 0, slots := 0, locals := 0 }
set_option maxHeartbeats 4000000 in
set_option maxRecDepth 100000 in
theorem c_Jo_keepEverySecondStart (l : Launch) (DD : va_G) (sz : Nat) (aw : Nat) (hjs : Nat) (cjs : ClassId) (js : Nat → Nat) (hjj : Nat) (r : Nat) (hr1 : 1 ≤ r) (hr2 : r ≤ 150) : Met l y_Jo_keepEverySecondStart ws_Jo_keepEverySecondStart rm_Jo_keepEverySecondStart (va_Pc [.ref aw, .int (nI r)] (fun U => U.heap.size = sz ∧ va_P DD vwCl [(aw, .inr (2, [.ref hjs, .ref hjj])), (hjs, .inl (cjs, 151, .inl (nF js)))] U.heap ∧ va_K DD vwCl [(cjs, .int)] U ∧ va_D (fun _ => True) [(aw, .inr (2, [.ref hjs, .ref hjj])), (hjs, .inl (cjs, 151, .inl (nF js)))])) (va_Qv (fun (u9 : Unit) => match u9 with | _ => True) (fun (u9 : Unit) (t9 : State) => match u9 with | _ => va_P DD vwCl [(aw, .inr (2, [.ref hjs, .ref hjj])), (hjs, .inl (cjs, 151, .inl (nF (keS js r))))] t9.heap ∧ va_K DD vwCl [(cjs, .int)] t9 ∧ va_D (va_A [(aw, .inr (2, [.ref hjs, .ref hjj])), (hjs, .inl (cjs, 151, .inl (nF js)))] sz) [(aw, .inr (2, [.ref hjs, .ref hjj])), (hjs, .inl (cjs, 151, .inl (nF (keS js r))))]) (va_A [(aw, .inr (2, [.ref hjs, .ref hjj])), (hjs, .inl (cjs, 151, .inl (nF js)))] sz)) 0 0 (va_A [(aw, .inr (2, [.ref hjs, .ref hjj])), (hjs, .inl (cjs, 151, .inl (nF js)))] sz) := by
  refine Met.ofW (cc := b_Jo_keepEverySecondStart) (maxL := 5) (ret := none) (by decide) rfl ?_
  intro p e s m args below meth c s₁ B hml hv
  obtain ⟨ha, hsz, hP, hK, hD0⟩ := hv
  have hx := B.exec
  have hb := B.bytes
  have hr := B.returns
  have hts := atoms_spec (ws := ws_Jo_keepEverySecondStart) B.pre
  have hg : ∀ w ∈ ALLG, w.before args s = true := fun w h => hts w (List.mem_cons_of_mem _ h)
  have hown : s.vm.findClass R_Jo = some m.cls := findClass_of_methodNamed B.named
  have hlocks := B.notSynchronized
  subst hsz
  have hD := hD0.self (sz := s.heap.size)
  generalize hAe : va_A [(aw, .inr (2, [.ref hjs, .ref hjj])), (hjs, .inl (cjs, 151, .inl (nF js)))] s.heap.size = A at hD ⊢
  have hA : ∀ q : Nat, s.heap.size ≤ q → A q := fun q h => by rw [← hAe]; exact Or.inr h
  have hS : va_S A s.heap s.heap [] := va_S.rf
  have hP : va_P DD vwCl [(aw, .inr (2, [.ref hjs, .ref hjj])), (hjs, .inl (cjs, 151, .inl (nF js)))] s.heap := hP
  have hl := lv_entry ([.ref aw, .int (nI r)]) (n := 5) (Nat.le_of_ble_eq_true rfl)
  rw [ha, lg_entry_eq, ← ha]
  generalize (lg_sl ([.ref aw, .int (nI r)]) ++ List.replicate (5 - (lg_sl ([.ref aw, .int (nI r)])).length) Slot.unset).toArray = ls at hl ⊢
  have hl : lv_has ls 5 [(0, .ref aw), (1, .int (nI r))] := hl
  have K16 : ∀ (kk : Nat) (i : Nat), (hi : 1 ≤ i) → (hi2 : i ≤ (r + 1) / 2) → r - i < kk → ∀ (H : Heap) (locs : List Loc), va_P DD vwCl [(aw, .inr (2, [.ref hjs, .ref hjj])), (hjs, .inl (cjs, 151, .inl (nF (keF js i))))] H → va_D A [(aw, .inr (2, [.ref hjs, .ref hjj])), (hjs, .inl (cjs, 151, .inl (nF (keF js i))))] → va_S A s.heap H locs → ∀ (ls : Array Slot), lv_has ls 5 [(0, .ref aw), (1, .int (nI r)), (2, .int (nI (js r))), (3, .int (nI ((r + 1) / 2))), (4, .int (nI i))] → W p l e (headSpec ws_Jo_keepEverySecondStart rm_Jo_keepEverySecondStart).room s m args below meth c H locs 0 0 (MQ below (va_Qv (fun (u9 : Unit) => match u9 with | _ => True) (fun (u9 : Unit) (t9 : State) => match u9 with | _ => va_P DD vwCl [(aw, .inr (2, [.ref hjs, .ref hjj])), (hjs, .inl (cjs, 151, .inl (nF (keS js r))))] t9.heap ∧ va_K DD vwCl [(cjs, .int)] t9 ∧ va_D A [(aw, .inr (2, [.ref hjs, .ref hjj])), (hjs, .inl (cjs, 151, .inl (nF (keS js r))))]) A) args s 0 0 A) (F0 m 16 ls []) := by
    intro kk
    induction kk with
    | zero => intros; omega
    | succ kk ih16 =>
      intro i hi hi2 hkk H locs hP hD hS ls hl
      refine lv_iload hx hb d_Jo_keepEverySecondStart_16 (lv_at hl 4 rfl) ?_
      refine lv_iload_n hx hb d_Jo_keepEverySecondStart_18 rfl (lv_at hl 3 rfl) ?_
      refine z_icmp_ge (tgt := 44) hx hb d_Jo_keepEverySecondStart_19 (by decide) (by omega) (by omega) (fun c_19 => ?_) (fun c_19 => ?_)
      · refine lv_aload_n hx hb d_Jo_keepEverySecondStart_44 rfl (lv_at hl 0 rfl) ?_
        refine va_get (D := DD) (ci := 2) (v := .ref hjs) (C := R_Jo) (T := T_Jo) (N := 2) hx hb hg in_Jo hown hK hP 0 rfl rfl 0 (by decide) (hg _ mw_107) (fun _ h9 => h9) rfl d_Jo_keepEverySecondStart_45 ?_
        refine lv_iload_n hx hb d_Jo_keepEverySecondStart_48 rfl (lv_at hl 3 rfl) ?_
        refine lv_iload_n hx hb d_Jo_keepEverySecondStart_49 rfl (lv_at hl 2 rfl) ?_
        refine z_iastN hx hb hK hP hD hS 1 0 rfl rfl (by omega) (by decide) d_Jo_keepEverySecondStart_50 (fun H locs hP hD hS => ?_)
        have hP : va_P DD vwCl [(aw, .inr (2, [.ref hjs, .ref hjj])), (hjs, .inl (cjs, 151, .inl (nF (va_up (keF js i) ((r + 1) / 2) (js r)))))] H := hP
        have hD : va_D A [(aw, .inr (2, [.ref hjs, .ref hjj])), (hjs, .inl (cjs, 151, .inl (nF (va_up (keF js i) ((r + 1) / 2) (js r)))))] := hD
        rw [show va_up (keF js i) ((r + 1) / 2) (js r) = keS js r from by rw [Nat.le_antisymm hi2 c_19]; rfl] at hP hD
        have hP9 := hP.sub (ws' := [(aw, .inr (2, [.ref hjs, .ref hjj])), (hjs, .inl (cjs, 151, .inl (nF (keS js r))))]) [0, 1] rfl
        have hD9 := hD.sub (ws' := [(aw, .inr (2, [.ref hjs, .ref hjj])), (hjs, .inl (cjs, 151, .inl (nF (keS js r))))]) [0, 1] (by decide) rfl
        exact W.vret hx hb hr (fun t9 ht9 hW9 => ⟨⟨(), rfl, trivial, by rw [ht9]; exact hP9, va_K.moved hW9.alike hK, hD9⟩, hS.F ht9⟩) hS.2.2 d_Jo_keepEverySecondStart_51
      · refine lv_aload_n hx hb d_Jo_keepEverySecondStart_22 rfl (lv_at hl 0 rfl) ?_
        refine va_get (D := DD) (ci := 2) (v := .ref hjs) (C := R_Jo) (T := T_Jo) (N := 2) hx hb hg in_Jo hown hK hP 0 rfl rfl 0 (by decide) (hg _ mw_107) (fun _ h9 => h9) rfl d_Jo_keepEverySecondStart_23 ?_
        refine lv_iload hx hb d_Jo_keepEverySecondStart_26 (lv_at hl 4 rfl) ?_
        refine lv_aload_n hx hb d_Jo_keepEverySecondStart_28 rfl (lv_at hl 0 rfl) ?_
        refine va_get (D := DD) (ci := 2) (v := .ref hjs) (C := R_Jo) (T := T_Jo) (N := 2) hx hb hg in_Jo hown hK hP 0 rfl rfl 0 (by decide) (hg _ mw_107) (fun _ h9 => h9) rfl d_Jo_keepEverySecondStart_29 ?_
        refine lv_iconst (v := nI 2) hx hb d_Jo_keepEverySecondStart_32 (by decide) ?_
        refine lv_iload hx hb d_Jo_keepEverySecondStart_33 (lv_at hl 4 rfl) ?_
        refine z_imul hx hb d_Jo_keepEverySecondStart_35 ?_
        refine z_ialdN hx hb hK hP 1 0 rfl rfl (by omega) (by decide) d_Jo_keepEverySecondStart_36 ?_
        refine z_iastN hx hb hK hP hD hS 1 0 rfl rfl (by omega) (by decide) d_Jo_keepEverySecondStart_37 (fun H locs hP hD hS => ?_)
        have hP : va_P DD vwCl [(aw, .inr (2, [.ref hjs, .ref hjj])), (hjs, .inl (cjs, 151, .inl (nF (va_up (keF js i) i ((keF js i) (2 * i))))))] H := hP
        have hD : va_D A [(aw, .inr (2, [.ref hjs, .ref hjj])), (hjs, .inl (cjs, 151, .inl (nF (va_up (keF js i) i ((keF js i) (2 * i))))))] := hD
        rw [show va_up (keF js i) i ((keF js i) (2 * i)) = keF js (i + 1) from (if_neg (show ¬ i = 0 by omega)).symm] at hP hD
        refine lv_iinc (v := nI (i + 1)) (lv' := [(4, .int (nI (i + 1))), (0, .ref aw), (1, .int (nI r)), (2, .int (nI (js r))), (3, .int (nI ((r + 1) / 2)))]) hx hb d_Jo_keepEverySecondStart_38 hl (k := 4) rfl (by exact nI_add i 1) (by decide) rfl (fun ls hl => ?_)
        refine lv_goto (tgt := 16) hx hb d_Jo_keepEverySecondStart_41 (by decide) ?_
        exact ih16 (i + 1) (by omega) (by omega) (by omega) _ _ hP hD hS ls (lv_sub hl [1, 2, 3, 4, 0] rfl)
  refine lv_aload_n hx hb d_Jo_keepEverySecondStart_0 rfl (lv_at hl 0 rfl) ?_
  refine va_get (D := DD) (ci := 2) (v := .ref hjs) (C := R_Jo) (T := T_Jo) (N := 2) hx hb hg in_Jo hown hK hP 0 rfl rfl 0 (by decide) (hg _ mw_107) (fun _ h9 => h9) rfl d_Jo_keepEverySecondStart_1 ?_
  refine lv_iload_n hx hb d_Jo_keepEverySecondStart_4 rfl (lv_at hl 1 rfl) ?_
  refine z_ialdN hx hb hK hP 1 0 rfl rfl (by omega) (by decide) d_Jo_keepEverySecondStart_5 ?_
  refine lv_istore_n (lv' := [(2, .int (nI (js r))), (0, .ref aw), (1, .int (nI r))]) hx hb d_Jo_keepEverySecondStart_6 rfl hl (by decide) rfl (fun ls hl => ?_)
  refine lv_iload_n hx hb d_Jo_keepEverySecondStart_7 rfl (lv_at hl 2 rfl) ?_
  refine lv_iconst (v := nI 1) hx hb d_Jo_keepEverySecondStart_8 (by decide) ?_
  refine z_iadd hx hb d_Jo_keepEverySecondStart_9 ?_
  refine lv_iconst (v := nI 2) hx hb d_Jo_keepEverySecondStart_10 (by decide) ?_
  refine z_idiv hx hb d_Jo_keepEverySecondStart_11 (by omega) ?_
  refine lv_istore_n (lv' := [(3, .int (nI ((r + 1) / 2))), (2, .int (nI (js r))), (0, .ref aw), (1, .int (nI r))]) hx hb d_Jo_keepEverySecondStart_12 rfl hl (by decide) rfl (fun ls hl => ?_)
  rw [show js = keF js 1 from (if_pos rfl).symm] at hP hD
  refine lv_iconst (v := nI 1) hx hb d_Jo_keepEverySecondStart_13 (by decide) ?_
  refine lv_istore (lv' := [(4, .int (nI 1)), (3, .int (nI ((r + 1) / 2))), (2, .int (nI (js r))), (0, .ref aw), (1, .int (nI r))]) hx hb d_Jo_keepEverySecondStart_14 hl (by decide) rfl (fun ls hl => ?_)
  exact K16 _ 1 (by omega) (by omega) (Nat.lt_succ_self _) _ _ hP hD hS ls (lv_sub hl [3, 4, 2, 1, 0] rfl)
theorem d_Jo_join_0 : decode b_Jo_join 0 = .ok (.iload_n 3, 1) := by decide +kernel
theorem d_Jo_join_1 : decode b_Jo_join 1 = .ok (.istore 6, 2) := by decide +kernel
theorem d_Jo_join_3 : decode b_Jo_join 3 = .ok (.iload 4, 2) := by decide +kernel
theorem d_Jo_join_5 : decode b_Jo_join 5 = .ok (.istore 7, 2) := by decide +kernel
theorem d_Jo_join_7 : decode b_Jo_join 7 = .ok (.iload_n 3, 1) := by decide +kernel
theorem d_Jo_join_8 : decode b_Jo_join 8 = .ok (.istore 8, 2) := by decide +kernel
theorem d_Jo_join_10 : decode b_Jo_join 10 = .ok (.iload 6, 2) := by decide +kernel
theorem d_Jo_join_12 : decode b_Jo_join 12 = .ok (.iload 4, 2) := by decide +kernel
theorem d_Jo_join_14 : decode b_Jo_join 14 = .ok (.if_icmp .ge 66, 3) := by decide +kernel
theorem d_Jo_join_17 : decode b_Jo_join 17 = .ok (.iload 7, 2) := by decide +kernel
theorem d_Jo_join_19 : decode b_Jo_join 19 = .ok (.iload 5, 2) := by decide +kernel
theorem d_Jo_join_21 : decode b_Jo_join 21 = .ok (.if_icmp .ge 59, 3) := by decide +kernel
theorem d_Jo_join_24 : decode b_Jo_join 24 = .ok (.aload_n 1, 1) := by decide +kernel
theorem d_Jo_join_25 : decode b_Jo_join 25 = .ok (.aload_n 2, 1) := by decide +kernel
theorem d_Jo_join_26 : decode b_Jo_join 26 = .ok (.iload 6, 2) := by decide +kernel
theorem d_Jo_join_28 : decode b_Jo_join 28 = .ok (.iaload, 1) := by decide +kernel
theorem d_Jo_join_29 : decode b_Jo_join 29 = .ok (.invokevirtual 50, 3) := by decide +kernel
theorem d_Jo_join_32 : decode b_Jo_join 32 = .ok (.aload_n 1, 1) := by decide +kernel
theorem d_Jo_join_33 : decode b_Jo_join 33 = .ok (.aload_n 2, 1) := by decide +kernel
theorem d_Jo_join_34 : decode b_Jo_join 34 = .ok (.iload 7, 2) := by decide +kernel
theorem d_Jo_join_36 : decode b_Jo_join 36 = .ok (.iaload, 1) := by decide +kernel
theorem d_Jo_join_37 : decode b_Jo_join 37 = .ok (.invokevirtual 50, 3) := by decide +kernel
theorem d_Jo_join_40 : decode b_Jo_join 40 = .ok (.if_icmp .le 20, 3) := by decide +kernel
theorem d_Jo_join_43 : decode b_Jo_join 43 = .ok (.aload_n 0, 1) := by decide +kernel
theorem d_Jo_join_44 : decode b_Jo_join 44 = .ok (.getfield 15, 3) := by decide +kernel
theorem d_Jo_join_47 : decode b_Jo_join 47 = .ok (.iload 8, 2) := by decide +kernel
theorem d_Jo_join_49 : decode b_Jo_join 49 = .ok (.aload_n 2, 1) := by decide +kernel
theorem d_Jo_join_50 : decode b_Jo_join 50 = .ok (.iload 7, 2) := by decide +kernel
theorem d_Jo_join_52 : decode b_Jo_join 52 = .ok (.iaload, 1) := by decide +kernel
theorem d_Jo_join_53 : decode b_Jo_join 53 = .ok (.iastore, 1) := by decide +kernel
theorem d_Jo_join_54 : decode b_Jo_join 54 = .ok (.iinc 7 1, 3) := by decide +kernel
theorem d_Jo_join_57 : decode b_Jo_join 57 = .ok (.goto 17, 3) := by decide +kernel
theorem d_Jo_join_60 : decode b_Jo_join 60 = .ok (.aload_n 0, 1) := by decide +kernel
theorem d_Jo_join_61 : decode b_Jo_join 61 = .ok (.getfield 15, 3) := by decide +kernel
theorem d_Jo_join_64 : decode b_Jo_join 64 = .ok (.iload 8, 2) := by decide +kernel
theorem d_Jo_join_66 : decode b_Jo_join 66 = .ok (.aload_n 2, 1) := by decide +kernel
theorem d_Jo_join_67 : decode b_Jo_join 67 = .ok (.iload 6, 2) := by decide +kernel
theorem d_Jo_join_69 : decode b_Jo_join 69 = .ok (.iaload, 1) := by decide +kernel
theorem d_Jo_join_70 : decode b_Jo_join 70 = .ok (.iastore, 1) := by decide +kernel
theorem d_Jo_join_71 : decode b_Jo_join 71 = .ok (.iinc 6 1, 3) := by decide +kernel
theorem d_Jo_join_74 : decode b_Jo_join 74 = .ok (.iinc 8 1, 3) := by decide +kernel
theorem d_Jo_join_77 : decode b_Jo_join 77 = .ok (.goto (-67), 3) := by decide +kernel
theorem d_Jo_join_80 : decode b_Jo_join 80 = .ok (.iload 8, 2) := by decide +kernel
theorem d_Jo_join_82 : decode b_Jo_join 82 = .ok (.iload_n 3, 1) := by decide +kernel
theorem d_Jo_join_83 : decode b_Jo_join 83 = .ok (.isub, 1) := by decide +kernel
theorem d_Jo_join_84 : decode b_Jo_join 84 = .ok (.istore 9, 2) := by decide +kernel
theorem d_Jo_join_86 : decode b_Jo_join 86 = .ok (.aload_n 2, 1) := by decide +kernel
theorem d_Jo_join_87 : decode b_Jo_join 87 = .ok (.iload 6, 2) := by decide +kernel
theorem d_Jo_join_89 : decode b_Jo_join 89 = .ok (.aload_n 0, 1) := by decide +kernel
theorem d_Jo_join_90 : decode b_Jo_join 90 = .ok (.getfield 15, 3) := by decide +kernel
theorem d_Jo_join_93 : decode b_Jo_join 93 = .ok (.iload 8, 2) := by decide +kernel
theorem d_Jo_join_95 : decode b_Jo_join 95 = .ok (.iload 4, 2) := by decide +kernel
theorem d_Jo_join_97 : decode b_Jo_join 97 = .ok (.iload 6, 2) := by decide +kernel
theorem d_Jo_join_99 : decode b_Jo_join 99 = .ok (.isub, 1) := by decide +kernel
theorem d_Jo_join_100 : decode b_Jo_join 100 = .ok (.invokestatic 54, 3) := by decide +kernel
theorem d_Jo_join_103 : decode b_Jo_join 103 = .ok (.aload_n 2, 1) := by decide +kernel
theorem d_Jo_join_104 : decode b_Jo_join 104 = .ok (.iload 7, 2) := by decide +kernel
theorem d_Jo_join_106 : decode b_Jo_join 106 = .ok (.aload_n 0, 1) := by decide +kernel
theorem d_Jo_join_107 : decode b_Jo_join 107 = .ok (.getfield 15, 3) := by decide +kernel
theorem d_Jo_join_110 : decode b_Jo_join 110 = .ok (.iload 8, 2) := by decide +kernel
theorem d_Jo_join_112 : decode b_Jo_join 112 = .ok (.iload 4, 2) := by decide +kernel
theorem d_Jo_join_114 : decode b_Jo_join 114 = .ok (.iadd, 1) := by decide +kernel
theorem d_Jo_join_115 : decode b_Jo_join 115 = .ok (.iload 6, 2) := by decide +kernel
theorem d_Jo_join_117 : decode b_Jo_join 117 = .ok (.isub, 1) := by decide +kernel
theorem d_Jo_join_118 : decode b_Jo_join 118 = .ok (.iload 5, 2) := by decide +kernel
theorem d_Jo_join_120 : decode b_Jo_join 120 = .ok (.iload 7, 2) := by decide +kernel
theorem d_Jo_join_122 : decode b_Jo_join 122 = .ok (.isub, 1) := by decide +kernel
theorem d_Jo_join_123 : decode b_Jo_join 123 = .ok (.invokestatic 54, 3) := by decide +kernel
theorem d_Jo_join_126 : decode b_Jo_join 126 = .ok (.aload_n 0, 1) := by decide +kernel
theorem d_Jo_join_127 : decode b_Jo_join 127 = .ok (.getfield 15, 3) := by decide +kernel
theorem d_Jo_join_130 : decode b_Jo_join 130 = .ok (.iload_n 3, 1) := by decide +kernel
theorem d_Jo_join_131 : decode b_Jo_join 131 = .ok (.aload_n 2, 1) := by decide +kernel
theorem d_Jo_join_132 : decode b_Jo_join 132 = .ok (.iload_n 3, 1) := by decide +kernel
theorem d_Jo_join_133 : decode b_Jo_join 133 = .ok (.iload 5, 2) := by decide +kernel
theorem d_Jo_join_135 : decode b_Jo_join 135 = .ok (.iload_n 3, 1) := by decide +kernel
theorem d_Jo_join_136 : decode b_Jo_join 136 = .ok (.isub, 1) := by decide +kernel
theorem d_Jo_join_137 : decode b_Jo_join 137 = .ok (.invokestatic 54, 3) := by decide +kernel
theorem d_Jo_join_140 : decode b_Jo_join 140 = .ok (.iload 9, 2) := by decide +kernel
theorem d_Jo_join_142 : decode b_Jo_join 142 = .ok (.ireturn, 1) := by decide +kernel
abbrev ws_Jo_join : List Cond := .code y_Jo_join b_Jo_join 10 (some .int) :: ALLG
abbrev rm_Jo_join : Room := { frames := 1, cells := 0, slots := 0, locals := 21 }
set_option maxHeartbeats 4000000 in
set_option maxRecDepth 100000 in
theorem c_Jo_join (l : Launch) (DD : va_G) (sz : Nat) (aw : Nat) (hjs : Nat) (hjj : Nat) (cjj : ClassId) (jj : Nat → Nat) (h : Nat) (hk : Nat) (ck : ClassId) (k : Nat → Int32) (ht : Nat) (n : Nat) (hpn : Nat) (cpn : ClassId) (pn : Nat → Nat) (b : Nat) (mm : Nat) (ee : Nat) (hbm : b ≤ mm) (hme : mm ≤ ee) (hee : ee ≤ 150) (hp : ∀ x, pn x < 150) : Met l y_Jo_join ws_Jo_join rm_Jo_join (va_Pc [.ref aw, .ref h, .ref hpn, .int (nI b), .int (nI mm), .int (nI ee)] (fun U => U.heap.size = sz ∧ va_P DD vwCl [(aw, .inr (2, [.ref hjs, .ref hjj])), (hjj, .inl (cjj, 150, .inl (nF jj))), (h, .inr (4, [.ref hk, .ref ht, .int (nI n)])), (hk, .inl (ck, 150, .inl k)), (hpn, .inl (cpn, 150, .inl (nF pn)))] U.heap ∧ va_K DD vwCl [(cjj, .int), (ck, .int), (cpn, .int)] U ∧ va_D (fun _ => True) [(aw, .inr (2, [.ref hjs, .ref hjj])), (hjj, .inl (cjj, 150, .inl (nF jj))), (h, .inr (4, [.ref hk, .ref ht, .int (nI n)])), (hk, .inl (ck, 150, .inl k)), (hpn, .inl (cpn, 150, .inl (nF pn)))])) (va_Qi (fun (r9 : Int32) (u9 : Unit) => match u9 with | _ => r9 = nI (jnC k pn b mm ee jj)) (fun (u9 : Unit) (t9 : State) => match u9 with | _ => va_P DD vwCl [(aw, .inr (2, [.ref hjs, .ref hjj])), (hjj, .inl (cjj, 150, .inl (nF (jnJ k pn b mm ee jj)))), (h, .inr (4, [.ref hk, .ref ht, .int (nI n)])), (hk, .inl (ck, 150, .inl k)), (hpn, .inl (cpn, 150, .inl (nF (jnP k pn b mm ee jj))))] t9.heap ∧ va_K DD vwCl [(cjj, .int), (ck, .int), (cpn, .int)] t9 ∧ va_D (va_A [(aw, .inr (2, [.ref hjs, .ref hjj])), (hjj, .inl (cjj, 150, .inl (nF jj))), (h, .inr (4, [.ref hk, .ref ht, .int (nI n)])), (hk, .inl (ck, 150, .inl k)), (hpn, .inl (cpn, 150, .inl (nF pn)))] sz) [(aw, .inr (2, [.ref hjs, .ref hjj])), (hjj, .inl (cjj, 150, .inl (nF (jnJ k pn b mm ee jj)))), (h, .inr (4, [.ref hk, .ref ht, .int (nI n)])), (hk, .inl (ck, 150, .inl k)), (hpn, .inl (cpn, 150, .inl (nF (jnP k pn b mm ee jj))))]) (va_A [(aw, .inr (2, [.ref hjs, .ref hjj])), (hjj, .inl (cjj, 150, .inl (nF jj))), (h, .inr (4, [.ref hk, .ref ht, .int (nI n)])), (hk, .inl (ck, 150, .inl k)), (hpn, .inl (cpn, 150, .inl (nF pn)))] sz)) 0 0 (va_A [(aw, .inr (2, [.ref hjs, .ref hjj])), (hjj, .inl (cjj, 150, .inl (nF jj))), (h, .inr (4, [.ref hk, .ref ht, .int (nI n)])), (hk, .inl (ck, 150, .inl k)), (hpn, .inl (cpn, 150, .inl (nF pn)))] sz) := by
  refine Met.ofW (cc := b_Jo_join) (maxL := 10) (ret := (some .int)) (by decide) rfl ?_
  intro p e s m args below meth c s₁ B hml hv
  obtain ⟨ha, hsz, hP, hK, hD0⟩ := hv
  have hx := B.exec
  have hb := B.bytes
  have hr := B.returns
  have hts := atoms_spec (ws := ws_Jo_join) B.pre
  have hg : ∀ w ∈ ALLG, w.before args s = true := fun w h => hts w (List.mem_cons_of_mem _ h)
  have hown : s.vm.findClass R_Jo = some m.cls := findClass_of_methodNamed B.named
  have hlocks := B.notSynchronized
  subst hsz
  have hD := hD0.self (sz := s.heap.size)
  generalize hAe : va_A [(aw, .inr (2, [.ref hjs, .ref hjj])), (hjj, .inl (cjj, 150, .inl (nF jj))), (h, .inr (4, [.ref hk, .ref ht, .int (nI n)])), (hk, .inl (ck, 150, .inl k)), (hpn, .inl (cpn, 150, .inl (nF pn)))] s.heap.size = A at hD ⊢
  have hA : ∀ q : Nat, s.heap.size ≤ q → A q := fun q h => by rw [← hAe]; exact Or.inr h
  have hS : va_S A s.heap s.heap [] := va_S.rf
  have hP : va_P DD vwCl [(aw, .inr (2, [.ref hjs, .ref hjj])), (hjj, .inl (cjj, 150, .inl (nF jj))), (h, .inr (4, [.ref hk, .ref ht, .int (nI n)])), (hk, .inl (ck, 150, .inl k)), (hpn, .inl (cpn, 150, .inl (nF pn)))] s.heap := hP
  have hl := lv_entry ([.ref aw, .ref h, .ref hpn, .int (nI b), .int (nI mm), .int (nI ee)]) (n := 10) (Nat.le_of_ble_eq_true rfl)
  rw [ha, lg_entry_eq, ← ha]
  generalize (lg_sl ([.ref aw, .ref h, .ref hpn, .int (nI b), .int (nI mm), .int (nI ee)]) ++ List.replicate (10 - (lg_sl ([.ref aw, .ref h, .ref hpn, .int (nI b), .int (nI mm), .int (nI ee)])).length) Slot.unset).toArray = ls at hl ⊢
  have hl : lv_has ls 10 [(0, .ref aw), (1, .ref h), (2, .ref hpn), (3, .int (nI b)), (4, .int (nI mm)), (5, .int (nI ee))] := hl
  have K10 : ∀ (kk : Nat) (fu : Nat) (a : Nat) (d : Nat) (to : Nat) (jx : Nat → Nat), (h1 : b ≤ a) → (h2 : a ≤ mm) → (h3 : mm ≤ d) → (h4 : d ≤ ee) → (hto : to = a + d - mm) → (hf : (mm - a) + (ee - d) ≤ fu) → (hX : jn k pn b mm ee jj = jL k pn mm ee fu a d jx) → (mm - a) + (ee - d) < kk → ∀ (H : Heap) (locs : List Loc), va_P DD vwCl [(aw, .inr (2, [.ref hjs, .ref hjj])), (hjj, .inl (cjj, 150, .inl (nF jx))), (h, .inr (4, [.ref hk, .ref ht, .int (nI n)])), (hk, .inl (ck, 150, .inl k)), (hpn, .inl (cpn, 150, .inl (nF pn)))] H → va_D A [(aw, .inr (2, [.ref hjs, .ref hjj])), (hjj, .inl (cjj, 150, .inl (nF jx))), (h, .inr (4, [.ref hk, .ref ht, .int (nI n)])), (hk, .inl (ck, 150, .inl k)), (hpn, .inl (cpn, 150, .inl (nF pn)))] → va_S A s.heap H locs → ∀ (ls : Array Slot), lv_has ls 10 [(0, .ref aw), (1, .ref h), (2, .ref hpn), (3, .int (nI b)), (4, .int (nI mm)), (5, .int (nI ee)), (6, .int (nI a)), (7, .int (nI d)), (8, .int (nI to))] → W p l e (headSpec ws_Jo_join rm_Jo_join).room s m args below meth c H locs 0 0 (MQ below (va_Qi (fun (r9 : Int32) (u9 : Unit) => match u9 with | _ => r9 = nI (jnC k pn b mm ee jj)) (fun (u9 : Unit) (t9 : State) => match u9 with | _ => va_P DD vwCl [(aw, .inr (2, [.ref hjs, .ref hjj])), (hjj, .inl (cjj, 150, .inl (nF (jnJ k pn b mm ee jj)))), (h, .inr (4, [.ref hk, .ref ht, .int (nI n)])), (hk, .inl (ck, 150, .inl k)), (hpn, .inl (cpn, 150, .inl (nF (jnP k pn b mm ee jj))))] t9.heap ∧ va_K DD vwCl [(cjj, .int), (ck, .int), (cpn, .int)] t9 ∧ va_D A [(aw, .inr (2, [.ref hjs, .ref hjj])), (hjj, .inl (cjj, 150, .inl (nF (jnJ k pn b mm ee jj)))), (h, .inr (4, [.ref hk, .ref ht, .int (nI n)])), (hk, .inl (ck, 150, .inl k)), (hpn, .inl (cpn, 150, .inl (nF (jnP k pn b mm ee jj))))]) A) args s 0 0 A) (F0 m 10 ls []) := by
    intro kk
    induction kk with
    | zero => intros; omega
    | succ kk ih10 =>
      intro fu a d to jx h1 h2 h3 h4 hto hf hX hkk H locs hP hD hS ls hl
      refine lv_iload hx hb d_Jo_join_10 (lv_at hl 6 rfl) ?_
      refine lv_iload hx hb d_Jo_join_12 (lv_at hl 4 rfl) ?_
      refine z_icmp_ge (tgt := 80) hx hb d_Jo_join_14 (by decide) (by omega) (by omega) (fun c_14 => ?_) (fun c_14 => ?_)
      · have hX := jL_x hX (by omega)
        refine lv_iload hx hb d_Jo_join_80 (lv_at hl 8 rfl) ?_
        refine lv_iload_n hx hb d_Jo_join_82 rfl (lv_at hl 3 rfl) ?_
        refine z_isub hx hb d_Jo_join_83 (by omega) ?_
        refine lv_istore (lv' := [(9, .int (nI (to - b))), (0, .ref aw), (1, .ref h), (2, .ref hpn), (3, .int (nI b)), (4, .int (nI mm)), (5, .int (nI ee)), (6, .int (nI a)), (7, .int (nI d)), (8, .int (nI to))]) hx hb d_Jo_join_84 hl (by decide) rfl (fun ls hl => ?_)
        refine lv_aload_n hx hb d_Jo_join_86 rfl (lv_at hl 3 rfl) ?_
        refine lv_iload hx hb d_Jo_join_87 (lv_at hl 7 rfl) ?_
        refine lv_aload_n hx hb d_Jo_join_89 rfl (lv_at hl 1 rfl) ?_
        refine va_get (D := DD) (ci := 2) (v := .ref hjj) (C := R_Jo) (T := T_Jo) (N := 2) hx hb hg in_Jo hown hK hP 0 rfl rfl 1 (by decide) (hg _ mw_108) (fun _ h9 => h9) rfl d_Jo_join_90 ?_
        refine lv_iload hx hb d_Jo_join_93 (lv_at hl 9 rfl) ?_
        refine lv_iload hx hb d_Jo_join_95 (lv_at hl 5 rfl) ?_
        refine lv_iload hx hb d_Jo_join_97 (lv_at hl 7 rfl) ?_
        refine z_isub hx hb d_Jo_join_99 (by omega) ?_
        refine z_copyN hx hb (hml.trans hl.1.symm) hown (hg _ mw_593) (hg _ mw_373) (hg _ mw_372) (hg _ mw_16) hK hP hD hS 4 1 2 0 rfl rfl rfl rfl (by omega) (by omega) (by decide) (by decide) (Nat.le_of_ble_eq_true rfl) (Nat.le_of_ble_eq_true rfl) d_Jo_join_100 (fun H locs hP hD hS => ?_)
        have hP : va_P DD vwCl [(aw, .inr (2, [.ref hjs, .ref hjj])), (hjj, .inl (cjj, 150, .inl (nF (va_cpy pn jx a to (mm - a))))), (h, .inr (4, [.ref hk, .ref ht, .int (nI n)])), (hk, .inl (ck, 150, .inl k)), (hpn, .inl (cpn, 150, .inl (nF pn)))] H := hP
        have hD : va_D A [(aw, .inr (2, [.ref hjs, .ref hjj])), (hjj, .inl (cjj, 150, .inl (nF (va_cpy pn jx a to (mm - a))))), (h, .inr (4, [.ref hk, .ref ht, .int (nI n)])), (hk, .inl (ck, 150, .inl k)), (hpn, .inl (cpn, 150, .inl (nF pn)))] := hD
        refine lv_aload_n hx hb d_Jo_join_103 rfl (lv_at hl 3 rfl) ?_
        refine lv_iload hx hb d_Jo_join_104 (lv_at hl 8 rfl) ?_
        refine lv_aload_n hx hb d_Jo_join_106 rfl (lv_at hl 1 rfl) ?_
        refine va_get (D := DD) (ci := 2) (v := .ref hjj) (C := R_Jo) (T := T_Jo) (N := 2) hx hb hg in_Jo hown hK hP 0 rfl rfl 1 (by decide) (hg _ mw_108) (fun _ h9 => h9) rfl d_Jo_join_107 ?_
        refine lv_iload hx hb d_Jo_join_110 (lv_at hl 9 rfl) ?_
        refine lv_iload hx hb d_Jo_join_112 (lv_at hl 5 rfl) ?_
        refine z_iadd hx hb d_Jo_join_114 ?_
        refine lv_iload hx hb d_Jo_join_115 (lv_at hl 7 rfl) ?_
        refine z_isub hx hb d_Jo_join_117 (by omega) ?_
        refine lv_iload hx hb d_Jo_join_118 (lv_at hl 6 rfl) ?_
        refine lv_iload hx hb d_Jo_join_120 (lv_at hl 8 rfl) ?_
        refine z_isub hx hb d_Jo_join_122 (by omega) ?_
        refine z_copyN hx hb (hml.trans hl.1.symm) hown (hg _ mw_593) (hg _ mw_373) (hg _ mw_372) (hg _ mw_16) hK hP hD hS 4 1 2 0 rfl rfl rfl rfl (by omega) (by omega) (by decide) (by decide) (Nat.le_of_ble_eq_true rfl) (Nat.le_of_ble_eq_true rfl) d_Jo_join_123 (fun H locs hP hD hS => ?_)
        have hP : va_P DD vwCl [(aw, .inr (2, [.ref hjs, .ref hjj])), (hjj, .inl (cjj, 150, .inl (nF (va_cpy pn (va_cpy pn jx a to (mm - a)) d ((to + mm) - a) (ee - d))))), (h, .inr (4, [.ref hk, .ref ht, .int (nI n)])), (hk, .inl (ck, 150, .inl k)), (hpn, .inl (cpn, 150, .inl (nF pn)))] H := hP
        have hD : va_D A [(aw, .inr (2, [.ref hjs, .ref hjj])), (hjj, .inl (cjj, 150, .inl (nF (va_cpy pn (va_cpy pn jx a to (mm - a)) d ((to + mm) - a) (ee - d))))), (h, .inr (4, [.ref hk, .ref ht, .int (nI n)])), (hk, .inl (ck, 150, .inl k)), (hpn, .inl (cpn, 150, .inl (nF pn)))] := hD
        rw [show va_cpy pn (va_cpy pn jx a to (mm - a)) d ((to + mm) - a) (ee - d) = jnJ k pn b mm ee jj from jnJ_of hX hto] at hP hD
        refine lv_aload_n hx hb d_Jo_join_126 rfl (lv_at hl 1 rfl) ?_
        refine va_get (D := DD) (ci := 2) (v := .ref hjj) (C := R_Jo) (T := T_Jo) (N := 2) hx hb hg in_Jo hown hK hP 0 rfl rfl 1 (by decide) (hg _ mw_108) (fun _ h9 => h9) rfl d_Jo_join_127 ?_
        refine lv_iload_n hx hb d_Jo_join_130 rfl (lv_at hl 4 rfl) ?_
        refine lv_aload_n hx hb d_Jo_join_131 rfl (lv_at hl 3 rfl) ?_
        refine lv_iload_n hx hb d_Jo_join_132 rfl (lv_at hl 4 rfl) ?_
        refine lv_iload hx hb d_Jo_join_133 (lv_at hl 6 rfl) ?_
        refine lv_iload_n hx hb d_Jo_join_135 rfl (lv_at hl 4 rfl) ?_
        refine z_isub hx hb d_Jo_join_136 (by omega) ?_
        refine z_copyN hx hb (hml.trans hl.1.symm) hown (hg _ mw_593) (hg _ mw_373) (hg _ mw_372) (hg _ mw_16) hK hP hD hS 1 4 0 2 rfl rfl rfl rfl (by omega) (by omega) (by decide) (by decide) (Nat.le_of_ble_eq_true rfl) (Nat.le_of_ble_eq_true rfl) d_Jo_join_137 (fun H locs hP hD hS => ?_)
        have hP : va_P DD vwCl [(aw, .inr (2, [.ref hjs, .ref hjj])), (hjj, .inl (cjj, 150, .inl (nF (jnJ k pn b mm ee jj)))), (h, .inr (4, [.ref hk, .ref ht, .int (nI n)])), (hk, .inl (ck, 150, .inl k)), (hpn, .inl (cpn, 150, .inl (nF (va_cpy (jnJ k pn b mm ee jj) pn b b (ee - b)))))] H := hP
        have hD : va_D A [(aw, .inr (2, [.ref hjs, .ref hjj])), (hjj, .inl (cjj, 150, .inl (nF (jnJ k pn b mm ee jj)))), (h, .inr (4, [.ref hk, .ref ht, .int (nI n)])), (hk, .inl (ck, 150, .inl k)), (hpn, .inl (cpn, 150, .inl (nF (va_cpy (jnJ k pn b mm ee jj) pn b b (ee - b)))))] := hD
        rw [show va_cpy (jnJ k pn b mm ee jj) pn b b (ee - b) = jnP k pn b mm ee jj from rfl] at hP hD
        refine lv_iload hx hb d_Jo_join_140 (lv_at hl 0 rfl) ?_
        have hP9 := hP.sub (ws' := [(aw, .inr (2, [.ref hjs, .ref hjj])), (hjj, .inl (cjj, 150, .inl (nF (jnJ k pn b mm ee jj)))), (h, .inr (4, [.ref hk, .ref ht, .int (nI n)])), (hk, .inl (ck, 150, .inl k)), (hpn, .inl (cpn, 150, .inl (nF (jnP k pn b mm ee jj))))]) [0, 1, 2, 3, 4] rfl
        have hD9 := hD.sub (ws' := [(aw, .inr (2, [.ref hjs, .ref hjj])), (hjj, .inl (cjj, 150, .inl (nF (jnJ k pn b mm ee jj)))), (h, .inr (4, [.ref hk, .ref ht, .int (nI n)])), (hk, .inl (ck, 150, .inl k)), (hpn, .inl (cpn, 150, .inl (nF (jnP k pn b mm ee jj))))]) [0, 1, 2, 3, 4] (by decide) rfl
        exact W.iret (v := nI (to - b)) hx hb hr (fun t9 ht9 hW9 => ⟨⟨_, (), rfl, (by exact congrArg nI (jnC_of hX hto)), by rw [ht9]; exact hP9, va_K.moved hW9.alike hK, hD9⟩, hS.F ht9⟩) hS.2.2 d_Jo_join_142
      · refine lv_iload hx hb d_Jo_join_17 (lv_at hl 7 rfl) ?_
        refine lv_iload hx hb d_Jo_join_19 (lv_at hl 5 rfl) ?_
        refine z_icmp_ge (tgt := 80) hx hb d_Jo_join_21 (by decide) (by omega) (by omega) (fun c_21 => ?_) (fun c_21 => ?_)
        · have hX := jL_x hX (by omega)
          refine lv_iload hx hb d_Jo_join_80 (lv_at hl 8 rfl) ?_
          refine lv_iload_n hx hb d_Jo_join_82 rfl (lv_at hl 3 rfl) ?_
          refine z_isub hx hb d_Jo_join_83 (by omega) ?_
          refine lv_istore (lv' := [(9, .int (nI (to - b))), (0, .ref aw), (1, .ref h), (2, .ref hpn), (3, .int (nI b)), (4, .int (nI mm)), (5, .int (nI ee)), (6, .int (nI a)), (7, .int (nI d)), (8, .int (nI to))]) hx hb d_Jo_join_84 hl (by decide) rfl (fun ls hl => ?_)
          refine lv_aload_n hx hb d_Jo_join_86 rfl (lv_at hl 3 rfl) ?_
          refine lv_iload hx hb d_Jo_join_87 (lv_at hl 7 rfl) ?_
          refine lv_aload_n hx hb d_Jo_join_89 rfl (lv_at hl 1 rfl) ?_
          refine va_get (D := DD) (ci := 2) (v := .ref hjj) (C := R_Jo) (T := T_Jo) (N := 2) hx hb hg in_Jo hown hK hP 0 rfl rfl 1 (by decide) (hg _ mw_108) (fun _ h9 => h9) rfl d_Jo_join_90 ?_
          refine lv_iload hx hb d_Jo_join_93 (lv_at hl 9 rfl) ?_
          refine lv_iload hx hb d_Jo_join_95 (lv_at hl 5 rfl) ?_
          refine lv_iload hx hb d_Jo_join_97 (lv_at hl 7 rfl) ?_
          refine z_isub hx hb d_Jo_join_99 (by omega) ?_
          refine z_copyN hx hb (hml.trans hl.1.symm) hown (hg _ mw_593) (hg _ mw_373) (hg _ mw_372) (hg _ mw_16) hK hP hD hS 4 1 2 0 rfl rfl rfl rfl (by omega) (by omega) (by decide) (by decide) (Nat.le_of_ble_eq_true rfl) (Nat.le_of_ble_eq_true rfl) d_Jo_join_100 (fun H locs hP hD hS => ?_)
          have hP : va_P DD vwCl [(aw, .inr (2, [.ref hjs, .ref hjj])), (hjj, .inl (cjj, 150, .inl (nF (va_cpy pn jx a to (mm - a))))), (h, .inr (4, [.ref hk, .ref ht, .int (nI n)])), (hk, .inl (ck, 150, .inl k)), (hpn, .inl (cpn, 150, .inl (nF pn)))] H := hP
          have hD : va_D A [(aw, .inr (2, [.ref hjs, .ref hjj])), (hjj, .inl (cjj, 150, .inl (nF (va_cpy pn jx a to (mm - a))))), (h, .inr (4, [.ref hk, .ref ht, .int (nI n)])), (hk, .inl (ck, 150, .inl k)), (hpn, .inl (cpn, 150, .inl (nF pn)))] := hD
          refine lv_aload_n hx hb d_Jo_join_103 rfl (lv_at hl 3 rfl) ?_
          refine lv_iload hx hb d_Jo_join_104 (lv_at hl 8 rfl) ?_
          refine lv_aload_n hx hb d_Jo_join_106 rfl (lv_at hl 1 rfl) ?_
          refine va_get (D := DD) (ci := 2) (v := .ref hjj) (C := R_Jo) (T := T_Jo) (N := 2) hx hb hg in_Jo hown hK hP 0 rfl rfl 1 (by decide) (hg _ mw_108) (fun _ h9 => h9) rfl d_Jo_join_107 ?_
          refine lv_iload hx hb d_Jo_join_110 (lv_at hl 9 rfl) ?_
          refine lv_iload hx hb d_Jo_join_112 (lv_at hl 5 rfl) ?_
          refine z_iadd hx hb d_Jo_join_114 ?_
          refine lv_iload hx hb d_Jo_join_115 (lv_at hl 7 rfl) ?_
          refine z_isub hx hb d_Jo_join_117 (by omega) ?_
          refine lv_iload hx hb d_Jo_join_118 (lv_at hl 6 rfl) ?_
          refine lv_iload hx hb d_Jo_join_120 (lv_at hl 8 rfl) ?_
          refine z_isub hx hb d_Jo_join_122 (by omega) ?_
          refine z_copyN hx hb (hml.trans hl.1.symm) hown (hg _ mw_593) (hg _ mw_373) (hg _ mw_372) (hg _ mw_16) hK hP hD hS 4 1 2 0 rfl rfl rfl rfl (by omega) (by omega) (by decide) (by decide) (Nat.le_of_ble_eq_true rfl) (Nat.le_of_ble_eq_true rfl) d_Jo_join_123 (fun H locs hP hD hS => ?_)
          have hP : va_P DD vwCl [(aw, .inr (2, [.ref hjs, .ref hjj])), (hjj, .inl (cjj, 150, .inl (nF (va_cpy pn (va_cpy pn jx a to (mm - a)) d ((to + mm) - a) (ee - d))))), (h, .inr (4, [.ref hk, .ref ht, .int (nI n)])), (hk, .inl (ck, 150, .inl k)), (hpn, .inl (cpn, 150, .inl (nF pn)))] H := hP
          have hD : va_D A [(aw, .inr (2, [.ref hjs, .ref hjj])), (hjj, .inl (cjj, 150, .inl (nF (va_cpy pn (va_cpy pn jx a to (mm - a)) d ((to + mm) - a) (ee - d))))), (h, .inr (4, [.ref hk, .ref ht, .int (nI n)])), (hk, .inl (ck, 150, .inl k)), (hpn, .inl (cpn, 150, .inl (nF pn)))] := hD
          rw [show va_cpy pn (va_cpy pn jx a to (mm - a)) d ((to + mm) - a) (ee - d) = jnJ k pn b mm ee jj from jnJ_of hX hto] at hP hD
          refine lv_aload_n hx hb d_Jo_join_126 rfl (lv_at hl 1 rfl) ?_
          refine va_get (D := DD) (ci := 2) (v := .ref hjj) (C := R_Jo) (T := T_Jo) (N := 2) hx hb hg in_Jo hown hK hP 0 rfl rfl 1 (by decide) (hg _ mw_108) (fun _ h9 => h9) rfl d_Jo_join_127 ?_
          refine lv_iload_n hx hb d_Jo_join_130 rfl (lv_at hl 4 rfl) ?_
          refine lv_aload_n hx hb d_Jo_join_131 rfl (lv_at hl 3 rfl) ?_
          refine lv_iload_n hx hb d_Jo_join_132 rfl (lv_at hl 4 rfl) ?_
          refine lv_iload hx hb d_Jo_join_133 (lv_at hl 6 rfl) ?_
          refine lv_iload_n hx hb d_Jo_join_135 rfl (lv_at hl 4 rfl) ?_
          refine z_isub hx hb d_Jo_join_136 (by omega) ?_
          refine z_copyN hx hb (hml.trans hl.1.symm) hown (hg _ mw_593) (hg _ mw_373) (hg _ mw_372) (hg _ mw_16) hK hP hD hS 1 4 0 2 rfl rfl rfl rfl (by omega) (by omega) (by decide) (by decide) (Nat.le_of_ble_eq_true rfl) (Nat.le_of_ble_eq_true rfl) d_Jo_join_137 (fun H locs hP hD hS => ?_)
          have hP : va_P DD vwCl [(aw, .inr (2, [.ref hjs, .ref hjj])), (hjj, .inl (cjj, 150, .inl (nF (jnJ k pn b mm ee jj)))), (h, .inr (4, [.ref hk, .ref ht, .int (nI n)])), (hk, .inl (ck, 150, .inl k)), (hpn, .inl (cpn, 150, .inl (nF (va_cpy (jnJ k pn b mm ee jj) pn b b (ee - b)))))] H := hP
          have hD : va_D A [(aw, .inr (2, [.ref hjs, .ref hjj])), (hjj, .inl (cjj, 150, .inl (nF (jnJ k pn b mm ee jj)))), (h, .inr (4, [.ref hk, .ref ht, .int (nI n)])), (hk, .inl (ck, 150, .inl k)), (hpn, .inl (cpn, 150, .inl (nF (va_cpy (jnJ k pn b mm ee jj) pn b b (ee - b)))))] := hD
          rw [show va_cpy (jnJ k pn b mm ee jj) pn b b (ee - b) = jnP k pn b mm ee jj from rfl] at hP hD
          refine lv_iload hx hb d_Jo_join_140 (lv_at hl 0 rfl) ?_
          have hP9 := hP.sub (ws' := [(aw, .inr (2, [.ref hjs, .ref hjj])), (hjj, .inl (cjj, 150, .inl (nF (jnJ k pn b mm ee jj)))), (h, .inr (4, [.ref hk, .ref ht, .int (nI n)])), (hk, .inl (ck, 150, .inl k)), (hpn, .inl (cpn, 150, .inl (nF (jnP k pn b mm ee jj))))]) [0, 1, 2, 3, 4] rfl
          have hD9 := hD.sub (ws' := [(aw, .inr (2, [.ref hjs, .ref hjj])), (hjj, .inl (cjj, 150, .inl (nF (jnJ k pn b mm ee jj)))), (h, .inr (4, [.ref hk, .ref ht, .int (nI n)])), (hk, .inl (ck, 150, .inl k)), (hpn, .inl (cpn, 150, .inl (nF (jnP k pn b mm ee jj))))]) [0, 1, 2, 3, 4] (by decide) rfl
          exact W.iret (v := nI (to - b)) hx hb hr (fun t9 ht9 hW9 => ⟨⟨_, (), rfl, (by exact congrArg nI (jnC_of hX hto)), by rw [ht9]; exact hP9, va_K.moved hW9.alike hK, hD9⟩, hS.F ht9⟩) hS.2.2 d_Jo_join_142
        · refine lv_aload_n hx hb d_Jo_join_24 rfl (lv_at hl 1 rfl) ?_
          refine lv_aload_n hx hb d_Jo_join_25 rfl (lv_at hl 2 rfl) ?_
          refine lv_iload hx hb d_Jo_join_26 (lv_at hl 6 rfl) ?_
          refine z_ialdN hx hb hK hP 4 2 rfl rfl (by omega) (by decide) d_Jo_join_28 ?_
          have hPc := hP.sub (ws' := [(h, .inr (4, [.ref hk, .ref ht, .int (nI n)])), (hk, .inl (ck, 150, .inl k))]) [2, 3] rfl
          have hKc := hK.sub (tys' := [(ck, .int)]) [1] rfl
          refine vp_callSi (W.runV (As := [.int (nI (pn a))]) (rest := []) ⟨hx, hb, hml, hown, hg⟩ (c_Ro_key l DD h hk ht ck n k (pn a) (by exact hp _)) (cwV 1 hg (gi_V mw_592 mw_410 mw_411 mw_2 mw_412) rfl rfl rfl (by decide +kernel) ⟨Nat.le_of_ble_eq_true rfl, Nat.le_of_ble_eq_true rfl⟩) ⟨z_blind, va_recv hKc hPc (ci := 4) (q0 := 0) rfl rfl, z_pre hPc hKc⟩ rfl rfl hl.1 rfl (lv_room (Nat.le_of_ble_eq_true rfl)) d_Jo_join_29 ⟨Nat.zero_le _, Nat.zero_le _⟩) (fun r_29 hr_29 => ?_)
          subst hr_29
          refine lv_aload_n hx hb d_Jo_join_32 rfl (lv_at hl 1 rfl) ?_
          refine lv_aload_n hx hb d_Jo_join_33 rfl (lv_at hl 2 rfl) ?_
          refine lv_iload hx hb d_Jo_join_34 (lv_at hl 7 rfl) ?_
          refine z_ialdN hx hb hK hP 4 2 rfl rfl (by omega) (by decide) d_Jo_join_36 ?_
          have hPc := hP.sub (ws' := [(h, .inr (4, [.ref hk, .ref ht, .int (nI n)])), (hk, .inl (ck, 150, .inl k))]) [2, 3] rfl
          have hKc := hK.sub (tys' := [(ck, .int)]) [1] rfl
          refine vp_callSi (W.runV (As := [.int (nI (pn d))]) (rest := [.int (k (pn a))]) ⟨hx, hb, hml, hown, hg⟩ (c_Ro_key l DD h hk ht ck n k (pn d) (by exact hp _)) (cwV 1 hg (gi_V mw_592 mw_410 mw_411 mw_2 mw_412) rfl rfl rfl (by decide +kernel) ⟨Nat.le_of_ble_eq_true rfl, Nat.le_of_ble_eq_true rfl⟩) ⟨z_blind, va_recv hKc hPc (ci := 4) (q0 := 0) rfl rfl, z_pre hPc hKc⟩ rfl rfl hl.1 rfl (lv_room (Nat.le_of_ble_eq_true rfl)) d_Jo_join_37 ⟨Nat.zero_le _, Nat.zero_le _⟩) (fun r_37 hr_37 => ?_)
          subst hr_37
          refine lv_icmp_le (tgt := 60) hx hb d_Jo_join_40 (by decide) (fun c_40 => ?_) (fun c_40 => ?_)
          · refine lv_aload_n hx hb d_Jo_join_60 rfl (lv_at hl 0 rfl) ?_
            refine va_get (D := DD) (ci := 2) (v := .ref hjj) (C := R_Jo) (T := T_Jo) (N := 2) hx hb hg in_Jo hown hK hP 0 rfl rfl 1 (by decide) (hg _ mw_108) (fun _ h9 => h9) rfl d_Jo_join_61 ?_
            refine lv_iload hx hb d_Jo_join_64 (lv_at hl 8 rfl) ?_
            refine lv_aload_n hx hb d_Jo_join_66 rfl (lv_at hl 2 rfl) ?_
            refine lv_iload hx hb d_Jo_join_67 (lv_at hl 6 rfl) ?_
            refine z_ialdN hx hb hK hP 4 2 rfl rfl (by omega) (by decide) d_Jo_join_69 ?_
            refine z_iastN hx hb hK hP hD hS 1 0 rfl rfl (by omega) (by decide) d_Jo_join_70 (fun H locs hP hD hS => ?_)
            have hP : va_P DD vwCl [(aw, .inr (2, [.ref hjs, .ref hjj])), (hjj, .inl (cjj, 150, .inl (nF (va_up jx to (pn a))))), (h, .inr (4, [.ref hk, .ref ht, .int (nI n)])), (hk, .inl (ck, 150, .inl k)), (hpn, .inl (cpn, 150, .inl (nF pn)))] H := hP
            have hD : va_D A [(aw, .inr (2, [.ref hjs, .ref hjj])), (hjj, .inl (cjj, 150, .inl (nF (va_up jx to (pn a))))), (h, .inr (4, [.ref hk, .ref ht, .int (nI n)])), (hk, .inl (ck, 150, .inl k)), (hpn, .inl (cpn, 150, .inl (nF pn)))] := hD
            refine lv_iinc (v := nI (a + 1)) (lv' := [(6, .int (nI (a + 1))), (0, .ref aw), (1, .ref h), (2, .ref hpn), (3, .int (nI b)), (4, .int (nI mm)), (5, .int (nI ee)), (7, .int (nI d)), (8, .int (nI to))]) hx hb d_Jo_join_71 hl (k := 6) rfl (by exact nI_add a 1) (by decide) rfl (fun ls hl => ?_)
            refine lv_iinc (v := nI (to + 1)) (lv' := [(8, .int (nI (to + 1))), (6, .int (nI (a + 1))), (0, .ref aw), (1, .ref h), (2, .ref hpn), (3, .int (nI b)), (4, .int (nI mm)), (5, .int (nI ee)), (7, .int (nI d))]) hx hb d_Jo_join_74 hl (k := 8) rfl (by exact nI_add to 1) (by decide) rfl (fun ls hl => ?_)
            refine lv_goto (tgt := 10) hx hb d_Jo_join_77 (by decide) ?_
            exact ih10 (fu - 1) (a + 1) d (to + 1) (va_up jx to (pn a)) (by omega) (by omega) (by omega) (by omega) (by omega) (by omega) (by first | exact jL_a hX hf hto c_14 c_21 c_40 | exact jL_d hX hf hto c_14 c_21 c_40) (by omega) _ _ hP hD hS ls (lv_sub hl [2, 3, 4, 5, 6, 7, 1, 8, 0] rfl)
          · refine lv_aload_n hx hb d_Jo_join_43 rfl (lv_at hl 0 rfl) ?_
            refine va_get (D := DD) (ci := 2) (v := .ref hjj) (C := R_Jo) (T := T_Jo) (N := 2) hx hb hg in_Jo hown hK hP 0 rfl rfl 1 (by decide) (hg _ mw_108) (fun _ h9 => h9) rfl d_Jo_join_44 ?_
            refine lv_iload hx hb d_Jo_join_47 (lv_at hl 8 rfl) ?_
            refine lv_aload_n hx hb d_Jo_join_49 rfl (lv_at hl 2 rfl) ?_
            refine lv_iload hx hb d_Jo_join_50 (lv_at hl 7 rfl) ?_
            refine z_ialdN hx hb hK hP 4 2 rfl rfl (by omega) (by decide) d_Jo_join_52 ?_
            refine z_iastN hx hb hK hP hD hS 1 0 rfl rfl (by omega) (by decide) d_Jo_join_53 (fun H locs hP hD hS => ?_)
            have hP : va_P DD vwCl [(aw, .inr (2, [.ref hjs, .ref hjj])), (hjj, .inl (cjj, 150, .inl (nF (va_up jx to (pn d))))), (h, .inr (4, [.ref hk, .ref ht, .int (nI n)])), (hk, .inl (ck, 150, .inl k)), (hpn, .inl (cpn, 150, .inl (nF pn)))] H := hP
            have hD : va_D A [(aw, .inr (2, [.ref hjs, .ref hjj])), (hjj, .inl (cjj, 150, .inl (nF (va_up jx to (pn d))))), (h, .inr (4, [.ref hk, .ref ht, .int (nI n)])), (hk, .inl (ck, 150, .inl k)), (hpn, .inl (cpn, 150, .inl (nF pn)))] := hD
            refine lv_iinc (v := nI (d + 1)) (lv' := [(7, .int (nI (d + 1))), (0, .ref aw), (1, .ref h), (2, .ref hpn), (3, .int (nI b)), (4, .int (nI mm)), (5, .int (nI ee)), (6, .int (nI a)), (8, .int (nI to))]) hx hb d_Jo_join_54 hl (k := 7) rfl (by exact nI_add d 1) (by decide) rfl (fun ls hl => ?_)
            refine lv_goto (tgt := 74) hx hb d_Jo_join_57 (by decide) ?_
            refine lv_iinc (v := nI (to + 1)) (lv' := [(8, .int (nI (to + 1))), (7, .int (nI (d + 1))), (0, .ref aw), (1, .ref h), (2, .ref hpn), (3, .int (nI b)), (4, .int (nI mm)), (5, .int (nI ee)), (6, .int (nI a))]) hx hb d_Jo_join_74 hl (k := 8) rfl (by exact nI_add to 1) (by decide) rfl (fun ls hl => ?_)
            refine lv_goto (tgt := 10) hx hb d_Jo_join_77 (by decide) ?_
            exact ih10 (fu - 1) a (d + 1) (to + 1) (va_up jx to (pn d)) (by omega) (by omega) (by omega) (by omega) (by omega) (by omega) (by first | exact jL_a hX hf hto c_14 c_21 c_40 | exact jL_d hX hf hto c_14 c_21 c_40) (by omega) _ _ hP hD hS ls (lv_sub hl [2, 3, 4, 5, 6, 7, 8, 1, 0] rfl)
  refine lv_iload_n hx hb d_Jo_join_0 rfl (lv_at hl 3 rfl) ?_
  refine lv_istore (lv' := [(6, .int (nI b)), (0, .ref aw), (1, .ref h), (2, .ref hpn), (3, .int (nI b)), (4, .int (nI mm)), (5, .int (nI ee))]) hx hb d_Jo_join_1 hl (by decide) rfl (fun ls hl => ?_)
  refine lv_iload hx hb d_Jo_join_3 (lv_at hl 5 rfl) ?_
  refine lv_istore (lv' := [(7, .int (nI mm)), (6, .int (nI b)), (0, .ref aw), (1, .ref h), (2, .ref hpn), (3, .int (nI b)), (4, .int (nI mm)), (5, .int (nI ee))]) hx hb d_Jo_join_5 hl (by decide) rfl (fun ls hl => ?_)
  refine lv_iload_n hx hb d_Jo_join_7 rfl (lv_at hl 5 rfl) ?_
  refine lv_istore (lv' := [(8, .int (nI b)), (7, .int (nI mm)), (6, .int (nI b)), (0, .ref aw), (1, .ref h), (2, .ref hpn), (3, .int (nI b)), (4, .int (nI mm)), (5, .int (nI ee))]) hx hb d_Jo_join_8 hl (by decide) rfl (fun ls hl => ?_)
  exact K10 _ (ee - b) b mm b jj (by omega) (by omega) (by omega) (by omega) (by omega) (by omega) (by rfl) (Nat.lt_succ_self _) _ _ hP hD hS ls (lv_sub hl [3, 4, 5, 6, 7, 8, 2, 1, 0] rfl)
theorem d_Jo_joinPairs_0 : decode b_Jo_joinPairs 0 = .ok (.iconst 0, 1) := by decide +kernel
theorem d_Jo_joinPairs_1 : decode b_Jo_joinPairs 1 = .ok (.istore 5, 2) := by decide +kernel
theorem d_Jo_joinPairs_3 : decode b_Jo_joinPairs 3 = .ok (.iconst 0, 1) := by decide +kernel
theorem d_Jo_joinPairs_4 : decode b_Jo_joinPairs 4 = .ok (.istore 6, 2) := by decide +kernel
theorem d_Jo_joinPairs_6 : decode b_Jo_joinPairs 6 = .ok (.iload 6, 2) := by decide +kernel
theorem d_Jo_joinPairs_8 : decode b_Jo_joinPairs 8 = .ok (.iconst 1, 1) := by decide +kernel
theorem d_Jo_joinPairs_9 : decode b_Jo_joinPairs 9 = .ok (.iadd, 1) := by decide +kernel
theorem d_Jo_joinPairs_10 : decode b_Jo_joinPairs 10 = .ok (.iload 4, 2) := by decide +kernel
theorem d_Jo_joinPairs_12 : decode b_Jo_joinPairs 12 = .ok (.if_icmp .ge 66, 3) := by decide +kernel
theorem d_Jo_joinPairs_15 : decode b_Jo_joinPairs 15 = .ok (.iload 5, 2) := by decide +kernel
theorem d_Jo_joinPairs_17 : decode b_Jo_joinPairs 17 = .ok (.aload_n 0, 1) := by decide +kernel
theorem d_Jo_joinPairs_18 : decode b_Jo_joinPairs 18 = .ok (.aload_n 1, 1) := by decide +kernel
theorem d_Jo_joinPairs_19 : decode b_Jo_joinPairs 19 = .ok (.aload_n 2, 1) := by decide +kernel
theorem d_Jo_joinPairs_20 : decode b_Jo_joinPairs 20 = .ok (.aload_n 0, 1) := by decide +kernel
theorem d_Jo_joinPairs_21 : decode b_Jo_joinPairs 21 = .ok (.getfield 9, 3) := by decide +kernel
theorem d_Jo_joinPairs_24 : decode b_Jo_joinPairs 24 = .ok (.iload 6, 2) := by decide +kernel
theorem d_Jo_joinPairs_26 : decode b_Jo_joinPairs 26 = .ok (.iaload, 1) := by decide +kernel
theorem d_Jo_joinPairs_27 : decode b_Jo_joinPairs 27 = .ok (.aload_n 0, 1) := by decide +kernel
theorem d_Jo_joinPairs_28 : decode b_Jo_joinPairs 28 = .ok (.getfield 9, 3) := by decide +kernel
theorem d_Jo_joinPairs_31 : decode b_Jo_joinPairs 31 = .ok (.iload 6, 2) := by decide +kernel
theorem d_Jo_joinPairs_33 : decode b_Jo_joinPairs 33 = .ok (.iconst 1, 1) := by decide +kernel
theorem d_Jo_joinPairs_34 : decode b_Jo_joinPairs 34 = .ok (.iadd, 1) := by decide +kernel
theorem d_Jo_joinPairs_35 : decode b_Jo_joinPairs 35 = .ok (.iaload, 1) := by decide +kernel
theorem d_Jo_joinPairs_36 : decode b_Jo_joinPairs 36 = .ok (.aload_n 0, 1) := by decide +kernel
theorem d_Jo_joinPairs_37 : decode b_Jo_joinPairs 37 = .ok (.getfield 9, 3) := by decide +kernel
theorem d_Jo_joinPairs_40 : decode b_Jo_joinPairs 40 = .ok (.iload 6, 2) := by decide +kernel
theorem d_Jo_joinPairs_42 : decode b_Jo_joinPairs 42 = .ok (.iconst 2, 1) := by decide +kernel
theorem d_Jo_joinPairs_43 : decode b_Jo_joinPairs 43 = .ok (.iadd, 1) := by decide +kernel
theorem d_Jo_joinPairs_44 : decode b_Jo_joinPairs 44 = .ok (.iaload, 1) := by decide +kernel
theorem d_Jo_joinPairs_45 : decode b_Jo_joinPairs 45 = .ok (.invokevirtual 40, 3) := by decide +kernel
theorem d_Jo_joinPairs_48 : decode b_Jo_joinPairs 48 = .ok (.iadd, 1) := by decide +kernel
theorem d_Jo_joinPairs_49 : decode b_Jo_joinPairs 49 = .ok (.istore 5, 2) := by decide +kernel
theorem d_Jo_joinPairs_51 : decode b_Jo_joinPairs 51 = .ok (.aload_n 3, 1) := by decide +kernel
theorem d_Jo_joinPairs_52 : decode b_Jo_joinPairs 52 = .ok (.iconst 2, 1) := by decide +kernel
theorem d_Jo_joinPairs_53 : decode b_Jo_joinPairs 53 = .ok (.aload_n 0, 1) := by decide +kernel
theorem d_Jo_joinPairs_54 : decode b_Jo_joinPairs 54 = .ok (.getfield 9, 3) := by decide +kernel
theorem d_Jo_joinPairs_57 : decode b_Jo_joinPairs 57 = .ok (.iload 6, 2) := by decide +kernel
theorem d_Jo_joinPairs_59 : decode b_Jo_joinPairs 59 = .ok (.iaload, 1) := by decide +kernel
theorem d_Jo_joinPairs_60 : decode b_Jo_joinPairs 60 = .ok (.aload_n 0, 1) := by decide +kernel
theorem d_Jo_joinPairs_61 : decode b_Jo_joinPairs 61 = .ok (.getfield 9, 3) := by decide +kernel
theorem d_Jo_joinPairs_64 : decode b_Jo_joinPairs 64 = .ok (.iload 6, 2) := by decide +kernel
theorem d_Jo_joinPairs_66 : decode b_Jo_joinPairs 66 = .ok (.iconst 2, 1) := by decide +kernel
theorem d_Jo_joinPairs_67 : decode b_Jo_joinPairs 67 = .ok (.iadd, 1) := by decide +kernel
theorem d_Jo_joinPairs_68 : decode b_Jo_joinPairs 68 = .ok (.iaload, 1) := by decide +kernel
theorem d_Jo_joinPairs_69 : decode b_Jo_joinPairs 69 = .ok (.invokevirtual 44, 3) := by decide +kernel
theorem d_Jo_joinPairs_72 : decode b_Jo_joinPairs 72 = .ok (.iinc 6 2, 3) := by decide +kernel
theorem d_Jo_joinPairs_75 : decode b_Jo_joinPairs 75 = .ok (.goto (-69), 3) := by decide +kernel
theorem d_Jo_joinPairs_78 : decode b_Jo_joinPairs 78 = .ok (.iload 5, 2) := by decide +kernel
theorem d_Jo_joinPairs_80 : decode b_Jo_joinPairs 80 = .ok (.ireturn, 1) := by decide +kernel
abbrev ws_Jo_joinPairs : List Cond := .code y_Jo_joinPairs b_Jo_joinPairs 7 (some .int) :: ALLG
abbrev rm_Jo_joinPairs : Room := { frames := 2, cells := 0, slots := 0, locals := 50 }
set_option maxHeartbeats 4000000 in
set_option maxRecDepth 100000 in
theorem c_Jo_joinPairs (l : Launch) (DD : va_G) (sz : Nat) (aw : Nat) (hjs : Nat) (cjs : ClassId) (js : Nat → Nat) (hjj : Nat) (cjj : ClassId) (jj : Nat → Nat) (h : Nat) (hk : Nat) (ck : ClassId) (k : Nat → Int32) (ht : Nat) (n : Nat) (hpn : Nat) (cpn : ClassId) (pn : Nat → Nat) (aq : Nat) (htf : Nat) (ctf : ClassId) (tf : Nat → Int32) (tn : Nat) (r : Nat) (hn : n ≤ 150) (hp : ∀ x, pn x < 150) (hj : ∀ x, jj x < 150) (hr2 : r ≤ 150) (hmo : ∀ x, x < r → js x ≤ js (x + 1)) (hjn : ∀ x, x ≤ r → js x ≤ 150) (htn : tn + r ≤ 150) : Met l y_Jo_joinPairs ws_Jo_joinPairs rm_Jo_joinPairs (va_Pc [.ref aw, .ref h, .ref hpn, .ref aq, .int (nI r)] (fun U => U.heap.size = sz ∧ va_P DD vwCl [(aw, .inr (2, [.ref hjs, .ref hjj])), (hjs, .inl (cjs, 151, .inl (nF js))), (hjj, .inl (cjj, 150, .inl (nF jj))), (h, .inr (4, [.ref hk, .ref ht, .int (nI n)])), (hk, .inl (ck, 150, .inl k)), (hpn, .inl (cpn, 150, .inl (nF pn))), (aq, .inr (6, [.ref htf, .int (nI tn)])), (htf, .inl (ctf, 450, .inl tf))] U.heap ∧ va_K DD vwCl [(cjs, .int), (cjj, .int), (ck, .int), (cpn, .int), (ctf, .int)] U ∧ va_D (fun _ => True) [(aw, .inr (2, [.ref hjs, .ref hjj])), (hjs, .inl (cjs, 151, .inl (nF js))), (hjj, .inl (cjj, 150, .inl (nF jj))), (h, .inr (4, [.ref hk, .ref ht, .int (nI n)])), (hk, .inl (ck, 150, .inl k)), (hpn, .inl (cpn, 150, .inl (nF pn))), (aq, .inr (6, [.ref htf, .int (nI tn)])), (htf, .inl (ctf, 450, .inl tf))])) (va_Qi (fun (r9 : Int32) (u9 : Unit) => match u9 with | _ => r9 = nI ((jpS k js (pn, jj, tn, tf, 0) (r / 2)).2.2.2.2)) (fun (u9 : Unit) (t9 : State) => match u9 with | _ => va_P DD vwCl [(aw, .inr (2, [.ref hjs, .ref hjj])), (hjs, .inl (cjs, 151, .inl (nF js))), (hjj, .inl (cjj, 150, .inl (nF ((jpS k js (pn, jj, tn, tf, 0) (r / 2)).2.1)))), (h, .inr (4, [.ref hk, .ref ht, .int (nI n)])), (hk, .inl (ck, 150, .inl k)), (hpn, .inl (cpn, 150, .inl (nF ((jpS k js (pn, jj, tn, tf, 0) (r / 2)).1)))), (aq, .inr (6, [.ref htf, .int (nI ((jpS k js (pn, jj, tn, tf, 0) (r / 2)).2.2.1))])), (htf, .inl (ctf, 450, .inl ((jpS k js (pn, jj, tn, tf, 0) (r / 2)).2.2.2.1)))] t9.heap ∧ va_K DD vwCl [(cjs, .int), (cjj, .int), (ck, .int), (cpn, .int), (ctf, .int)] t9 ∧ va_D (va_A [(aw, .inr (2, [.ref hjs, .ref hjj])), (hjs, .inl (cjs, 151, .inl (nF js))), (hjj, .inl (cjj, 150, .inl (nF jj))), (h, .inr (4, [.ref hk, .ref ht, .int (nI n)])), (hk, .inl (ck, 150, .inl k)), (hpn, .inl (cpn, 150, .inl (nF pn))), (aq, .inr (6, [.ref htf, .int (nI tn)])), (htf, .inl (ctf, 450, .inl tf))] sz) [(aw, .inr (2, [.ref hjs, .ref hjj])), (hjs, .inl (cjs, 151, .inl (nF js))), (hjj, .inl (cjj, 150, .inl (nF ((jpS k js (pn, jj, tn, tf, 0) (r / 2)).2.1)))), (h, .inr (4, [.ref hk, .ref ht, .int (nI n)])), (hk, .inl (ck, 150, .inl k)), (hpn, .inl (cpn, 150, .inl (nF ((jpS k js (pn, jj, tn, tf, 0) (r / 2)).1)))), (aq, .inr (6, [.ref htf, .int (nI ((jpS k js (pn, jj, tn, tf, 0) (r / 2)).2.2.1))])), (htf, .inl (ctf, 450, .inl ((jpS k js (pn, jj, tn, tf, 0) (r / 2)).2.2.2.1)))]) (va_A [(aw, .inr (2, [.ref hjs, .ref hjj])), (hjs, .inl (cjs, 151, .inl (nF js))), (hjj, .inl (cjj, 150, .inl (nF jj))), (h, .inr (4, [.ref hk, .ref ht, .int (nI n)])), (hk, .inl (ck, 150, .inl k)), (hpn, .inl (cpn, 150, .inl (nF pn))), (aq, .inr (6, [.ref htf, .int (nI tn)])), (htf, .inl (ctf, 450, .inl tf))] sz)) 0 0 (va_A [(aw, .inr (2, [.ref hjs, .ref hjj])), (hjs, .inl (cjs, 151, .inl (nF js))), (hjj, .inl (cjj, 150, .inl (nF jj))), (h, .inr (4, [.ref hk, .ref ht, .int (nI n)])), (hk, .inl (ck, 150, .inl k)), (hpn, .inl (cpn, 150, .inl (nF pn))), (aq, .inr (6, [.ref htf, .int (nI tn)])), (htf, .inl (ctf, 450, .inl tf))] sz) := by
  refine Met.ofW (cc := b_Jo_joinPairs) (maxL := 7) (ret := (some .int)) (by decide) rfl ?_
  intro p e s m args below meth c s₁ B hml hv
  obtain ⟨ha, hsz, hP, hK, hD0⟩ := hv
  have hx := B.exec
  have hb := B.bytes
  have hr := B.returns
  have hts := atoms_spec (ws := ws_Jo_joinPairs) B.pre
  have hg : ∀ w ∈ ALLG, w.before args s = true := fun w h => hts w (List.mem_cons_of_mem _ h)
  have hown : s.vm.findClass R_Jo = some m.cls := findClass_of_methodNamed B.named
  have hlocks := B.notSynchronized
  subst hsz
  have hD := hD0.self (sz := s.heap.size)
  generalize hAe : va_A [(aw, .inr (2, [.ref hjs, .ref hjj])), (hjs, .inl (cjs, 151, .inl (nF js))), (hjj, .inl (cjj, 150, .inl (nF jj))), (h, .inr (4, [.ref hk, .ref ht, .int (nI n)])), (hk, .inl (ck, 150, .inl k)), (hpn, .inl (cpn, 150, .inl (nF pn))), (aq, .inr (6, [.ref htf, .int (nI tn)])), (htf, .inl (ctf, 450, .inl tf))] s.heap.size = A at hD ⊢
  have hA : ∀ q : Nat, s.heap.size ≤ q → A q := fun q h => by rw [← hAe]; exact Or.inr h
  have hS : va_S A s.heap s.heap [] := va_S.rf
  have hP : va_P DD vwCl [(aw, .inr (2, [.ref hjs, .ref hjj])), (hjs, .inl (cjs, 151, .inl (nF js))), (hjj, .inl (cjj, 150, .inl (nF jj))), (h, .inr (4, [.ref hk, .ref ht, .int (nI n)])), (hk, .inl (ck, 150, .inl k)), (hpn, .inl (cpn, 150, .inl (nF pn))), (aq, .inr (6, [.ref htf, .int (nI tn)])), (htf, .inl (ctf, 450, .inl tf))] s.heap := hP
  have hl := lv_entry ([.ref aw, .ref h, .ref hpn, .ref aq, .int (nI r)]) (n := 7) (Nat.le_of_ble_eq_true rfl)
  rw [ha, lg_entry_eq, ← ha]
  generalize (lg_sl ([.ref aw, .ref h, .ref hpn, .ref aq, .int (nI r)]) ++ List.replicate (7 - (lg_sl ([.ref aw, .ref h, .ref hpn, .ref aq, .int (nI r)])).length) Slot.unset).toArray = ls at hl ⊢
  have hl : lv_has ls 7 [(0, .ref aw), (1, .ref h), (2, .ref hpn), (3, .ref aq), (4, .int (nI r))] := hl
  have K6 : ∀ (kk : Nat) (x : Nat) (i : Nat) (q : Nat), (hix : i = 2 * x) → (hxr : 2 * x ≤ r) → (hq : q = (jpS k js (pn, jj, tn, tf, 0) x).2.2.2.2) → r - i < kk → ∀ (H : Heap) (locs : List Loc), va_P DD vwCl [(aw, .inr (2, [.ref hjs, .ref hjj])), (hjs, .inl (cjs, 151, .inl (nF js))), (hjj, .inl (cjj, 150, .inl (nF ((jpS k js (pn, jj, tn, tf, 0) x).2.1)))), (h, .inr (4, [.ref hk, .ref ht, .int (nI n)])), (hk, .inl (ck, 150, .inl k)), (hpn, .inl (cpn, 150, .inl (nF ((jpS k js (pn, jj, tn, tf, 0) x).1)))), (aq, .inr (6, [.ref htf, .int (nI ((jpS k js (pn, jj, tn, tf, 0) x).2.2.1))])), (htf, .inl (ctf, 450, .inl ((jpS k js (pn, jj, tn, tf, 0) x).2.2.2.1)))] H → va_D A [(aw, .inr (2, [.ref hjs, .ref hjj])), (hjs, .inl (cjs, 151, .inl (nF js))), (hjj, .inl (cjj, 150, .inl (nF ((jpS k js (pn, jj, tn, tf, 0) x).2.1)))), (h, .inr (4, [.ref hk, .ref ht, .int (nI n)])), (hk, .inl (ck, 150, .inl k)), (hpn, .inl (cpn, 150, .inl (nF ((jpS k js (pn, jj, tn, tf, 0) x).1)))), (aq, .inr (6, [.ref htf, .int (nI ((jpS k js (pn, jj, tn, tf, 0) x).2.2.1))])), (htf, .inl (ctf, 450, .inl ((jpS k js (pn, jj, tn, tf, 0) x).2.2.2.1)))] → va_S A s.heap H locs → ∀ (ls : Array Slot), lv_has ls 7 [(0, .ref aw), (1, .ref h), (2, .ref hpn), (3, .ref aq), (4, .int (nI r)), (5, .int (nI q)), (6, .int (nI i))] → W p l e (headSpec ws_Jo_joinPairs rm_Jo_joinPairs).room s m args below meth c H locs 0 0 (MQ below (va_Qi (fun (r9 : Int32) (u9 : Unit) => match u9 with | _ => r9 = nI ((jpS k js (pn, jj, tn, tf, 0) (r / 2)).2.2.2.2)) (fun (u9 : Unit) (t9 : State) => match u9 with | _ => va_P DD vwCl [(aw, .inr (2, [.ref hjs, .ref hjj])), (hjs, .inl (cjs, 151, .inl (nF js))), (hjj, .inl (cjj, 150, .inl (nF ((jpS k js (pn, jj, tn, tf, 0) (r / 2)).2.1)))), (h, .inr (4, [.ref hk, .ref ht, .int (nI n)])), (hk, .inl (ck, 150, .inl k)), (hpn, .inl (cpn, 150, .inl (nF ((jpS k js (pn, jj, tn, tf, 0) (r / 2)).1)))), (aq, .inr (6, [.ref htf, .int (nI ((jpS k js (pn, jj, tn, tf, 0) (r / 2)).2.2.1))])), (htf, .inl (ctf, 450, .inl ((jpS k js (pn, jj, tn, tf, 0) (r / 2)).2.2.2.1)))] t9.heap ∧ va_K DD vwCl [(cjs, .int), (cjj, .int), (ck, .int), (cpn, .int), (ctf, .int)] t9 ∧ va_D A [(aw, .inr (2, [.ref hjs, .ref hjj])), (hjs, .inl (cjs, 151, .inl (nF js))), (hjj, .inl (cjj, 150, .inl (nF ((jpS k js (pn, jj, tn, tf, 0) (r / 2)).2.1)))), (h, .inr (4, [.ref hk, .ref ht, .int (nI n)])), (hk, .inl (ck, 150, .inl k)), (hpn, .inl (cpn, 150, .inl (nF ((jpS k js (pn, jj, tn, tf, 0) (r / 2)).1)))), (aq, .inr (6, [.ref htf, .int (nI ((jpS k js (pn, jj, tn, tf, 0) (r / 2)).2.2.1))])), (htf, .inl (ctf, 450, .inl ((jpS k js (pn, jj, tn, tf, 0) (r / 2)).2.2.2.1)))]) A) args s 0 0 A) (F0 m 6 ls []) := by
    intro kk
    induction kk with
    | zero => intros; omega
    | succ kk ih6 =>
      intro x i q hix hxr hq hkk H locs hP hD hS ls hl
      have hJS := jpS_lt (k := k) (s := js) (S0 := (pn, jj, tn, tf, 0)) hp hj x
      have h9 : (jpS k js (pn, jj, tn, tf, 0) x).2.2.1 = tn + x := hJS.2.2
      refine lv_iload hx hb d_Jo_joinPairs_6 (lv_at hl 6 rfl) ?_
      refine lv_iconst (v := nI 1) hx hb d_Jo_joinPairs_8 (by decide) ?_
      refine z_iadd hx hb d_Jo_joinPairs_9 ?_
      refine lv_iload hx hb d_Jo_joinPairs_10 (lv_at hl 4 rfl) ?_
      refine z_icmp_ge (tgt := 78) hx hb d_Jo_joinPairs_12 (by decide) (by omega) (by omega) (fun c_12 => ?_) (fun c_12 => ?_)
      · rw [show (jpS k js (pn, jj, tn, tf, 0) x).1 = (jpS k js (pn, jj, tn, tf, 0) (r / 2)).1 from by rw [show x = r / 2 by omega]] at hP hD
        rw [show (jpS k js (pn, jj, tn, tf, 0) x).2.1 = (jpS k js (pn, jj, tn, tf, 0) (r / 2)).2.1 from by rw [show x = r / 2 by omega]] at hP hD
        rw [show (jpS k js (pn, jj, tn, tf, 0) x).2.2.2.1 = (jpS k js (pn, jj, tn, tf, 0) (r / 2)).2.2.2.1 from by rw [show x = r / 2 by omega]] at hP hD
        rw [show nI ((jpS k js (pn, jj, tn, tf, 0) x).2.2.1) = nI ((jpS k js (pn, jj, tn, tf, 0) (r / 2)).2.2.1) from by rw [show x = r / 2 by omega]] at hP hD
        refine lv_iload hx hb d_Jo_joinPairs_78 (lv_at hl 5 rfl) ?_
        have hP9 := hP.sub (ws' := [(aw, .inr (2, [.ref hjs, .ref hjj])), (hjs, .inl (cjs, 151, .inl (nF js))), (hjj, .inl (cjj, 150, .inl (nF ((jpS k js (pn, jj, tn, tf, 0) (r / 2)).2.1)))), (h, .inr (4, [.ref hk, .ref ht, .int (nI n)])), (hk, .inl (ck, 150, .inl k)), (hpn, .inl (cpn, 150, .inl (nF ((jpS k js (pn, jj, tn, tf, 0) (r / 2)).1)))), (aq, .inr (6, [.ref htf, .int (nI ((jpS k js (pn, jj, tn, tf, 0) (r / 2)).2.2.1))])), (htf, .inl (ctf, 450, .inl ((jpS k js (pn, jj, tn, tf, 0) (r / 2)).2.2.2.1)))]) [0, 1, 2, 3, 4, 5, 6, 7] rfl
        have hD9 := hD.sub (ws' := [(aw, .inr (2, [.ref hjs, .ref hjj])), (hjs, .inl (cjs, 151, .inl (nF js))), (hjj, .inl (cjj, 150, .inl (nF ((jpS k js (pn, jj, tn, tf, 0) (r / 2)).2.1)))), (h, .inr (4, [.ref hk, .ref ht, .int (nI n)])), (hk, .inl (ck, 150, .inl k)), (hpn, .inl (cpn, 150, .inl (nF ((jpS k js (pn, jj, tn, tf, 0) (r / 2)).1)))), (aq, .inr (6, [.ref htf, .int (nI ((jpS k js (pn, jj, tn, tf, 0) (r / 2)).2.2.1))])), (htf, .inl (ctf, 450, .inl ((jpS k js (pn, jj, tn, tf, 0) (r / 2)).2.2.2.1)))]) [0, 1, 2, 3, 4, 5, 6, 7] (by decide) rfl
        exact W.iret (v := nI q) hx hb hr (fun t9 ht9 hW9 => ⟨⟨_, (), rfl, (by exact congrArg nI (by rw [hq, show x = r / 2 by omega])), by rw [ht9]; exact hP9, va_K.moved hW9.alike hK, hD9⟩, hS.F ht9⟩) hS.2.2 d_Jo_joinPairs_80
      · refine lv_iload hx hb d_Jo_joinPairs_15 (lv_at hl 5 rfl) ?_
        refine lv_aload_n hx hb d_Jo_joinPairs_17 rfl (lv_at hl 0 rfl) ?_
        refine lv_aload_n hx hb d_Jo_joinPairs_18 rfl (lv_at hl 1 rfl) ?_
        refine lv_aload_n hx hb d_Jo_joinPairs_19 rfl (lv_at hl 2 rfl) ?_
        refine lv_aload_n hx hb d_Jo_joinPairs_20 rfl (lv_at hl 0 rfl) ?_
        refine va_get (D := DD) (ci := 2) (v := .ref hjs) (C := R_Jo) (T := T_Jo) (N := 2) hx hb hg in_Jo hown hK hP 0 rfl rfl 0 (by decide) (hg _ mw_107) (fun _ h9 => h9) rfl d_Jo_joinPairs_21 ?_
        refine lv_iload hx hb d_Jo_joinPairs_24 (lv_at hl 6 rfl) ?_
        refine z_ialdN hx hb hK hP 1 0 rfl rfl (by omega) (by decide) d_Jo_joinPairs_26 ?_
        refine lv_aload_n hx hb d_Jo_joinPairs_27 rfl (lv_at hl 0 rfl) ?_
        refine va_get (D := DD) (ci := 2) (v := .ref hjs) (C := R_Jo) (T := T_Jo) (N := 2) hx hb hg in_Jo hown hK hP 0 rfl rfl 0 (by decide) (hg _ mw_107) (fun _ h9 => h9) rfl d_Jo_joinPairs_28 ?_
        refine lv_iload hx hb d_Jo_joinPairs_31 (lv_at hl 6 rfl) ?_
        refine lv_iconst (v := nI 1) hx hb d_Jo_joinPairs_33 (by decide) ?_
        refine z_iadd hx hb d_Jo_joinPairs_34 ?_
        refine z_ialdN hx hb hK hP 1 0 rfl rfl (by omega) (by decide) d_Jo_joinPairs_35 ?_
        refine lv_aload_n hx hb d_Jo_joinPairs_36 rfl (lv_at hl 0 rfl) ?_
        refine va_get (D := DD) (ci := 2) (v := .ref hjs) (C := R_Jo) (T := T_Jo) (N := 2) hx hb hg in_Jo hown hK hP 0 rfl rfl 0 (by decide) (hg _ mw_107) (fun _ h9 => h9) rfl d_Jo_joinPairs_37 ?_
        refine lv_iload hx hb d_Jo_joinPairs_40 (lv_at hl 6 rfl) ?_
        refine lv_iconst (v := nI 2) hx hb d_Jo_joinPairs_42 (by decide) ?_
        refine z_iadd hx hb d_Jo_joinPairs_43 ?_
        refine z_ialdN hx hb hK hP 1 0 rfl rfl (by omega) (by decide) d_Jo_joinPairs_44 ?_
        have hPc := hP.sub (ws' := [(aw, .inr (2, [.ref hjs, .ref hjj])), (hjj, .inl (cjj, 150, .inl (nF ((jpS k js (pn, jj, tn, tf, 0) x).2.1)))), (h, .inr (4, [.ref hk, .ref ht, .int (nI n)])), (hk, .inl (ck, 150, .inl k)), (hpn, .inl (cpn, 150, .inl (nF ((jpS k js (pn, jj, tn, tf, 0) x).1))))]) [0, 2, 3, 4, 5] rfl
        have hKc := hK.sub (tys' := [(cjj, .int), (ck, .int), (cpn, .int)]) [1, 2, 3] rfl
        have hDc := hD.sub (ws' := [(aw, .inr (2, [.ref hjs, .ref hjj])), (hjj, .inl (cjj, 150, .inl (nF ((jpS k js (pn, jj, tn, tf, 0) x).2.1)))), (h, .inr (4, [.ref hk, .ref ht, .int (nI n)])), (hk, .inl (ck, 150, .inl k)), (hpn, .inl (cpn, 150, .inl (nF ((jpS k js (pn, jj, tn, tf, 0) x).1))))]) [0, 2, 3, 4, 5] (by decide) rfl
        have hFc := va_free (wc := [(aw, .inr (2, [.ref hjs, .ref hjj])), (hjj, .inl (cjj, 150, .inl (nF ((jpS k js (pn, jj, tn, tf, 0) x).2.1)))), (h, .inr (4, [.ref hk, .ref ht, .int (nI n)])), (hk, .inl (ck, 150, .inl k)), (hpn, .inl (cpn, 150, .inl (nF ((jpS k js (pn, jj, tn, tf, 0) x).1))))]) hD hS hA [0, 2, 3, 4, 5] rfl
        refine va_calli (va_runV (As := [.ref h, .ref hpn, .int (nI (js i)), .int (nI (js (i + 1))), .int (nI (js (i + 2)))]) (rest := [.int (nI q)]) ⟨hx, hb, hml, hown, hg⟩ (c_Jo_join l DD H.size aw hjs hjj cjj ((jpS k js (pn, jj, tn, tf, 0) x).2.1) h hk ck k ht n hpn cpn ((jpS k js (pn, jj, tn, tf, 0) x).1) (js i) (js (i + 1)) (js (i + 2)) (by exact hmo i (by omega)) (by exact hmo (i + 1) (by omega)) (by exact hjn (i + 2) (by omega)) (by exact hJS.1)) (cwV 5 hg (gi_V mw_588 mw_590 ms_Jo_join mw_8 mw_591) rfl rfl rfl (by decide +kernel) ⟨Nat.le_of_ble_eq_true rfl, Nat.le_of_ble_eq_true rfl⟩) ⟨z_blindQ, va_recv hKc hPc (ci := 2) (q0 := 0) rfl rfl, z_preQ hPc hKc hDc⟩ rfl rfl hl.1 rfl (lv_room (Nat.le_of_ble_eq_true rfl)) d_Jo_joinPairs_45 ⟨Nat.zero_le _, Nat.zero_le _⟩) hS (fun q _ h => hFc q h) hFc (fun r_45 u9 t9 H9 locs ht9 hvm9 hw9 hB9 hz9 hk9 hS => ?_)
        obtain ⟨hP1, hK1, hD1⟩ := hB9
        rw [ht9] at hP1
        try dsimp only at hw9
        obtain ⟨hP, hD⟩ := va_join (wr := [(hjs, .inl (cjs, 151, .inl (nF js))), (aq, .inr (6, [.ref htf, .int (nI ((jpS k js (pn, jj, tn, tf, 0) x).2.2.1))])), (htf, .inl (ctf, 450, .inl ((jpS k js (pn, jj, tn, tf, 0) x).2.2.2.1)))]) (w1 := [(aw, .inr (2, [.ref hjs, .ref hjj])), (hjj, .inl (cjj, 150, .inl (nF (jnJ k ((jpS k js (pn, jj, tn, tf, 0) x).1) (js i) (js (i + 1)) (js (i + 2)) ((jpS k js (pn, jj, tn, tf, 0) x).2.1))))), (h, .inr (4, [.ref hk, .ref ht, .int (nI n)])), (hk, .inl (ck, 150, .inl k)), (hpn, .inl (cpn, 150, .inl (nF (jnP k ((jpS k js (pn, jj, tn, tf, 0) x).1) (js i) (js (i + 1)) (js (i + 2)) ((jpS k js (pn, jj, tn, tf, 0) x).2.1)))))]) hP hD [0, 2, 3, 4, 5] [1, 6, 7] rfl rfl (by decide) (by decide) hk9 hFc hP1 hD1
        generalize H9 = H at hP hS ⊢
        have hP : va_P DD vwCl [(hjs, .inl (cjs, 151, .inl (nF js))), (aq, .inr (6, [.ref htf, .int (nI ((jpS k js (pn, jj, tn, tf, 0) x).2.2.1))])), (htf, .inl (ctf, 450, .inl ((jpS k js (pn, jj, tn, tf, 0) x).2.2.2.1))), (aw, .inr (2, [.ref hjs, .ref hjj])), (hjj, .inl (cjj, 150, .inl (nF (jnJ k ((jpS k js (pn, jj, tn, tf, 0) x).1) (js i) (js (i + 1)) (js (i + 2)) ((jpS k js (pn, jj, tn, tf, 0) x).2.1))))), (h, .inr (4, [.ref hk, .ref ht, .int (nI n)])), (hk, .inl (ck, 150, .inl k)), (hpn, .inl (cpn, 150, .inl (nF (jnP k ((jpS k js (pn, jj, tn, tf, 0) x).1) (js i) (js (i + 1)) (js (i + 2)) ((jpS k js (pn, jj, tn, tf, 0) x).2.1)))))] H := hP
        have hD : va_D A [(hjs, .inl (cjs, 151, .inl (nF js))), (aq, .inr (6, [.ref htf, .int (nI ((jpS k js (pn, jj, tn, tf, 0) x).2.2.1))])), (htf, .inl (ctf, 450, .inl ((jpS k js (pn, jj, tn, tf, 0) x).2.2.2.1))), (aw, .inr (2, [.ref hjs, .ref hjj])), (hjj, .inl (cjj, 150, .inl (nF (jnJ k ((jpS k js (pn, jj, tn, tf, 0) x).1) (js i) (js (i + 1)) (js (i + 2)) ((jpS k js (pn, jj, tn, tf, 0) x).2.1))))), (h, .inr (4, [.ref hk, .ref ht, .int (nI n)])), (hk, .inl (ck, 150, .inl k)), (hpn, .inl (cpn, 150, .inl (nF (jnP k ((jpS k js (pn, jj, tn, tf, 0) x).1) (js i) (js (i + 1)) (js (i + 2)) ((jpS k js (pn, jj, tn, tf, 0) x).2.1)))))] := hD
        subst hw9
        refine z_iadd hx hb d_Jo_joinPairs_48 ?_
        refine lv_istore (lv' := [(5, .int (nI (q + (jnC k ((jpS k js (pn, jj, tn, tf, 0) x).1) (js i) (js (i + 1)) (js (i + 2)) ((jpS k js (pn, jj, tn, tf, 0) x).2.1))))), (0, .ref aw), (1, .ref h), (2, .ref hpn), (3, .ref aq), (4, .int (nI r)), (6, .int (nI i))]) hx hb d_Jo_joinPairs_49 hl (by decide) rfl (fun ls hl => ?_)
        refine lv_aload_n hx hb d_Jo_joinPairs_51 rfl (lv_at hl 4 rfl) ?_
        refine lv_iconst (v := nI 2) hx hb d_Jo_joinPairs_52 (by decide) ?_
        refine lv_aload_n hx hb d_Jo_joinPairs_53 rfl (lv_at hl 1 rfl) ?_
        refine va_get (D := DD) (ci := 2) (v := .ref hjs) (C := R_Jo) (T := T_Jo) (N := 2) hx hb hg in_Jo hown hK hP 3 rfl rfl 0 (by decide) (hg _ mw_107) (fun _ h9 => h9) rfl d_Jo_joinPairs_54 ?_
        refine lv_iload hx hb d_Jo_joinPairs_57 (lv_at hl 6 rfl) ?_
        refine z_ialdN hx hb hK hP 0 0 rfl rfl (by omega) (by decide) d_Jo_joinPairs_59 ?_
        refine lv_aload_n hx hb d_Jo_joinPairs_60 rfl (lv_at hl 1 rfl) ?_
        refine va_get (D := DD) (ci := 2) (v := .ref hjs) (C := R_Jo) (T := T_Jo) (N := 2) hx hb hg in_Jo hown hK hP 3 rfl rfl 0 (by decide) (hg _ mw_107) (fun _ h9 => h9) rfl d_Jo_joinPairs_61 ?_
        refine lv_iload hx hb d_Jo_joinPairs_64 (lv_at hl 6 rfl) ?_
        refine lv_iconst (v := nI 2) hx hb d_Jo_joinPairs_66 (by decide) ?_
        refine z_iadd hx hb d_Jo_joinPairs_67 ?_
        refine z_ialdN hx hb hK hP 0 0 rfl rfl (by omega) (by decide) d_Jo_joinPairs_68 ?_
        have hPc := hP.sub (ws' := [(aq, .inr (6, [.ref htf, .int (nI ((jpS k js (pn, jj, tn, tf, 0) x).2.2.1))])), (htf, .inl (ctf, 450, .inl ((jpS k js (pn, jj, tn, tf, 0) x).2.2.2.1)))]) [1, 2] rfl
        have hKc := hK.sub (tys' := [(ctf, .int)]) [4] rfl
        have hDc := hD.sub (ws' := [(aq, .inr (6, [.ref htf, .int (nI ((jpS k js (pn, jj, tn, tf, 0) x).2.2.1))])), (htf, .inl (ctf, 450, .inl ((jpS k js (pn, jj, tn, tf, 0) x).2.2.2.1)))]) [1, 2] (by decide) rfl
        have hFc := va_free (wc := [(aq, .inr (6, [.ref htf, .int (nI ((jpS k js (pn, jj, tn, tf, 0) x).2.2.1))])), (htf, .inl (ctf, 450, .inl ((jpS k js (pn, jj, tn, tf, 0) x).2.2.2.1)))]) hD hS hA [1, 2] rfl
        refine va_callv (va_runV (As := [.int (nI 2), .int (nI (js i)), .int (nI (js (i + 2)))]) (rest := []) ⟨hx, hb, hml, hown, hg⟩ (c_Tr_add l DD H.size aq htf ctf ((jpS k js (pn, jj, tn, tf, 0) x).2.2.2.1) ((jpS k js (pn, jj, tn, tf, 0) x).2.2.1) (nI 2) (nI (js i)) (nI (js (i + 2))) (by omega)) (cwV 3 hg (gi_V mw_594 mw_558 mw_559 mw_4 mw_560) rfl rfl rfl (by decide +kernel) ⟨Nat.le_of_ble_eq_true rfl, Nat.le_of_ble_eq_true rfl⟩) ⟨z_blindQ, va_recv hKc hPc (ci := 6) (q0 := 0) rfl rfl, z_preQ hPc hKc hDc⟩ rfl rfl hl.1 rfl (lv_room (Nat.le_of_ble_eq_true rfl)) d_Jo_joinPairs_69 ⟨Nat.zero_le _, Nat.zero_le _⟩) hS (fun q _ h => hFc q h) hFc (fun u9 t9 H9 locs ht9 hvm9 hw9 hB9 hz9 hk9 hS => ?_)
        obtain ⟨hP1, hK1, hD1⟩ := hB9
        rw [ht9] at hP1
        try dsimp only at hw9
        obtain ⟨hP, hD⟩ := va_join (wr := [(hjs, .inl (cjs, 151, .inl (nF js))), (aw, .inr (2, [.ref hjs, .ref hjj])), (hjj, .inl (cjj, 150, .inl (nF (jnJ k ((jpS k js (pn, jj, tn, tf, 0) x).1) (js i) (js (i + 1)) (js (i + 2)) ((jpS k js (pn, jj, tn, tf, 0) x).2.1))))), (h, .inr (4, [.ref hk, .ref ht, .int (nI n)])), (hk, .inl (ck, 150, .inl k)), (hpn, .inl (cpn, 150, .inl (nF (jnP k ((jpS k js (pn, jj, tn, tf, 0) x).1) (js i) (js (i + 1)) (js (i + 2)) ((jpS k js (pn, jj, tn, tf, 0) x).2.1)))))]) (w1 := [(aq, .inr (6, [.ref htf, .int (nI (((jpS k js (pn, jj, tn, tf, 0) x).2.2.1) + 1))])), (htf, .inl (ctf, 450, .inl (tadd ((jpS k js (pn, jj, tn, tf, 0) x).2.2.2.1) ((jpS k js (pn, jj, tn, tf, 0) x).2.2.1) (nI 2) (nI (js i)) (nI (js (i + 2))))))]) hP hD [1, 2] [0, 3, 4, 5, 6, 7] rfl rfl (by decide) (by decide) hk9 hFc hP1 hD1
        generalize H9 = H at hP hS ⊢
        have hP : va_P DD vwCl [(hjs, .inl (cjs, 151, .inl (nF js))), (aw, .inr (2, [.ref hjs, .ref hjj])), (hjj, .inl (cjj, 150, .inl (nF (jnJ k ((jpS k js (pn, jj, tn, tf, 0) x).1) (js i) (js (i + 1)) (js (i + 2)) ((jpS k js (pn, jj, tn, tf, 0) x).2.1))))), (h, .inr (4, [.ref hk, .ref ht, .int (nI n)])), (hk, .inl (ck, 150, .inl k)), (hpn, .inl (cpn, 150, .inl (nF (jnP k ((jpS k js (pn, jj, tn, tf, 0) x).1) (js i) (js (i + 1)) (js (i + 2)) ((jpS k js (pn, jj, tn, tf, 0) x).2.1))))), (aq, .inr (6, [.ref htf, .int (nI (((jpS k js (pn, jj, tn, tf, 0) x).2.2.1) + 1))])), (htf, .inl (ctf, 450, .inl (tadd ((jpS k js (pn, jj, tn, tf, 0) x).2.2.2.1) ((jpS k js (pn, jj, tn, tf, 0) x).2.2.1) (nI 2) (nI (js i)) (nI (js (i + 2))))))] H := hP
        have hD : va_D A [(hjs, .inl (cjs, 151, .inl (nF js))), (aw, .inr (2, [.ref hjs, .ref hjj])), (hjj, .inl (cjj, 150, .inl (nF (jnJ k ((jpS k js (pn, jj, tn, tf, 0) x).1) (js i) (js (i + 1)) (js (i + 2)) ((jpS k js (pn, jj, tn, tf, 0) x).2.1))))), (h, .inr (4, [.ref hk, .ref ht, .int (nI n)])), (hk, .inl (ck, 150, .inl k)), (hpn, .inl (cpn, 150, .inl (nF (jnP k ((jpS k js (pn, jj, tn, tf, 0) x).1) (js i) (js (i + 1)) (js (i + 2)) ((jpS k js (pn, jj, tn, tf, 0) x).2.1))))), (aq, .inr (6, [.ref htf, .int (nI (((jpS k js (pn, jj, tn, tf, 0) x).2.2.1) + 1))])), (htf, .inl (ctf, 450, .inl (tadd ((jpS k js (pn, jj, tn, tf, 0) x).2.2.2.1) ((jpS k js (pn, jj, tn, tf, 0) x).2.2.1) (nI 2) (nI (js i)) (nI (js (i + 2))))))] := hD
        rw [show jnP k ((jpS k js (pn, jj, tn, tf, 0) x).1) (js i) (js (i + 1)) (js (i + 2)) ((jpS k js (pn, jj, tn, tf, 0) x).2.1) = (jpS k js (pn, jj, tn, tf, 0) (x + 1)).1 from by rw [hix]; rfl] at hP hD
        rw [show jnJ k ((jpS k js (pn, jj, tn, tf, 0) x).1) (js i) (js (i + 1)) (js (i + 2)) ((jpS k js (pn, jj, tn, tf, 0) x).2.1) = (jpS k js (pn, jj, tn, tf, 0) (x + 1)).2.1 from by rw [hix]; rfl] at hP hD
        rw [show tadd ((jpS k js (pn, jj, tn, tf, 0) x).2.2.2.1) ((jpS k js (pn, jj, tn, tf, 0) x).2.2.1) (nI 2) (nI (js i)) (nI (js (i + 2))) = (jpS k js (pn, jj, tn, tf, 0) (x + 1)).2.2.2.1 from by rw [hix]; rfl] at hP hD
        rw [show nI (((jpS k js (pn, jj, tn, tf, 0) x).2.2.1) + 1) = nI (jpS k js (pn, jj, tn, tf, 0) (x + 1)).2.2.1 from rfl] at hP hD
        refine lv_iinc (v := nI (i + 2)) (lv' := [(6, .int (nI (i + 2))), (5, .int (nI (q + (jnC k ((jpS k js (pn, jj, tn, tf, 0) x).1) (js i) (js (i + 1)) (js (i + 2)) ((jpS k js (pn, jj, tn, tf, 0) x).2.1))))), (0, .ref aw), (1, .ref h), (2, .ref hpn), (3, .ref aq), (4, .int (nI r))]) hx hb d_Jo_joinPairs_72 hl (k := 6) rfl (by exact nI_add i 2) (by decide) rfl (fun ls hl => ?_)
        refine lv_goto (tgt := 6) hx hb d_Jo_joinPairs_75 (by decide) ?_
        exact ih6 (x + 1) (i + 2) (q + (jnC k ((jpS k js (pn, jj, tn, tf, 0) x).1) (js i) (js (i + 1)) (js (i + 2)) ((jpS k js (pn, jj, tn, tf, 0) x).2.1))) (by omega) (by omega) (by rw [hq, hix]; rfl) (by omega) _ _ (hP.sub [1, 0, 2, 3, 4, 5, 6, 7] rfl) (hD.sub [1, 0, 2, 3, 4, 5, 6, 7] (by decide) rfl) hS ls (lv_sub hl [2, 3, 4, 5, 6, 1, 0] rfl)
  refine lv_iconst (v := nI 0) hx hb d_Jo_joinPairs_0 (by decide) ?_
  refine lv_istore (lv' := [(5, .int (nI 0)), (0, .ref aw), (1, .ref h), (2, .ref hpn), (3, .ref aq), (4, .int (nI r))]) hx hb d_Jo_joinPairs_1 hl (by decide) rfl (fun ls hl => ?_)
  rw [show pn = (jpS k js (pn, jj, tn, tf, 0) 0).1 from rfl] at hP hD
  rw [show jj = (jpS k js (pn, jj, tn, tf, 0) 0).2.1 from rfl] at hP hD
  rw [show tf = (jpS k js (pn, jj, tn, tf, 0) 0).2.2.2.1 from rfl] at hP hD
  rw [show nI tn = nI (jpS k js (pn, jj, tn, tf, 0) 0).2.2.1 from rfl] at hP hD
  refine lv_iconst (v := nI 0) hx hb d_Jo_joinPairs_3 (by decide) ?_
  refine lv_istore (lv' := [(6, .int (nI 0)), (5, .int (nI 0)), (0, .ref aw), (1, .ref h), (2, .ref hpn), (3, .ref aq), (4, .int (nI r))]) hx hb d_Jo_joinPairs_4 hl (by decide) rfl (fun ls hl => ?_)
  exact K6 _ 0 0 0 (by omega) (by omega) (by rfl) (Nat.lt_succ_self _) _ _ hP hD hS ls (lv_sub hl [2, 3, 4, 5, 6, 1, 0] rfl)
theorem d_Jo_arrange_0 : decode b_Jo_arrange 0 = .ok (.iconst 0, 1) := by decide +kernel
theorem d_Jo_arrange_1 : decode b_Jo_arrange 1 = .ok (.istore 4, 2) := by decide +kernel
theorem d_Jo_arrange_3 : decode b_Jo_arrange 3 = .ok (.aload_n 0, 1) := by decide +kernel
theorem d_Jo_arrange_4 : decode b_Jo_arrange 4 = .ok (.aload_n 1, 1) := by decide +kernel
theorem d_Jo_arrange_5 : decode b_Jo_arrange 5 = .ok (.invokevirtual 18, 3) := by decide +kernel
theorem d_Jo_arrange_8 : decode b_Jo_arrange 8 = .ok (.istore 5, 2) := by decide +kernel
theorem d_Jo_arrange_10 : decode b_Jo_arrange 10 = .ok (.iload 5, 2) := by decide +kernel
theorem d_Jo_arrange_12 : decode b_Jo_arrange 12 = .ok (.iconst 1, 1) := by decide +kernel
theorem d_Jo_arrange_13 : decode b_Jo_arrange 13 = .ok (.if_icmp .le 34, 3) := by decide +kernel
theorem d_Jo_arrange_16 : decode b_Jo_arrange 16 = .ok (.iload 4, 2) := by decide +kernel
theorem d_Jo_arrange_18 : decode b_Jo_arrange 18 = .ok (.aload_n 0, 1) := by decide +kernel
theorem d_Jo_arrange_19 : decode b_Jo_arrange 19 = .ok (.aload_n 1, 1) := by decide +kernel
theorem d_Jo_arrange_20 : decode b_Jo_arrange 20 = .ok (.aload_n 2, 1) := by decide +kernel
theorem d_Jo_arrange_21 : decode b_Jo_arrange 21 = .ok (.aload_n 3, 1) := by decide +kernel
theorem d_Jo_arrange_22 : decode b_Jo_arrange 22 = .ok (.iload 5, 2) := by decide +kernel
theorem d_Jo_arrange_24 : decode b_Jo_arrange 24 = .ok (.invokevirtual 22, 3) := by decide +kernel
theorem d_Jo_arrange_27 : decode b_Jo_arrange 27 = .ok (.iadd, 1) := by decide +kernel
theorem d_Jo_arrange_28 : decode b_Jo_arrange 28 = .ok (.istore 4, 2) := by decide +kernel
theorem d_Jo_arrange_30 : decode b_Jo_arrange 30 = .ok (.aload_n 0, 1) := by decide +kernel
theorem d_Jo_arrange_31 : decode b_Jo_arrange 31 = .ok (.iload 5, 2) := by decide +kernel
theorem d_Jo_arrange_33 : decode b_Jo_arrange 33 = .ok (.invokevirtual 26, 3) := by decide +kernel
theorem d_Jo_arrange_36 : decode b_Jo_arrange 36 = .ok (.iload 5, 2) := by decide +kernel
theorem d_Jo_arrange_38 : decode b_Jo_arrange 38 = .ok (.iconst 1, 1) := by decide +kernel
theorem d_Jo_arrange_39 : decode b_Jo_arrange 39 = .ok (.iadd, 1) := by decide +kernel
theorem d_Jo_arrange_40 : decode b_Jo_arrange 40 = .ok (.iconst 2, 1) := by decide +kernel
theorem d_Jo_arrange_41 : decode b_Jo_arrange 41 = .ok (.idiv, 1) := by decide +kernel
theorem d_Jo_arrange_42 : decode b_Jo_arrange 42 = .ok (.istore 5, 2) := by decide +kernel
theorem d_Jo_arrange_44 : decode b_Jo_arrange 44 = .ok (.goto (-34), 3) := by decide +kernel
theorem d_Jo_arrange_47 : decode b_Jo_arrange 47 = .ok (.iload 4, 2) := by decide +kernel
theorem d_Jo_arrange_49 : decode b_Jo_arrange 49 = .ok (.ireturn, 1) := by decide +kernel
abbrev ws_Jo_arrange : List Cond := .code y_Jo_arrange b_Jo_arrange 6 (some .int) :: ALLG
abbrev rm_Jo_arrange : Room := { frames := 3, cells := 0, slots := 0, locals := 76 }
set_option maxHeartbeats 4000000 in
set_option maxRecDepth 100000 in
theorem c_Jo_arrange (l : Launch) (DD : va_G) (sz : Nat) (aw : Nat) (hjs : Nat) (cjs : ClassId) (js : Nat → Nat) (hjj : Nat) (cjj : ClassId) (jj : Nat → Nat) (h : Nat) (hk : Nat) (ck : ClassId) (k : Nat → Int32) (ht : Nat) (n : Nat) (hpn : Nat) (cpn : ClassId) (pn : Nat → Nat) (aq : Nat) (htf : Nat) (ctf : ClassId) (tf : Nat → Int32) (tn : Nat) (hn : n ≤ 150) (hp : ∀ x, pn x < 150) (hj : ∀ x, jj x < 150) (htn : tn + n ≤ 150) : Met l y_Jo_arrange ws_Jo_arrange rm_Jo_arrange (va_Pc [.ref aw, .ref h, .ref hpn, .ref aq] (fun U => U.heap.size = sz ∧ va_P DD vwCl [(aw, .inr (2, [.ref hjs, .ref hjj])), (hjs, .inl (cjs, 151, .inl (nF js))), (hjj, .inl (cjj, 150, .inl (nF jj))), (h, .inr (4, [.ref hk, .ref ht, .int (nI n)])), (hk, .inl (ck, 150, .inl k)), (hpn, .inl (cpn, 150, .inl (nF pn))), (aq, .inr (6, [.ref htf, .int (nI tn)])), (htf, .inl (ctf, 450, .inl tf))] U.heap ∧ va_K DD vwCl [(cjs, .int), (cjj, .int), (ck, .int), (cpn, .int), (ctf, .int)] U ∧ va_D (fun _ => True) [(aw, .inr (2, [.ref hjs, .ref hjj])), (hjs, .inl (cjs, 151, .inl (nF js))), (hjj, .inl (cjj, 150, .inl (nF jj))), (h, .inr (4, [.ref hk, .ref ht, .int (nI n)])), (hk, .inl (ck, 150, .inl k)), (hpn, .inl (cpn, 150, .inl (nF pn))), (aq, .inr (6, [.ref htf, .int (nI tn)])), (htf, .inl (ctf, 450, .inl tf))])) (va_Qi (fun (r9 : Int32) (u9 : Unit) => match u9 with | _ => r9 = nI ((joF k n pn jj tn tf js).2.2.2.2.1)) (fun (u9 : Unit) (t9 : State) => match u9 with | _ => va_P DD vwCl [(aw, .inr (2, [.ref hjs, .ref hjj])), (hjs, .inl (cjs, 151, .inl (nF ((joF k n pn jj tn tf js).2.2.2.2.2.1)))), (hjj, .inl (cjj, 150, .inl (nF ((joF k n pn jj tn tf js).2.1)))), (h, .inr (4, [.ref hk, .ref ht, .int (nI n)])), (hk, .inl (ck, 150, .inl k)), (hpn, .inl (cpn, 150, .inl (nF ((joF k n pn jj tn tf js).1)))), (aq, .inr (6, [.ref htf, .int (nI ((joF k n pn jj tn tf js).2.2.1))])), (htf, .inl (ctf, 450, .inl ((joF k n pn jj tn tf js).2.2.2.1)))] t9.heap ∧ va_K DD vwCl [(cjs, .int), (cjj, .int), (ck, .int), (cpn, .int), (ctf, .int)] t9 ∧ va_D (va_A [(aw, .inr (2, [.ref hjs, .ref hjj])), (hjs, .inl (cjs, 151, .inl (nF js))), (hjj, .inl (cjj, 150, .inl (nF jj))), (h, .inr (4, [.ref hk, .ref ht, .int (nI n)])), (hk, .inl (ck, 150, .inl k)), (hpn, .inl (cpn, 150, .inl (nF pn))), (aq, .inr (6, [.ref htf, .int (nI tn)])), (htf, .inl (ctf, 450, .inl tf))] sz) [(aw, .inr (2, [.ref hjs, .ref hjj])), (hjs, .inl (cjs, 151, .inl (nF ((joF k n pn jj tn tf js).2.2.2.2.2.1)))), (hjj, .inl (cjj, 150, .inl (nF ((joF k n pn jj tn tf js).2.1)))), (h, .inr (4, [.ref hk, .ref ht, .int (nI n)])), (hk, .inl (ck, 150, .inl k)), (hpn, .inl (cpn, 150, .inl (nF ((joF k n pn jj tn tf js).1)))), (aq, .inr (6, [.ref htf, .int (nI ((joF k n pn jj tn tf js).2.2.1))])), (htf, .inl (ctf, 450, .inl ((joF k n pn jj tn tf js).2.2.2.1)))]) (va_A [(aw, .inr (2, [.ref hjs, .ref hjj])), (hjs, .inl (cjs, 151, .inl (nF js))), (hjj, .inl (cjj, 150, .inl (nF jj))), (h, .inr (4, [.ref hk, .ref ht, .int (nI n)])), (hk, .inl (ck, 150, .inl k)), (hpn, .inl (cpn, 150, .inl (nF pn))), (aq, .inr (6, [.ref htf, .int (nI tn)])), (htf, .inl (ctf, 450, .inl tf))] sz)) 0 0 (va_A [(aw, .inr (2, [.ref hjs, .ref hjj])), (hjs, .inl (cjs, 151, .inl (nF js))), (hjj, .inl (cjj, 150, .inl (nF jj))), (h, .inr (4, [.ref hk, .ref ht, .int (nI n)])), (hk, .inl (ck, 150, .inl k)), (hpn, .inl (cpn, 150, .inl (nF pn))), (aq, .inr (6, [.ref htf, .int (nI tn)])), (htf, .inl (ctf, 450, .inl tf))] sz) := by
  refine Met.ofW (cc := b_Jo_arrange) (maxL := 6) (ret := (some .int)) (by decide) rfl ?_
  intro p e s m args below meth c s₁ B hml hv
  obtain ⟨ha, hsz, hP, hK, hD0⟩ := hv
  have hx := B.exec
  have hb := B.bytes
  have hr := B.returns
  have hts := atoms_spec (ws := ws_Jo_arrange) B.pre
  have hg : ∀ w ∈ ALLG, w.before args s = true := fun w h => hts w (List.mem_cons_of_mem _ h)
  have hown : s.vm.findClass R_Jo = some m.cls := findClass_of_methodNamed B.named
  have hlocks := B.notSynchronized
  subst hsz
  have hD := hD0.self (sz := s.heap.size)
  generalize hAe : va_A [(aw, .inr (2, [.ref hjs, .ref hjj])), (hjs, .inl (cjs, 151, .inl (nF js))), (hjj, .inl (cjj, 150, .inl (nF jj))), (h, .inr (4, [.ref hk, .ref ht, .int (nI n)])), (hk, .inl (ck, 150, .inl k)), (hpn, .inl (cpn, 150, .inl (nF pn))), (aq, .inr (6, [.ref htf, .int (nI tn)])), (htf, .inl (ctf, 450, .inl tf))] s.heap.size = A at hD ⊢
  have hA : ∀ q : Nat, s.heap.size ≤ q → A q := fun q h => by rw [← hAe]; exact Or.inr h
  have hS : va_S A s.heap s.heap [] := va_S.rf
  have hP : va_P DD vwCl [(aw, .inr (2, [.ref hjs, .ref hjj])), (hjs, .inl (cjs, 151, .inl (nF js))), (hjj, .inl (cjj, 150, .inl (nF jj))), (h, .inr (4, [.ref hk, .ref ht, .int (nI n)])), (hk, .inl (ck, 150, .inl k)), (hpn, .inl (cpn, 150, .inl (nF pn))), (aq, .inr (6, [.ref htf, .int (nI tn)])), (htf, .inl (ctf, 450, .inl tf))] s.heap := hP
  have hl := lv_entry ([.ref aw, .ref h, .ref hpn, .ref aq]) (n := 6) (Nat.le_of_ble_eq_true rfl)
  rw [ha, lg_entry_eq, ← ha]
  generalize (lg_sl ([.ref aw, .ref h, .ref hpn, .ref aq]) ++ List.replicate (6 - (lg_sl ([.ref aw, .ref h, .ref hpn, .ref aq])).length) Slot.unset).toArray = ls at hl ⊢
  have hl : lv_has ls 6 [(0, .ref aw), (1, .ref h), (2, .ref hpn), (3, .ref aq)] := hl
  have K10 : ∀ (kk : Nat) (fu : Nat) (r : Nat) (q : Nat) (pnx : Nat → Nat) (jjx : Nat → Nat) (jsx : Nat → Nat) (tnx : Nat) (tfx : Nat → Int32), (hfu : r ≤ fu) → (hr2 : r ≤ 150) → (htx : tnx + r ≤ 150) → (hpx : ∀ x, pnx x < 150) → (hjx : ∀ x, jjx x < 150) → (hmon : ∀ x, x < r → jsx x ≤ jsx (x + 1)) → (hle : ∀ x, x ≤ r → jsx x ≤ 150) → (hX : (joF k n pn jj tn tf js) = joL k fu (pnx, jjx, tnx, tfx, q, jsx, r)) → r < kk → ∀ (H : Heap) (locs : List Loc), va_P DD vwCl [(aw, .inr (2, [.ref hjs, .ref hjj])), (hjs, .inl (cjs, 151, .inl (nF jsx))), (hjj, .inl (cjj, 150, .inl (nF jjx))), (h, .inr (4, [.ref hk, .ref ht, .int (nI n)])), (hk, .inl (ck, 150, .inl k)), (hpn, .inl (cpn, 150, .inl (nF pnx))), (aq, .inr (6, [.ref htf, .int (nI tnx)])), (htf, .inl (ctf, 450, .inl tfx))] H → va_D A [(aw, .inr (2, [.ref hjs, .ref hjj])), (hjs, .inl (cjs, 151, .inl (nF jsx))), (hjj, .inl (cjj, 150, .inl (nF jjx))), (h, .inr (4, [.ref hk, .ref ht, .int (nI n)])), (hk, .inl (ck, 150, .inl k)), (hpn, .inl (cpn, 150, .inl (nF pnx))), (aq, .inr (6, [.ref htf, .int (nI tnx)])), (htf, .inl (ctf, 450, .inl tfx))] → va_S A s.heap H locs → ∀ (ls : Array Slot), lv_has ls 6 [(0, .ref aw), (1, .ref h), (2, .ref hpn), (3, .ref aq), (4, .int (nI q)), (5, .int (nI r))] → W p l e (headSpec ws_Jo_arrange rm_Jo_arrange).room s m args below meth c H locs 0 0 (MQ below (va_Qi (fun (r9 : Int32) (u9 : Unit) => match u9 with | _ => r9 = nI ((joF k n pn jj tn tf js).2.2.2.2.1)) (fun (u9 : Unit) (t9 : State) => match u9 with | _ => va_P DD vwCl [(aw, .inr (2, [.ref hjs, .ref hjj])), (hjs, .inl (cjs, 151, .inl (nF ((joF k n pn jj tn tf js).2.2.2.2.2.1)))), (hjj, .inl (cjj, 150, .inl (nF ((joF k n pn jj tn tf js).2.1)))), (h, .inr (4, [.ref hk, .ref ht, .int (nI n)])), (hk, .inl (ck, 150, .inl k)), (hpn, .inl (cpn, 150, .inl (nF ((joF k n pn jj tn tf js).1)))), (aq, .inr (6, [.ref htf, .int (nI ((joF k n pn jj tn tf js).2.2.1))])), (htf, .inl (ctf, 450, .inl ((joF k n pn jj tn tf js).2.2.2.1)))] t9.heap ∧ va_K DD vwCl [(cjs, .int), (cjj, .int), (ck, .int), (cpn, .int), (ctf, .int)] t9 ∧ va_D A [(aw, .inr (2, [.ref hjs, .ref hjj])), (hjs, .inl (cjs, 151, .inl (nF ((joF k n pn jj tn tf js).2.2.2.2.2.1)))), (hjj, .inl (cjj, 150, .inl (nF ((joF k n pn jj tn tf js).2.1)))), (h, .inr (4, [.ref hk, .ref ht, .int (nI n)])), (hk, .inl (ck, 150, .inl k)), (hpn, .inl (cpn, 150, .inl (nF ((joF k n pn jj tn tf js).1)))), (aq, .inr (6, [.ref htf, .int (nI ((joF k n pn jj tn tf js).2.2.1))])), (htf, .inl (ctf, 450, .inl ((joF k n pn jj tn tf js).2.2.2.1)))]) A) args s 0 0 A) (F0 m 10 ls []) := by
    intro kk
    induction kk with
    | zero => intros; omega
    | succ kk ih10 =>
      intro fu r q pnx jjx jsx tnx tfx hfu hr2 htx hpx hjx hmon hle hX hkk H locs hP hD hS ls hl
      have hJS := jpS_lt (k := k) (s := jsx) (S0 := (pnx, jjx, tnx, tfx, 0)) hpx hjx (r / 2)
      have h9 : (jpS k jsx (pnx, jjx, tnx, tfx, 0) (r / 2)).2.2.1 = tnx + r / 2 := hJS.2.2
      refine lv_iload hx hb d_Jo_arrange_10 (lv_at hl 5 rfl) ?_
      refine lv_iconst (v := nI 1) hx hb d_Jo_arrange_12 (by decide) ?_
      refine z_icmp_le (tgt := 47) hx hb d_Jo_arrange_13 (by decide) (by omega) (by omega) (fun c_13 => ?_) (fun c_13 => ?_)
      · have hX := joL_x hX c_13
        rw [show pnx = (joF k n pn jj tn tf js).1 from by rw [hX]] at hP hD
        rw [show jjx = (joF k n pn jj tn tf js).2.1 from by rw [hX]] at hP hD
        rw [show tfx = (joF k n pn jj tn tf js).2.2.2.1 from by rw [hX]] at hP hD
        rw [show jsx = (joF k n pn jj tn tf js).2.2.2.2.2.1 from by rw [hX]] at hP hD
        rw [show nI tnx = nI (joF k n pn jj tn tf js).2.2.1 from by rw [hX]] at hP hD
        refine lv_iload hx hb d_Jo_arrange_47 (lv_at hl 4 rfl) ?_
        have hP9 := hP.sub (ws' := [(aw, .inr (2, [.ref hjs, .ref hjj])), (hjs, .inl (cjs, 151, .inl (nF ((joF k n pn jj tn tf js).2.2.2.2.2.1)))), (hjj, .inl (cjj, 150, .inl (nF ((joF k n pn jj tn tf js).2.1)))), (h, .inr (4, [.ref hk, .ref ht, .int (nI n)])), (hk, .inl (ck, 150, .inl k)), (hpn, .inl (cpn, 150, .inl (nF ((joF k n pn jj tn tf js).1)))), (aq, .inr (6, [.ref htf, .int (nI (joF k n pn jj tn tf js).2.2.1)])), (htf, .inl (ctf, 450, .inl ((joF k n pn jj tn tf js).2.2.2.1)))]) [0, 1, 2, 3, 4, 5, 6, 7] rfl
        have hD9 := hD.sub (ws' := [(aw, .inr (2, [.ref hjs, .ref hjj])), (hjs, .inl (cjs, 151, .inl (nF ((joF k n pn jj tn tf js).2.2.2.2.2.1)))), (hjj, .inl (cjj, 150, .inl (nF ((joF k n pn jj tn tf js).2.1)))), (h, .inr (4, [.ref hk, .ref ht, .int (nI n)])), (hk, .inl (ck, 150, .inl k)), (hpn, .inl (cpn, 150, .inl (nF ((joF k n pn jj tn tf js).1)))), (aq, .inr (6, [.ref htf, .int (nI (joF k n pn jj tn tf js).2.2.1)])), (htf, .inl (ctf, 450, .inl ((joF k n pn jj tn tf js).2.2.2.1)))]) [0, 1, 2, 3, 4, 5, 6, 7] (by decide) rfl
        exact W.iret (v := nI q) hx hb hr (fun t9 ht9 hW9 => ⟨⟨_, (), rfl, (by exact congrArg nI (by rw [hX])), by rw [ht9]; exact hP9, va_K.moved hW9.alike hK, hD9⟩, hS.F ht9⟩) hS.2.2 d_Jo_arrange_49
      · refine lv_iload hx hb d_Jo_arrange_16 (lv_at hl 4 rfl) ?_
        refine lv_aload_n hx hb d_Jo_arrange_18 rfl (lv_at hl 0 rfl) ?_
        refine lv_aload_n hx hb d_Jo_arrange_19 rfl (lv_at hl 1 rfl) ?_
        refine lv_aload_n hx hb d_Jo_arrange_20 rfl (lv_at hl 2 rfl) ?_
        refine lv_aload_n hx hb d_Jo_arrange_21 rfl (lv_at hl 3 rfl) ?_
        refine lv_iload hx hb d_Jo_arrange_22 (lv_at hl 5 rfl) ?_
        have hPc := hP.sub (ws' := [(aw, .inr (2, [.ref hjs, .ref hjj])), (hjs, .inl (cjs, 151, .inl (nF jsx))), (hjj, .inl (cjj, 150, .inl (nF jjx))), (h, .inr (4, [.ref hk, .ref ht, .int (nI n)])), (hk, .inl (ck, 150, .inl k)), (hpn, .inl (cpn, 150, .inl (nF pnx))), (aq, .inr (6, [.ref htf, .int (nI tnx)])), (htf, .inl (ctf, 450, .inl tfx))]) [0, 1, 2, 3, 4, 5, 6, 7] rfl
        have hKc := hK.sub (tys' := [(cjs, .int), (cjj, .int), (ck, .int), (cpn, .int), (ctf, .int)]) [0, 1, 2, 3, 4] rfl
        have hDc := hD.sub (ws' := [(aw, .inr (2, [.ref hjs, .ref hjj])), (hjs, .inl (cjs, 151, .inl (nF jsx))), (hjj, .inl (cjj, 150, .inl (nF jjx))), (h, .inr (4, [.ref hk, .ref ht, .int (nI n)])), (hk, .inl (ck, 150, .inl k)), (hpn, .inl (cpn, 150, .inl (nF pnx))), (aq, .inr (6, [.ref htf, .int (nI tnx)])), (htf, .inl (ctf, 450, .inl tfx))]) [0, 1, 2, 3, 4, 5, 6, 7] (by decide) rfl
        have hFc := va_free (wc := [(aw, .inr (2, [.ref hjs, .ref hjj])), (hjs, .inl (cjs, 151, .inl (nF jsx))), (hjj, .inl (cjj, 150, .inl (nF jjx))), (h, .inr (4, [.ref hk, .ref ht, .int (nI n)])), (hk, .inl (ck, 150, .inl k)), (hpn, .inl (cpn, 150, .inl (nF pnx))), (aq, .inr (6, [.ref htf, .int (nI tnx)])), (htf, .inl (ctf, 450, .inl tfx))]) hD hS hA [0, 1, 2, 3, 4, 5, 6, 7] rfl
        refine va_calli (va_runV (As := [.ref h, .ref hpn, .ref aq, .int (nI r)]) (rest := [.int (nI q)]) ⟨hx, hb, hml, hown, hg⟩ (c_Jo_joinPairs l DD H.size aw hjs cjs jsx hjj cjj jjx h hk ck k ht n hpn cpn pnx aq htf ctf tfx tnx r (by omega) (by exact hpx) (by exact hjx) (by omega) (by exact hmon) (by exact hle) (by omega)) (cwV 4 hg (gi_V mw_584 mw_586 ms_Jo_joinPairs mw_8 mw_587) rfl rfl rfl (by decide +kernel) ⟨Nat.le_of_ble_eq_true rfl, Nat.le_of_ble_eq_true rfl⟩) ⟨z_blindQ, va_recv hKc hPc (ci := 2) (q0 := 0) rfl rfl, z_preQ hPc hKc hDc⟩ rfl rfl hl.1 rfl (lv_room (Nat.le_of_ble_eq_true rfl)) d_Jo_arrange_24 ⟨Nat.zero_le _, Nat.zero_le _⟩) hS (fun q _ h => hFc q h) hFc (fun r_24 u9 t9 H9 locs ht9 hvm9 hw9 hB9 hz9 hk9 hS => ?_)
        obtain ⟨hP1, hK1, hD1⟩ := hB9
        rw [ht9] at hP1
        try dsimp only at hw9
        obtain ⟨hP, hD⟩ := va_join (wr := []) (w1 := [(aw, .inr (2, [.ref hjs, .ref hjj])), (hjs, .inl (cjs, 151, .inl (nF jsx))), (hjj, .inl (cjj, 150, .inl (nF ((jpS k jsx (pnx, jjx, tnx, tfx, 0) (r / 2)).2.1)))), (h, .inr (4, [.ref hk, .ref ht, .int (nI n)])), (hk, .inl (ck, 150, .inl k)), (hpn, .inl (cpn, 150, .inl (nF ((jpS k jsx (pnx, jjx, tnx, tfx, 0) (r / 2)).1)))), (aq, .inr (6, [.ref htf, .int (nI ((jpS k jsx (pnx, jjx, tnx, tfx, 0) (r / 2)).2.2.1))])), (htf, .inl (ctf, 450, .inl ((jpS k jsx (pnx, jjx, tnx, tfx, 0) (r / 2)).2.2.2.1)))]) hP hD [0, 1, 2, 3, 4, 5, 6, 7] [] rfl rfl (by decide) (by decide) hk9 hFc hP1 hD1
        generalize H9 = H at hP hS ⊢
        have hP : va_P DD vwCl [(aw, .inr (2, [.ref hjs, .ref hjj])), (hjs, .inl (cjs, 151, .inl (nF jsx))), (hjj, .inl (cjj, 150, .inl (nF ((jpS k jsx (pnx, jjx, tnx, tfx, 0) (r / 2)).2.1)))), (h, .inr (4, [.ref hk, .ref ht, .int (nI n)])), (hk, .inl (ck, 150, .inl k)), (hpn, .inl (cpn, 150, .inl (nF ((jpS k jsx (pnx, jjx, tnx, tfx, 0) (r / 2)).1)))), (aq, .inr (6, [.ref htf, .int (nI ((jpS k jsx (pnx, jjx, tnx, tfx, 0) (r / 2)).2.2.1))])), (htf, .inl (ctf, 450, .inl ((jpS k jsx (pnx, jjx, tnx, tfx, 0) (r / 2)).2.2.2.1)))] H := hP
        have hD : va_D A [(aw, .inr (2, [.ref hjs, .ref hjj])), (hjs, .inl (cjs, 151, .inl (nF jsx))), (hjj, .inl (cjj, 150, .inl (nF ((jpS k jsx (pnx, jjx, tnx, tfx, 0) (r / 2)).2.1)))), (h, .inr (4, [.ref hk, .ref ht, .int (nI n)])), (hk, .inl (ck, 150, .inl k)), (hpn, .inl (cpn, 150, .inl (nF ((jpS k jsx (pnx, jjx, tnx, tfx, 0) (r / 2)).1)))), (aq, .inr (6, [.ref htf, .int (nI ((jpS k jsx (pnx, jjx, tnx, tfx, 0) (r / 2)).2.2.1))])), (htf, .inl (ctf, 450, .inl ((jpS k jsx (pnx, jjx, tnx, tfx, 0) (r / 2)).2.2.2.1)))] := hD
        subst hw9
        refine z_iadd hx hb d_Jo_arrange_27 ?_
        refine lv_istore (lv' := [(4, .int (nI (q + ((jpS k jsx (pnx, jjx, tnx, tfx, 0) (r / 2)).2.2.2.2)))), (0, .ref aw), (1, .ref h), (2, .ref hpn), (3, .ref aq), (5, .int (nI r))]) hx hb d_Jo_arrange_28 hl (by decide) rfl (fun ls hl => ?_)
        refine lv_aload_n hx hb d_Jo_arrange_30 rfl (lv_at hl 1 rfl) ?_
        refine lv_iload hx hb d_Jo_arrange_31 (lv_at hl 5 rfl) ?_
        have hPc := hP.sub (ws' := [(aw, .inr (2, [.ref hjs, .ref hjj])), (hjs, .inl (cjs, 151, .inl (nF jsx)))]) [0, 1] rfl
        have hKc := hK.sub (tys' := [(cjs, .int)]) [0] rfl
        have hDc := hD.sub (ws' := [(aw, .inr (2, [.ref hjs, .ref hjj])), (hjs, .inl (cjs, 151, .inl (nF jsx)))]) [0, 1] (by decide) rfl
        have hFc := va_free (wc := [(aw, .inr (2, [.ref hjs, .ref hjj])), (hjs, .inl (cjs, 151, .inl (nF jsx)))]) hD hS hA [0, 1] rfl
        refine va_callv (va_runV (As := [.int (nI r)]) (rest := []) ⟨hx, hb, hml, hown, hg⟩ (c_Jo_keepEverySecondStart l DD H.size aw hjs cjs jsx hjj r (by omega) (by omega)) (cwV 1 hg (gi_V mw_595 mw_597 ms_Jo_keepEverySecondStart mw_8 mw_598) rfl rfl rfl (by decide +kernel) ⟨Nat.le_of_ble_eq_true rfl, Nat.le_of_ble_eq_true rfl⟩) ⟨z_blindQ, va_recv hKc hPc (ci := 2) (q0 := 0) rfl rfl, z_preQ hPc hKc hDc⟩ rfl rfl hl.1 rfl (lv_room (Nat.le_of_ble_eq_true rfl)) d_Jo_arrange_33 ⟨Nat.zero_le _, Nat.zero_le _⟩) hS (fun q _ h => hFc q h) hFc (fun u9 t9 H9 locs ht9 hvm9 hw9 hB9 hz9 hk9 hS => ?_)
        obtain ⟨hP1, hK1, hD1⟩ := hB9
        rw [ht9] at hP1
        try dsimp only at hw9
        obtain ⟨hP, hD⟩ := va_join (wr := [(hjj, .inl (cjj, 150, .inl (nF ((jpS k jsx (pnx, jjx, tnx, tfx, 0) (r / 2)).2.1)))), (h, .inr (4, [.ref hk, .ref ht, .int (nI n)])), (hk, .inl (ck, 150, .inl k)), (hpn, .inl (cpn, 150, .inl (nF ((jpS k jsx (pnx, jjx, tnx, tfx, 0) (r / 2)).1)))), (aq, .inr (6, [.ref htf, .int (nI ((jpS k jsx (pnx, jjx, tnx, tfx, 0) (r / 2)).2.2.1))])), (htf, .inl (ctf, 450, .inl ((jpS k jsx (pnx, jjx, tnx, tfx, 0) (r / 2)).2.2.2.1)))]) (w1 := [(aw, .inr (2, [.ref hjs, .ref hjj])), (hjs, .inl (cjs, 151, .inl (nF (keS jsx r))))]) hP hD [0, 1] [2, 3, 4, 5, 6, 7] rfl rfl (by decide) (by decide) hk9 hFc hP1 hD1
        generalize H9 = H at hP hS ⊢
        have hP : va_P DD vwCl [(hjj, .inl (cjj, 150, .inl (nF ((jpS k jsx (pnx, jjx, tnx, tfx, 0) (r / 2)).2.1)))), (h, .inr (4, [.ref hk, .ref ht, .int (nI n)])), (hk, .inl (ck, 150, .inl k)), (hpn, .inl (cpn, 150, .inl (nF ((jpS k jsx (pnx, jjx, tnx, tfx, 0) (r / 2)).1)))), (aq, .inr (6, [.ref htf, .int (nI ((jpS k jsx (pnx, jjx, tnx, tfx, 0) (r / 2)).2.2.1))])), (htf, .inl (ctf, 450, .inl ((jpS k jsx (pnx, jjx, tnx, tfx, 0) (r / 2)).2.2.2.1))), (aw, .inr (2, [.ref hjs, .ref hjj])), (hjs, .inl (cjs, 151, .inl (nF (keS jsx r))))] H := hP
        have hD : va_D A [(hjj, .inl (cjj, 150, .inl (nF ((jpS k jsx (pnx, jjx, tnx, tfx, 0) (r / 2)).2.1)))), (h, .inr (4, [.ref hk, .ref ht, .int (nI n)])), (hk, .inl (ck, 150, .inl k)), (hpn, .inl (cpn, 150, .inl (nF ((jpS k jsx (pnx, jjx, tnx, tfx, 0) (r / 2)).1)))), (aq, .inr (6, [.ref htf, .int (nI ((jpS k jsx (pnx, jjx, tnx, tfx, 0) (r / 2)).2.2.1))])), (htf, .inl (ctf, 450, .inl ((jpS k jsx (pnx, jjx, tnx, tfx, 0) (r / 2)).2.2.2.1))), (aw, .inr (2, [.ref hjs, .ref hjj])), (hjs, .inl (cjs, 151, .inl (nF (keS jsx r))))] := hD
        refine lv_iload hx hb d_Jo_arrange_36 (lv_at hl 5 rfl) ?_
        refine lv_iconst (v := nI 1) hx hb d_Jo_arrange_38 (by decide) ?_
        refine z_iadd hx hb d_Jo_arrange_39 ?_
        refine lv_iconst (v := nI 2) hx hb d_Jo_arrange_40 (by decide) ?_
        refine z_idiv hx hb d_Jo_arrange_41 (by omega) ?_
        refine lv_istore (lv' := [(5, .int (nI ((r + 1) / 2))), (4, .int (nI (q + ((jpS k jsx (pnx, jjx, tnx, tfx, 0) (r / 2)).2.2.2.2)))), (0, .ref aw), (1, .ref h), (2, .ref hpn), (3, .ref aq)]) hx hb d_Jo_arrange_42 hl (by decide) rfl (fun ls hl => ?_)
        refine lv_goto (tgt := 10) hx hb d_Jo_arrange_44 (by decide) ?_
        exact ih10 (fu - 1) ((r + 1) / 2) (q + ((jpS k jsx (pnx, jjx, tnx, tfx, 0) (r / 2)).2.2.2.2)) ((jpS k jsx (pnx, jjx, tnx, tfx, 0) (r / 2)).1) ((jpS k jsx (pnx, jjx, tnx, tfx, 0) (r / 2)).2.1) (keS jsx r) ((jpS k jsx (pnx, jjx, tnx, tfx, 0) (r / 2)).2.2.1) ((jpS k jsx (pnx, jjx, tnx, tfx, 0) (r / 2)).2.2.2.1) (by omega) (by omega) (by rw [h9]; omega) (by exact hJS.1) (by exact hJS.2.1) (by exact keS_mon hmon) (by exact keS_le hle) (by exact joL_s hX hfu c_13) (by omega) _ _ (hP.sub [6, 7, 0, 1, 2, 3, 4, 5] rfl) (hD.sub [6, 7, 0, 1, 2, 3, 4, 5] (by decide) rfl) hS ls (lv_sub hl [2, 3, 4, 5, 1, 0] rfl)
  refine lv_iconst (v := nI 0) hx hb d_Jo_arrange_0 (by decide) ?_
  refine lv_istore (lv' := [(4, .int (nI 0)), (0, .ref aw), (1, .ref h), (2, .ref hpn), (3, .ref aq)]) hx hb d_Jo_arrange_1 hl (by decide) rfl (fun ls hl => ?_)
  refine lv_aload_n hx hb d_Jo_arrange_3 rfl (lv_at hl 1 rfl) ?_
  refine lv_aload_n hx hb d_Jo_arrange_4 rfl (lv_at hl 2 rfl) ?_
  have hPc := hP.sub (ws' := [(aw, .inr (2, [.ref hjs, .ref hjj])), (hjs, .inl (cjs, 151, .inl (nF js))), (h, .inr (4, [.ref hk, .ref ht, .int (nI n)])), (hk, .inl (ck, 150, .inl k))]) [0, 1, 3, 4] rfl
  have hKc := hK.sub (tys' := [(cjs, .int), (ck, .int)]) [0, 2] rfl
  have hDc := hD.sub (ws' := [(aw, .inr (2, [.ref hjs, .ref hjj])), (hjs, .inl (cjs, 151, .inl (nF js))), (h, .inr (4, [.ref hk, .ref ht, .int (nI n)])), (hk, .inl (ck, 150, .inl k))]) [0, 1, 3, 4] (by decide) rfl
  have hFc := va_free (wc := [(aw, .inr (2, [.ref hjs, .ref hjj])), (hjs, .inl (cjs, 151, .inl (nF js))), (h, .inr (4, [.ref hk, .ref ht, .int (nI n)])), (hk, .inl (ck, 150, .inl k))]) hD hS hA [0, 1, 3, 4] rfl
  refine va_calli (va_runV (As := [.ref h]) (rest := []) ⟨hx, hb, hml, hown, hg⟩ (c_Jo_findRuns l DD s.heap.size aw hjs cjs js hjj h hk ck k ht n (by omega)) (cwV 1 hg (gi_V mw_578 mw_580 ms_Jo_findRuns mw_8 mw_581) rfl rfl rfl (by decide +kernel) ⟨Nat.le_of_ble_eq_true rfl, Nat.le_of_ble_eq_true rfl⟩) ⟨z_blindQ, va_recv hKc hPc (ci := 2) (q0 := 0) rfl rfl, z_preQ hPc hKc hDc⟩ rfl rfl hl.1 rfl (lv_room (Nat.le_of_ble_eq_true rfl)) d_Jo_arrange_5 ⟨Nat.zero_le _, Nat.zero_le _⟩) hS (fun q _ h => hFc q h) hFc (fun r_5 u9 t9 H9 locs ht9 hvm9 hw9 hB9 hz9 hk9 hS => ?_)
  obtain ⟨hP1, hK1, hD1⟩ := hB9
  rw [ht9] at hP1
  try dsimp only at hw9
  obtain ⟨hP, hD⟩ := va_join (wr := [(hjj, .inl (cjj, 150, .inl (nF jj))), (hpn, .inl (cpn, 150, .inl (nF pn))), (aq, .inr (6, [.ref htf, .int (nI tn)])), (htf, .inl (ctf, 450, .inl tf))]) (w1 := [(aw, .inr (2, [.ref hjs, .ref hjj])), (hjs, .inl (cjs, 151, .inl (nF (fRun k n js)))), (h, .inr (4, [.ref hk, .ref ht, .int (nI n)])), (hk, .inl (ck, 150, .inl k))]) hP hD [0, 1, 3, 4] [2, 5, 6, 7] rfl rfl (by decide) (by decide) hk9 hFc hP1 hD1
  generalize H9 = H at hP hS ⊢
  have hP : va_P DD vwCl [(hjj, .inl (cjj, 150, .inl (nF jj))), (hpn, .inl (cpn, 150, .inl (nF pn))), (aq, .inr (6, [.ref htf, .int (nI tn)])), (htf, .inl (ctf, 450, .inl tf)), (aw, .inr (2, [.ref hjs, .ref hjj])), (hjs, .inl (cjs, 151, .inl (nF (fRun k n js)))), (h, .inr (4, [.ref hk, .ref ht, .int (nI n)])), (hk, .inl (ck, 150, .inl k))] H := hP
  have hD : va_D A [(hjj, .inl (cjj, 150, .inl (nF jj))), (hpn, .inl (cpn, 150, .inl (nF pn))), (aq, .inr (6, [.ref htf, .int (nI tn)])), (htf, .inl (ctf, 450, .inl tf)), (aw, .inr (2, [.ref hjs, .ref hjj])), (hjs, .inl (cjs, 151, .inl (nF (fRun k n js)))), (h, .inr (4, [.ref hk, .ref ht, .int (nI n)])), (hk, .inl (ck, 150, .inl k))] := hD
  subst hw9
  have hcl : cnt (stB k) n ≤ n := cnt_le _ n
  refine lv_istore (lv' := [(5, .int (nI (cnt (stB k) n))), (4, .int (nI 0)), (0, .ref aw), (1, .ref h), (2, .ref hpn), (3, .ref aq)]) hx hb d_Jo_arrange_8 hl (by decide) rfl (fun ls hl => ?_)
  exact K10 _ 150 (cnt (stB k) n) 0 pn jj (fRun k n js) tn tf (by omega) (by omega) (by omega) (by exact hp) (by exact hj) (by exact fRun_mon k n js) (by exact fun x hx => Nat.le_trans (fRun_le k n js x hx) hn) (by rfl) (Nat.lt_succ_self _) _ _ (hP.sub [4, 5, 0, 6, 7, 1, 2, 3] rfl) (hD.sub [4, 5, 0, 6, 7, 1, 2, 3] (by decide) rfl) hS ls (lv_sub hl [2, 3, 4, 5, 1, 0] rfl)
theorem d_Co_countKeys_0 : decode b_Co_countKeys 0 = .ok (.iconst 0, 1) := by decide +kernel
theorem d_Co_countKeys_1 : decode b_Co_countKeys 1 = .ok (.istore 4, 2) := by decide +kernel
theorem d_Co_countKeys_3 : decode b_Co_countKeys 3 = .ok (.iload 4, 2) := by decide +kernel
theorem d_Co_countKeys_5 : decode b_Co_countKeys 5 = .ok (.iload_n 3, 1) := by decide +kernel
theorem d_Co_countKeys_6 : decode b_Co_countKeys 6 = .ok (.if_icmp .gt 17, 3) := by decide +kernel
theorem d_Co_countKeys_9 : decode b_Co_countKeys 9 = .ok (.aload_n 0, 1) := by decide +kernel
theorem d_Co_countKeys_10 : decode b_Co_countKeys 10 = .ok (.getfield 9, 3) := by decide +kernel
theorem d_Co_countKeys_13 : decode b_Co_countKeys 13 = .ok (.iload 4, 2) := by decide +kernel
theorem d_Co_countKeys_15 : decode b_Co_countKeys 15 = .ok (.iconst 0, 1) := by decide +kernel
theorem d_Co_countKeys_16 : decode b_Co_countKeys 16 = .ok (.iastore, 1) := by decide +kernel
theorem d_Co_countKeys_17 : decode b_Co_countKeys 17 = .ok (.iinc 4 1, 3) := by decide +kernel
theorem d_Co_countKeys_20 : decode b_Co_countKeys 20 = .ok (.goto (-17), 3) := by decide +kernel
theorem d_Co_countKeys_23 : decode b_Co_countKeys 23 = .ok (.iconst 0, 1) := by decide +kernel
theorem d_Co_countKeys_24 : decode b_Co_countKeys 24 = .ok (.istore 4, 2) := by decide +kernel
theorem d_Co_countKeys_26 : decode b_Co_countKeys 26 = .ok (.iload 4, 2) := by decide +kernel
theorem d_Co_countKeys_28 : decode b_Co_countKeys 28 = .ok (.aload_n 1, 1) := by decide +kernel
theorem d_Co_countKeys_29 : decode b_Co_countKeys 29 = .ok (.invokevirtual 43, 3) := by decide +kernel
theorem d_Co_countKeys_32 : decode b_Co_countKeys 32 = .ok (.if_icmp .ge 26, 3) := by decide +kernel
theorem d_Co_countKeys_35 : decode b_Co_countKeys 35 = .ok (.aload_n 0, 1) := by decide +kernel
theorem d_Co_countKeys_36 : decode b_Co_countKeys 36 = .ok (.getfield 9, 3) := by decide +kernel
theorem d_Co_countKeys_39 : decode b_Co_countKeys 39 = .ok (.aload_n 1, 1) := by decide +kernel
theorem d_Co_countKeys_40 : decode b_Co_countKeys 40 = .ok (.iload 4, 2) := by decide +kernel
theorem d_Co_countKeys_42 : decode b_Co_countKeys 42 = .ok (.invokevirtual 46, 3) := by decide +kernel
theorem d_Co_countKeys_45 : decode b_Co_countKeys 45 = .ok (.iload_n 2, 1) := by decide +kernel
theorem d_Co_countKeys_46 : decode b_Co_countKeys 46 = .ok (.isub, 1) := by decide +kernel
theorem d_Co_countKeys_47 : decode b_Co_countKeys 47 = .ok (.dup2, 1) := by decide +kernel
theorem d_Co_countKeys_48 : decode b_Co_countKeys 48 = .ok (.iaload, 1) := by decide +kernel
theorem d_Co_countKeys_49 : decode b_Co_countKeys 49 = .ok (.iconst 1, 1) := by decide +kernel
theorem d_Co_countKeys_50 : decode b_Co_countKeys 50 = .ok (.iadd, 1) := by decide +kernel
theorem d_Co_countKeys_51 : decode b_Co_countKeys 51 = .ok (.iastore, 1) := by decide +kernel
theorem d_Co_countKeys_52 : decode b_Co_countKeys 52 = .ok (.iinc 4 1, 3) := by decide +kernel
theorem d_Co_countKeys_55 : decode b_Co_countKeys 55 = .ok (.goto (-29), 3) := by decide +kernel
theorem d_Co_countKeys_58 : decode b_Co_countKeys 58 = .ok (.return_, 1) := by decide +kernel
abbrev ws_Co_countKeys : List Cond := .code y_Co_countKeys b_Co_countKeys 5 none :: ALLG
abbrev rm_Co_countKeys : Room := { frames := 1, cells := 0, slots := 0, locals := 21 }
set_option maxHeartbeats 4000000 in
set_option maxRecDepth 100000 in
theorem c_Co_countKeys (l : Launch) (DD : va_G) (sz : Nat) (aw : Nat) (hcc : Nat) (ccc : ClassId) (cc : Nat → Nat) (hcn : Nat) (h : Nat) (hk : Nat) (ck : ClassId) (k : Nat → Int32) (ht : Nat) (n : Nat) (lx : Int32) (sp : Nat) (hn : n ≤ 150) (hsp : sp ≤ 500) (hkd : ∀ i, i < n → k i - lx = nI (kdF k lx i) ∧ kdF k lx i ≤ sp) : Met l y_Co_countKeys ws_Co_countKeys rm_Co_countKeys (va_Pc [.ref aw, .ref h, .int lx, .int (nI sp)] (fun U => U.heap.size = sz ∧ va_P DD vwCl [(aw, .inr (1, [.ref hcc, .ref hcn])), (hcc, .inl (ccc, 501, .inl (nF cc))), (h, .inr (4, [.ref hk, .ref ht, .int (nI n)])), (hk, .inl (ck, 150, .inl k))] U.heap ∧ va_K DD vwCl [(ccc, .int), (ck, .int)] U ∧ va_D (fun _ => True) [(aw, .inr (1, [.ref hcc, .ref hcn])), (hcc, .inl (ccc, 501, .inl (nF cc))), (h, .inr (4, [.ref hk, .ref ht, .int (nI n)])), (hk, .inl (ck, 150, .inl k))])) (va_Qv (fun (u9 : Unit) => match u9 with | _ => True) (fun (u9 : Unit) (t9 : State) => match u9 with | _ => va_P DD vwCl [(aw, .inr (1, [.ref hcc, .ref hcn])), (hcc, .inl (ccc, 501, .inl (nF (coF (zeF cc (sp + 1)) (kdF k lx) n)))), (h, .inr (4, [.ref hk, .ref ht, .int (nI n)])), (hk, .inl (ck, 150, .inl k))] t9.heap ∧ va_K DD vwCl [(ccc, .int), (ck, .int)] t9 ∧ va_D (va_A [(aw, .inr (1, [.ref hcc, .ref hcn])), (hcc, .inl (ccc, 501, .inl (nF cc))), (h, .inr (4, [.ref hk, .ref ht, .int (nI n)])), (hk, .inl (ck, 150, .inl k))] sz) [(aw, .inr (1, [.ref hcc, .ref hcn])), (hcc, .inl (ccc, 501, .inl (nF (coF (zeF cc (sp + 1)) (kdF k lx) n)))), (h, .inr (4, [.ref hk, .ref ht, .int (nI n)])), (hk, .inl (ck, 150, .inl k))]) (va_A [(aw, .inr (1, [.ref hcc, .ref hcn])), (hcc, .inl (ccc, 501, .inl (nF cc))), (h, .inr (4, [.ref hk, .ref ht, .int (nI n)])), (hk, .inl (ck, 150, .inl k))] sz)) 0 0 (va_A [(aw, .inr (1, [.ref hcc, .ref hcn])), (hcc, .inl (ccc, 501, .inl (nF cc))), (h, .inr (4, [.ref hk, .ref ht, .int (nI n)])), (hk, .inl (ck, 150, .inl k))] sz) := by
  refine Met.ofW (cc := b_Co_countKeys) (maxL := 5) (ret := none) (by decide) rfl ?_
  intro p e s m args below meth c s₁ B hml hv
  obtain ⟨ha, hsz, hP, hK, hD0⟩ := hv
  have hx := B.exec
  have hb := B.bytes
  have hr := B.returns
  have hts := atoms_spec (ws := ws_Co_countKeys) B.pre
  have hg : ∀ w ∈ ALLG, w.before args s = true := fun w h => hts w (List.mem_cons_of_mem _ h)
  have hown : s.vm.findClass R_Co = some m.cls := findClass_of_methodNamed B.named
  have hlocks := B.notSynchronized
  subst hsz
  have hD := hD0.self (sz := s.heap.size)
  generalize hAe : va_A [(aw, .inr (1, [.ref hcc, .ref hcn])), (hcc, .inl (ccc, 501, .inl (nF cc))), (h, .inr (4, [.ref hk, .ref ht, .int (nI n)])), (hk, .inl (ck, 150, .inl k))] s.heap.size = A at hD ⊢
  have hA : ∀ q : Nat, s.heap.size ≤ q → A q := fun q h => by rw [← hAe]; exact Or.inr h
  have hS : va_S A s.heap s.heap [] := va_S.rf
  have hP : va_P DD vwCl [(aw, .inr (1, [.ref hcc, .ref hcn])), (hcc, .inl (ccc, 501, .inl (nF cc))), (h, .inr (4, [.ref hk, .ref ht, .int (nI n)])), (hk, .inl (ck, 150, .inl k))] s.heap := hP
  have hl := lv_entry ([.ref aw, .ref h, .int lx, .int (nI sp)]) (n := 5) (Nat.le_of_ble_eq_true rfl)
  rw [ha, lg_entry_eq, ← ha]
  generalize (lg_sl ([.ref aw, .ref h, .int lx, .int (nI sp)]) ++ List.replicate (5 - (lg_sl ([.ref aw, .ref h, .int lx, .int (nI sp)])).length) Slot.unset).toArray = ls at hl ⊢
  have hl : lv_has ls 5 [(0, .ref aw), (1, .ref h), (2, .int lx), (3, .int (nI sp))] := hl
  have K26 : ∀ (kk : Nat) (i : Nat), (hi : i ≤ n) → n - i < kk → ∀ (H : Heap) (locs : List Loc), va_P DD vwCl [(aw, .inr (1, [.ref hcc, .ref hcn])), (hcc, .inl (ccc, 501, .inl (nF (coF (zeF cc (sp + 1)) (kdF k lx) i)))), (h, .inr (4, [.ref hk, .ref ht, .int (nI n)])), (hk, .inl (ck, 150, .inl k))] H → va_D A [(aw, .inr (1, [.ref hcc, .ref hcn])), (hcc, .inl (ccc, 501, .inl (nF (coF (zeF cc (sp + 1)) (kdF k lx) i)))), (h, .inr (4, [.ref hk, .ref ht, .int (nI n)])), (hk, .inl (ck, 150, .inl k))] → va_S A s.heap H locs → ∀ (ls : Array Slot), lv_has ls 5 [(0, .ref aw), (1, .ref h), (2, .int lx), (3, .int (nI sp)), (4, .int (nI i))] → W p l e (headSpec ws_Co_countKeys rm_Co_countKeys).room s m args below meth c H locs 0 0 (MQ below (va_Qv (fun (u9 : Unit) => match u9 with | _ => True) (fun (u9 : Unit) (t9 : State) => match u9 with | _ => va_P DD vwCl [(aw, .inr (1, [.ref hcc, .ref hcn])), (hcc, .inl (ccc, 501, .inl (nF (coF (zeF cc (sp + 1)) (kdF k lx) n)))), (h, .inr (4, [.ref hk, .ref ht, .int (nI n)])), (hk, .inl (ck, 150, .inl k))] t9.heap ∧ va_K DD vwCl [(ccc, .int), (ck, .int)] t9 ∧ va_D A [(aw, .inr (1, [.ref hcc, .ref hcn])), (hcc, .inl (ccc, 501, .inl (nF (coF (zeF cc (sp + 1)) (kdF k lx) n)))), (h, .inr (4, [.ref hk, .ref ht, .int (nI n)])), (hk, .inl (ck, 150, .inl k))]) A) args s 0 0 A) (F0 m 26 ls []) := by
    intro kk
    induction kk with
    | zero => intros; omega
    | succ kk ih26 =>
      intro i hi hkk H locs hP hD hS ls hl
      refine lv_iload hx hb d_Co_countKeys_26 (lv_at hl 4 rfl) ?_
      refine lv_aload_n hx hb d_Co_countKeys_28 rfl (lv_at hl 1 rfl) ?_
      have hPc := hP.sub (ws' := [(h, .inr (4, [.ref hk, .ref ht, .int (nI n)])), (hk, .inl (ck, 150, .inl k))]) [2, 3] rfl
      have hKc := hK.sub (tys' := [(ck, .int)]) [1] rfl
      refine vp_callSi (W.runV (As := []) (rest := [.int (nI i)]) ⟨hx, hb, hml, hown, hg⟩ (c_Ro_size l DD h hk ht ck n k) (cwV 0 hg (gi_V mw_568 mw_214 mw_215 mw_2 mw_216) rfl rfl rfl (by decide +kernel) ⟨Nat.le_of_ble_eq_true rfl, Nat.le_of_ble_eq_true rfl⟩) ⟨z_blind, va_recv hKc hPc (ci := 4) (q0 := 0) rfl rfl, z_pre hPc hKc⟩ rfl rfl hl.1 rfl (lv_room (Nat.le_of_ble_eq_true rfl)) d_Co_countKeys_29 ⟨Nat.zero_le _, Nat.zero_le _⟩) (fun r_29 hr_29 => ?_)
      subst hr_29
      refine z_icmp_ge (tgt := 58) hx hb d_Co_countKeys_32 (by decide) (by omega) (by omega) (fun c_32 => ?_) (fun c_32 => ?_)
      · rw [show coF (zeF cc (sp + 1)) (kdF k lx) i = coF (zeF cc (sp + 1)) (kdF k lx) n from by rw [Nat.le_antisymm hi c_32]] at hP hD
        have hP9 := hP.sub (ws' := [(aw, .inr (1, [.ref hcc, .ref hcn])), (hcc, .inl (ccc, 501, .inl (nF (coF (zeF cc (sp + 1)) (kdF k lx) n)))), (h, .inr (4, [.ref hk, .ref ht, .int (nI n)])), (hk, .inl (ck, 150, .inl k))]) [0, 1, 2, 3] rfl
        have hD9 := hD.sub (ws' := [(aw, .inr (1, [.ref hcc, .ref hcn])), (hcc, .inl (ccc, 501, .inl (nF (coF (zeF cc (sp + 1)) (kdF k lx) n)))), (h, .inr (4, [.ref hk, .ref ht, .int (nI n)])), (hk, .inl (ck, 150, .inl k))]) [0, 1, 2, 3] (by decide) rfl
        exact W.vret hx hb hr (fun t9 ht9 hW9 => ⟨⟨(), rfl, trivial, by rw [ht9]; exact hP9, va_K.moved hW9.alike hK, hD9⟩, hS.F ht9⟩) hS.2.2 d_Co_countKeys_58
      · refine lv_aload_n hx hb d_Co_countKeys_35 rfl (lv_at hl 0 rfl) ?_
        refine va_get (D := DD) (ci := 1) (v := .ref hcc) (C := R_Co) (T := T_Co) (N := 2) hx hb hg in_Co hown hK hP 0 rfl rfl 0 (by decide) (hg _ mw_120) (fun _ h9 => h9) rfl d_Co_countKeys_36 ?_
        refine lv_aload_n hx hb d_Co_countKeys_39 rfl (lv_at hl 1 rfl) ?_
        refine lv_iload hx hb d_Co_countKeys_40 (lv_at hl 4 rfl) ?_
        have hPc := hP.sub (ws' := [(h, .inr (4, [.ref hk, .ref ht, .int (nI n)])), (hk, .inl (ck, 150, .inl k))]) [2, 3] rfl
        have hKc := hK.sub (tys' := [(ck, .int)]) [1] rfl
        refine vp_callSi (W.runV (As := [.int (nI i)]) (rest := [.ref hcc]) ⟨hx, hb, hml, hown, hg⟩ (c_Ro_key l DD h hk ht ck n k i (by omega)) (cwV 1 hg (gi_V mw_569 mw_410 mw_411 mw_2 mw_412) rfl rfl rfl (by decide +kernel) ⟨Nat.le_of_ble_eq_true rfl, Nat.le_of_ble_eq_true rfl⟩) ⟨z_blind, va_recv hKc hPc (ci := 4) (q0 := 0) rfl rfl, z_pre hPc hKc⟩ rfl rfl hl.1 rfl (lv_room (Nat.le_of_ble_eq_true rfl)) d_Co_countKeys_42 ⟨Nat.zero_le _, Nat.zero_le _⟩) (fun r_42 hr_42 => ?_)
        subst hr_42
        refine lv_iload_n hx hb d_Co_countKeys_45 rfl (lv_at hl 2 rfl) ?_
        refine lv_isub hx hb d_Co_countKeys_46 ?_
        rw [show (k i) - lx = nI (kdF k lx i) from (hkd i c_32).1]
        refine lv_dup2_11 hx hb d_Co_countKeys_47 rfl rfl ?_
        refine z_ialdN hx hb hK hP 1 0 rfl rfl (by exact Nat.lt_of_le_of_lt (hkd i c_32).2 (by omega)) (by decide) d_Co_countKeys_48 ?_
        refine lv_iconst (v := nI 1) hx hb d_Co_countKeys_49 (by decide) ?_
        refine z_iadd hx hb d_Co_countKeys_50 ?_
        refine z_iastN hx hb hK hP hD hS 1 0 rfl rfl (by exact Nat.lt_of_le_of_lt (hkd i c_32).2 (by omega)) (by decide) d_Co_countKeys_51 (fun H locs hP hD hS => ?_)
        have hP : va_P DD vwCl [(aw, .inr (1, [.ref hcc, .ref hcn])), (hcc, .inl (ccc, 501, .inl (nF (va_up (coF (zeF cc (sp + 1)) (kdF k lx) i) (kdF k lx i) (((coF (zeF cc (sp + 1)) (kdF k lx) i) (kdF k lx i)) + 1))))), (h, .inr (4, [.ref hk, .ref ht, .int (nI n)])), (hk, .inl (ck, 150, .inl k))] H := hP
        have hD : va_D A [(aw, .inr (1, [.ref hcc, .ref hcn])), (hcc, .inl (ccc, 501, .inl (nF (va_up (coF (zeF cc (sp + 1)) (kdF k lx) i) (kdF k lx i) (((coF (zeF cc (sp + 1)) (kdF k lx) i) (kdF k lx i)) + 1))))), (h, .inr (4, [.ref hk, .ref ht, .int (nI n)])), (hk, .inl (ck, 150, .inl k))] := hD
        rw [show va_up (coF (zeF cc (sp + 1)) (kdF k lx) i) (kdF k lx i) (((coF (zeF cc (sp + 1)) (kdF k lx) i) (kdF k lx i)) + 1) = coF (zeF cc (sp + 1)) (kdF k lx) (i + 1) from rfl] at hP hD
        refine lv_iinc (v := nI (i + 1)) (lv' := [(4, .int (nI (i + 1))), (0, .ref aw), (1, .ref h), (2, .int lx), (3, .int (nI sp))]) hx hb d_Co_countKeys_52 hl (k := 4) rfl (by exact nI_add i 1) (by decide) rfl (fun ls hl => ?_)
        refine lv_goto (tgt := 26) hx hb d_Co_countKeys_55 (by decide) ?_
        exact ih26 (i + 1) (by omega) (by omega) _ _ hP hD hS ls (lv_sub hl [1, 2, 3, 4, 0] rfl)
  have K3 : ∀ (kk : Nat) (i : Nat), (hi : i ≤ sp + 1) → sp + 1 - i < kk → ∀ (H : Heap) (locs : List Loc), va_P DD vwCl [(aw, .inr (1, [.ref hcc, .ref hcn])), (hcc, .inl (ccc, 501, .inl (nF (zeF cc i)))), (h, .inr (4, [.ref hk, .ref ht, .int (nI n)])), (hk, .inl (ck, 150, .inl k))] H → va_D A [(aw, .inr (1, [.ref hcc, .ref hcn])), (hcc, .inl (ccc, 501, .inl (nF (zeF cc i)))), (h, .inr (4, [.ref hk, .ref ht, .int (nI n)])), (hk, .inl (ck, 150, .inl k))] → va_S A s.heap H locs → ∀ (ls : Array Slot), lv_has ls 5 [(0, .ref aw), (1, .ref h), (2, .int lx), (3, .int (nI sp)), (4, .int (nI i))] → W p l e (headSpec ws_Co_countKeys rm_Co_countKeys).room s m args below meth c H locs 0 0 (MQ below (va_Qv (fun (u9 : Unit) => match u9 with | _ => True) (fun (u9 : Unit) (t9 : State) => match u9 with | _ => va_P DD vwCl [(aw, .inr (1, [.ref hcc, .ref hcn])), (hcc, .inl (ccc, 501, .inl (nF (coF (zeF cc (sp + 1)) (kdF k lx) n)))), (h, .inr (4, [.ref hk, .ref ht, .int (nI n)])), (hk, .inl (ck, 150, .inl k))] t9.heap ∧ va_K DD vwCl [(ccc, .int), (ck, .int)] t9 ∧ va_D A [(aw, .inr (1, [.ref hcc, .ref hcn])), (hcc, .inl (ccc, 501, .inl (nF (coF (zeF cc (sp + 1)) (kdF k lx) n)))), (h, .inr (4, [.ref hk, .ref ht, .int (nI n)])), (hk, .inl (ck, 150, .inl k))]) A) args s 0 0 A) (F0 m 3 ls []) := by
    intro kk
    induction kk with
    | zero => intros; omega
    | succ kk ih3 =>
      intro i hi hkk H locs hP hD hS ls hl
      refine lv_iload hx hb d_Co_countKeys_3 (lv_at hl 4 rfl) ?_
      refine lv_iload_n hx hb d_Co_countKeys_5 rfl (lv_at hl 3 rfl) ?_
      refine z_icmp_gt (tgt := 23) hx hb d_Co_countKeys_6 (by decide) (by omega) (by omega) (fun c_6 => ?_) (fun c_6 => ?_)
      · rw [show zeF cc i = coF (zeF cc (sp + 1)) (kdF k lx) 0 from by rw [show i = sp + 1 by omega]; rfl] at hP hD
        refine lv_iconst (v := nI 0) hx hb d_Co_countKeys_23 (by decide) ?_
        refine lv_istore (lv' := [(4, .int (nI 0)), (0, .ref aw), (1, .ref h), (2, .int lx), (3, .int (nI sp))]) hx hb d_Co_countKeys_24 hl (by decide) rfl (fun ls hl => ?_)
        exact K26 _ 0 (by omega) (Nat.lt_succ_self _) _ _ hP hD hS ls (lv_sub hl [1, 2, 3, 4, 0] rfl)
      · refine lv_aload_n hx hb d_Co_countKeys_9 rfl (lv_at hl 0 rfl) ?_
        refine va_get (D := DD) (ci := 1) (v := .ref hcc) (C := R_Co) (T := T_Co) (N := 2) hx hb hg in_Co hown hK hP 0 rfl rfl 0 (by decide) (hg _ mw_120) (fun _ h9 => h9) rfl d_Co_countKeys_10 ?_
        refine lv_iload hx hb d_Co_countKeys_13 (lv_at hl 4 rfl) ?_
        refine lv_iconst (v := nI 0) hx hb d_Co_countKeys_15 (by decide) ?_
        refine z_iastN hx hb hK hP hD hS 1 0 rfl rfl (by omega) (by decide) d_Co_countKeys_16 (fun H locs hP hD hS => ?_)
        have hP : va_P DD vwCl [(aw, .inr (1, [.ref hcc, .ref hcn])), (hcc, .inl (ccc, 501, .inl (nF (va_up (zeF cc i) i 0)))), (h, .inr (4, [.ref hk, .ref ht, .int (nI n)])), (hk, .inl (ck, 150, .inl k))] H := hP
        have hD : va_D A [(aw, .inr (1, [.ref hcc, .ref hcn])), (hcc, .inl (ccc, 501, .inl (nF (va_up (zeF cc i) i 0)))), (h, .inr (4, [.ref hk, .ref ht, .int (nI n)])), (hk, .inl (ck, 150, .inl k))] := hD
        rw [show va_up (zeF cc i) i 0 = zeF cc (i + 1) from zeF_s cc i] at hP hD
        refine lv_iinc (v := nI (i + 1)) (lv' := [(4, .int (nI (i + 1))), (0, .ref aw), (1, .ref h), (2, .int lx), (3, .int (nI sp))]) hx hb d_Co_countKeys_17 hl (k := 4) rfl (by exact nI_add i 1) (by decide) rfl (fun ls hl => ?_)
        refine lv_goto (tgt := 3) hx hb d_Co_countKeys_20 (by decide) ?_
        exact ih3 (i + 1) (by omega) (by omega) _ _ hP hD hS ls (lv_sub hl [1, 2, 3, 4, 0] rfl)
  rw [show cc = zeF cc 0 from zeF_0 cc] at hP hD
  refine lv_iconst (v := nI 0) hx hb d_Co_countKeys_0 (by decide) ?_
  refine lv_istore (lv' := [(4, .int (nI 0)), (0, .ref aw), (1, .ref h), (2, .int lx), (3, .int (nI sp))]) hx hb d_Co_countKeys_1 hl (by decide) rfl (fun ls hl => ?_)
  exact K3 _ 0 (by omega) (Nat.lt_succ_self _) _ _ hP hD hS ls (lv_sub hl [1, 2, 3, 4, 0] rfl)
theorem d_Co_dealOut_0 : decode b_Co_dealOut 0 = .ok (.iconst 0, 1) := by decide +kernel
theorem d_Co_dealOut_1 : decode b_Co_dealOut 1 = .ok (.istore 4, 2) := by decide +kernel
theorem d_Co_dealOut_3 : decode b_Co_dealOut 3 = .ok (.iload 4, 2) := by decide +kernel
theorem d_Co_dealOut_5 : decode b_Co_dealOut 5 = .ok (.aload_n 1, 1) := by decide +kernel
theorem d_Co_dealOut_6 : decode b_Co_dealOut 6 = .ok (.invokevirtual 43, 3) := by decide +kernel
theorem d_Co_dealOut_9 : decode b_Co_dealOut 9 = .ok (.if_icmp .ge 41, 3) := by decide +kernel
theorem d_Co_dealOut_12 : decode b_Co_dealOut 12 = .ok (.aload_n 1, 1) := by decide +kernel
theorem d_Co_dealOut_13 : decode b_Co_dealOut 13 = .ok (.iload 4, 2) := by decide +kernel
theorem d_Co_dealOut_15 : decode b_Co_dealOut 15 = .ok (.invokevirtual 46, 3) := by decide +kernel
theorem d_Co_dealOut_18 : decode b_Co_dealOut 18 = .ok (.iload_n 2, 1) := by decide +kernel
theorem d_Co_dealOut_19 : decode b_Co_dealOut 19 = .ok (.isub, 1) := by decide +kernel
theorem d_Co_dealOut_20 : decode b_Co_dealOut 20 = .ok (.istore 5, 2) := by decide +kernel
theorem d_Co_dealOut_22 : decode b_Co_dealOut 22 = .ok (.aload_n 3, 1) := by decide +kernel
theorem d_Co_dealOut_23 : decode b_Co_dealOut 23 = .ok (.aload_n 0, 1) := by decide +kernel
theorem d_Co_dealOut_24 : decode b_Co_dealOut 24 = .ok (.getfield 15, 3) := by decide +kernel
theorem d_Co_dealOut_27 : decode b_Co_dealOut 27 = .ok (.iload 5, 2) := by decide +kernel
theorem d_Co_dealOut_29 : decode b_Co_dealOut 29 = .ok (.iaload, 1) := by decide +kernel
theorem d_Co_dealOut_30 : decode b_Co_dealOut 30 = .ok (.iload 4, 2) := by decide +kernel
theorem d_Co_dealOut_32 : decode b_Co_dealOut 32 = .ok (.iastore, 1) := by decide +kernel
theorem d_Co_dealOut_33 : decode b_Co_dealOut 33 = .ok (.aload_n 0, 1) := by decide +kernel
theorem d_Co_dealOut_34 : decode b_Co_dealOut 34 = .ok (.getfield 15, 3) := by decide +kernel
theorem d_Co_dealOut_37 : decode b_Co_dealOut 37 = .ok (.iload 5, 2) := by decide +kernel
theorem d_Co_dealOut_39 : decode b_Co_dealOut 39 = .ok (.dup2, 1) := by decide +kernel
theorem d_Co_dealOut_40 : decode b_Co_dealOut 40 = .ok (.iaload, 1) := by decide +kernel
theorem d_Co_dealOut_41 : decode b_Co_dealOut 41 = .ok (.iconst 1, 1) := by decide +kernel
theorem d_Co_dealOut_42 : decode b_Co_dealOut 42 = .ok (.iadd, 1) := by decide +kernel
theorem d_Co_dealOut_43 : decode b_Co_dealOut 43 = .ok (.iastore, 1) := by decide +kernel
theorem d_Co_dealOut_44 : decode b_Co_dealOut 44 = .ok (.iinc 4 1, 3) := by decide +kernel
theorem d_Co_dealOut_47 : decode b_Co_dealOut 47 = .ok (.goto (-44), 3) := by decide +kernel
theorem d_Co_dealOut_50 : decode b_Co_dealOut 50 = .ok (.return_, 1) := by decide +kernel
abbrev ws_Co_dealOut : List Cond := .code y_Co_dealOut b_Co_dealOut 6 none :: ALLG
abbrev rm_Co_dealOut : Room := { frames := 1, cells := 0, slots := 0, locals := 21 }
set_option maxHeartbeats 4000000 in
set_option maxRecDepth 100000 in
theorem c_Co_dealOut (l : Launch) (DD : va_G) (sz : Nat) (aw : Nat) (hcc : Nat) (hcn : Nat) (ccn : ClassId) (cn : Nat → Nat) (h : Nat) (hk : Nat) (ck : ClassId) (k : Nat → Int32) (ht : Nat) (n : Nat) (lx : Int32) (hpn : Nat) (cpn : ClassId) (pn : Nat → Nat) (hn : n ≤ 150) (hkd : ∀ i, i < n → k i - lx = nI (kdF k lx i) ∧ kdF k lx i ≤ 500) (hdl : ∀ i, i < n → (dlS (kdF k lx) (fun x => x) pn cn i).2 (kdF k lx i) < 150) : Met l y_Co_dealOut ws_Co_dealOut rm_Co_dealOut (va_Pc [.ref aw, .ref h, .int lx, .ref hpn] (fun U => U.heap.size = sz ∧ va_P DD vwCl [(aw, .inr (1, [.ref hcc, .ref hcn])), (hcn, .inl (ccn, 501, .inl (nF cn))), (h, .inr (4, [.ref hk, .ref ht, .int (nI n)])), (hk, .inl (ck, 150, .inl k)), (hpn, .inl (cpn, 150, .inl (nF pn)))] U.heap ∧ va_K DD vwCl [(ccn, .int), (ck, .int), (cpn, .int)] U ∧ va_D (fun _ => True) [(aw, .inr (1, [.ref hcc, .ref hcn])), (hcn, .inl (ccn, 501, .inl (nF cn))), (h, .inr (4, [.ref hk, .ref ht, .int (nI n)])), (hk, .inl (ck, 150, .inl k)), (hpn, .inl (cpn, 150, .inl (nF pn)))])) (va_Qv (fun (u9 : Unit) => match u9 with | _ => True) (fun (u9 : Unit) (t9 : State) => match u9 with | _ => va_P DD vwCl [(aw, .inr (1, [.ref hcc, .ref hcn])), (hcn, .inl (ccn, 501, .inl (nF ((dlS (kdF k lx) (fun x => x) pn cn n).2)))), (h, .inr (4, [.ref hk, .ref ht, .int (nI n)])), (hk, .inl (ck, 150, .inl k)), (hpn, .inl (cpn, 150, .inl (nF ((dlS (kdF k lx) (fun x => x) pn cn n).1))))] t9.heap ∧ va_K DD vwCl [(ccn, .int), (ck, .int), (cpn, .int)] t9 ∧ va_D (va_A [(aw, .inr (1, [.ref hcc, .ref hcn])), (hcn, .inl (ccn, 501, .inl (nF cn))), (h, .inr (4, [.ref hk, .ref ht, .int (nI n)])), (hk, .inl (ck, 150, .inl k)), (hpn, .inl (cpn, 150, .inl (nF pn)))] sz) [(aw, .inr (1, [.ref hcc, .ref hcn])), (hcn, .inl (ccn, 501, .inl (nF ((dlS (kdF k lx) (fun x => x) pn cn n).2)))), (h, .inr (4, [.ref hk, .ref ht, .int (nI n)])), (hk, .inl (ck, 150, .inl k)), (hpn, .inl (cpn, 150, .inl (nF ((dlS (kdF k lx) (fun x => x) pn cn n).1))))]) (va_A [(aw, .inr (1, [.ref hcc, .ref hcn])), (hcn, .inl (ccn, 501, .inl (nF cn))), (h, .inr (4, [.ref hk, .ref ht, .int (nI n)])), (hk, .inl (ck, 150, .inl k)), (hpn, .inl (cpn, 150, .inl (nF pn)))] sz)) 0 0 (va_A [(aw, .inr (1, [.ref hcc, .ref hcn])), (hcn, .inl (ccn, 501, .inl (nF cn))), (h, .inr (4, [.ref hk, .ref ht, .int (nI n)])), (hk, .inl (ck, 150, .inl k)), (hpn, .inl (cpn, 150, .inl (nF pn)))] sz) := by
  refine Met.ofW (cc := b_Co_dealOut) (maxL := 6) (ret := none) (by decide) rfl ?_
  intro p e s m args below meth c s₁ B hml hv
  obtain ⟨ha, hsz, hP, hK, hD0⟩ := hv
  have hx := B.exec
  have hb := B.bytes
  have hr := B.returns
  have hts := atoms_spec (ws := ws_Co_dealOut) B.pre
  have hg : ∀ w ∈ ALLG, w.before args s = true := fun w h => hts w (List.mem_cons_of_mem _ h)
  have hown : s.vm.findClass R_Co = some m.cls := findClass_of_methodNamed B.named
  have hlocks := B.notSynchronized
  subst hsz
  have hD := hD0.self (sz := s.heap.size)
  generalize hAe : va_A [(aw, .inr (1, [.ref hcc, .ref hcn])), (hcn, .inl (ccn, 501, .inl (nF cn))), (h, .inr (4, [.ref hk, .ref ht, .int (nI n)])), (hk, .inl (ck, 150, .inl k)), (hpn, .inl (cpn, 150, .inl (nF pn)))] s.heap.size = A at hD ⊢
  have hA : ∀ q : Nat, s.heap.size ≤ q → A q := fun q h => by rw [← hAe]; exact Or.inr h
  have hS : va_S A s.heap s.heap [] := va_S.rf
  have hP : va_P DD vwCl [(aw, .inr (1, [.ref hcc, .ref hcn])), (hcn, .inl (ccn, 501, .inl (nF cn))), (h, .inr (4, [.ref hk, .ref ht, .int (nI n)])), (hk, .inl (ck, 150, .inl k)), (hpn, .inl (cpn, 150, .inl (nF pn)))] s.heap := hP
  have hl := lv_entry ([.ref aw, .ref h, .int lx, .ref hpn]) (n := 6) (Nat.le_of_ble_eq_true rfl)
  rw [ha, lg_entry_eq, ← ha]
  generalize (lg_sl ([.ref aw, .ref h, .int lx, .ref hpn]) ++ List.replicate (6 - (lg_sl ([.ref aw, .ref h, .int lx, .ref hpn])).length) Slot.unset).toArray = ls at hl ⊢
  have hl : lv_has ls 6 [(0, .ref aw), (1, .ref h), (2, .int lx), (3, .ref hpn)] := hl
  have K3 : ∀ (kk : Nat) (i : Nat), (hi : i ≤ n) → n - i < kk → ∀ (H : Heap) (locs : List Loc), va_P DD vwCl [(aw, .inr (1, [.ref hcc, .ref hcn])), (hcn, .inl (ccn, 501, .inl (nF ((dlS (kdF k lx) (fun x => x) pn cn i).2)))), (h, .inr (4, [.ref hk, .ref ht, .int (nI n)])), (hk, .inl (ck, 150, .inl k)), (hpn, .inl (cpn, 150, .inl (nF ((dlS (kdF k lx) (fun x => x) pn cn i).1))))] H → va_D A [(aw, .inr (1, [.ref hcc, .ref hcn])), (hcn, .inl (ccn, 501, .inl (nF ((dlS (kdF k lx) (fun x => x) pn cn i).2)))), (h, .inr (4, [.ref hk, .ref ht, .int (nI n)])), (hk, .inl (ck, 150, .inl k)), (hpn, .inl (cpn, 150, .inl (nF ((dlS (kdF k lx) (fun x => x) pn cn i).1))))] → va_S A s.heap H locs → ∀ (ls : Array Slot), lv_has ls 6 [(0, .ref aw), (1, .ref h), (2, .int lx), (3, .ref hpn), (4, .int (nI i))] → W p l e (headSpec ws_Co_dealOut rm_Co_dealOut).room s m args below meth c H locs 0 0 (MQ below (va_Qv (fun (u9 : Unit) => match u9 with | _ => True) (fun (u9 : Unit) (t9 : State) => match u9 with | _ => va_P DD vwCl [(aw, .inr (1, [.ref hcc, .ref hcn])), (hcn, .inl (ccn, 501, .inl (nF ((dlS (kdF k lx) (fun x => x) pn cn n).2)))), (h, .inr (4, [.ref hk, .ref ht, .int (nI n)])), (hk, .inl (ck, 150, .inl k)), (hpn, .inl (cpn, 150, .inl (nF ((dlS (kdF k lx) (fun x => x) pn cn n).1))))] t9.heap ∧ va_K DD vwCl [(ccn, .int), (ck, .int), (cpn, .int)] t9 ∧ va_D A [(aw, .inr (1, [.ref hcc, .ref hcn])), (hcn, .inl (ccn, 501, .inl (nF ((dlS (kdF k lx) (fun x => x) pn cn n).2)))), (h, .inr (4, [.ref hk, .ref ht, .int (nI n)])), (hk, .inl (ck, 150, .inl k)), (hpn, .inl (cpn, 150, .inl (nF ((dlS (kdF k lx) (fun x => x) pn cn n).1))))]) A) args s 0 0 A) (F0 m 3 ls []) := by
    intro kk
    induction kk with
    | zero => intros; omega
    | succ kk ih3 =>
      intro i hi hkk H locs hP hD hS ls hl
      refine lv_iload hx hb d_Co_dealOut_3 (lv_at hl 4 rfl) ?_
      refine lv_aload_n hx hb d_Co_dealOut_5 rfl (lv_at hl 1 rfl) ?_
      have hPc := hP.sub (ws' := [(h, .inr (4, [.ref hk, .ref ht, .int (nI n)])), (hk, .inl (ck, 150, .inl k))]) [2, 3] rfl
      have hKc := hK.sub (tys' := [(ck, .int)]) [1] rfl
      refine vp_callSi (W.runV (As := []) (rest := [.int (nI i)]) ⟨hx, hb, hml, hown, hg⟩ (c_Ro_size l DD h hk ht ck n k) (cwV 0 hg (gi_V mw_568 mw_214 mw_215 mw_2 mw_216) rfl rfl rfl (by decide +kernel) ⟨Nat.le_of_ble_eq_true rfl, Nat.le_of_ble_eq_true rfl⟩) ⟨z_blind, va_recv hKc hPc (ci := 4) (q0 := 0) rfl rfl, z_pre hPc hKc⟩ rfl rfl hl.1 rfl (lv_room (Nat.le_of_ble_eq_true rfl)) d_Co_dealOut_6 ⟨Nat.zero_le _, Nat.zero_le _⟩) (fun r_6 hr_6 => ?_)
      subst hr_6
      refine z_icmp_ge (tgt := 50) hx hb d_Co_dealOut_9 (by decide) (by omega) (by omega) (fun c_9 => ?_) (fun c_9 => ?_)
      · rw [show (dlS (kdF k lx) (fun x => x) pn cn i).1 = (dlS (kdF k lx) (fun x => x) pn cn n).1 from by rw [Nat.le_antisymm hi c_9]] at hP hD
        rw [show (dlS (kdF k lx) (fun x => x) pn cn i).2 = (dlS (kdF k lx) (fun x => x) pn cn n).2 from by rw [Nat.le_antisymm hi c_9]] at hP hD
        have hP9 := hP.sub (ws' := [(aw, .inr (1, [.ref hcc, .ref hcn])), (hcn, .inl (ccn, 501, .inl (nF ((dlS (kdF k lx) (fun x => x) pn cn n).2)))), (h, .inr (4, [.ref hk, .ref ht, .int (nI n)])), (hk, .inl (ck, 150, .inl k)), (hpn, .inl (cpn, 150, .inl (nF ((dlS (kdF k lx) (fun x => x) pn cn n).1))))]) [0, 1, 2, 3, 4] rfl
        have hD9 := hD.sub (ws' := [(aw, .inr (1, [.ref hcc, .ref hcn])), (hcn, .inl (ccn, 501, .inl (nF ((dlS (kdF k lx) (fun x => x) pn cn n).2)))), (h, .inr (4, [.ref hk, .ref ht, .int (nI n)])), (hk, .inl (ck, 150, .inl k)), (hpn, .inl (cpn, 150, .inl (nF ((dlS (kdF k lx) (fun x => x) pn cn n).1))))]) [0, 1, 2, 3, 4] (by decide) rfl
        exact W.vret hx hb hr (fun t9 ht9 hW9 => ⟨⟨(), rfl, trivial, by rw [ht9]; exact hP9, va_K.moved hW9.alike hK, hD9⟩, hS.F ht9⟩) hS.2.2 d_Co_dealOut_50
      · refine lv_aload_n hx hb d_Co_dealOut_12 rfl (lv_at hl 1 rfl) ?_
        refine lv_iload hx hb d_Co_dealOut_13 (lv_at hl 4 rfl) ?_
        have hPc := hP.sub (ws' := [(h, .inr (4, [.ref hk, .ref ht, .int (nI n)])), (hk, .inl (ck, 150, .inl k))]) [2, 3] rfl
        have hKc := hK.sub (tys' := [(ck, .int)]) [1] rfl
        refine vp_callSi (W.runV (As := [.int (nI i)]) (rest := []) ⟨hx, hb, hml, hown, hg⟩ (c_Ro_key l DD h hk ht ck n k i (by omega)) (cwV 1 hg (gi_V mw_569 mw_410 mw_411 mw_2 mw_412) rfl rfl rfl (by decide +kernel) ⟨Nat.le_of_ble_eq_true rfl, Nat.le_of_ble_eq_true rfl⟩) ⟨z_blind, va_recv hKc hPc (ci := 4) (q0 := 0) rfl rfl, z_pre hPc hKc⟩ rfl rfl hl.1 rfl (lv_room (Nat.le_of_ble_eq_true rfl)) d_Co_dealOut_15 ⟨Nat.zero_le _, Nat.zero_le _⟩) (fun r_15 hr_15 => ?_)
        subst hr_15
        refine lv_iload_n hx hb d_Co_dealOut_18 rfl (lv_at hl 2 rfl) ?_
        refine lv_isub hx hb d_Co_dealOut_19 ?_
        rw [show (k i) - lx = nI (kdF k lx i) from (hkd i c_9).1]
        refine lv_istore (lv' := [(5, .int (nI (kdF k lx i))), (0, .ref aw), (1, .ref h), (2, .int lx), (3, .ref hpn), (4, .int (nI i))]) hx hb d_Co_dealOut_20 hl (by decide) rfl (fun ls hl => ?_)
        refine lv_aload_n hx hb d_Co_dealOut_22 rfl (lv_at hl 4 rfl) ?_
        refine lv_aload_n hx hb d_Co_dealOut_23 rfl (lv_at hl 1 rfl) ?_
        refine va_get (D := DD) (ci := 1) (v := .ref hcn) (C := R_Co) (T := T_Co) (N := 2) hx hb hg in_Co hown hK hP 0 rfl rfl 1 (by decide) (hg _ mw_121) (fun _ h9 => h9) rfl d_Co_dealOut_24 ?_
        refine lv_iload hx hb d_Co_dealOut_27 (lv_at hl 0 rfl) ?_
        refine z_ialdN hx hb hK hP 1 0 rfl rfl (by exact Nat.lt_of_le_of_lt (hkd i c_9).2 (by omega)) (by decide) d_Co_dealOut_29 ?_
        refine lv_iload hx hb d_Co_dealOut_30 (lv_at hl 5 rfl) ?_
        refine z_iastN hx hb hK hP hD hS 4 2 rfl rfl (by exact hdl i c_9) (by decide) d_Co_dealOut_32 (fun H locs hP hD hS => ?_)
        have hP : va_P DD vwCl [(aw, .inr (1, [.ref hcc, .ref hcn])), (hcn, .inl (ccn, 501, .inl (nF ((dlS (kdF k lx) (fun x => x) pn cn i).2)))), (h, .inr (4, [.ref hk, .ref ht, .int (nI n)])), (hk, .inl (ck, 150, .inl k)), (hpn, .inl (cpn, 150, .inl (nF (va_up ((dlS (kdF k lx) (fun x => x) pn cn i).1) (((dlS (kdF k lx) (fun x => x) pn cn i).2) (kdF k lx i)) i))))] H := hP
        have hD : va_D A [(aw, .inr (1, [.ref hcc, .ref hcn])), (hcn, .inl (ccn, 501, .inl (nF ((dlS (kdF k lx) (fun x => x) pn cn i).2)))), (h, .inr (4, [.ref hk, .ref ht, .int (nI n)])), (hk, .inl (ck, 150, .inl k)), (hpn, .inl (cpn, 150, .inl (nF (va_up ((dlS (kdF k lx) (fun x => x) pn cn i).1) (((dlS (kdF k lx) (fun x => x) pn cn i).2) (kdF k lx i)) i))))] := hD
        refine lv_aload_n hx hb d_Co_dealOut_33 rfl (lv_at hl 1 rfl) ?_
        refine va_get (D := DD) (ci := 1) (v := .ref hcn) (C := R_Co) (T := T_Co) (N := 2) hx hb hg in_Co hown hK hP 0 rfl rfl 1 (by decide) (hg _ mw_121) (fun _ h9 => h9) rfl d_Co_dealOut_34 ?_
        refine lv_iload hx hb d_Co_dealOut_37 (lv_at hl 0 rfl) ?_
        refine lv_dup2_11 hx hb d_Co_dealOut_39 rfl rfl ?_
        refine z_ialdN hx hb hK hP 1 0 rfl rfl (by exact Nat.lt_of_le_of_lt (hkd i c_9).2 (by omega)) (by decide) d_Co_dealOut_40 ?_
        refine lv_iconst (v := nI 1) hx hb d_Co_dealOut_41 (by decide) ?_
        refine z_iadd hx hb d_Co_dealOut_42 ?_
        refine z_iastN hx hb hK hP hD hS 1 0 rfl rfl (by exact Nat.lt_of_le_of_lt (hkd i c_9).2 (by omega)) (by decide) d_Co_dealOut_43 (fun H locs hP hD hS => ?_)
        have hP : va_P DD vwCl [(aw, .inr (1, [.ref hcc, .ref hcn])), (hcn, .inl (ccn, 501, .inl (nF (va_up ((dlS (kdF k lx) (fun x => x) pn cn i).2) (kdF k lx i) ((((dlS (kdF k lx) (fun x => x) pn cn i).2) (kdF k lx i)) + 1))))), (h, .inr (4, [.ref hk, .ref ht, .int (nI n)])), (hk, .inl (ck, 150, .inl k)), (hpn, .inl (cpn, 150, .inl (nF (va_up ((dlS (kdF k lx) (fun x => x) pn cn i).1) (((dlS (kdF k lx) (fun x => x) pn cn i).2) (kdF k lx i)) i))))] H := hP
        have hD : va_D A [(aw, .inr (1, [.ref hcc, .ref hcn])), (hcn, .inl (ccn, 501, .inl (nF (va_up ((dlS (kdF k lx) (fun x => x) pn cn i).2) (kdF k lx i) ((((dlS (kdF k lx) (fun x => x) pn cn i).2) (kdF k lx i)) + 1))))), (h, .inr (4, [.ref hk, .ref ht, .int (nI n)])), (hk, .inl (ck, 150, .inl k)), (hpn, .inl (cpn, 150, .inl (nF (va_up ((dlS (kdF k lx) (fun x => x) pn cn i).1) (((dlS (kdF k lx) (fun x => x) pn cn i).2) (kdF k lx i)) i))))] := hD
        rw [show va_up ((dlS (kdF k lx) (fun x => x) pn cn i).1) (((dlS (kdF k lx) (fun x => x) pn cn i).2) (kdF k lx i)) i = (dlS (kdF k lx) (fun x => x) pn cn (i + 1)).1 from rfl] at hP hD
        rw [show va_up ((dlS (kdF k lx) (fun x => x) pn cn i).2) (kdF k lx i) ((((dlS (kdF k lx) (fun x => x) pn cn i).2) (kdF k lx i)) + 1) = (dlS (kdF k lx) (fun x => x) pn cn (i + 1)).2 from rfl] at hP hD
        refine lv_iinc (v := nI (i + 1)) (lv' := [(4, .int (nI (i + 1))), (5, .int (nI (kdF k lx i))), (0, .ref aw), (1, .ref h), (2, .int lx), (3, .ref hpn)]) hx hb d_Co_dealOut_44 hl (k := 5) rfl (by exact nI_add i 1) (by decide) rfl (fun ls hl => ?_)
        refine lv_goto (tgt := 3) hx hb d_Co_dealOut_47 (by decide) ?_
        exact ih3 (i + 1) (by omega) (by omega) _ _ hP hD hS ls (lv_sub hl [2, 3, 4, 5, 0] rfl)
  rw [show pn = (dlS (kdF k lx) (fun x => x) pn cn 0).1 from rfl] at hP hD
  rw [show cn = (dlS (kdF k lx) (fun x => x) pn cn 0).2 from rfl] at hP hD
  refine lv_iconst (v := nI 0) hx hb d_Co_dealOut_0 (by decide) ?_
  refine lv_istore (lv' := [(4, .int (nI 0)), (0, .ref aw), (1, .ref h), (2, .int lx), (3, .ref hpn)]) hx hb d_Co_dealOut_1 hl (by decide) rfl (fun ls hl => ?_)
  exact K3 _ 0 (by omega) (Nat.lt_succ_self _) _ _ hP hD hS ls (lv_sub hl [1, 2, 3, 4, 0] rfl)
theorem d_Co_arrange_0 : decode b_Co_arrange 0 = .ok (.aload_n 1, 1) := by decide +kernel
theorem d_Co_arrange_1 : decode b_Co_arrange 1 = .ok (.invokevirtual 24, 3) := by decide +kernel
theorem d_Co_arrange_4 : decode b_Co_arrange 4 = .ok (.istore 4, 2) := by decide +kernel
theorem d_Co_arrange_6 : decode b_Co_arrange 6 = .ok (.aload_n 1, 1) := by decide +kernel
theorem d_Co_arrange_7 : decode b_Co_arrange 7 = .ok (.invokevirtual 18, 3) := by decide +kernel
theorem d_Co_arrange_10 : decode b_Co_arrange 10 = .ok (.iload 4, 2) := by decide +kernel
theorem d_Co_arrange_12 : decode b_Co_arrange 12 = .ok (.isub, 1) := by decide +kernel
theorem d_Co_arrange_13 : decode b_Co_arrange 13 = .ok (.istore 5, 2) := by decide +kernel
theorem d_Co_arrange_15 : decode b_Co_arrange 15 = .ok (.aload_n 0, 1) := by decide +kernel
theorem d_Co_arrange_16 : decode b_Co_arrange 16 = .ok (.aload_n 1, 1) := by decide +kernel
theorem d_Co_arrange_17 : decode b_Co_arrange 17 = .ok (.iload 4, 2) := by decide +kernel
theorem d_Co_arrange_19 : decode b_Co_arrange 19 = .ok (.iload 5, 2) := by decide +kernel
theorem d_Co_arrange_21 : decode b_Co_arrange 21 = .ok (.invokevirtual 29, 3) := by decide +kernel
theorem d_Co_arrange_24 : decode b_Co_arrange 24 = .ok (.iconst 0, 1) := by decide +kernel
theorem d_Co_arrange_25 : decode b_Co_arrange 25 = .ok (.istore 6, 2) := by decide +kernel
theorem d_Co_arrange_27 : decode b_Co_arrange 27 = .ok (.iconst 0, 1) := by decide +kernel
theorem d_Co_arrange_28 : decode b_Co_arrange 28 = .ok (.istore 7, 2) := by decide +kernel
theorem d_Co_arrange_30 : decode b_Co_arrange 30 = .ok (.iload 7, 2) := by decide +kernel
theorem d_Co_arrange_32 : decode b_Co_arrange 32 = .ok (.iload 5, 2) := by decide +kernel
theorem d_Co_arrange_34 : decode b_Co_arrange 34 = .ok (.if_icmp .gt 58, 3) := by decide +kernel
theorem d_Co_arrange_37 : decode b_Co_arrange 37 = .ok (.aload_n 0, 1) := by decide +kernel
theorem d_Co_arrange_38 : decode b_Co_arrange 38 = .ok (.getfield 15, 3) := by decide +kernel
theorem d_Co_arrange_41 : decode b_Co_arrange 41 = .ok (.iload 7, 2) := by decide +kernel
theorem d_Co_arrange_43 : decode b_Co_arrange 43 = .ok (.iload 6, 2) := by decide +kernel
theorem d_Co_arrange_45 : decode b_Co_arrange 45 = .ok (.iastore, 1) := by decide +kernel
theorem d_Co_arrange_46 : decode b_Co_arrange 46 = .ok (.iload 6, 2) := by decide +kernel
theorem d_Co_arrange_48 : decode b_Co_arrange 48 = .ok (.aload_n 0, 1) := by decide +kernel
theorem d_Co_arrange_49 : decode b_Co_arrange 49 = .ok (.getfield 9, 3) := by decide +kernel
theorem d_Co_arrange_52 : decode b_Co_arrange 52 = .ok (.iload 7, 2) := by decide +kernel
theorem d_Co_arrange_54 : decode b_Co_arrange 54 = .ok (.iaload, 1) := by decide +kernel
theorem d_Co_arrange_55 : decode b_Co_arrange 55 = .ok (.iadd, 1) := by decide +kernel
theorem d_Co_arrange_56 : decode b_Co_arrange 56 = .ok (.istore 6, 2) := by decide +kernel
theorem d_Co_arrange_58 : decode b_Co_arrange 58 = .ok (.aload_n 0, 1) := by decide +kernel
theorem d_Co_arrange_59 : decode b_Co_arrange 59 = .ok (.getfield 9, 3) := by decide +kernel
theorem d_Co_arrange_62 : decode b_Co_arrange 62 = .ok (.iload 7, 2) := by decide +kernel
theorem d_Co_arrange_64 : decode b_Co_arrange 64 = .ok (.iaload, 1) := by decide +kernel
theorem d_Co_arrange_65 : decode b_Co_arrange 65 = .ok (.iconst 1, 1) := by decide +kernel
theorem d_Co_arrange_66 : decode b_Co_arrange 66 = .ok (.if_icmp .le 20, 3) := by decide +kernel
theorem d_Co_arrange_69 : decode b_Co_arrange 69 = .ok (.aload_n 3, 1) := by decide +kernel
theorem d_Co_arrange_70 : decode b_Co_arrange 70 = .ok (.iconst 3, 1) := by decide +kernel
theorem d_Co_arrange_71 : decode b_Co_arrange 71 = .ok (.iload 4, 2) := by decide +kernel
theorem d_Co_arrange_73 : decode b_Co_arrange 73 = .ok (.iload 7, 2) := by decide +kernel
theorem d_Co_arrange_75 : decode b_Co_arrange 75 = .ok (.iadd, 1) := by decide +kernel
theorem d_Co_arrange_76 : decode b_Co_arrange 76 = .ok (.aload_n 0, 1) := by decide +kernel
theorem d_Co_arrange_77 : decode b_Co_arrange 77 = .ok (.getfield 9, 3) := by decide +kernel
theorem d_Co_arrange_80 : decode b_Co_arrange 80 = .ok (.iload 7, 2) := by decide +kernel
theorem d_Co_arrange_82 : decode b_Co_arrange 82 = .ok (.iaload, 1) := by decide +kernel
theorem d_Co_arrange_83 : decode b_Co_arrange 83 = .ok (.invokevirtual 33, 3) := by decide +kernel
theorem d_Co_arrange_86 : decode b_Co_arrange 86 = .ok (.iinc 7 1, 3) := by decide +kernel
theorem d_Co_arrange_89 : decode b_Co_arrange 89 = .ok (.goto (-59), 3) := by decide +kernel
theorem d_Co_arrange_92 : decode b_Co_arrange 92 = .ok (.aload_n 0, 1) := by decide +kernel
theorem d_Co_arrange_93 : decode b_Co_arrange 93 = .ok (.aload_n 1, 1) := by decide +kernel
theorem d_Co_arrange_94 : decode b_Co_arrange 94 = .ok (.iload 4, 2) := by decide +kernel
theorem d_Co_arrange_96 : decode b_Co_arrange 96 = .ok (.aload_n 2, 1) := by decide +kernel
theorem d_Co_arrange_97 : decode b_Co_arrange 97 = .ok (.invokevirtual 39, 3) := by decide +kernel
theorem d_Co_arrange_100 : decode b_Co_arrange 100 = .ok (.iconst 0, 1) := by decide +kernel
theorem d_Co_arrange_101 : decode b_Co_arrange 101 = .ok (.ireturn, 1) := by decide +kernel
abbrev ws_Co_arrange : List Cond := .code y_Co_arrange b_Co_arrange 8 (some .int) :: ALLG
abbrev rm_Co_arrange : Room := { frames := 2, cells := 0, slots := 0, locals := 46 }
set_option maxHeartbeats 4000000 in
set_option maxRecDepth 100000 in
theorem c_Co_arrange (l : Launch) (DD : va_G) (sz : Nat) (aw : Nat) (hcc : Nat) (ccc : ClassId) (cc : Nat → Nat) (hcn : Nat) (ccn : ClassId) (cn : Nat → Nat) (h : Nat) (hk : Nat) (ck : ClassId) (k : Nat → Int32) (ht : Nat) (n : Nat) (hpn : Nat) (cpn : ClassId) (pn : Nat → Nat) (aq : Nat) (htf : Nat) (ctf : ClassId) (tf : Nat → Int32) (tn : Nat) (hn : n ≤ 150) (hfit : cntB k n = true) (htn : tn + n ≤ 150) : Met l y_Co_arrange ws_Co_arrange rm_Co_arrange (va_Pc [.ref aw, .ref h, .ref hpn, .ref aq] (fun U => U.heap.size = sz ∧ va_P DD vwCl [(aw, .inr (1, [.ref hcc, .ref hcn])), (hcc, .inl (ccc, 501, .inl (nF cc))), (hcn, .inl (ccn, 501, .inl (nF cn))), (h, .inr (4, [.ref hk, .ref ht, .int (nI n)])), (hk, .inl (ck, 150, .inl k)), (hpn, .inl (cpn, 150, .inl (nF pn))), (aq, .inr (6, [.ref htf, .int (nI tn)])), (htf, .inl (ctf, 450, .inl tf))] U.heap ∧ va_K DD vwCl [(ccc, .int), (ccn, .int), (ck, .int), (cpn, .int), (ctf, .int)] U ∧ va_D (fun _ => True) [(aw, .inr (1, [.ref hcc, .ref hcn])), (hcc, .inl (ccc, 501, .inl (nF cc))), (hcn, .inl (ccn, 501, .inl (nF cn))), (h, .inr (4, [.ref hk, .ref ht, .int (nI n)])), (hk, .inl (ck, 150, .inl k)), (hpn, .inl (cpn, 150, .inl (nF pn))), (aq, .inr (6, [.ref htf, .int (nI tn)])), (htf, .inl (ctf, 450, .inl tf))])) (va_Qi (fun (r9 : Int32) (u9 : Unit) => match u9 with | _ => r9 = nI 0) (fun (u9 : Unit) (t9 : State) => match u9 with | _ => va_P DD vwCl [(aw, .inr (1, [.ref hcc, .ref hcn])), (hcc, .inl (ccc, 501, .inl (nF (ccF k n cc)))), (hcn, .inl (ccn, 501, .inl (nF ((dlS (kdF k (leastF k n)) (fun x => x) pn (cnN k n cc cn) n).2)))), (h, .inr (4, [.ref hk, .ref ht, .int (nI n)])), (hk, .inl (ck, 150, .inl k)), (hpn, .inl (cpn, 150, .inl (nF ((dlS (kdF k (leastF k n)) (fun x => x) pn (cnN k n cc cn) n).1)))), (aq, .inr (6, [.ref htf, .int (nI (ctN (ccF k n cc) tn (spF k n + 1)))])), (htf, .inl (ctf, 450, .inl (ctF (ccF k n cc) (leastF k n) tn tf (spF k n + 1))))] t9.heap ∧ va_K DD vwCl [(ccc, .int), (ccn, .int), (ck, .int), (cpn, .int), (ctf, .int)] t9 ∧ va_D (va_A [(aw, .inr (1, [.ref hcc, .ref hcn])), (hcc, .inl (ccc, 501, .inl (nF cc))), (hcn, .inl (ccn, 501, .inl (nF cn))), (h, .inr (4, [.ref hk, .ref ht, .int (nI n)])), (hk, .inl (ck, 150, .inl k)), (hpn, .inl (cpn, 150, .inl (nF pn))), (aq, .inr (6, [.ref htf, .int (nI tn)])), (htf, .inl (ctf, 450, .inl tf))] sz) [(aw, .inr (1, [.ref hcc, .ref hcn])), (hcc, .inl (ccc, 501, .inl (nF (ccF k n cc)))), (hcn, .inl (ccn, 501, .inl (nF ((dlS (kdF k (leastF k n)) (fun x => x) pn (cnN k n cc cn) n).2)))), (h, .inr (4, [.ref hk, .ref ht, .int (nI n)])), (hk, .inl (ck, 150, .inl k)), (hpn, .inl (cpn, 150, .inl (nF ((dlS (kdF k (leastF k n)) (fun x => x) pn (cnN k n cc cn) n).1)))), (aq, .inr (6, [.ref htf, .int (nI (ctN (ccF k n cc) tn (spF k n + 1)))])), (htf, .inl (ctf, 450, .inl (ctF (ccF k n cc) (leastF k n) tn tf (spF k n + 1))))]) (va_A [(aw, .inr (1, [.ref hcc, .ref hcn])), (hcc, .inl (ccc, 501, .inl (nF cc))), (hcn, .inl (ccn, 501, .inl (nF cn))), (h, .inr (4, [.ref hk, .ref ht, .int (nI n)])), (hk, .inl (ck, 150, .inl k)), (hpn, .inl (cpn, 150, .inl (nF pn))), (aq, .inr (6, [.ref htf, .int (nI tn)])), (htf, .inl (ctf, 450, .inl tf))] sz)) 0 0 (va_A [(aw, .inr (1, [.ref hcc, .ref hcn])), (hcc, .inl (ccc, 501, .inl (nF cc))), (hcn, .inl (ccn, 501, .inl (nF cn))), (h, .inr (4, [.ref hk, .ref ht, .int (nI n)])), (hk, .inl (ck, 150, .inl k)), (hpn, .inl (cpn, 150, .inl (nF pn))), (aq, .inr (6, [.ref htf, .int (nI tn)])), (htf, .inl (ctf, 450, .inl tf))] sz) := by
  refine Met.ofW (cc := b_Co_arrange) (maxL := 8) (ret := (some .int)) (by decide) rfl ?_
  intro p e s m args below meth c s₁ B hml hv
  obtain ⟨ha, hsz, hP, hK, hD0⟩ := hv
  have hx := B.exec
  have hb := B.bytes
  have hr := B.returns
  have hts := atoms_spec (ws := ws_Co_arrange) B.pre
  have hg : ∀ w ∈ ALLG, w.before args s = true := fun w h => hts w (List.mem_cons_of_mem _ h)
  have hown : s.vm.findClass R_Co = some m.cls := findClass_of_methodNamed B.named
  have hlocks := B.notSynchronized
  subst hsz
  have hD := hD0.self (sz := s.heap.size)
  generalize hAe : va_A [(aw, .inr (1, [.ref hcc, .ref hcn])), (hcc, .inl (ccc, 501, .inl (nF cc))), (hcn, .inl (ccn, 501, .inl (nF cn))), (h, .inr (4, [.ref hk, .ref ht, .int (nI n)])), (hk, .inl (ck, 150, .inl k)), (hpn, .inl (cpn, 150, .inl (nF pn))), (aq, .inr (6, [.ref htf, .int (nI tn)])), (htf, .inl (ctf, 450, .inl tf))] s.heap.size = A at hD ⊢
  have hA : ∀ q : Nat, s.heap.size ≤ q → A q := fun q h => by rw [← hAe]; exact Or.inr h
  have hS : va_S A s.heap s.heap [] := va_S.rf
  have hP : va_P DD vwCl [(aw, .inr (1, [.ref hcc, .ref hcn])), (hcc, .inl (ccc, 501, .inl (nF cc))), (hcn, .inl (ccn, 501, .inl (nF cn))), (h, .inr (4, [.ref hk, .ref ht, .int (nI n)])), (hk, .inl (ck, 150, .inl k)), (hpn, .inl (cpn, 150, .inl (nF pn))), (aq, .inr (6, [.ref htf, .int (nI tn)])), (htf, .inl (ctf, 450, .inl tf))] s.heap := hP
  have hl := lv_entry ([.ref aw, .ref h, .ref hpn, .ref aq]) (n := 8) (Nat.le_of_ble_eq_true rfl)
  rw [ha, lg_entry_eq, ← ha]
  generalize (lg_sl ([.ref aw, .ref h, .ref hpn, .ref aq]) ++ List.replicate (8 - (lg_sl ([.ref aw, .ref h, .ref hpn, .ref aq])).length) Slot.unset).toArray = ls at hl ⊢
  have hl : lv_has ls 8 [(0, .ref aw), (1, .ref h), (2, .ref hpn), (3, .ref aq)] := hl
  have hsp := sp_le hfit
  have K30 : ∀ (kk : Nat) (i : Nat), (hi : i ≤ spF k n + 1) → spF k n + 1 - i < kk → ∀ (H : Heap) (locs : List Loc), va_P DD vwCl [(aw, .inr (1, [.ref hcc, .ref hcn])), (hcc, .inl (ccc, 501, .inl (nF (ccF k n cc)))), (hcn, .inl (ccn, 501, .inl (nF (neF (ccF k n cc) cn i)))), (h, .inr (4, [.ref hk, .ref ht, .int (nI n)])), (hk, .inl (ck, 150, .inl k)), (hpn, .inl (cpn, 150, .inl (nF pn))), (aq, .inr (6, [.ref htf, .int (nI (ctN (ccF k n cc) tn i))])), (htf, .inl (ctf, 450, .inl (ctF (ccF k n cc) (leastF k n) tn tf i)))] H → va_D A [(aw, .inr (1, [.ref hcc, .ref hcn])), (hcc, .inl (ccc, 501, .inl (nF (ccF k n cc)))), (hcn, .inl (ccn, 501, .inl (nF (neF (ccF k n cc) cn i)))), (h, .inr (4, [.ref hk, .ref ht, .int (nI n)])), (hk, .inl (ck, 150, .inl k)), (hpn, .inl (cpn, 150, .inl (nF pn))), (aq, .inr (6, [.ref htf, .int (nI (ctN (ccF k n cc) tn i))])), (htf, .inl (ctf, 450, .inl (ctF (ccF k n cc) (leastF k n) tn tf i)))] → va_S A s.heap H locs → ∀ (ls : Array Slot), lv_has ls 8 [(0, .ref aw), (1, .ref h), (2, .ref hpn), (3, .ref aq), (4, .int (leastF k n)), (5, .int (nI (spF k n))), (6, .int (nI (sumF (ccF k n cc) i))), (7, .int (nI i))] → W p l e (headSpec ws_Co_arrange rm_Co_arrange).room s m args below meth c H locs 0 0 (MQ below (va_Qi (fun (r9 : Int32) (u9 : Unit) => match u9 with | _ => r9 = nI 0) (fun (u9 : Unit) (t9 : State) => match u9 with | _ => va_P DD vwCl [(aw, .inr (1, [.ref hcc, .ref hcn])), (hcc, .inl (ccc, 501, .inl (nF (ccF k n cc)))), (hcn, .inl (ccn, 501, .inl (nF ((dlS (kdF k (leastF k n)) (fun x => x) pn (cnN k n cc cn) n).2)))), (h, .inr (4, [.ref hk, .ref ht, .int (nI n)])), (hk, .inl (ck, 150, .inl k)), (hpn, .inl (cpn, 150, .inl (nF ((dlS (kdF k (leastF k n)) (fun x => x) pn (cnN k n cc cn) n).1)))), (aq, .inr (6, [.ref htf, .int (nI (ctN (ccF k n cc) tn (spF k n + 1)))])), (htf, .inl (ctf, 450, .inl (ctF (ccF k n cc) (leastF k n) tn tf (spF k n + 1))))] t9.heap ∧ va_K DD vwCl [(ccc, .int), (ccn, .int), (ck, .int), (cpn, .int), (ctf, .int)] t9 ∧ va_D A [(aw, .inr (1, [.ref hcc, .ref hcn])), (hcc, .inl (ccc, 501, .inl (nF (ccF k n cc)))), (hcn, .inl (ccn, 501, .inl (nF ((dlS (kdF k (leastF k n)) (fun x => x) pn (cnN k n cc cn) n).2)))), (h, .inr (4, [.ref hk, .ref ht, .int (nI n)])), (hk, .inl (ck, 150, .inl k)), (hpn, .inl (cpn, 150, .inl (nF ((dlS (kdF k (leastF k n)) (fun x => x) pn (cnN k n cc cn) n).1)))), (aq, .inr (6, [.ref htf, .int (nI (ctN (ccF k n cc) tn (spF k n + 1)))])), (htf, .inl (ctf, 450, .inl (ctF (ccF k n cc) (leastF k n) tn tf (spF k n + 1))))]) A) args s 0 0 A) (F0 m 30 ls []) := by
    intro kk
    induction kk with
    | zero => intros; omega
    | succ kk ih30 =>
      intro i hi hkk H locs hP hD hS ls hl
      have hsn : sumF (ccF k n cc) i ≤ n := by rw [cc_sum cc hi]; exact cnt_le _ n
      have hct := ctN_le (ccF k n cc) tn i
      refine lv_iload hx hb d_Co_arrange_30 (lv_at hl 7 rfl) ?_
      refine lv_iload hx hb d_Co_arrange_32 (lv_at hl 5 rfl) ?_
      refine z_icmp_gt (tgt := 92) hx hb d_Co_arrange_34 (by decide) (by omega) (by omega) (fun c_34 => ?_) (fun c_34 => ?_)
      · rw [show neF (ccF k n cc) cn i = cnN k n cc cn from by rw [show i = spF k n + 1 by omega]; rfl] at hP hD
        rw [show ctF (ccF k n cc) (leastF k n) tn tf i = ctF (ccF k n cc) (leastF k n) tn tf (spF k n + 1) from by rw [show i = spF k n + 1 by omega]] at hP hD
        rw [show nI (ctN (ccF k n cc) tn i) = nI (ctN (ccF k n cc) tn (spF k n + 1)) from by rw [show i = spF k n + 1 by omega]] at hP hD
        refine lv_aload_n hx hb d_Co_arrange_92 rfl (lv_at hl 0 rfl) ?_
        refine lv_aload_n hx hb d_Co_arrange_93 rfl (lv_at hl 1 rfl) ?_
        refine lv_iload hx hb d_Co_arrange_94 (lv_at hl 4 rfl) ?_
        refine lv_aload_n hx hb d_Co_arrange_96 rfl (lv_at hl 2 rfl) ?_
        have hPc := hP.sub (ws' := [(aw, .inr (1, [.ref hcc, .ref hcn])), (hcn, .inl (ccn, 501, .inl (nF (cnN k n cc cn)))), (h, .inr (4, [.ref hk, .ref ht, .int (nI n)])), (hk, .inl (ck, 150, .inl k)), (hpn, .inl (cpn, 150, .inl (nF pn)))]) [0, 2, 3, 4, 5] rfl
        have hKc := hK.sub (tys' := [(ccn, .int), (ck, .int), (cpn, .int)]) [1, 2, 3] rfl
        have hDc := hD.sub (ws' := [(aw, .inr (1, [.ref hcc, .ref hcn])), (hcn, .inl (ccn, 501, .inl (nF (cnN k n cc cn)))), (h, .inr (4, [.ref hk, .ref ht, .int (nI n)])), (hk, .inl (ck, 150, .inl k)), (hpn, .inl (cpn, 150, .inl (nF pn)))]) [0, 2, 3, 4, 5] (by decide) rfl
        have hFc := va_free (wc := [(aw, .inr (1, [.ref hcc, .ref hcn])), (hcn, .inl (ccn, 501, .inl (nF (cnN k n cc cn)))), (h, .inr (4, [.ref hk, .ref ht, .int (nI n)])), (hk, .inl (ck, 150, .inl k)), (hpn, .inl (cpn, 150, .inl (nF pn)))]) hD hS hA [0, 2, 3, 4, 5] rfl
        refine va_callv (va_runV (As := [.ref h, .int (leastF k n), .ref hpn]) (rest := []) ⟨hx, hb, hml, hown, hg⟩ (c_Co_dealOut l DD H.size aw hcc hcn ccn (cnN k n cc cn) h hk ck k ht n (leastF k n) hpn cpn pn (by omega) (by exact fun j hj => ⟨(kd_ok hfit j hj).1, Nat.le_trans (kd_ok hfit j hj).2 hsp⟩) (by exact fun j hj => Nat.lt_of_lt_of_le (deal_lt _ _ hj (cnN_eq hfit cc cn hj)) hn)) (cwV 3 hg (gi_V mw_571 mw_573 ms_Co_dealOut mw_9 mw_574) rfl rfl rfl (by decide +kernel) ⟨Nat.le_of_ble_eq_true rfl, Nat.le_of_ble_eq_true rfl⟩) ⟨z_blindQ, va_recv hKc hPc (ci := 1) (q0 := 0) rfl rfl, z_preQ hPc hKc hDc⟩ rfl rfl hl.1 rfl (lv_room (Nat.le_of_ble_eq_true rfl)) d_Co_arrange_97 ⟨Nat.zero_le _, Nat.zero_le _⟩) hS (fun q _ h => hFc q h) hFc (fun u9 t9 H9 locs ht9 hvm9 hw9 hB9 hz9 hk9 hS => ?_)
        obtain ⟨hP1, hK1, hD1⟩ := hB9
        rw [ht9] at hP1
        try dsimp only at hw9
        obtain ⟨hP, hD⟩ := va_join (wr := [(hcc, .inl (ccc, 501, .inl (nF (ccF k n cc)))), (aq, .inr (6, [.ref htf, .int (nI (ctN (ccF k n cc) tn (spF k n + 1)))])), (htf, .inl (ctf, 450, .inl (ctF (ccF k n cc) (leastF k n) tn tf (spF k n + 1))))]) (w1 := [(aw, .inr (1, [.ref hcc, .ref hcn])), (hcn, .inl (ccn, 501, .inl (nF ((dlS (kdF k (leastF k n)) (fun x => x) pn (cnN k n cc cn) n).2)))), (h, .inr (4, [.ref hk, .ref ht, .int (nI n)])), (hk, .inl (ck, 150, .inl k)), (hpn, .inl (cpn, 150, .inl (nF ((dlS (kdF k (leastF k n)) (fun x => x) pn (cnN k n cc cn) n).1))))]) hP hD [0, 2, 3, 4, 5] [1, 6, 7] rfl rfl (by decide) (by decide) hk9 hFc hP1 hD1
        generalize H9 = H at hP hS ⊢
        have hP : va_P DD vwCl [(hcc, .inl (ccc, 501, .inl (nF (ccF k n cc)))), (aq, .inr (6, [.ref htf, .int (nI (ctN (ccF k n cc) tn (spF k n + 1)))])), (htf, .inl (ctf, 450, .inl (ctF (ccF k n cc) (leastF k n) tn tf (spF k n + 1)))), (aw, .inr (1, [.ref hcc, .ref hcn])), (hcn, .inl (ccn, 501, .inl (nF ((dlS (kdF k (leastF k n)) (fun x => x) pn (cnN k n cc cn) n).2)))), (h, .inr (4, [.ref hk, .ref ht, .int (nI n)])), (hk, .inl (ck, 150, .inl k)), (hpn, .inl (cpn, 150, .inl (nF ((dlS (kdF k (leastF k n)) (fun x => x) pn (cnN k n cc cn) n).1))))] H := hP
        have hD : va_D A [(hcc, .inl (ccc, 501, .inl (nF (ccF k n cc)))), (aq, .inr (6, [.ref htf, .int (nI (ctN (ccF k n cc) tn (spF k n + 1)))])), (htf, .inl (ctf, 450, .inl (ctF (ccF k n cc) (leastF k n) tn tf (spF k n + 1)))), (aw, .inr (1, [.ref hcc, .ref hcn])), (hcn, .inl (ccn, 501, .inl (nF ((dlS (kdF k (leastF k n)) (fun x => x) pn (cnN k n cc cn) n).2)))), (h, .inr (4, [.ref hk, .ref ht, .int (nI n)])), (hk, .inl (ck, 150, .inl k)), (hpn, .inl (cpn, 150, .inl (nF ((dlS (kdF k (leastF k n)) (fun x => x) pn (cnN k n cc cn) n).1))))] := hD
        refine lv_iconst (v := nI 0) hx hb d_Co_arrange_100 (by decide) ?_
        have hP9 := hP.sub (ws' := [(aw, .inr (1, [.ref hcc, .ref hcn])), (hcc, .inl (ccc, 501, .inl (nF (ccF k n cc)))), (hcn, .inl (ccn, 501, .inl (nF ((dlS (kdF k (leastF k n)) (fun x => x) pn (cnN k n cc cn) n).2)))), (h, .inr (4, [.ref hk, .ref ht, .int (nI n)])), (hk, .inl (ck, 150, .inl k)), (hpn, .inl (cpn, 150, .inl (nF ((dlS (kdF k (leastF k n)) (fun x => x) pn (cnN k n cc cn) n).1)))), (aq, .inr (6, [.ref htf, .int (nI (ctN (ccF k n cc) tn (spF k n + 1)))])), (htf, .inl (ctf, 450, .inl (ctF (ccF k n cc) (leastF k n) tn tf (spF k n + 1))))]) [3, 0, 4, 5, 6, 7, 1, 2] rfl
        have hD9 := hD.sub (ws' := [(aw, .inr (1, [.ref hcc, .ref hcn])), (hcc, .inl (ccc, 501, .inl (nF (ccF k n cc)))), (hcn, .inl (ccn, 501, .inl (nF ((dlS (kdF k (leastF k n)) (fun x => x) pn (cnN k n cc cn) n).2)))), (h, .inr (4, [.ref hk, .ref ht, .int (nI n)])), (hk, .inl (ck, 150, .inl k)), (hpn, .inl (cpn, 150, .inl (nF ((dlS (kdF k (leastF k n)) (fun x => x) pn (cnN k n cc cn) n).1)))), (aq, .inr (6, [.ref htf, .int (nI (ctN (ccF k n cc) tn (spF k n + 1)))])), (htf, .inl (ctf, 450, .inl (ctF (ccF k n cc) (leastF k n) tn tf (spF k n + 1))))]) [3, 0, 4, 5, 6, 7, 1, 2] (by decide) rfl
        exact W.iret (v := nI 0) hx hb hr (fun t9 ht9 hW9 => ⟨⟨_, (), rfl, rfl, by rw [ht9]; exact hP9, va_K.moved hW9.alike hK, hD9⟩, hS.F ht9⟩) hS.2.2 d_Co_arrange_101
      · have hcin : ccF k n cc i ≤ n := by rw [ccF_eq cc c_34]; exact cnt_le _ n
        have hs1 : sumF (ccF k n cc) (i + 1) ≤ n := by rw [cc_sum cc (by omega)]; exact cnt_le _ n
        have hs2 : sumF (ccF k n cc) (i + 1) = sumF (ccF k n cc) i + ccF k n cc i := rfl
        refine lv_aload_n hx hb d_Co_arrange_37 rfl (lv_at hl 0 rfl) ?_
        refine va_get (D := DD) (ci := 1) (v := .ref hcn) (C := R_Co) (T := T_Co) (N := 2) hx hb hg in_Co hown hK hP 0 rfl rfl 1 (by decide) (hg _ mw_121) (fun _ h9 => h9) rfl d_Co_arrange_38 ?_
        refine lv_iload hx hb d_Co_arrange_41 (lv_at hl 7 rfl) ?_
        refine lv_iload hx hb d_Co_arrange_43 (lv_at hl 6 rfl) ?_
        refine z_iastN hx hb hK hP hD hS 2 1 rfl rfl (by omega) (by decide) d_Co_arrange_45 (fun H locs hP hD hS => ?_)
        have hP : va_P DD vwCl [(aw, .inr (1, [.ref hcc, .ref hcn])), (hcc, .inl (ccc, 501, .inl (nF (ccF k n cc)))), (hcn, .inl (ccn, 501, .inl (nF (va_up (neF (ccF k n cc) cn i) i (sumF (ccF k n cc) i))))), (h, .inr (4, [.ref hk, .ref ht, .int (nI n)])), (hk, .inl (ck, 150, .inl k)), (hpn, .inl (cpn, 150, .inl (nF pn))), (aq, .inr (6, [.ref htf, .int (nI (ctN (ccF k n cc) tn i))])), (htf, .inl (ctf, 450, .inl (ctF (ccF k n cc) (leastF k n) tn tf i)))] H := hP
        have hD : va_D A [(aw, .inr (1, [.ref hcc, .ref hcn])), (hcc, .inl (ccc, 501, .inl (nF (ccF k n cc)))), (hcn, .inl (ccn, 501, .inl (nF (va_up (neF (ccF k n cc) cn i) i (sumF (ccF k n cc) i))))), (h, .inr (4, [.ref hk, .ref ht, .int (nI n)])), (hk, .inl (ck, 150, .inl k)), (hpn, .inl (cpn, 150, .inl (nF pn))), (aq, .inr (6, [.ref htf, .int (nI (ctN (ccF k n cc) tn i))])), (htf, .inl (ctf, 450, .inl (ctF (ccF k n cc) (leastF k n) tn tf i)))] := hD
        rw [show va_up (neF (ccF k n cc) cn i) i (sumF (ccF k n cc) i) = neF (ccF k n cc) cn (i + 1) from rfl] at hP hD
        refine lv_iload hx hb d_Co_arrange_46 (lv_at hl 6 rfl) ?_
        refine lv_aload_n hx hb d_Co_arrange_48 rfl (lv_at hl 0 rfl) ?_
        refine va_get (D := DD) (ci := 1) (v := .ref hcc) (C := R_Co) (T := T_Co) (N := 2) hx hb hg in_Co hown hK hP 0 rfl rfl 0 (by decide) (hg _ mw_120) (fun _ h9 => h9) rfl d_Co_arrange_49 ?_
        refine lv_iload hx hb d_Co_arrange_52 (lv_at hl 7 rfl) ?_
        refine z_ialdN hx hb hK hP 1 0 rfl rfl (by omega) (by decide) d_Co_arrange_54 ?_
        refine z_iadd hx hb d_Co_arrange_55 ?_
        refine lv_istore (lv' := [(6, .int (nI ((sumF (ccF k n cc) i) + ((ccF k n cc) i)))), (0, .ref aw), (1, .ref h), (2, .ref hpn), (3, .ref aq), (4, .int (leastF k n)), (5, .int (nI (spF k n))), (7, .int (nI i))]) hx hb d_Co_arrange_56 hl (by decide) rfl (fun ls hl => ?_)
        refine lv_aload_n hx hb d_Co_arrange_58 rfl (lv_at hl 1 rfl) ?_
        refine va_get (D := DD) (ci := 1) (v := .ref hcc) (C := R_Co) (T := T_Co) (N := 2) hx hb hg in_Co hown hK hP 0 rfl rfl 0 (by decide) (hg _ mw_120) (fun _ h9 => h9) rfl d_Co_arrange_59 ?_
        refine lv_iload hx hb d_Co_arrange_62 (lv_at hl 7 rfl) ?_
        refine z_ialdN hx hb hK hP 1 0 rfl rfl (by omega) (by decide) d_Co_arrange_64 ?_
        refine lv_iconst (v := nI 1) hx hb d_Co_arrange_65 (by decide) ?_
        refine z_icmp_le (tgt := 86) hx hb d_Co_arrange_66 (by decide) (by omega) (by decide) (fun c_66 => ?_) (fun c_66 => ?_)
        · rw [show ctF (ccF k n cc) (leastF k n) tn tf i = ctF (ccF k n cc) (leastF k n) tn tf (i + 1) from (if_neg (Nat.not_lt.mpr c_66)).symm] at hP hD
          rw [show nI (ctN (ccF k n cc) tn i) = nI (ctN (ccF k n cc) tn (i + 1)) from congrArg nI (if_neg (Nat.not_lt.mpr c_66)).symm] at hP hD
          refine lv_iinc (v := nI (i + 1)) (lv' := [(7, .int (nI (i + 1))), (6, .int (nI ((sumF (ccF k n cc) i) + ((ccF k n cc) i)))), (0, .ref aw), (1, .ref h), (2, .ref hpn), (3, .ref aq), (4, .int (leastF k n)), (5, .int (nI (spF k n)))]) hx hb d_Co_arrange_86 hl (k := 7) rfl (by exact nI_add i 1) (by decide) rfl (fun ls hl => ?_)
          refine lv_goto (tgt := 30) hx hb d_Co_arrange_89 (by decide) ?_
          exact ih30 (i + 1) (by omega) (by omega) _ _ hP hD hS ls (lv_sub hl [2, 3, 4, 5, 6, 7, 1, 0] rfl)
        · refine lv_aload_n hx hb d_Co_arrange_69 rfl (lv_at hl 4 rfl) ?_
          refine lv_iconst (v := nI 3) hx hb d_Co_arrange_70 (by decide) ?_
          refine lv_iload hx hb d_Co_arrange_71 (lv_at hl 5 rfl) ?_
          refine lv_iload hx hb d_Co_arrange_73 (lv_at hl 7 rfl) ?_
          refine lv_iadd hx hb d_Co_arrange_75 ?_
          refine lv_aload_n hx hb d_Co_arrange_76 rfl (lv_at hl 1 rfl) ?_
          refine va_get (D := DD) (ci := 1) (v := .ref hcc) (C := R_Co) (T := T_Co) (N := 2) hx hb hg in_Co hown hK hP 0 rfl rfl 0 (by decide) (hg _ mw_120) (fun _ h9 => h9) rfl d_Co_arrange_77 ?_
          refine lv_iload hx hb d_Co_arrange_80 (lv_at hl 7 rfl) ?_
          refine z_ialdN hx hb hK hP 1 0 rfl rfl (by omega) (by decide) d_Co_arrange_82 ?_
          have hPc := hP.sub (ws' := [(aq, .inr (6, [.ref htf, .int (nI (ctN (ccF k n cc) tn i))])), (htf, .inl (ctf, 450, .inl (ctF (ccF k n cc) (leastF k n) tn tf i)))]) [6, 7] rfl
          have hKc := hK.sub (tys' := [(ctf, .int)]) [4] rfl
          have hDc := hD.sub (ws' := [(aq, .inr (6, [.ref htf, .int (nI (ctN (ccF k n cc) tn i))])), (htf, .inl (ctf, 450, .inl (ctF (ccF k n cc) (leastF k n) tn tf i)))]) [6, 7] (by decide) rfl
          have hFc := va_free (wc := [(aq, .inr (6, [.ref htf, .int (nI (ctN (ccF k n cc) tn i))])), (htf, .inl (ctf, 450, .inl (ctF (ccF k n cc) (leastF k n) tn tf i)))]) hD hS hA [6, 7] rfl
          refine va_callv (va_runV (As := [.int (nI 3), .int ((leastF k n) + (nI i)), .int (nI ((ccF k n cc) i))]) (rest := []) ⟨hx, hb, hml, hown, hg⟩ (c_Tr_add l DD H.size aq htf ctf (ctF (ccF k n cc) (leastF k n) tn tf i) (ctN (ccF k n cc) tn i) (nI 3) ((leastF k n) + (nI i)) (nI ((ccF k n cc) i)) (by omega)) (cwV 3 hg (gi_V mw_570 mw_558 mw_559 mw_4 mw_560) rfl rfl rfl (by decide +kernel) ⟨Nat.le_of_ble_eq_true rfl, Nat.le_of_ble_eq_true rfl⟩) ⟨z_blindQ, va_recv hKc hPc (ci := 6) (q0 := 0) rfl rfl, z_preQ hPc hKc hDc⟩ rfl rfl hl.1 rfl (lv_room (Nat.le_of_ble_eq_true rfl)) d_Co_arrange_83 ⟨Nat.zero_le _, Nat.zero_le _⟩) hS (fun q _ h => hFc q h) hFc (fun u9 t9 H9 locs ht9 hvm9 hw9 hB9 hz9 hk9 hS => ?_)
          obtain ⟨hP1, hK1, hD1⟩ := hB9
          rw [ht9] at hP1
          try dsimp only at hw9
          obtain ⟨hP, hD⟩ := va_join (wr := [(aw, .inr (1, [.ref hcc, .ref hcn])), (hcc, .inl (ccc, 501, .inl (nF (ccF k n cc)))), (hcn, .inl (ccn, 501, .inl (nF (neF (ccF k n cc) cn (i + 1))))), (h, .inr (4, [.ref hk, .ref ht, .int (nI n)])), (hk, .inl (ck, 150, .inl k)), (hpn, .inl (cpn, 150, .inl (nF pn)))]) (w1 := [(aq, .inr (6, [.ref htf, .int (nI ((ctN (ccF k n cc) tn i) + 1))])), (htf, .inl (ctf, 450, .inl (tadd (ctF (ccF k n cc) (leastF k n) tn tf i) (ctN (ccF k n cc) tn i) (nI 3) ((leastF k n) + (nI i)) (nI ((ccF k n cc) i)))))]) hP hD [6, 7] [0, 1, 2, 3, 4, 5] rfl rfl (by decide) (by decide) hk9 hFc hP1 hD1
          generalize H9 = H at hP hS ⊢
          have hP : va_P DD vwCl [(aw, .inr (1, [.ref hcc, .ref hcn])), (hcc, .inl (ccc, 501, .inl (nF (ccF k n cc)))), (hcn, .inl (ccn, 501, .inl (nF (neF (ccF k n cc) cn (i + 1))))), (h, .inr (4, [.ref hk, .ref ht, .int (nI n)])), (hk, .inl (ck, 150, .inl k)), (hpn, .inl (cpn, 150, .inl (nF pn))), (aq, .inr (6, [.ref htf, .int (nI ((ctN (ccF k n cc) tn i) + 1))])), (htf, .inl (ctf, 450, .inl (tadd (ctF (ccF k n cc) (leastF k n) tn tf i) (ctN (ccF k n cc) tn i) (nI 3) ((leastF k n) + (nI i)) (nI ((ccF k n cc) i)))))] H := hP
          have hD : va_D A [(aw, .inr (1, [.ref hcc, .ref hcn])), (hcc, .inl (ccc, 501, .inl (nF (ccF k n cc)))), (hcn, .inl (ccn, 501, .inl (nF (neF (ccF k n cc) cn (i + 1))))), (h, .inr (4, [.ref hk, .ref ht, .int (nI n)])), (hk, .inl (ck, 150, .inl k)), (hpn, .inl (cpn, 150, .inl (nF pn))), (aq, .inr (6, [.ref htf, .int (nI ((ctN (ccF k n cc) tn i) + 1))])), (htf, .inl (ctf, 450, .inl (tadd (ctF (ccF k n cc) (leastF k n) tn tf i) (ctN (ccF k n cc) tn i) (nI 3) ((leastF k n) + (nI i)) (nI ((ccF k n cc) i)))))] := hD
          rw [show tadd (ctF (ccF k n cc) (leastF k n) tn tf i) (ctN (ccF k n cc) tn i) (nI 3) ((leastF k n) + (nI i)) (nI ((ccF k n cc) i)) = ctF (ccF k n cc) (leastF k n) tn tf (i + 1) from (if_pos c_66).symm] at hP hD
          rw [show nI ((ctN (ccF k n cc) tn i) + 1) = nI (ctN (ccF k n cc) tn (i + 1)) from congrArg nI (if_pos c_66).symm] at hP hD
          refine lv_iinc (v := nI (i + 1)) (lv' := [(7, .int (nI (i + 1))), (6, .int (nI ((sumF (ccF k n cc) i) + ((ccF k n cc) i)))), (0, .ref aw), (1, .ref h), (2, .ref hpn), (3, .ref aq), (4, .int (leastF k n)), (5, .int (nI (spF k n)))]) hx hb d_Co_arrange_86 hl (k := 7) rfl (by exact nI_add i 1) (by decide) rfl (fun ls hl => ?_)
          refine lv_goto (tgt := 30) hx hb d_Co_arrange_89 (by decide) ?_
          exact ih30 (i + 1) (by omega) (by omega) _ _ hP hD hS ls (lv_sub hl [2, 3, 4, 5, 6, 7, 1, 0] rfl)
  refine lv_aload_n hx hb d_Co_arrange_0 rfl (lv_at hl 1 rfl) ?_
  have hPc := hP.sub (ws' := [(h, .inr (4, [.ref hk, .ref ht, .int (nI n)])), (hk, .inl (ck, 150, .inl k))]) [3, 4] rfl
  have hKc := hK.sub (tys' := [(ck, .int)]) [2] rfl
  refine vp_callSi (W.runV (As := []) (rest := []) ⟨hx, hb, hml, hown, hg⟩ (c_Ro_leastKey l DD h hk ht ck n k (by omega)) (cwV 0 hg (gi_V mw_199 mw_200 mw_201 mw_2 mw_202) rfl rfl rfl (by decide +kernel) ⟨Nat.le_of_ble_eq_true rfl, Nat.le_of_ble_eq_true rfl⟩) ⟨z_blind, va_recv hKc hPc (ci := 4) (q0 := 0) rfl rfl, z_pre hPc hKc⟩ rfl rfl hl.1 rfl (lv_room (Nat.le_of_ble_eq_true rfl)) d_Co_arrange_1 ⟨Nat.zero_le _, Nat.zero_le _⟩) (fun r_1 hr_1 => ?_)
  subst hr_1
  refine lv_istore (lv' := [(4, .int (leastF k n)), (0, .ref aw), (1, .ref h), (2, .ref hpn), (3, .ref aq)]) hx hb d_Co_arrange_4 hl (by decide) rfl (fun ls hl => ?_)
  refine lv_aload_n hx hb d_Co_arrange_6 rfl (lv_at hl 2 rfl) ?_
  have hPc := hP.sub (ws' := [(h, .inr (4, [.ref hk, .ref ht, .int (nI n)])), (hk, .inl (ck, 150, .inl k))]) [3, 4] rfl
  have hKc := hK.sub (tys' := [(ck, .int)]) [2] rfl
  refine vp_callSi (W.runV (As := []) (rest := []) ⟨hx, hb, hml, hown, hg⟩ (c_Ro_greatestKey l DD h hk ht ck n k (by omega)) (cwV 0 hg (gi_V mw_192 mw_193 mw_194 mw_2 mw_195) rfl rfl rfl (by decide +kernel) ⟨Nat.le_of_ble_eq_true rfl, Nat.le_of_ble_eq_true rfl⟩) ⟨z_blind, va_recv hKc hPc (ci := 4) (q0 := 0) rfl rfl, z_pre hPc hKc⟩ rfl rfl hl.1 rfl (lv_room (Nat.le_of_ble_eq_true rfl)) d_Co_arrange_7 ⟨Nat.zero_le _, Nat.zero_le _⟩) (fun r_7 hr_7 => ?_)
  subst hr_7
  refine lv_iload hx hb d_Co_arrange_10 (lv_at hl 0 rfl) ?_
  refine lv_isub hx hb d_Co_arrange_12 ?_
  rw [show (greatF k n) - (leastF k n) = nI (spF k n) from sp_eq hfit]
  refine lv_istore (lv' := [(5, .int (nI (spF k n))), (4, .int (leastF k n)), (0, .ref aw), (1, .ref h), (2, .ref hpn), (3, .ref aq)]) hx hb d_Co_arrange_13 hl (by decide) rfl (fun ls hl => ?_)
  refine lv_aload_n hx hb d_Co_arrange_15 rfl (lv_at hl 2 rfl) ?_
  refine lv_aload_n hx hb d_Co_arrange_16 rfl (lv_at hl 3 rfl) ?_
  refine lv_iload hx hb d_Co_arrange_17 (lv_at hl 1 rfl) ?_
  refine lv_iload hx hb d_Co_arrange_19 (lv_at hl 0 rfl) ?_
  have hPc := hP.sub (ws' := [(aw, .inr (1, [.ref hcc, .ref hcn])), (hcc, .inl (ccc, 501, .inl (nF cc))), (h, .inr (4, [.ref hk, .ref ht, .int (nI n)])), (hk, .inl (ck, 150, .inl k))]) [0, 1, 3, 4] rfl
  have hKc := hK.sub (tys' := [(ccc, .int), (ck, .int)]) [0, 2] rfl
  have hDc := hD.sub (ws' := [(aw, .inr (1, [.ref hcc, .ref hcn])), (hcc, .inl (ccc, 501, .inl (nF cc))), (h, .inr (4, [.ref hk, .ref ht, .int (nI n)])), (hk, .inl (ck, 150, .inl k))]) [0, 1, 3, 4] (by decide) rfl
  have hFc := va_free (wc := [(aw, .inr (1, [.ref hcc, .ref hcn])), (hcc, .inl (ccc, 501, .inl (nF cc))), (h, .inr (4, [.ref hk, .ref ht, .int (nI n)])), (hk, .inl (ck, 150, .inl k))]) hD hS hA [0, 1, 3, 4] rfl
  refine va_callv (va_runV (As := [.ref h, .int (leastF k n), .int (nI (spF k n))]) (rest := []) ⟨hx, hb, hml, hown, hg⟩ (c_Co_countKeys l DD s.heap.size aw hcc ccc cc hcn h hk ck k ht n (leastF k n) (spF k n) (by omega) (by omega) (by exact kd_ok hfit)) (cwV 3 hg (gi_V mw_564 mw_566 ms_Co_countKeys mw_9 mw_567) rfl rfl rfl (by decide +kernel) ⟨Nat.le_of_ble_eq_true rfl, Nat.le_of_ble_eq_true rfl⟩) ⟨z_blindQ, va_recv hKc hPc (ci := 1) (q0 := 0) rfl rfl, z_preQ hPc hKc hDc⟩ rfl rfl hl.1 rfl (lv_room (Nat.le_of_ble_eq_true rfl)) d_Co_arrange_21 ⟨Nat.zero_le _, Nat.zero_le _⟩) hS (fun q _ h => hFc q h) hFc (fun u9 t9 H9 locs ht9 hvm9 hw9 hB9 hz9 hk9 hS => ?_)
  obtain ⟨hP1, hK1, hD1⟩ := hB9
  rw [ht9] at hP1
  try dsimp only at hw9
  obtain ⟨hP, hD⟩ := va_join (wr := [(hcn, .inl (ccn, 501, .inl (nF cn))), (hpn, .inl (cpn, 150, .inl (nF pn))), (aq, .inr (6, [.ref htf, .int (nI tn)])), (htf, .inl (ctf, 450, .inl tf))]) (w1 := [(aw, .inr (1, [.ref hcc, .ref hcn])), (hcc, .inl (ccc, 501, .inl (nF (coF (zeF cc ((spF k n) + 1)) (kdF k (leastF k n)) n)))), (h, .inr (4, [.ref hk, .ref ht, .int (nI n)])), (hk, .inl (ck, 150, .inl k))]) hP hD [0, 1, 3, 4] [2, 5, 6, 7] rfl rfl (by decide) (by decide) hk9 hFc hP1 hD1
  generalize H9 = H at hP hS ⊢
  have hP : va_P DD vwCl [(hcn, .inl (ccn, 501, .inl (nF cn))), (hpn, .inl (cpn, 150, .inl (nF pn))), (aq, .inr (6, [.ref htf, .int (nI tn)])), (htf, .inl (ctf, 450, .inl tf)), (aw, .inr (1, [.ref hcc, .ref hcn])), (hcc, .inl (ccc, 501, .inl (nF (coF (zeF cc ((spF k n) + 1)) (kdF k (leastF k n)) n)))), (h, .inr (4, [.ref hk, .ref ht, .int (nI n)])), (hk, .inl (ck, 150, .inl k))] H := hP
  have hD : va_D A [(hcn, .inl (ccn, 501, .inl (nF cn))), (hpn, .inl (cpn, 150, .inl (nF pn))), (aq, .inr (6, [.ref htf, .int (nI tn)])), (htf, .inl (ctf, 450, .inl tf)), (aw, .inr (1, [.ref hcc, .ref hcn])), (hcc, .inl (ccc, 501, .inl (nF (coF (zeF cc ((spF k n) + 1)) (kdF k (leastF k n)) n)))), (h, .inr (4, [.ref hk, .ref ht, .int (nI n)])), (hk, .inl (ck, 150, .inl k))] := hD
  rw [show coF (zeF cc ((spF k n) + 1)) (kdF k (leastF k n)) n = ccF k n cc from rfl] at hP hD
  rw [show cn = neF (ccF k n cc) cn 0 from rfl] at hP hD
  rw [show tf = ctF (ccF k n cc) (leastF k n) tn tf 0 from rfl] at hP hD
  rw [show nI tn = nI (ctN (ccF k n cc) tn 0) from rfl] at hP hD
  refine lv_iconst (v := nI 0) hx hb d_Co_arrange_24 (by decide) ?_
  refine lv_istore (lv' := [(6, .int (nI 0)), (5, .int (nI (spF k n))), (4, .int (leastF k n)), (0, .ref aw), (1, .ref h), (2, .ref hpn), (3, .ref aq)]) hx hb d_Co_arrange_25 hl (by decide) rfl (fun ls hl => ?_)
  refine lv_iconst (v := nI 0) hx hb d_Co_arrange_27 (by decide) ?_
  refine lv_istore (lv' := [(7, .int (nI 0)), (6, .int (nI 0)), (5, .int (nI (spF k n))), (4, .int (leastF k n)), (0, .ref aw), (1, .ref h), (2, .ref hpn), (3, .ref aq)]) hx hb d_Co_arrange_28 hl (by decide) rfl (fun ls hl => ?_)
  exact K30 _ 0 (by omega) (Nat.lt_succ_self _) _ _ (hP.sub [4, 5, 0, 6, 7, 1, 2, 3] rfl) (hD.sub [4, 5, 0, 6, 7, 1, 2, 3] (by decide) rfl) hS ls (lv_sub hl [4, 5, 6, 7, 3, 2, 1, 0] rfl)
