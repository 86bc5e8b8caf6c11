theorem d_Ro_size_0 : decode b_Ro_size 0 = .ok (.aload_n 0, 1) := by decide +kernel
theorem d_Ro_size_1 : decode b_Ro_size 1 = .ok (.getfield 18, 3) := by decide +kernel
theorem d_Ro_size_4 : decode b_Ro_size 4 = .ok (.ireturn, 1) := by decide +kernel
abbrev ws_Ro_size : List Cond := .code y_Ro_size b_Ro_size 1 (some .int) :: ALLG
abbrev rm_Ro_size : Room := { frames := 0, cells := 0, slots := 0, locals := 0 }
set_option maxHeartbeats 4000000 in
set_option maxRecDepth 100000 in
theorem c_Ro_size (l : Launch) (DD : va_G) (h : Nat) (hk : Nat) (ht : Nat) (ck : ClassId) (n : Nat) (k : Nat → Int32) : Met l y_Ro_size ws_Ro_size rm_Ro_size (va_Pc [.ref h] (fun U => va_P DD vwCl [(h, .inr (4, [.ref hk, .ref ht, .int (nI n)])), (hk, .inl (ck, 150, .inl k))] U.heap ∧ va_K DD vwCl [(ck, .int)] U)) (vp_Si (fun r9 => r9 = nI n)) 0 0 (fun _ => False) := by
  refine Met.ofW (cc := b_Ro_size) (maxL := 1) (ret := (some .int)) (by decide) rfl ?_
  intro p e s m args below meth c s₁ B hml hv
  obtain ⟨ha, hP, hK⟩ := hv
  have hx := B.exec
  have hb := B.bytes
  have hr := B.returns
  have hts := atoms_spec (ws := ws_Ro_size) B.pre
  have hg : ∀ w ∈ ALLG, w.before args s = true := fun w h => hts w (List.mem_cons_of_mem _ h)
  have hown : s.vm.findClass R_Ro = some m.cls := findClass_of_methodNamed B.named
  have hlocks := B.notSynchronized
  have hP : va_P DD vwCl [(h, .inr (4, [.ref hk, .ref ht, .int (nI n)])), (hk, .inl (ck, 150, .inl k))] s.heap := hP
  have hl := lv_entry ([.ref h]) (n := 1) (Nat.le_of_ble_eq_true rfl)
  rw [ha, lg_entry_eq, ← ha]
  generalize (lg_sl ([.ref h]) ++ List.replicate (1 - (lg_sl ([.ref h])).length) Slot.unset).toArray = ls at hl ⊢
  have hl : lv_has ls 1 [(0, .ref h)] := hl
  refine lv_aload_n hx hb d_Ro_size_0 rfl (lv_at hl 0 rfl) ?_
  refine va_get (D := DD) (ci := 4) (v := .int (nI n)) (C := R_Ro) (T := T_Ro) (N := 3) hx hb hg in_Ro hown hK hP 0 rfl rfl 2 (by decide) (hg _ mw_37) (fun _ h9 => h9) rfl d_Ro_size_1 ?_
  exact W.iret (v := nI n) hx hb hr (fun t9 ht9 hW9 => ⟨_, rfl, rfl, ht9⟩) (fun _ h => nomatch h) d_Ro_size_4
theorem d_Ro_isFull_0 : decode b_Ro_isFull 0 = .ok (.aload_n 0, 1) := by decide +kernel
theorem d_Ro_isFull_1 : decode b_Ro_isFull 1 = .ok (.getfield 18, 3) := by decide +kernel
theorem d_Ro_isFull_4 : decode b_Ro_isFull 4 = .ok (.sipush 150, 3) := by decide +kernel
theorem d_Ro_isFull_7 : decode b_Ro_isFull 7 = .ok (.if_icmp .lt 7, 3) := by decide +kernel
theorem d_Ro_isFull_10 : decode b_Ro_isFull 10 = .ok (.iconst 1, 1) := by decide +kernel
theorem d_Ro_isFull_11 : decode b_Ro_isFull 11 = .ok (.goto 4, 3) := by decide +kernel
theorem d_Ro_isFull_14 : decode b_Ro_isFull 14 = .ok (.iconst 0, 1) := by decide +kernel
theorem d_Ro_isFull_15 : decode b_Ro_isFull 15 = .ok (.ireturn, 1) := by decide +kernel
abbrev ws_Ro_isFull : List Cond := .code y_Ro_isFull b_Ro_isFull 1 (some .boolean) :: ALLG
abbrev rm_Ro_isFull : Room := { frames := 0, cells := 0, slots := 0, locals := 0 }
set_option maxHeartbeats 4000000 in
set_option maxRecDepth 100000 in
theorem c_Ro_isFull (l : Launch) (DD : va_G) (h : Nat) (hk : Nat) (ht : Nat) (ck : ClassId) (n : Nat) (k : Nat → Int32) (hn : n ≤ 150) : Met l y_Ro_isFull ws_Ro_isFull rm_Ro_isFull (va_Pc [.ref h] (fun U => va_P DD vwCl [(h, .inr (4, [.ref hk, .ref ht, .int (nI n)])), (hk, .inl (ck, 150, .inl k))] U.heap ∧ va_K DD vwCl [(ck, .int)] U)) (vp_Si (fun r9 => r9 = zb (decide (150 ≤ n)))) 0 0 (fun _ => False) := by
  refine Met.ofW (cc := b_Ro_isFull) (maxL := 1) (ret := (some .boolean)) (by decide) rfl ?_
  intro p e s m args below meth c s₁ B hml hv
  obtain ⟨ha, hP, hK⟩ := hv
  have hx := B.exec
  have hb := B.bytes
  have hr := B.returns
  have hts := atoms_spec (ws := ws_Ro_isFull) B.pre
  have hg : ∀ w ∈ ALLG, w.before args s = true := fun w h => hts w (List.mem_cons_of_mem _ h)
  have hown : s.vm.findClass R_Ro = some m.cls := findClass_of_methodNamed B.named
  have hlocks := B.notSynchronized
  have hP : va_P DD vwCl [(h, .inr (4, [.ref hk, .ref ht, .int (nI n)])), (hk, .inl (ck, 150, .inl k))] s.heap := hP
  have hl := lv_entry ([.ref h]) (n := 1) (Nat.le_of_ble_eq_true rfl)
  rw [ha, lg_entry_eq, ← ha]
  generalize (lg_sl ([.ref h]) ++ List.replicate (1 - (lg_sl ([.ref h])).length) Slot.unset).toArray = ls at hl ⊢
  have hl : lv_has ls 1 [(0, .ref h)] := hl
  refine lv_aload_n hx hb d_Ro_isFull_0 rfl (lv_at hl 0 rfl) ?_
  refine va_get (D := DD) (ci := 4) (v := .int (nI n)) (C := R_Ro) (T := T_Ro) (N := 3) hx hb hg in_Ro hown hK hP 0 rfl rfl 2 (by decide) (hg _ mw_37) (fun _ h9 => h9) rfl d_Ro_isFull_1 ?_
  refine lv_sipush (v := nI 150) hx hb d_Ro_isFull_4 (by decide) ?_
  refine z_icmp_lt (tgt := 14) hx hb d_Ro_isFull_7 (by decide) (by omega) (by omega) (fun c_7 => ?_) (fun c_7 => ?_)
  · refine lv_iconst (v := nI 0) hx hb d_Ro_isFull_14 (by decide) ?_
    exact W.zret (v := nI 0) hx hb hr (by rfl) (fun t9 ht9 hW9 => ⟨_, rfl, (by first | exact zb_t (decide_eq_true c_7) | exact zb_f (decide_eq_false (by omega))), ht9⟩) (fun _ h => nomatch h) d_Ro_isFull_15
  · refine lv_iconst (v := nI 1) hx hb d_Ro_isFull_10 (by decide) ?_
    refine lv_goto (tgt := 15) hx hb d_Ro_isFull_11 (by decide) ?_
    exact W.zret (v := nI 1) hx hb hr (by rfl) (fun t9 ht9 hW9 => ⟨_, rfl, (by first | exact zb_t (decide_eq_true c_7) | exact zb_f (decide_eq_false (by omega))), ht9⟩) (fun _ h => nomatch h) d_Ro_isFull_15
theorem d_Ro_has_0 : decode b_Ro_has 0 = .ok (.iload_n 1, 1) := by decide +kernel
theorem d_Ro_has_1 : decode b_Ro_has 1 = .ok (.ifCond .lt 15, 3) := by decide +kernel
theorem d_Ro_has_4 : decode b_Ro_has 4 = .ok (.iload_n 1, 1) := by decide +kernel
theorem d_Ro_has_5 : decode b_Ro_has 5 = .ok (.aload_n 0, 1) := by decide +kernel
theorem d_Ro_has_6 : decode b_Ro_has 6 = .ok (.getfield 18, 3) := by decide +kernel
theorem d_Ro_has_9 : decode b_Ro_has 9 = .ok (.if_icmp .ge 7, 3) := by decide +kernel
theorem d_Ro_has_12 : decode b_Ro_has 12 = .ok (.iconst 1, 1) := by decide +kernel
theorem d_Ro_has_13 : decode b_Ro_has 13 = .ok (.goto 4, 3) := by decide +kernel
theorem d_Ro_has_16 : decode b_Ro_has 16 = .ok (.iconst 0, 1) := by decide +kernel
theorem d_Ro_has_17 : decode b_Ro_has 17 = .ok (.ireturn, 1) := by decide +kernel
abbrev ws_Ro_has : List Cond := .code y_Ro_has b_Ro_has 2 (some .boolean) :: ALLG
abbrev rm_Ro_has : Room := { frames := 0, cells := 0, slots := 0, locals := 0 }
set_option maxHeartbeats 4000000 in
set_option maxRecDepth 100000 in
theorem c_Ro_has (l : Launch) (DD : va_G) (h : Nat) (hk : Nat) (ht : Nat) (ck : ClassId) (n : Nat) (k : Nat → Int32) (x : Int32) (hn : n ≤ 150) : Met l y_Ro_has ws_Ro_has rm_Ro_has (va_Pc [.ref h, .int x] (fun U => va_P DD vwCl [(h, .inr (4, [.ref hk, .ref ht, .int (nI n)])), (hk, .inl (ck, 150, .inl k))] U.heap ∧ va_K DD vwCl [(ck, .int)] U)) (vp_Si (fun r9 => r9 = zb (hasB x n))) 0 0 (fun _ => False) := by
  refine Met.ofW (cc := b_Ro_has) (maxL := 2) (ret := (some .boolean)) (by decide) rfl ?_
  intro p e s m args below meth c s₁ B hml hv
  obtain ⟨ha, hP, hK⟩ := hv
  have hx := B.exec
  have hb := B.bytes
  have hr := B.returns
  have hts := atoms_spec (ws := ws_Ro_has) B.pre
  have hg : ∀ w ∈ ALLG, w.before args s = true := fun w h => hts w (List.mem_cons_of_mem _ h)
  have hown : s.vm.findClass R_Ro = some m.cls := findClass_of_methodNamed B.named
  have hlocks := B.notSynchronized
  have hP : va_P DD vwCl [(h, .inr (4, [.ref hk, .ref ht, .int (nI n)])), (hk, .inl (ck, 150, .inl k))] s.heap := hP
  have hl := lv_entry ([.ref h, .int x]) (n := 2) (Nat.le_of_ble_eq_true rfl)
  rw [ha, lg_entry_eq, ← ha]
  generalize (lg_sl ([.ref h, .int x]) ++ List.replicate (2 - (lg_sl ([.ref h, .int x])).length) Slot.unset).toArray = ls at hl ⊢
  have hl : lv_has ls 2 [(0, .ref h), (1, .int x)] := hl
  refine lv_iload_n hx hb d_Ro_has_0 rfl (lv_at hl 1 rfl) ?_
  refine lv_if_lt (tgt := 16) hx hb d_Ro_has_1 (by decide) (fun c_1 => ?_) (fun c_1 => ?_)
  · refine lv_iconst (v := nI 0) hx hb d_Ro_has_16 (by decide) ?_
    exact W.zret (v := nI 0) hx hb hr (by rfl) (fun t9 ht9 hW9 => ⟨_, rfl, (by first | exact hasB_t (by omega) c_1 c_9 | exact hasB_f2 (by omega) c_9 | exact hasB_f1 c_1), ht9⟩) (fun _ h => nomatch h) d_Ro_has_17
  · refine lv_iload_n hx hb d_Ro_has_4 rfl (lv_at hl 1 rfl) ?_
    refine lv_aload_n hx hb d_Ro_has_5 rfl (lv_at hl 0 rfl) ?_
    refine va_get (D := DD) (ci := 4) (v := .int (nI n)) (C := R_Ro) (T := T_Ro) (N := 3) hx hb hg in_Ro hown hK hP 0 rfl rfl 2 (by decide) (hg _ mw_37) (fun _ h9 => h9) rfl d_Ro_has_6 ?_
    refine lv_icmp_ge (tgt := 16) hx hb d_Ro_has_9 (by decide) (fun c_9 => ?_) (fun c_9 => ?_)
    · refine lv_iconst (v := nI 0) hx hb d_Ro_has_16 (by decide) ?_
      exact W.zret (v := nI 0) hx hb hr (by rfl) (fun t9 ht9 hW9 => ⟨_, rfl, (by first | exact hasB_t (by omega) c_1 c_9 | exact hasB_f2 (by omega) c_9 | exact hasB_f1 c_1), ht9⟩) (fun _ h => nomatch h) d_Ro_has_17
    · refine lv_iconst (v := nI 1) hx hb d_Ro_has_12 (by decide) ?_
      refine lv_goto (tgt := 17) hx hb d_Ro_has_13 (by decide) ?_
      exact W.zret (v := nI 1) hx hb hr (by rfl) (fun t9 ht9 hW9 => ⟨_, rfl, (by first | exact hasB_t (by omega) c_1 c_9 | exact hasB_f2 (by omega) c_9 | exact hasB_f1 c_1), ht9⟩) (fun _ h => nomatch h) d_Ro_has_17
theorem d_Ro_key_0 : decode b_Ro_key 0 = .ok (.aload_n 0, 1) := by decide +kernel
theorem d_Ro_key_1 : decode b_Ro_key 1 = .ok (.getfield 9, 3) := by decide +kernel
theorem d_Ro_key_4 : decode b_Ro_key 4 = .ok (.iload_n 1, 1) := by decide +kernel
theorem d_Ro_key_5 : decode b_Ro_key 5 = .ok (.iaload, 1) := by decide +kernel
theorem d_Ro_key_6 : decode b_Ro_key 6 = .ok (.ireturn, 1) := by decide +kernel
abbrev ws_Ro_key : List Cond := .code y_Ro_key b_Ro_key 2 (some .int) :: ALLG
abbrev rm_Ro_key : Room := { frames := 0, cells := 0, slots := 0, locals := 0 }
set_option maxHeartbeats 4000000 in
set_option maxRecDepth 100000 in
theorem c_Ro_key (l : Launch) (DD : va_G) (h : Nat) (hk : Nat) (ht : Nat) (ck : ClassId) (n : Nat) (k : Nat → Int32) (j : Nat) (hj : j < 150) : Met l y_Ro_key ws_Ro_key rm_Ro_key (va_Pc [.ref h, .int (nI j)] (fun U => va_P DD vwCl [(h, .inr (4, [.ref hk, .ref ht, .int (nI n)])), (hk, .inl (ck, 150, .inl k))] U.heap ∧ va_K DD vwCl [(ck, .int)] U)) (vp_Si (fun r9 => r9 = k j)) 0 0 (fun _ => False) := by
  refine Met.ofW (cc := b_Ro_key) (maxL := 2) (ret := (some .int)) (by decide) rfl ?_
  intro p e s m args below meth c s₁ B hml hv
  obtain ⟨ha, hP, hK⟩ := hv
  have hx := B.exec
  have hb := B.bytes
  have hr := B.returns
  have hts := atoms_spec (ws := ws_Ro_key) B.pre
  have hg : ∀ w ∈ ALLG, w.before args s = true := fun w h => hts w (List.mem_cons_of_mem _ h)
  have hown : s.vm.findClass R_Ro = some m.cls := findClass_of_methodNamed B.named
  have hlocks := B.notSynchronized
  have hP : va_P DD vwCl [(h, .inr (4, [.ref hk, .ref ht, .int (nI n)])), (hk, .inl (ck, 150, .inl k))] s.heap := hP
  have hl := lv_entry ([.ref h, .int (nI j)]) (n := 2) (Nat.le_of_ble_eq_true rfl)
  rw [ha, lg_entry_eq, ← ha]
  generalize (lg_sl ([.ref h, .int (nI j)]) ++ List.replicate (2 - (lg_sl ([.ref h, .int (nI j)])).length) Slot.unset).toArray = ls at hl ⊢
  have hl : lv_has ls 2 [(0, .ref h), (1, .int (nI j))] := hl
  refine lv_aload_n hx hb d_Ro_key_0 rfl (lv_at hl 0 rfl) ?_
  refine va_get (D := DD) (ci := 4) (v := .ref hk) (C := R_Ro) (T := T_Ro) (N := 3) hx hb hg in_Ro hown hK hP 0 rfl rfl 0 (by decide) (hg _ mw_35) (fun _ h9 => h9) rfl d_Ro_key_1 ?_
  refine lv_iload_n hx hb d_Ro_key_4 rfl (lv_at hl 1 rfl) ?_
  refine z_iald hx hb hK hP 1 0 rfl rfl (by omega) (by decide) d_Ro_key_5 ?_
  exact W.iret (v := k j) hx hb hr (fun t9 ht9 hW9 => ⟨_, rfl, rfl, ht9⟩) (fun _ h => nomatch h) d_Ro_key_6
theorem d_Ro_tag_0 : decode b_Ro_tag 0 = .ok (.aload_n 0, 1) := by decide +kernel
theorem d_Ro_tag_1 : decode b_Ro_tag 1 = .ok (.getfield 15, 3) := by decide +kernel
theorem d_Ro_tag_4 : decode b_Ro_tag 4 = .ok (.iload_n 1, 1) := by decide +kernel
theorem d_Ro_tag_5 : decode b_Ro_tag 5 = .ok (.iaload, 1) := by decide +kernel
theorem d_Ro_tag_6 : decode b_Ro_tag 6 = .ok (.ireturn, 1) := by decide +kernel
abbrev ws_Ro_tag : List Cond := .code y_Ro_tag b_Ro_tag 2 (some .int) :: ALLG
abbrev rm_Ro_tag : Room := { frames := 0, cells := 0, slots := 0, locals := 0 }
set_option maxHeartbeats 4000000 in
set_option maxRecDepth 100000 in
theorem c_Ro_tag (l : Launch) (DD : va_G) (h : Nat) (hk : Nat) (ht : Nat) (ck : ClassId) (n : Nat) (k : Nat → Int32) (ct : ClassId) (t : Nat → Int32) (j : Nat) (hj : j < 150) : Met l y_Ro_tag ws_Ro_tag rm_Ro_tag (va_Pc [.ref h, .int (nI j)] (fun U => va_P DD vwCl [(h, .inr (4, [.ref hk, .ref ht, .int (nI n)])), (hk, .inl (ck, 150, .inl k)), (ht, .inl (ct, 150, .inl t))] U.heap ∧ va_K DD vwCl [(ck, .int), (ct, .int)] U)) (vp_Si (fun r9 => r9 = t j)) 0 0 (fun _ => False) := by
  refine Met.ofW (cc := b_Ro_tag) (maxL := 2) (ret := (some .int)) (by decide) rfl ?_
  intro p e s m args below meth c s₁ B hml hv
  obtain ⟨ha, hP, hK⟩ := hv
  have hx := B.exec
  have hb := B.bytes
  have hr := B.returns
  have hts := atoms_spec (ws := ws_Ro_tag) B.pre
  have hg : ∀ w ∈ ALLG, w.before args s = true := fun w h => hts w (List.mem_cons_of_mem _ h)
  have hown : s.vm.findClass R_Ro = some m.cls := findClass_of_methodNamed B.named
  have hlocks := B.notSynchronized
  have hP : va_P DD vwCl [(h, .inr (4, [.ref hk, .ref ht, .int (nI n)])), (hk, .inl (ck, 150, .inl k)), (ht, .inl (ct, 150, .inl t))] s.heap := hP
  have hl := lv_entry ([.ref h, .int (nI j)]) (n := 2) (Nat.le_of_ble_eq_true rfl)
  rw [ha, lg_entry_eq, ← ha]
  generalize (lg_sl ([.ref h, .int (nI j)]) ++ List.replicate (2 - (lg_sl ([.ref h, .int (nI j)])).length) Slot.unset).toArray = ls at hl ⊢
  have hl : lv_has ls 2 [(0, .ref h), (1, .int (nI j))] := hl
  refine lv_aload_n hx hb d_Ro_tag_0 rfl (lv_at hl 0 rfl) ?_
  refine va_get (D := DD) (ci := 4) (v := .ref ht) (C := R_Ro) (T := T_Ro) (N := 3) hx hb hg in_Ro hown hK hP 0 rfl rfl 1 (by decide) (hg _ mw_36) (fun _ h9 => h9) rfl d_Ro_tag_1 ?_
  refine lv_iload_n hx hb d_Ro_tag_4 rfl (lv_at hl 1 rfl) ?_
  refine z_iald hx hb hK hP 2 1 rfl rfl (by omega) (by decide) d_Ro_tag_5 ?_
  exact W.iret (v := t j) hx hb hr (fun t9 ht9 hW9 => ⟨_, rfl, rfl, ht9⟩) (fun _ h => nomatch h) d_Ro_tag_6
theorem d_Ro_dropsBefore_0 : decode b_Ro_dropsBefore 0 = .ok (.iload_n 1, 1) := by decide +kernel
theorem d_Ro_dropsBefore_1 : decode b_Ro_dropsBefore 1 = .ok (.ifCond .le 24, 3) := by decide +kernel
theorem d_Ro_dropsBefore_4 : decode b_Ro_dropsBefore 4 = .ok (.aload_n 0, 1) := by decide +kernel
theorem d_Ro_dropsBefore_5 : decode b_Ro_dropsBefore 5 = .ok (.getfield 9, 3) := by decide +kernel
theorem d_Ro_dropsBefore_8 : decode b_Ro_dropsBefore 8 = .ok (.iload_n 1, 1) := by decide +kernel
theorem d_Ro_dropsBefore_9 : decode b_Ro_dropsBefore 9 = .ok (.iconst 1, 1) := by decide +kernel
theorem d_Ro_dropsBefore_10 : decode b_Ro_dropsBefore 10 = .ok (.isub, 1) := by decide +kernel
theorem d_Ro_dropsBefore_11 : decode b_Ro_dropsBefore 11 = .ok (.iaload, 1) := by decide +kernel
theorem d_Ro_dropsBefore_12 : decode b_Ro_dropsBefore 12 = .ok (.aload_n 0, 1) := by decide +kernel
theorem d_Ro_dropsBefore_13 : decode b_Ro_dropsBefore 13 = .ok (.getfield 9, 3) := by decide +kernel
theorem d_Ro_dropsBefore_16 : decode b_Ro_dropsBefore 16 = .ok (.iload_n 1, 1) := by decide +kernel
theorem d_Ro_dropsBefore_17 : decode b_Ro_dropsBefore 17 = .ok (.iaload, 1) := by decide +kernel
theorem d_Ro_dropsBefore_18 : decode b_Ro_dropsBefore 18 = .ok (.if_icmp .le 7, 3) := by decide +kernel
theorem d_Ro_dropsBefore_21 : decode b_Ro_dropsBefore 21 = .ok (.iconst 1, 1) := by decide +kernel
theorem d_Ro_dropsBefore_22 : decode b_Ro_dropsBefore 22 = .ok (.goto 4, 3) := by decide +kernel
theorem d_Ro_dropsBefore_25 : decode b_Ro_dropsBefore 25 = .ok (.iconst 0, 1) := by decide +kernel
theorem d_Ro_dropsBefore_26 : decode b_Ro_dropsBefore 26 = .ok (.ireturn, 1) := by decide +kernel
abbrev ws_Ro_dropsBefore : List Cond := .code y_Ro_dropsBefore b_Ro_dropsBefore 2 (some .boolean) :: ALLG
abbrev rm_Ro_dropsBefore : Room := { frames := 0, cells := 0, slots := 0, locals := 0 }
set_option maxHeartbeats 4000000 in
set_option maxRecDepth 100000 in
theorem c_Ro_dropsBefore (l : Launch) (DD : va_G) (h : Nat) (hk : Nat) (ht : Nat) (ck : ClassId) (n : Nat) (k : Nat → Int32) (j : Nat) (hj : j < 150) : Met l y_Ro_dropsBefore ws_Ro_dropsBefore rm_Ro_dropsBefore (va_Pc [.ref h, .int (nI j)] (fun U => va_P DD vwCl [(h, .inr (4, [.ref hk, .ref ht, .int (nI n)])), (hk, .inl (ck, 150, .inl k))] U.heap ∧ va_K DD vwCl [(ck, .int)] U)) (vp_Si (fun r9 => r9 = zb (dropB k j))) 0 0 (fun _ => False) := by
  refine Met.ofW (cc := b_Ro_dropsBefore) (maxL := 2) (ret := (some .boolean)) (by decide) rfl ?_
  intro p e s m args below meth c s₁ B hml hv
  obtain ⟨ha, hP, hK⟩ := hv
  have hx := B.exec
  have hb := B.bytes
  have hr := B.returns
  have hts := atoms_spec (ws := ws_Ro_dropsBefore) B.pre
  have hg : ∀ w ∈ ALLG, w.before args s = true := fun w h => hts w (List.mem_cons_of_mem _ h)
  have hown : s.vm.findClass R_Ro = some m.cls := findClass_of_methodNamed B.named
  have hlocks := B.notSynchronized
  have hP : va_P DD vwCl [(h, .inr (4, [.ref hk, .ref ht, .int (nI n)])), (hk, .inl (ck, 150, .inl k))] s.heap := hP
  have hl := lv_entry ([.ref h, .int (nI j)]) (n := 2) (Nat.le_of_ble_eq_true rfl)
  rw [ha, lg_entry_eq, ← ha]
  generalize (lg_sl ([.ref h, .int (nI j)]) ++ List.replicate (2 - (lg_sl ([.ref h, .int (nI j)])).length) Slot.unset).toArray = ls at hl ⊢
  have hl : lv_has ls 2 [(0, .ref h), (1, .int (nI j))] := hl
  refine lv_iload_n hx hb d_Ro_dropsBefore_0 rfl (lv_at hl 1 rfl) ?_
  refine z_if_le (tgt := 25) hx hb d_Ro_dropsBefore_1 (by decide) (by omega) (fun c_1 => ?_) (fun c_1 => ?_)
  · refine lv_iconst (v := nI 0) hx hb d_Ro_dropsBefore_25 (by decide) ?_
    exact W.zret (v := nI 0) hx hb hr (by rfl) (fun t9 ht9 hW9 => ⟨_, rfl, (by first | exact dropB_t c_1 c_18 | exact dropB_f c_18 | exact dropB_f0 c_1), ht9⟩) (fun _ h => nomatch h) d_Ro_dropsBefore_26
  · refine lv_aload_n hx hb d_Ro_dropsBefore_4 rfl (lv_at hl 0 rfl) ?_
    refine va_get (D := DD) (ci := 4) (v := .ref hk) (C := R_Ro) (T := T_Ro) (N := 3) hx hb hg in_Ro hown hK hP 0 rfl rfl 0 (by decide) (hg _ mw_35) (fun _ h9 => h9) rfl d_Ro_dropsBefore_5 ?_
    refine lv_iload_n hx hb d_Ro_dropsBefore_8 rfl (lv_at hl 1 rfl) ?_
    refine lv_iconst (v := nI 1) hx hb d_Ro_dropsBefore_9 (by decide) ?_
    refine z_isub hx hb d_Ro_dropsBefore_10 (by omega) ?_
    refine z_iald hx hb hK hP 1 0 rfl rfl (by omega) (by decide) d_Ro_dropsBefore_11 ?_
    refine lv_aload_n hx hb d_Ro_dropsBefore_12 rfl (lv_at hl 0 rfl) ?_
    refine va_get (D := DD) (ci := 4) (v := .ref hk) (C := R_Ro) (T := T_Ro) (N := 3) hx hb hg in_Ro hown hK hP 0 rfl rfl 0 (by decide) (hg _ mw_35) (fun _ h9 => h9) rfl d_Ro_dropsBefore_13 ?_
    refine lv_iload_n hx hb d_Ro_dropsBefore_16 rfl (lv_at hl 1 rfl) ?_
    refine z_iald hx hb hK hP 1 0 rfl rfl (by omega) (by decide) d_Ro_dropsBefore_17 ?_
    refine lv_icmp_le (tgt := 25) hx hb d_Ro_dropsBefore_18 (by decide) (fun c_18 => ?_) (fun c_18 => ?_)
    · refine lv_iconst (v := nI 0) hx hb d_Ro_dropsBefore_25 (by decide) ?_
      exact W.zret (v := nI 0) hx hb hr (by rfl) (fun t9 ht9 hW9 => ⟨_, rfl, (by first | exact dropB_t c_1 c_18 | exact dropB_f c_18 | exact dropB_f0 c_1), ht9⟩) (fun _ h => nomatch h) d_Ro_dropsBefore_26
    · refine lv_iconst (v := nI 1) hx hb d_Ro_dropsBefore_21 (by decide) ?_
      refine lv_goto (tgt := 26) hx hb d_Ro_dropsBefore_22 (by decide) ?_
      exact W.zret (v := nI 1) hx hb hr (by rfl) (fun t9 ht9 hW9 => ⟨_, rfl, (by first | exact dropB_t c_1 c_18 | exact dropB_f c_18 | exact dropB_f0 c_1), ht9⟩) (fun _ h => nomatch h) d_Ro_dropsBefore_26
theorem d_Ro_drops_0 : decode b_Ro_drops 0 = .ok (.iconst 0, 1) := by decide +kernel
theorem d_Ro_drops_1 : decode b_Ro_drops 1 = .ok (.istore_n 1, 1) := by decide +kernel
theorem d_Ro_drops_2 : decode b_Ro_drops 2 = .ok (.iconst 1, 1) := by decide +kernel
theorem d_Ro_drops_3 : decode b_Ro_drops 3 = .ok (.istore_n 2, 1) := by decide +kernel
theorem d_Ro_drops_4 : decode b_Ro_drops 4 = .ok (.iload_n 2, 1) := by decide +kernel
theorem d_Ro_drops_5 : decode b_Ro_drops 5 = .ok (.aload_n 0, 1) := by decide +kernel
theorem d_Ro_drops_6 : decode b_Ro_drops 6 = .ok (.getfield 18, 3) := by decide +kernel
theorem d_Ro_drops_9 : decode b_Ro_drops 9 = .ok (.if_icmp .ge 20, 3) := by decide +kernel
theorem d_Ro_drops_12 : decode b_Ro_drops 12 = .ok (.aload_n 0, 1) := by decide +kernel
theorem d_Ro_drops_13 : decode b_Ro_drops 13 = .ok (.iload_n 2, 1) := by decide +kernel
theorem d_Ro_drops_14 : decode b_Ro_drops 14 = .ok (.invokevirtual 50, 3) := by decide +kernel
theorem d_Ro_drops_17 : decode b_Ro_drops 17 = .ok (.ifCond .eq 6, 3) := by decide +kernel
theorem d_Ro_drops_20 : decode b_Ro_drops 20 = .ok (.iinc 1 1, 3) := by decide +kernel
theorem d_Ro_drops_23 : decode b_Ro_drops 23 = .ok (.iinc 2 1, 3) := by decide +kernel
theorem d_Ro_drops_26 : decode b_Ro_drops 26 = .ok (.goto (-22), 3) := by decide +kernel
theorem d_Ro_drops_29 : decode b_Ro_drops 29 = .ok (.iload_n 1, 1) := by decide +kernel
theorem d_Ro_drops_30 : decode b_Ro_drops 30 = .ok (.ireturn, 1) := by decide +kernel
abbrev ws_Ro_drops : List Cond := .code y_Ro_drops b_Ro_drops 3 (some .int) :: ALLG
abbrev rm_Ro_drops : Room := { frames := 1, cells := 0, slots := 0, locals := 21 }
set_option maxHeartbeats 4000000 in
set_option maxRecDepth 100000 in
theorem c_Ro_drops (l : Launch) (DD : va_G) (h : Nat) (hk : Nat) (ht : Nat) (ck : ClassId) (n : Nat) (k : Nat → Int32) (hn : n ≤ 150) : Met l y_Ro_drops ws_Ro_drops rm_Ro_drops (va_Pc [.ref h] (fun U => va_P DD vwCl [(h, .inr (4, [.ref hk, .ref ht, .int (nI n)])), (hk, .inl (ck, 150, .inl k))] U.heap ∧ va_K DD vwCl [(ck, .int)] U)) (vp_Si (fun r9 => r9 = nI (cnt (dropB k) n))) 0 0 (fun _ => False) := by
  refine Met.ofW (cc := b_Ro_drops) (maxL := 3) (ret := (some .int)) (by decide) rfl ?_
  intro p e s m args below meth c s₁ B hml hv
  obtain ⟨ha, hP, hK⟩ := hv
  have hx := B.exec
  have hb := B.bytes
  have hr := B.returns
  have hts := atoms_spec (ws := ws_Ro_drops) B.pre
  have hg : ∀ w ∈ ALLG, w.before args s = true := fun w h => hts w (List.mem_cons_of_mem _ h)
  have hown : s.vm.findClass R_Ro = some m.cls := findClass_of_methodNamed B.named
  have hlocks := B.notSynchronized
  have hP : va_P DD vwCl [(h, .inr (4, [.ref hk, .ref ht, .int (nI n)])), (hk, .inl (ck, 150, .inl k))] s.heap := hP
  have hl := lv_entry ([.ref h]) (n := 3) (Nat.le_of_ble_eq_true rfl)
  rw [ha, lg_entry_eq, ← ha]
  generalize (lg_sl ([.ref h]) ++ List.replicate (3 - (lg_sl ([.ref h])).length) Slot.unset).toArray = ls at hl ⊢
  have hl : lv_has ls 3 [(0, .ref h)] := hl
  have K4 : ∀ (kk : Nat) (i : Nat) (q : Nat), (hi : 1 ≤ i) → (hin : i ≤ n ∨ (i = 1 ∧ n = 0)) → (hc : q = cnt (dropB k) i) → n - i < kk → ∀ (ls : Array Slot), lv_has ls 3 [(0, .ref h), (1, .int (nI q)), (2, .int (nI i))] → W p l e (headSpec ws_Ro_drops rm_Ro_drops).room s m args below meth c s.heap [] 0 0 (MQ below (vp_Si (fun r9 => r9 = nI (cnt (dropB k) n))) args s 0 0 (fun _ => False)) (F0 m 4 ls []) := by
    intro kk
    induction kk with
    | zero => intros; omega
    | succ kk ih4 =>
      intro i q hi hin hc hkk ls hl
      refine lv_iload_n hx hb d_Ro_drops_4 rfl (lv_at hl 2 rfl) ?_
      refine lv_aload_n hx hb d_Ro_drops_5 rfl (lv_at hl 0 rfl) ?_
      refine va_get (D := DD) (ci := 4) (v := .int (nI n)) (C := R_Ro) (T := T_Ro) (N := 3) hx hb hg in_Ro hown hK hP 0 rfl rfl 2 (by decide) (hg _ mw_37) (fun _ h9 => h9) rfl d_Ro_drops_6 ?_
      refine z_icmp_ge (tgt := 29) hx hb d_Ro_drops_9 (by decide) (by omega) (by omega) (fun c_9 => ?_) (fun c_9 => ?_)
      · refine lv_iload_n hx hb d_Ro_drops_29 rfl (lv_at hl 1 rfl) ?_
        exact W.iret (v := nI q) hx hb hr (fun t9 ht9 hW9 => ⟨_, rfl, (by exact congrArg nI (one_exit (dropB_0 k) hc c_9 hin)), ht9⟩) (fun _ h => nomatch h) d_Ro_drops_30
      · refine lv_aload_n hx hb d_Ro_drops_12 rfl (lv_at hl 0 rfl) ?_
        refine lv_iload_n hx hb d_Ro_drops_13 rfl (lv_at hl 2 rfl) ?_
        have hPc := hP.sub (ws' := [(h, .inr (4, [.ref hk, .ref ht, .int (nI n)])), (hk, .inl (ck, 150, .inl k))]) [0, 1] rfl
        have hKc := hK.sub (tys' := [(ck, .int)]) [0] rfl
        refine vp_callSi (W.runV (As := [.int (nI i)]) (rest := []) ⟨hx, hb, hml, hown, hg⟩ (c_Ro_dropsBefore l DD h hk ht ck n k i (by omega)) (cwV 1 hg (gi_V mw_224 mw_225 mw_226 mw_2 mw_227) rfl rfl rfl (by decide +kernel) ⟨Nat.le_of_ble_eq_true rfl, Nat.le_of_ble_eq_true rfl⟩) ⟨z_blind, va_recv hKc hPc (ci := 4) (q0 := 0) rfl rfl, z_pre hPc hKc⟩ rfl rfl hl.1 rfl (lv_room (Nat.le_of_ble_eq_true rfl)) d_Ro_drops_14 ⟨Nat.zero_le _, Nat.zero_le _⟩) (fun r_14 hr_14 => ?_)
        subst hr_14
        refine z_ifb_eq (tgt := 23) hx hb d_Ro_drops_17 (by decide) (fun c_17 => ?_) (fun c_17 => ?_)
        · refine lv_iinc (v := nI (i + 1)) (lv' := [(2, .int (nI (i + 1))), (0, .ref h), (1, .int (nI q))]) hx hb d_Ro_drops_23 hl (k := 2) rfl (by exact nI_add i 1) (by decide) rfl (fun ls hl => ?_)
          refine lv_goto (tgt := 4) hx hb d_Ro_drops_26 (by decide) ?_
          exact ih4 (i + 1) q (by omega) (by omega) (by first | exact cnt_t hc c_17 | exact cnt_f hc c_17) (by omega) ls (lv_sub hl [1, 2, 0] rfl)
        · refine lv_iinc (v := nI (q + 1)) (lv' := [(1, .int (nI (q + 1))), (0, .ref h), (2, .int (nI i))]) hx hb d_Ro_drops_20 hl (k := 1) rfl (by exact nI_add q 1) (by decide) rfl (fun ls hl => ?_)
          refine lv_iinc (v := nI (i + 1)) (lv' := [(2, .int (nI (i + 1))), (1, .int (nI (q + 1))), (0, .ref h)]) hx hb d_Ro_drops_23 hl (k := 2) rfl (by exact nI_add i 1) (by decide) rfl (fun ls hl => ?_)
          refine lv_goto (tgt := 4) hx hb d_Ro_drops_26 (by decide) ?_
          exact ih4 (i + 1) (q + 1) (by omega) (by omega) (by first | exact cnt_t hc c_17 | exact cnt_f hc c_17) (by omega) ls (lv_sub hl [2, 1, 0] rfl)
  refine lv_iconst (v := nI 0) hx hb d_Ro_drops_0 (by decide) ?_
  refine lv_istore_n (lv' := [(1, .int (nI 0)), (0, .ref h)]) hx hb d_Ro_drops_1 rfl hl (by decide) rfl (fun ls hl => ?_)
  refine lv_iconst (v := nI 1) hx hb d_Ro_drops_2 (by decide) ?_
  refine lv_istore_n (lv' := [(2, .int (nI 1)), (1, .int (nI 0)), (0, .ref h)]) hx hb d_Ro_drops_3 rfl hl (by decide) rfl (fun ls hl => ?_)
  exact K4 _ 1 0 (by omega) (by omega) (by rfl) (Nat.lt_succ_self _) ls (lv_sub hl [2, 1, 0] rfl)
theorem d_Ro_runs_0 : decode b_Ro_runs 0 = .ok (.aload_n 0, 1) := by decide +kernel
theorem d_Ro_runs_1 : decode b_Ro_runs 1 = .ok (.getfield 18, 3) := by decide +kernel
theorem d_Ro_runs_4 : decode b_Ro_runs 4 = .ok (.ifCond .ne 7, 3) := by decide +kernel
theorem d_Ro_runs_7 : decode b_Ro_runs 7 = .ok (.iconst 0, 1) := by decide +kernel
theorem d_Ro_runs_8 : decode b_Ro_runs 8 = .ok (.goto 9, 3) := by decide +kernel
theorem d_Ro_runs_11 : decode b_Ro_runs 11 = .ok (.aload_n 0, 1) := by decide +kernel
theorem d_Ro_runs_12 : decode b_Ro_runs 12 = .ok (.invokevirtual 41, 3) := by decide +kernel
theorem d_Ro_runs_15 : decode b_Ro_runs 15 = .ok (.iconst 1, 1) := by decide +kernel
theorem d_Ro_runs_16 : decode b_Ro_runs 16 = .ok (.iadd, 1) := by decide +kernel
theorem d_Ro_runs_17 : decode b_Ro_runs 17 = .ok (.ireturn, 1) := by decide +kernel
abbrev ws_Ro_runs : List Cond := .code y_Ro_runs b_Ro_runs 1 (some .int) :: ALLG
abbrev rm_Ro_runs : Room := { frames := 2, cells := 0, slots := 0, locals := 43 }
set_option maxHeartbeats 4000000 in
set_option maxRecDepth 100000 in
theorem c_Ro_runs (l : Launch) (DD : va_G) (h : Nat) (hk : Nat) (ht : Nat) (ck : ClassId) (n : Nat) (k : Nat → Int32) (hn : n ≤ 150) : Met l y_Ro_runs ws_Ro_runs rm_Ro_runs (va_Pc [.ref h] (fun U => va_P DD vwCl [(h, .inr (4, [.ref hk, .ref ht, .int (nI n)])), (hk, .inl (ck, 150, .inl k))] U.heap ∧ va_K DD vwCl [(ck, .int)] U)) (vp_Si (fun r9 => r9 = nI (runsF k n))) 0 0 (fun _ => False) := by
  refine Met.ofW (cc := b_Ro_runs) (maxL := 1) (ret := (some .int)) (by decide) rfl ?_
  intro p e s m args below meth c s₁ B hml hv
  obtain ⟨ha, hP, hK⟩ := hv
  have hx := B.exec
  have hb := B.bytes
  have hr := B.returns
  have hts := atoms_spec (ws := ws_Ro_runs) B.pre
  have hg : ∀ w ∈ ALLG, w.before args s = true := fun w h => hts w (List.mem_cons_of_mem _ h)
  have hown : s.vm.findClass R_Ro = some m.cls := findClass_of_methodNamed B.named
  have hlocks := B.notSynchronized
  have hP : va_P DD vwCl [(h, .inr (4, [.ref hk, .ref ht, .int (nI n)])), (hk, .inl (ck, 150, .inl k))] s.heap := hP
  have hl := lv_entry ([.ref h]) (n := 1) (Nat.le_of_ble_eq_true rfl)
  rw [ha, lg_entry_eq, ← ha]
  generalize (lg_sl ([.ref h]) ++ List.replicate (1 - (lg_sl ([.ref h])).length) Slot.unset).toArray = ls at hl ⊢
  have hl : lv_has ls 1 [(0, .ref h)] := hl
  refine lv_aload_n hx hb d_Ro_runs_0 rfl (lv_at hl 0 rfl) ?_
  refine va_get (D := DD) (ci := 4) (v := .int (nI n)) (C := R_Ro) (T := T_Ro) (N := 3) hx hb hg in_Ro hown hK hP 0 rfl rfl 2 (by decide) (hg _ mw_37) (fun _ h9 => h9) rfl d_Ro_runs_1 ?_
  refine z_if_ne (tgt := 11) hx hb d_Ro_runs_4 (by decide) (by omega) (fun c_4 => ?_) (fun c_4 => ?_)
  · refine lv_aload_n hx hb d_Ro_runs_11 rfl (lv_at hl 0 rfl) ?_
    have hPc := hP.sub (ws' := [(h, .inr (4, [.ref hk, .ref ht, .int (nI n)])), (hk, .inl (ck, 150, .inl k))]) [0, 1] rfl
    have hKc := hK.sub (tys' := [(ck, .int)]) [0] rfl
    refine vp_callSi (W.runV (As := []) (rest := []) ⟨hx, hb, hml, hown, hg⟩ (c_Ro_drops l DD h hk ht ck n k (by omega)) (cwV 0 hg (gi_V mw_241 mw_221 mw_222 mw_2 mw_223) rfl rfl rfl (by decide +kernel) ⟨Nat.le_of_ble_eq_true rfl, Nat.le_of_ble_eq_true rfl⟩) ⟨z_blind, va_recv hKc hPc (ci := 4) (q0 := 0) rfl rfl, z_pre hPc hKc⟩ rfl rfl hl.1 rfl (lv_room (Nat.le_of_ble_eq_true rfl)) d_Ro_runs_12 ⟨Nat.zero_le _, Nat.zero_le _⟩) (fun r_12 hr_12 => ?_)
    subst hr_12
    refine lv_iconst (v := nI 1) hx hb d_Ro_runs_15 (by decide) ?_
    refine z_iadd hx hb d_Ro_runs_16 ?_
    exact W.iret (v := nI ((cnt (dropB k) n) + 1)) hx hb hr (fun t9 ht9 hW9 => ⟨_, rfl, (by first | exact congrArg nI (runs_0 c_4) | exact congrArg nI (runs_p c_4)), ht9⟩) (fun _ h => nomatch h) d_Ro_runs_17
  · refine lv_iconst (v := nI 0) hx hb d_Ro_runs_7 (by decide) ?_
    refine lv_goto (tgt := 17) hx hb d_Ro_runs_8 (by decide) ?_
    exact W.iret (v := nI 0) hx hb hr (fun t9 ht9 hW9 => ⟨_, rfl, (by first | exact congrArg nI (runs_0 c_4) | exact congrArg nI (runs_p c_4)), ht9⟩) (fun _ h => nomatch h) d_Ro_runs_17
theorem d_Ro_falls_0 : decode b_Ro_falls 0 = .ok (.iconst 0, 1) := by decide +kernel
theorem d_Ro_falls_1 : decode b_Ro_falls 1 = .ok (.istore_n 1, 1) := by decide +kernel
theorem d_Ro_falls_2 : decode b_Ro_falls 2 = .ok (.iconst 1, 1) := by decide +kernel
theorem d_Ro_falls_3 : decode b_Ro_falls 3 = .ok (.istore_n 2, 1) := by decide +kernel
theorem d_Ro_falls_4 : decode b_Ro_falls 4 = .ok (.iload_n 2, 1) := by decide +kernel
theorem d_Ro_falls_5 : decode b_Ro_falls 5 = .ok (.aload_n 0, 1) := by decide +kernel
theorem d_Ro_falls_6 : decode b_Ro_falls 6 = .ok (.getfield 18, 3) := by decide +kernel
theorem d_Ro_falls_9 : decode b_Ro_falls 9 = .ok (.if_icmp .ge 30, 3) := by decide +kernel
theorem d_Ro_falls_12 : decode b_Ro_falls 12 = .ok (.aload_n 0, 1) := by decide +kernel
theorem d_Ro_falls_13 : decode b_Ro_falls 13 = .ok (.iload_n 2, 1) := by decide +kernel
theorem d_Ro_falls_14 : decode b_Ro_falls 14 = .ok (.invokevirtual 50, 3) := by decide +kernel
theorem d_Ro_falls_17 : decode b_Ro_falls 17 = .ok (.ifCond .eq 16, 3) := by decide +kernel
theorem d_Ro_falls_20 : decode b_Ro_falls 20 = .ok (.aload_n 0, 1) := by decide +kernel
theorem d_Ro_falls_21 : decode b_Ro_falls 21 = .ok (.iload_n 2, 1) := by decide +kernel
theorem d_Ro_falls_22 : decode b_Ro_falls 22 = .ok (.iconst 1, 1) := by decide +kernel
theorem d_Ro_falls_23 : decode b_Ro_falls 23 = .ok (.isub, 1) := by decide +kernel
theorem d_Ro_falls_24 : decode b_Ro_falls 24 = .ok (.invokevirtual 50, 3) := by decide +kernel
theorem d_Ro_falls_27 : decode b_Ro_falls 27 = .ok (.ifCond .ne 6, 3) := by decide +kernel
theorem d_Ro_falls_30 : decode b_Ro_falls 30 = .ok (.iinc 1 1, 3) := by decide +kernel
theorem d_Ro_falls_33 : decode b_Ro_falls 33 = .ok (.iinc 2 1, 3) := by decide +kernel
theorem d_Ro_falls_36 : decode b_Ro_falls 36 = .ok (.goto (-32), 3) := by decide +kernel
theorem d_Ro_falls_39 : decode b_Ro_falls 39 = .ok (.iload_n 1, 1) := by decide +kernel
theorem d_Ro_falls_40 : decode b_Ro_falls 40 = .ok (.ireturn, 1) := by decide +kernel
abbrev ws_Ro_falls : List Cond := .code y_Ro_falls b_Ro_falls 3 (some .int) :: ALLG
abbrev rm_Ro_falls : Room := { frames := 1, cells := 0, slots := 0, locals := 21 }
set_option maxHeartbeats 4000000 in
set_option maxRecDepth 100000 in
theorem c_Ro_falls (l : Launch) (DD : va_G) (h : Nat) (hk : Nat) (ht : Nat) (ck : ClassId) (n : Nat) (k : Nat → Int32) (hn : n ≤ 150) : Met l y_Ro_falls ws_Ro_falls rm_Ro_falls (va_Pc [.ref h] (fun U => va_P DD vwCl [(h, .inr (4, [.ref hk, .ref ht, .int (nI n)])), (hk, .inl (ck, 150, .inl k))] U.heap ∧ va_K DD vwCl [(ck, .int)] U)) (vp_Si (fun r9 => r9 = nI (cnt (fallB k) n))) 0 0 (fun _ => False) := by
  refine Met.ofW (cc := b_Ro_falls) (maxL := 3) (ret := (some .int)) (by decide) rfl ?_
  intro p e s m args below meth c s₁ B hml hv
  obtain ⟨ha, hP, hK⟩ := hv
  have hx := B.exec
  have hb := B.bytes
  have hr := B.returns
  have hts := atoms_spec (ws := ws_Ro_falls) B.pre
  have hg : ∀ w ∈ ALLG, w.before args s = true := fun w h => hts w (List.mem_cons_of_mem _ h)
  have hown : s.vm.findClass R_Ro = some m.cls := findClass_of_methodNamed B.named
  have hlocks := B.notSynchronized
  have hP : va_P DD vwCl [(h, .inr (4, [.ref hk, .ref ht, .int (nI n)])), (hk, .inl (ck, 150, .inl k))] s.heap := hP
  have hl := lv_entry ([.ref h]) (n := 3) (Nat.le_of_ble_eq_true rfl)
  rw [ha, lg_entry_eq, ← ha]
  generalize (lg_sl ([.ref h]) ++ List.replicate (3 - (lg_sl ([.ref h])).length) Slot.unset).toArray = ls at hl ⊢
  have hl : lv_has ls 3 [(0, .ref h)] := hl
  have K4 : ∀ (kk : Nat) (i : Nat) (q : Nat), (hi : 1 ≤ i) → (hin : i ≤ n ∨ (i = 1 ∧ n = 0)) → (hc : q = cnt (fallB k) i) → n - i < kk → ∀ (ls : Array Slot), lv_has ls 3 [(0, .ref h), (1, .int (nI q)), (2, .int (nI i))] → W p l e (headSpec ws_Ro_falls rm_Ro_falls).room s m args below meth c s.heap [] 0 0 (MQ below (vp_Si (fun r9 => r9 = nI (cnt (fallB k) n))) args s 0 0 (fun _ => False)) (F0 m 4 ls []) := by
    intro kk
    induction kk with
    | zero => intros; omega
    | succ kk ih4 =>
      intro i q hi hin hc hkk ls hl
      refine lv_iload_n hx hb d_Ro_falls_4 rfl (lv_at hl 2 rfl) ?_
      refine lv_aload_n hx hb d_Ro_falls_5 rfl (lv_at hl 0 rfl) ?_
      refine va_get (D := DD) (ci := 4) (v := .int (nI n)) (C := R_Ro) (T := T_Ro) (N := 3) hx hb hg in_Ro hown hK hP 0 rfl rfl 2 (by decide) (hg _ mw_37) (fun _ h9 => h9) rfl d_Ro_falls_6 ?_
      refine z_icmp_ge (tgt := 39) hx hb d_Ro_falls_9 (by decide) (by omega) (by omega) (fun c_9 => ?_) (fun c_9 => ?_)
      · refine lv_iload_n hx hb d_Ro_falls_39 rfl (lv_at hl 1 rfl) ?_
        exact W.iret (v := nI q) hx hb hr (fun t9 ht9 hW9 => ⟨_, rfl, (by exact congrArg nI (one_exit rfl hc c_9 hin)), ht9⟩) (fun _ h => nomatch h) d_Ro_falls_40
      · refine lv_aload_n hx hb d_Ro_falls_12 rfl (lv_at hl 0 rfl) ?_
        refine lv_iload_n hx hb d_Ro_falls_13 rfl (lv_at hl 2 rfl) ?_
        have hPc := hP.sub (ws' := [(h, .inr (4, [.ref hk, .ref ht, .int (nI n)])), (hk, .inl (ck, 150, .inl k))]) [0, 1] rfl
        have hKc := hK.sub (tys' := [(ck, .int)]) [0] rfl
        refine vp_callSi (W.runV (As := [.int (nI i)]) (rest := []) ⟨hx, hb, hml, hown, hg⟩ (c_Ro_dropsBefore l DD h hk ht ck n k i (by omega)) (cwV 1 hg (gi_V mw_224 mw_225 mw_226 mw_2 mw_227) rfl rfl rfl (by decide +kernel) ⟨Nat.le_of_ble_eq_true rfl, Nat.le_of_ble_eq_true rfl⟩) ⟨z_blind, va_recv hKc hPc (ci := 4) (q0 := 0) rfl rfl, z_pre hPc hKc⟩ rfl rfl hl.1 rfl (lv_room (Nat.le_of_ble_eq_true rfl)) d_Ro_falls_14 ⟨Nat.zero_le _, Nat.zero_le _⟩) (fun r_14 hr_14 => ?_)
        subst hr_14
        refine z_ifb_eq (tgt := 33) hx hb d_Ro_falls_17 (by decide) (fun c_17 => ?_) (fun c_17 => ?_)
        · refine lv_iinc (v := nI (i + 1)) (lv' := [(2, .int (nI (i + 1))), (0, .ref h), (1, .int (nI q))]) hx hb d_Ro_falls_33 hl (k := 2) rfl (by exact nI_add i 1) (by decide) rfl (fun ls hl => ?_)
          refine lv_goto (tgt := 4) hx hb d_Ro_falls_36 (by decide) ?_
          exact ih4 (i + 1) q (by omega) (by omega) (by first | exact cnt_t hc (fallB_t c_17 c_27) | exact cnt_f hc (fallB_f2 c_27) | exact cnt_f hc (fallB_f1 c_17)) (by omega) ls (lv_sub hl [1, 2, 0] rfl)
        · refine lv_aload_n hx hb d_Ro_falls_20 rfl (lv_at hl 0 rfl) ?_
          refine lv_iload_n hx hb d_Ro_falls_21 rfl (lv_at hl 2 rfl) ?_
          refine lv_iconst (v := nI 1) hx hb d_Ro_falls_22 (by decide) ?_
          refine z_isub hx hb d_Ro_falls_23 (by omega) ?_
          have hPc := hP.sub (ws' := [(h, .inr (4, [.ref hk, .ref ht, .int (nI n)])), (hk, .inl (ck, 150, .inl k))]) [0, 1] rfl
          have hKc := hK.sub (tys' := [(ck, .int)]) [0] rfl
          refine vp_callSi (W.runV (As := [.int (nI (i - 1))]) (rest := []) ⟨hx, hb, hml, hown, hg⟩ (c_Ro_dropsBefore l DD h hk ht ck n k (i - 1) (by omega)) (cwV 1 hg (gi_V mw_224 mw_225 mw_226 mw_2 mw_227) rfl rfl rfl (by decide +kernel) ⟨Nat.le_of_ble_eq_true rfl, Nat.le_of_ble_eq_true rfl⟩) ⟨z_blind, va_recv hKc hPc (ci := 4) (q0 := 0) rfl rfl, z_pre hPc hKc⟩ rfl rfl hl.1 rfl (lv_room (Nat.le_of_ble_eq_true rfl)) d_Ro_falls_24 ⟨Nat.zero_le _, Nat.zero_le _⟩) (fun r_24 hr_24 => ?_)
          subst hr_24
          refine z_ifb_ne (tgt := 33) hx hb d_Ro_falls_27 (by decide) (fun c_27 => ?_) (fun c_27 => ?_)
          · refine lv_iinc (v := nI (i + 1)) (lv' := [(2, .int (nI (i + 1))), (0, .ref h), (1, .int (nI q))]) hx hb d_Ro_falls_33 hl (k := 2) rfl (by exact nI_add i 1) (by decide) rfl (fun ls hl => ?_)
            refine lv_goto (tgt := 4) hx hb d_Ro_falls_36 (by decide) ?_
            exact ih4 (i + 1) q (by omega) (by omega) (by first | exact cnt_t hc (fallB_t c_17 c_27) | exact cnt_f hc (fallB_f2 c_27) | exact cnt_f hc (fallB_f1 c_17)) (by omega) ls (lv_sub hl [1, 2, 0] rfl)
          · refine lv_iinc (v := nI (q + 1)) (lv' := [(1, .int (nI (q + 1))), (0, .ref h), (2, .int (nI i))]) hx hb d_Ro_falls_30 hl (k := 1) rfl (by exact nI_add q 1) (by decide) rfl (fun ls hl => ?_)
            refine lv_iinc (v := nI (i + 1)) (lv' := [(2, .int (nI (i + 1))), (1, .int (nI (q + 1))), (0, .ref h)]) hx hb d_Ro_falls_33 hl (k := 2) rfl (by exact nI_add i 1) (by decide) rfl (fun ls hl => ?_)
            refine lv_goto (tgt := 4) hx hb d_Ro_falls_36 (by decide) ?_
            exact ih4 (i + 1) (q + 1) (by omega) (by omega) (by first | exact cnt_t hc (fallB_t c_17 c_27) | exact cnt_f hc (fallB_f2 c_27) | exact cnt_f hc (fallB_f1 c_17)) (by omega) ls (lv_sub hl [2, 1, 0] rfl)
  refine lv_iconst (v := nI 0) hx hb d_Ro_falls_0 (by decide) ?_
  refine lv_istore_n (lv' := [(1, .int (nI 0)), (0, .ref h)]) hx hb d_Ro_falls_1 rfl hl (by decide) rfl (fun ls hl => ?_)
  refine lv_iconst (v := nI 1) hx hb d_Ro_falls_2 (by decide) ?_
  refine lv_istore_n (lv' := [(2, .int (nI 1)), (1, .int (nI 0)), (0, .ref h)]) hx hb d_Ro_falls_3 rfl hl (by decide) rfl (fun ls hl => ?_)
  exact K4 _ 1 0 (by omega) (by omega) (by rfl) (Nat.lt_succ_self _) ls (lv_sub hl [2, 1, 0] rfl)
theorem d_Ro_leastKey_0 : decode b_Ro_leastKey 0 = .ok (.aload_n 0, 1) := by decide +kernel
theorem d_Ro_leastKey_1 : decode b_Ro_leastKey 1 = .ok (.getfield 18, 3) := by decide +kernel
theorem d_Ro_leastKey_4 : decode b_Ro_leastKey 4 = .ok (.ifCond .ne 7, 3) := by decide +kernel
theorem d_Ro_leastKey_7 : decode b_Ro_leastKey 7 = .ok (.iconst 0, 1) := by decide +kernel
theorem d_Ro_leastKey_8 : decode b_Ro_leastKey 8 = .ok (.goto 9, 3) := by decide +kernel
theorem d_Ro_leastKey_11 : decode b_Ro_leastKey 11 = .ok (.aload_n 0, 1) := by decide +kernel
theorem d_Ro_leastKey_12 : decode b_Ro_leastKey 12 = .ok (.getfield 9, 3) := by decide +kernel
theorem d_Ro_leastKey_15 : decode b_Ro_leastKey 15 = .ok (.iconst 0, 1) := by decide +kernel
theorem d_Ro_leastKey_16 : decode b_Ro_leastKey 16 = .ok (.iaload, 1) := by decide +kernel
theorem d_Ro_leastKey_17 : decode b_Ro_leastKey 17 = .ok (.istore_n 1, 1) := by decide +kernel
theorem d_Ro_leastKey_18 : decode b_Ro_leastKey 18 = .ok (.iconst 1, 1) := by decide +kernel
theorem d_Ro_leastKey_19 : decode b_Ro_leastKey 19 = .ok (.istore_n 2, 1) := by decide +kernel
theorem d_Ro_leastKey_20 : decode b_Ro_leastKey 20 = .ok (.iload_n 2, 1) := by decide +kernel
theorem d_Ro_leastKey_21 : decode b_Ro_leastKey 21 = .ok (.aload_n 0, 1) := by decide +kernel
theorem d_Ro_leastKey_22 : decode b_Ro_leastKey 22 = .ok (.getfield 18, 3) := by decide +kernel
theorem d_Ro_leastKey_25 : decode b_Ro_leastKey 25 = .ok (.if_icmp .ge 20, 3) := by decide +kernel
theorem d_Ro_leastKey_28 : decode b_Ro_leastKey 28 = .ok (.iload_n 1, 1) := by decide +kernel
theorem d_Ro_leastKey_29 : decode b_Ro_leastKey 29 = .ok (.aload_n 0, 1) := by decide +kernel
theorem d_Ro_leastKey_30 : decode b_Ro_leastKey 30 = .ok (.getfield 9, 3) := by decide +kernel
theorem d_Ro_leastKey_33 : decode b_Ro_leastKey 33 = .ok (.iload_n 2, 1) := by decide +kernel
theorem d_Ro_leastKey_34 : decode b_Ro_leastKey 34 = .ok (.iaload, 1) := by decide +kernel
theorem d_Ro_leastKey_35 : decode b_Ro_leastKey 35 = .ok (.invokestatic 54, 3) := by decide +kernel
theorem d_Ro_leastKey_38 : decode b_Ro_leastKey 38 = .ok (.istore_n 1, 1) := by decide +kernel
theorem d_Ro_leastKey_39 : decode b_Ro_leastKey 39 = .ok (.iinc 2 1, 3) := by decide +kernel
theorem d_Ro_leastKey_42 : decode b_Ro_leastKey 42 = .ok (.goto (-22), 3) := by decide +kernel
theorem d_Ro_leastKey_45 : decode b_Ro_leastKey 45 = .ok (.iload_n 1, 1) := by decide +kernel
theorem d_Ro_leastKey_46 : decode b_Ro_leastKey 46 = .ok (.ireturn, 1) := by decide +kernel
abbrev ws_Ro_leastKey : List Cond := .code y_Ro_leastKey b_Ro_leastKey 3 (some .int) :: ALLG
abbrev rm_Ro_leastKey : Room := { frames := 1, cells := 0, slots := 0, locals := 14 }
set_option maxHeartbeats 4000000 in
set_option maxRecDepth 100000 in
theorem c_Ro_leastKey (l : Launch) (DD : va_G) (h : Nat) (hk : Nat) (ht : Nat) (ck : ClassId) (n : Nat) (k : Nat → Int32) (hn : n ≤ 150) : Met l y_Ro_leastKey ws_Ro_leastKey rm_Ro_leastKey (va_Pc [.ref h] (fun U => va_P DD vwCl [(h, .inr (4, [.ref hk, .ref ht, .int (nI n)])), (hk, .inl (ck, 150, .inl k))] U.heap ∧ va_K DD vwCl [(ck, .int)] U)) (vp_Si (fun r9 => r9 = leastF k n)) 0 0 (fun _ => False) := by
  refine Met.ofW (cc := b_Ro_leastKey) (maxL := 3) (ret := (some .int)) (by decide) rfl ?_
  intro p e s m args below meth c s₁ B hml hv
  obtain ⟨ha, hP, hK⟩ := hv
  have hx := B.exec
  have hb := B.bytes
  have hr := B.returns
  have hts := atoms_spec (ws := ws_Ro_leastKey) B.pre
  have hg : ∀ w ∈ ALLG, w.before args s = true := fun w h => hts w (List.mem_cons_of_mem _ h)
  have hown : s.vm.findClass R_Ro = some m.cls := findClass_of_methodNamed B.named
  have hlocks := B.notSynchronized
  have hP : va_P DD vwCl [(h, .inr (4, [.ref hk, .ref ht, .int (nI n)])), (hk, .inl (ck, 150, .inl k))] s.heap := hP
  have hl := lv_entry ([.ref h]) (n := 3) (Nat.le_of_ble_eq_true rfl)
  rw [ha, lg_entry_eq, ← ha]
  generalize (lg_sl ([.ref h]) ++ List.replicate (3 - (lg_sl ([.ref h])).length) Slot.unset).toArray = ls at hl ⊢
  have hl : lv_has ls 3 [(0, .ref h)] := hl
  have K20 : ∀ (kk : Nat) (i : Nat) (x : Int32), (hi : 1 ≤ i) → (hin : i ≤ n ∨ (i = 1 ∧ n = 0)) → (hc : (n = 0 ∧ x = 0) ∨ (0 < n ∧ x = minF k (i - 1))) → n - i < kk → ∀ (ls : Array Slot), lv_has ls 3 [(0, .ref h), (1, .int x), (2, .int (nI i))] → W p l e (headSpec ws_Ro_leastKey rm_Ro_leastKey).room s m args below meth c s.heap [] 0 0 (MQ below (vp_Si (fun r9 => r9 = leastF k n)) args s 0 0 (fun _ => False)) (F0 m 20 ls []) := by
    intro kk
    induction kk with
    | zero => intros; omega
    | succ kk ih20 =>
      intro i x hi hin hc hkk ls hl
      refine lv_iload_n hx hb d_Ro_leastKey_20 rfl (lv_at hl 2 rfl) ?_
      refine lv_aload_n hx hb d_Ro_leastKey_21 rfl (lv_at hl 0 rfl) ?_
      refine va_get (D := DD) (ci := 4) (v := .int (nI n)) (C := R_Ro) (T := T_Ro) (N := 3) hx hb hg in_Ro hown hK hP 0 rfl rfl 2 (by decide) (hg _ mw_37) (fun _ h9 => h9) rfl d_Ro_leastKey_22 ?_
      refine z_icmp_ge (tgt := 45) hx hb d_Ro_leastKey_25 (by decide) (by omega) (by omega) (fun c_25 => ?_) (fun c_25 => ?_)
      · refine lv_iload_n hx hb d_Ro_leastKey_45 rfl (lv_at hl 1 rfl) ?_
        exact W.iret (v := x) hx hb hr (fun t9 ht9 hW9 => ⟨_, rfl, (by exact min_x c_25 hin hc), ht9⟩) (fun _ h => nomatch h) d_Ro_leastKey_46
      · refine lv_iload_n hx hb d_Ro_leastKey_28 rfl (lv_at hl 1 rfl) ?_
        refine lv_aload_n hx hb d_Ro_leastKey_29 rfl (lv_at hl 0 rfl) ?_
        refine va_get (D := DD) (ci := 4) (v := .ref hk) (C := R_Ro) (T := T_Ro) (N := 3) hx hb hg in_Ro hown hK hP 0 rfl rfl 0 (by decide) (hg _ mw_35) (fun _ h9 => h9) rfl d_Ro_leastKey_30 ?_
        refine lv_iload_n hx hb d_Ro_leastKey_33 rfl (lv_at hl 2 rfl) ?_
        refine z_iald hx hb hK hP 1 0 rfl rfl (by omega) (by decide) d_Ro_leastKey_34 ?_
        refine va_mmin hx hb (hml.trans hl.1.symm) hown (hg _ mw_203) (hg _ mw_204) (hg _ mw_19) (hg _ mw_205) (Nat.le_of_ble_eq_true rfl) (Nat.le_of_ble_eq_true rfl) (Nat.zero_le _) (Nat.zero_le _) d_Ro_leastKey_35 ?_
        refine lv_istore_n (lv' := [(1, .int (if k i < x then k i else x)), (0, .ref h), (2, .int (nI i))]) hx hb d_Ro_leastKey_38 rfl hl (by decide) rfl (fun ls hl => ?_)
        refine lv_iinc (v := nI (i + 1)) (lv' := [(2, .int (nI (i + 1))), (1, .int (if k i < x then k i else x)), (0, .ref h)]) hx hb d_Ro_leastKey_39 hl (k := 2) rfl (by exact nI_add i 1) (by decide) rfl (fun ls hl => ?_)
        refine lv_goto (tgt := 20) hx hb d_Ro_leastKey_42 (by decide) ?_
        exact ih20 (i + 1) (if k i < x then k i else x) (by omega) (by omega) (by exact min_s hi c_25 hc) (by omega) ls (lv_sub hl [2, 1, 0] rfl)
  refine lv_aload_n hx hb d_Ro_leastKey_0 rfl (lv_at hl 0 rfl) ?_
  refine va_get (D := DD) (ci := 4) (v := .int (nI n)) (C := R_Ro) (T := T_Ro) (N := 3) hx hb hg in_Ro hown hK hP 0 rfl rfl 2 (by decide) (hg _ mw_37) (fun _ h9 => h9) rfl d_Ro_leastKey_1 ?_
  refine z_if_ne (tgt := 11) hx hb d_Ro_leastKey_4 (by decide) (by omega) (fun c_4 => ?_) (fun c_4 => ?_)
  · refine lv_aload_n hx hb d_Ro_leastKey_11 rfl (lv_at hl 0 rfl) ?_
    refine va_get (D := DD) (ci := 4) (v := .ref hk) (C := R_Ro) (T := T_Ro) (N := 3) hx hb hg in_Ro hown hK hP 0 rfl rfl 0 (by decide) (hg _ mw_35) (fun _ h9 => h9) rfl d_Ro_leastKey_12 ?_
    refine lv_iconst (v := nI 0) hx hb d_Ro_leastKey_15 (by decide) ?_
    refine z_iald hx hb hK hP 1 0 rfl rfl (by omega) (by decide) d_Ro_leastKey_16 ?_
    refine lv_istore_n (lv' := [(1, .int (k 0)), (0, .ref h)]) hx hb d_Ro_leastKey_17 rfl hl (by decide) rfl (fun ls hl => ?_)
    refine lv_iconst (v := nI 1) hx hb d_Ro_leastKey_18 (by decide) ?_
    refine lv_istore_n (lv' := [(2, .int (nI 1)), (1, .int (k 0)), (0, .ref h)]) hx hb d_Ro_leastKey_19 rfl hl (by decide) rfl (fun ls hl => ?_)
    exact K20 _ 1 (k 0) (by omega) (by omega) (by first | exact Or.inl ⟨c_4, rfl⟩ | exact Or.inr ⟨c_4, rfl⟩) (Nat.lt_succ_self _) ls (lv_sub hl [2, 1, 0] rfl)
  · refine lv_iconst (v := nI 0) hx hb d_Ro_leastKey_7 (by decide) ?_
    refine lv_goto (tgt := 17) hx hb d_Ro_leastKey_8 (by decide) ?_
    refine lv_istore_n (lv' := [(1, .int (nI 0)), (0, .ref h)]) hx hb d_Ro_leastKey_17 rfl hl (by decide) rfl (fun ls hl => ?_)
    refine lv_iconst (v := nI 1) hx hb d_Ro_leastKey_18 (by decide) ?_
    refine lv_istore_n (lv' := [(2, .int (nI 1)), (1, .int (nI 0)), (0, .ref h)]) hx hb d_Ro_leastKey_19 rfl hl (by decide) rfl (fun ls hl => ?_)
    exact K20 _ 1 (nI 0) (by omega) (by omega) (by first | exact Or.inl ⟨c_4, rfl⟩ | exact Or.inr ⟨c_4, rfl⟩) (Nat.lt_succ_self _) ls (lv_sub hl [2, 1, 0] rfl)
theorem d_Ro_greatestKey_0 : decode b_Ro_greatestKey 0 = .ok (.aload_n 0, 1) := by decide +kernel
theorem d_Ro_greatestKey_1 : decode b_Ro_greatestKey 1 = .ok (.getfield 18, 3) := by decide +kernel
theorem d_Ro_greatestKey_4 : decode b_Ro_greatestKey 4 = .ok (.ifCond .ne 7, 3) := by decide +kernel
theorem d_Ro_greatestKey_7 : decode b_Ro_greatestKey 7 = .ok (.iconst 0, 1) := by decide +kernel
theorem d_Ro_greatestKey_8 : decode b_Ro_greatestKey 8 = .ok (.goto 9, 3) := by decide +kernel
theorem d_Ro_greatestKey_11 : decode b_Ro_greatestKey 11 = .ok (.aload_n 0, 1) := by decide +kernel
theorem d_Ro_greatestKey_12 : decode b_Ro_greatestKey 12 = .ok (.getfield 9, 3) := by decide +kernel
theorem d_Ro_greatestKey_15 : decode b_Ro_greatestKey 15 = .ok (.iconst 0, 1) := by decide +kernel
theorem d_Ro_greatestKey_16 : decode b_Ro_greatestKey 16 = .ok (.iaload, 1) := by decide +kernel
theorem d_Ro_greatestKey_17 : decode b_Ro_greatestKey 17 = .ok (.istore_n 1, 1) := by decide +kernel
theorem d_Ro_greatestKey_18 : decode b_Ro_greatestKey 18 = .ok (.iconst 1, 1) := by decide +kernel
theorem d_Ro_greatestKey_19 : decode b_Ro_greatestKey 19 = .ok (.istore_n 2, 1) := by decide +kernel
theorem d_Ro_greatestKey_20 : decode b_Ro_greatestKey 20 = .ok (.iload_n 2, 1) := by decide +kernel
theorem d_Ro_greatestKey_21 : decode b_Ro_greatestKey 21 = .ok (.aload_n 0, 1) := by decide +kernel
theorem d_Ro_greatestKey_22 : decode b_Ro_greatestKey 22 = .ok (.getfield 18, 3) := by decide +kernel
theorem d_Ro_greatestKey_25 : decode b_Ro_greatestKey 25 = .ok (.if_icmp .ge 20, 3) := by decide +kernel
theorem d_Ro_greatestKey_28 : decode b_Ro_greatestKey 28 = .ok (.iload_n 1, 1) := by decide +kernel
theorem d_Ro_greatestKey_29 : decode b_Ro_greatestKey 29 = .ok (.aload_n 0, 1) := by decide +kernel
theorem d_Ro_greatestKey_30 : decode b_Ro_greatestKey 30 = .ok (.getfield 9, 3) := by decide +kernel
theorem d_Ro_greatestKey_33 : decode b_Ro_greatestKey 33 = .ok (.iload_n 2, 1) := by decide +kernel
theorem d_Ro_greatestKey_34 : decode b_Ro_greatestKey 34 = .ok (.iaload, 1) := by decide +kernel
theorem d_Ro_greatestKey_35 : decode b_Ro_greatestKey 35 = .ok (.invokestatic 60, 3) := by decide +kernel
theorem d_Ro_greatestKey_38 : decode b_Ro_greatestKey 38 = .ok (.istore_n 1, 1) := by decide +kernel
theorem d_Ro_greatestKey_39 : decode b_Ro_greatestKey 39 = .ok (.iinc 2 1, 3) := by decide +kernel
theorem d_Ro_greatestKey_42 : decode b_Ro_greatestKey 42 = .ok (.goto (-22), 3) := by decide +kernel
theorem d_Ro_greatestKey_45 : decode b_Ro_greatestKey 45 = .ok (.iload_n 1, 1) := by decide +kernel
theorem d_Ro_greatestKey_46 : decode b_Ro_greatestKey 46 = .ok (.ireturn, 1) := by decide +kernel
abbrev ws_Ro_greatestKey : List Cond := .code y_Ro_greatestKey b_Ro_greatestKey 3 (some .int) :: ALLG
abbrev rm_Ro_greatestKey : Room := { frames := 1, cells := 0, slots := 0, locals := 14 }
set_option maxHeartbeats 4000000 in
set_option maxRecDepth 100000 in
theorem c_Ro_greatestKey (l : Launch) (DD : va_G) (h : Nat) (hk : Nat) (ht : Nat) (ck : ClassId) (n : Nat) (k : Nat → Int32) (hn : n ≤ 150) : Met l y_Ro_greatestKey ws_Ro_greatestKey rm_Ro_greatestKey (va_Pc [.ref h] (fun U => va_P DD vwCl [(h, .inr (4, [.ref hk, .ref ht, .int (nI n)])), (hk, .inl (ck, 150, .inl k))] U.heap ∧ va_K DD vwCl [(ck, .int)] U)) (vp_Si (fun r9 => r9 = greatF k n)) 0 0 (fun _ => False) := by
  refine Met.ofW (cc := b_Ro_greatestKey) (maxL := 3) (ret := (some .int)) (by decide) rfl ?_
  intro p e s m args below meth c s₁ B hml hv
  obtain ⟨ha, hP, hK⟩ := hv
  have hx := B.exec
  have hb := B.bytes
  have hr := B.returns
  have hts := atoms_spec (ws := ws_Ro_greatestKey) B.pre
  have hg : ∀ w ∈ ALLG, w.before args s = true := fun w h => hts w (List.mem_cons_of_mem _ h)
  have hown : s.vm.findClass R_Ro = some m.cls := findClass_of_methodNamed B.named
  have hlocks := B.notSynchronized
  have hP : va_P DD vwCl [(h, .inr (4, [.ref hk, .ref ht, .int (nI n)])), (hk, .inl (ck, 150, .inl k))] s.heap := hP
  have hl := lv_entry ([.ref h]) (n := 3) (Nat.le_of_ble_eq_true rfl)
  rw [ha, lg_entry_eq, ← ha]
  generalize (lg_sl ([.ref h]) ++ List.replicate (3 - (lg_sl ([.ref h])).length) Slot.unset).toArray = ls at hl ⊢
  have hl : lv_has ls 3 [(0, .ref h)] := hl
  have K20 : ∀ (kk : Nat) (i : Nat) (x : Int32), (hi : 1 ≤ i) → (hin : i ≤ n ∨ (i = 1 ∧ n = 0)) → (hc : (n = 0 ∧ x = 0) ∨ (0 < n ∧ x = maxF k (i - 1))) → n - i < kk → ∀ (ls : Array Slot), lv_has ls 3 [(0, .ref h), (1, .int x), (2, .int (nI i))] → W p l e (headSpec ws_Ro_greatestKey rm_Ro_greatestKey).room s m args below meth c s.heap [] 0 0 (MQ below (vp_Si (fun r9 => r9 = greatF k n)) args s 0 0 (fun _ => False)) (F0 m 20 ls []) := by
    intro kk
    induction kk with
    | zero => intros; omega
    | succ kk ih20 =>
      intro i x hi hin hc hkk ls hl
      refine lv_iload_n hx hb d_Ro_greatestKey_20 rfl (lv_at hl 2 rfl) ?_
      refine lv_aload_n hx hb d_Ro_greatestKey_21 rfl (lv_at hl 0 rfl) ?_
      refine va_get (D := DD) (ci := 4) (v := .int (nI n)) (C := R_Ro) (T := T_Ro) (N := 3) hx hb hg in_Ro hown hK hP 0 rfl rfl 2 (by decide) (hg _ mw_37) (fun _ h9 => h9) rfl d_Ro_greatestKey_22 ?_
      refine z_icmp_ge (tgt := 45) hx hb d_Ro_greatestKey_25 (by decide) (by omega) (by omega) (fun c_25 => ?_) (fun c_25 => ?_)
      · refine lv_iload_n hx hb d_Ro_greatestKey_45 rfl (lv_at hl 1 rfl) ?_
        exact W.iret (v := x) hx hb hr (fun t9 ht9 hW9 => ⟨_, rfl, (by exact max_x c_25 hin hc), ht9⟩) (fun _ h => nomatch h) d_Ro_greatestKey_46
      · refine lv_iload_n hx hb d_Ro_greatestKey_28 rfl (lv_at hl 1 rfl) ?_
        refine lv_aload_n hx hb d_Ro_greatestKey_29 rfl (lv_at hl 0 rfl) ?_
        refine va_get (D := DD) (ci := 4) (v := .ref hk) (C := R_Ro) (T := T_Ro) (N := 3) hx hb hg in_Ro hown hK hP 0 rfl rfl 0 (by decide) (hg _ mw_35) (fun _ h9 => h9) rfl d_Ro_greatestKey_30 ?_
        refine lv_iload_n hx hb d_Ro_greatestKey_33 rfl (lv_at hl 2 rfl) ?_
        refine z_iald hx hb hK hP 1 0 rfl rfl (by omega) (by decide) d_Ro_greatestKey_34 ?_
        refine va_mmax hx hb (hml.trans hl.1.symm) hown (hg _ mw_196) (hg _ mw_197) (hg _ mw_19) (hg _ mw_198) (Nat.le_of_ble_eq_true rfl) (Nat.le_of_ble_eq_true rfl) (Nat.zero_le _) (Nat.zero_le _) d_Ro_greatestKey_35 ?_
        refine lv_istore_n (lv' := [(1, .int (if x < k i then k i else x)), (0, .ref h), (2, .int (nI i))]) hx hb d_Ro_greatestKey_38 rfl hl (by decide) rfl (fun ls hl => ?_)
        refine lv_iinc (v := nI (i + 1)) (lv' := [(2, .int (nI (i + 1))), (1, .int (if x < k i then k i else x)), (0, .ref h)]) hx hb d_Ro_greatestKey_39 hl (k := 2) rfl (by exact nI_add i 1) (by decide) rfl (fun ls hl => ?_)
        refine lv_goto (tgt := 20) hx hb d_Ro_greatestKey_42 (by decide) ?_
        exact ih20 (i + 1) (if x < k i then k i else x) (by omega) (by omega) (by exact max_s hi c_25 hc) (by omega) ls (lv_sub hl [2, 1, 0] rfl)
  refine lv_aload_n hx hb d_Ro_greatestKey_0 rfl (lv_at hl 0 rfl) ?_
  refine va_get (D := DD) (ci := 4) (v := .int (nI n)) (C := R_Ro) (T := T_Ro) (N := 3) hx hb hg in_Ro hown hK hP 0 rfl rfl 2 (by decide) (hg _ mw_37) (fun _ h9 => h9) rfl d_Ro_greatestKey_1 ?_
  refine z_if_ne (tgt := 11) hx hb d_Ro_greatestKey_4 (by decide) (by omega) (fun c_4 => ?_) (fun c_4 => ?_)
  · refine lv_aload_n hx hb d_Ro_greatestKey_11 rfl (lv_at hl 0 rfl) ?_
    refine va_get (D := DD) (ci := 4) (v := .ref hk) (C := R_Ro) (T := T_Ro) (N := 3) hx hb hg in_Ro hown hK hP 0 rfl rfl 0 (by decide) (hg _ mw_35) (fun _ h9 => h9) rfl d_Ro_greatestKey_12 ?_
    refine lv_iconst (v := nI 0) hx hb d_Ro_greatestKey_15 (by decide) ?_
    refine z_iald hx hb hK hP 1 0 rfl rfl (by omega) (by decide) d_Ro_greatestKey_16 ?_
    refine lv_istore_n (lv' := [(1, .int (k 0)), (0, .ref h)]) hx hb d_Ro_greatestKey_17 rfl hl (by decide) rfl (fun ls hl => ?_)
    refine lv_iconst (v := nI 1) hx hb d_Ro_greatestKey_18 (by decide) ?_
    refine lv_istore_n (lv' := [(2, .int (nI 1)), (1, .int (k 0)), (0, .ref h)]) hx hb d_Ro_greatestKey_19 rfl hl (by decide) rfl (fun ls hl => ?_)
    exact K20 _ 1 (k 0) (by omega) (by omega) (by first | exact Or.inl ⟨c_4, rfl⟩ | exact Or.inr ⟨c_4, rfl⟩) (Nat.lt_succ_self _) ls (lv_sub hl [2, 1, 0] rfl)
  · refine lv_iconst (v := nI 0) hx hb d_Ro_greatestKey_7 (by decide) ?_
    refine lv_goto (tgt := 17) hx hb d_Ro_greatestKey_8 (by decide) ?_
    refine lv_istore_n (lv' := [(1, .int (nI 0)), (0, .ref h)]) hx hb d_Ro_greatestKey_17 rfl hl (by decide) rfl (fun ls hl => ?_)
    refine lv_iconst (v := nI 1) hx hb d_Ro_greatestKey_18 (by decide) ?_
    refine lv_istore_n (lv' := [(2, .int (nI 1)), (1, .int (nI 0)), (0, .ref h)]) hx hb d_Ro_greatestKey_19 rfl hl (by decide) rfl (fun ls hl => ?_)
    exact K20 _ 1 (nI 0) (by omega) (by omega) (by first | exact Or.inl ⟨c_4, rfl⟩ | exact Or.inr ⟨c_4, rfl⟩) (Nat.lt_succ_self _) ls (lv_sub hl [2, 1, 0] rfl)
theorem d_Ro_inversions_0 : decode b_Ro_inversions 0 = .ok (.iconst 0, 1) := by decide +kernel
theorem d_Ro_inversions_1 : decode b_Ro_inversions 1 = .ok (.istore_n 1, 1) := by decide +kernel
theorem d_Ro_inversions_2 : decode b_Ro_inversions 2 = .ok (.iconst 1, 1) := by decide +kernel
theorem d_Ro_inversions_3 : decode b_Ro_inversions 3 = .ok (.istore_n 2, 1) := by decide +kernel
theorem d_Ro_inversions_4 : decode b_Ro_inversions 4 = .ok (.iload_n 2, 1) := by decide +kernel
theorem d_Ro_inversions_5 : decode b_Ro_inversions 5 = .ok (.aload_n 0, 1) := by decide +kernel
theorem d_Ro_inversions_6 : decode b_Ro_inversions 6 = .ok (.getfield 18, 3) := by decide +kernel
theorem d_Ro_inversions_9 : decode b_Ro_inversions 9 = .ok (.if_icmp .ge 40, 3) := by decide +kernel
theorem d_Ro_inversions_12 : decode b_Ro_inversions 12 = .ok (.iconst 0, 1) := by decide +kernel
theorem d_Ro_inversions_13 : decode b_Ro_inversions 13 = .ok (.istore_n 3, 1) := by decide +kernel
theorem d_Ro_inversions_14 : decode b_Ro_inversions 14 = .ok (.iload_n 3, 1) := by decide +kernel
theorem d_Ro_inversions_15 : decode b_Ro_inversions 15 = .ok (.iload_n 2, 1) := by decide +kernel
theorem d_Ro_inversions_16 : decode b_Ro_inversions 16 = .ok (.if_icmp .ge 27, 3) := by decide +kernel
theorem d_Ro_inversions_19 : decode b_Ro_inversions 19 = .ok (.aload_n 0, 1) := by decide +kernel
theorem d_Ro_inversions_20 : decode b_Ro_inversions 20 = .ok (.getfield 9, 3) := by decide +kernel
theorem d_Ro_inversions_23 : decode b_Ro_inversions 23 = .ok (.iload_n 3, 1) := by decide +kernel
theorem d_Ro_inversions_24 : decode b_Ro_inversions 24 = .ok (.iaload, 1) := by decide +kernel
theorem d_Ro_inversions_25 : decode b_Ro_inversions 25 = .ok (.aload_n 0, 1) := by decide +kernel
theorem d_Ro_inversions_26 : decode b_Ro_inversions 26 = .ok (.getfield 9, 3) := by decide +kernel
theorem d_Ro_inversions_29 : decode b_Ro_inversions 29 = .ok (.iload_n 2, 1) := by decide +kernel
theorem d_Ro_inversions_30 : decode b_Ro_inversions 30 = .ok (.iaload, 1) := by decide +kernel
theorem d_Ro_inversions_31 : decode b_Ro_inversions 31 = .ok (.if_icmp .le 6, 3) := by decide +kernel
theorem d_Ro_inversions_34 : decode b_Ro_inversions 34 = .ok (.iinc 1 1, 3) := by decide +kernel
theorem d_Ro_inversions_37 : decode b_Ro_inversions 37 = .ok (.iinc 3 1, 3) := by decide +kernel
theorem d_Ro_inversions_40 : decode b_Ro_inversions 40 = .ok (.goto (-26), 3) := by decide +kernel
theorem d_Ro_inversions_43 : decode b_Ro_inversions 43 = .ok (.iinc 2 1, 3) := by decide +kernel
theorem d_Ro_inversions_46 : decode b_Ro_inversions 46 = .ok (.goto (-42), 3) := by decide +kernel
theorem d_Ro_inversions_49 : decode b_Ro_inversions 49 = .ok (.iload_n 1, 1) := by decide +kernel
theorem d_Ro_inversions_50 : decode b_Ro_inversions 50 = .ok (.ireturn, 1) := by decide +kernel
abbrev ws_Ro_inversions : List Cond := .code y_Ro_inversions b_Ro_inversions 4 (some .int) :: ALLG
abbrev rm_Ro_inversions : Room := { frames := 0, cells := 0, slots := 0, locals := 0 }
set_option maxHeartbeats 4000000 in
set_option maxRecDepth 100000 in
theorem c_Ro_inversions (l : Launch) (DD : va_G) (h : Nat) (hk : Nat) (ht : Nat) (ck : ClassId) (n : Nat) (k : Nat → Int32) (hn : n ≤ 150) : Met l y_Ro_inversions ws_Ro_inversions rm_Ro_inversions (va_Pc [.ref h] (fun U => va_P DD vwCl [(h, .inr (4, [.ref hk, .ref ht, .int (nI n)])), (hk, .inl (ck, 150, .inl k))] U.heap ∧ va_K DD vwCl [(ck, .int)] U)) (vp_Si (fun r9 => r9 = nI (invF k n))) 0 0 (fun _ => False) := by
  refine Met.ofW (cc := b_Ro_inversions) (maxL := 4) (ret := (some .int)) (by decide) rfl ?_
  intro p e s m args below meth c s₁ B hml hv
  obtain ⟨ha, hP, hK⟩ := hv
  have hx := B.exec
  have hb := B.bytes
  have hr := B.returns
  have hts := atoms_spec (ws := ws_Ro_inversions) B.pre
  have hg : ∀ w ∈ ALLG, w.before args s = true := fun w h => hts w (List.mem_cons_of_mem _ h)
  have hown : s.vm.findClass R_Ro = some m.cls := findClass_of_methodNamed B.named
  have hlocks := B.notSynchronized
  have hP : va_P DD vwCl [(h, .inr (4, [.ref hk, .ref ht, .int (nI n)])), (hk, .inl (ck, 150, .inl k))] s.heap := hP
  have hl := lv_entry ([.ref h]) (n := 4) (Nat.le_of_ble_eq_true rfl)
  rw [ha, lg_entry_eq, ← ha]
  generalize (lg_sl ([.ref h]) ++ List.replicate (4 - (lg_sl ([.ref h])).length) Slot.unset).toArray = ls at hl ⊢
  have hl : lv_has ls 4 [(0, .ref h)] := hl
  have K4 : ∀ (kk : Nat) (i : Nat) (q : Nat), (hi : 1 ≤ i) → (hin : i ≤ n ∨ (i = 1 ∧ n = 0)) → (hc : q = invF k i) → n - i < kk → ∀ (ls : Array Slot), lv_has ls 4 [(0, .ref h), (1, .int (nI q)), (2, .int (nI i))] → W p l e (headSpec ws_Ro_inversions rm_Ro_inversions).room s m args below meth c s.heap [] 0 0 (MQ below (vp_Si (fun r9 => r9 = nI (invF k n))) args s 0 0 (fun _ => False)) (F0 m 4 ls []) := by
    intro kk
    induction kk with
    | zero => intros; omega
    | succ kk ih4 =>
      intro i q hi hin hc hkk ls hl
      have K14 : ∀ (kk : Nat) (j : Nat) (q2 : Nat), (hlt : i < n) → (hj : j ≤ i) → (hq : q2 = invF k i + cnt (invB k i) j) → i - j < kk → ∀ (ls : Array Slot), lv_has ls 4 [(0, .ref h), (1, .int (nI q2)), (2, .int (nI i)), (3, .int (nI j))] → W p l e (headSpec ws_Ro_inversions rm_Ro_inversions).room s m args below meth c s.heap [] 0 0 (MQ below (vp_Si (fun r9 => r9 = nI (invF k n))) args s 0 0 (fun _ => False)) (F0 m 14 ls []) := by
        intro kk
        induction kk with
        | zero => intros; omega
        | succ kk ih14 =>
          intro j q2 hlt hj hq hkk ls hl
          refine lv_iload_n hx hb d_Ro_inversions_14 rfl (lv_at hl 3 rfl) ?_
          refine lv_iload_n hx hb d_Ro_inversions_15 rfl (lv_at hl 2 rfl) ?_
          refine z_icmp_ge (tgt := 43) hx hb d_Ro_inversions_16 (by decide) (by omega) (by omega) (fun c_16 => ?_) (fun c_16 => ?_)
          · refine lv_iinc (v := nI (i + 1)) (lv' := [(2, .int (nI (i + 1))), (0, .ref h), (1, .int (nI q2)), (3, .int (nI j))]) hx hb d_Ro_inversions_43 hl (k := 2) rfl (by exact nI_add i 1) (by decide) rfl (fun ls hl => ?_)
            refine lv_goto (tgt := 4) hx hb d_Ro_inversions_46 (by decide) ?_
            exact ih4 (i + 1) q2 (by omega) (by omega) (by exact inv_x hq c_16 hj) (by omega) ls (lv_sub hl [1, 2, 0] rfl)
          · refine lv_aload_n hx hb d_Ro_inversions_19 rfl (lv_at hl 0 rfl) ?_
            refine va_get (D := DD) (ci := 4) (v := .ref hk) (C := R_Ro) (T := T_Ro) (N := 3) hx hb hg in_Ro hown hK hP 0 rfl rfl 0 (by decide) (hg _ mw_35) (fun _ h9 => h9) rfl d_Ro_inversions_20 ?_
            refine lv_iload_n hx hb d_Ro_inversions_23 rfl (lv_at hl 3 rfl) ?_
            refine z_iald hx hb hK hP 1 0 rfl rfl (by omega) (by decide) d_Ro_inversions_24 ?_
            refine lv_aload_n hx hb d_Ro_inversions_25 rfl (lv_at hl 0 rfl) ?_
            refine va_get (D := DD) (ci := 4) (v := .ref hk) (C := R_Ro) (T := T_Ro) (N := 3) hx hb hg in_Ro hown hK hP 0 rfl rfl 0 (by decide) (hg _ mw_35) (fun _ h9 => h9) rfl d_Ro_inversions_26 ?_
            refine lv_iload_n hx hb d_Ro_inversions_29 rfl (lv_at hl 2 rfl) ?_
            refine z_iald hx hb hK hP 1 0 rfl rfl (by omega) (by decide) d_Ro_inversions_30 ?_
            refine lv_icmp_le (tgt := 37) hx hb d_Ro_inversions_31 (by decide) (fun c_31 => ?_) (fun c_31 => ?_)
            · refine lv_iinc (v := nI (j + 1)) (lv' := [(3, .int (nI (j + 1))), (0, .ref h), (1, .int (nI q2)), (2, .int (nI i))]) hx hb d_Ro_inversions_37 hl (k := 3) rfl (by exact nI_add j 1) (by decide) rfl (fun ls hl => ?_)
              refine lv_goto (tgt := 14) hx hb d_Ro_inversions_40 (by decide) ?_
              exact ih14 (j + 1) q2 (by omega) (by omega) (by first | exact inv_t hq c_31 | exact inv_f hq c_31) (by omega) ls (lv_sub hl [1, 2, 3, 0] rfl)
            · refine lv_iinc (v := nI (q2 + 1)) (lv' := [(1, .int (nI (q2 + 1))), (0, .ref h), (2, .int (nI i)), (3, .int (nI j))]) hx hb d_Ro_inversions_34 hl (k := 1) rfl (by exact nI_add q2 1) (by decide) rfl (fun ls hl => ?_)
              refine lv_iinc (v := nI (j + 1)) (lv' := [(3, .int (nI (j + 1))), (1, .int (nI (q2 + 1))), (0, .ref h), (2, .int (nI i))]) hx hb d_Ro_inversions_37 hl (k := 3) rfl (by exact nI_add j 1) (by decide) rfl (fun ls hl => ?_)
              refine lv_goto (tgt := 14) hx hb d_Ro_inversions_40 (by decide) ?_
              exact ih14 (j + 1) (q2 + 1) (by omega) (by omega) (by first | exact inv_t hq c_31 | exact inv_f hq c_31) (by omega) ls (lv_sub hl [2, 1, 3, 0] rfl)
      refine lv_iload_n hx hb d_Ro_inversions_4 rfl (lv_at hl 2 rfl) ?_
      refine lv_aload_n hx hb d_Ro_inversions_5 rfl (lv_at hl 0 rfl) ?_
      refine va_get (D := DD) (ci := 4) (v := .int (nI n)) (C := R_Ro) (T := T_Ro) (N := 3) hx hb hg in_Ro hown hK hP 0 rfl rfl 2 (by decide) (hg _ mw_37) (fun _ h9 => h9) rfl d_Ro_inversions_6 ?_
      refine z_icmp_ge (tgt := 49) hx hb d_Ro_inversions_9 (by decide) (by omega) (by omega) (fun c_9 => ?_) (fun c_9 => ?_)
      · refine lv_iload_n hx hb d_Ro_inversions_49 rfl (lv_at hl 1 rfl) ?_
        exact W.iret (v := nI q) hx hb hr (fun t9 ht9 hW9 => ⟨_, rfl, (by exact congrArg nI (inv_e hc c_9 hin)), ht9⟩) (fun _ h => nomatch h) d_Ro_inversions_50
      · refine lv_iconst (v := nI 0) hx hb d_Ro_inversions_12 (by decide) ?_
        refine lv_istore_n (lv' := [(3, .int (nI 0)), (0, .ref h), (1, .int (nI q)), (2, .int (nI i))]) hx hb d_Ro_inversions_13 rfl hl (by decide) rfl (fun ls hl => ?_)
        exact K14 _ 0 q (by omega) (by omega) (by exact hc) (Nat.lt_succ_self _) ls (lv_sub hl [1, 2, 3, 0] rfl)
  refine lv_iconst (v := nI 0) hx hb d_Ro_inversions_0 (by decide) ?_
  refine lv_istore_n (lv' := [(1, .int (nI 0)), (0, .ref h)]) hx hb d_Ro_inversions_1 rfl hl (by decide) rfl (fun ls hl => ?_)
  refine lv_iconst (v := nI 1) hx hb d_Ro_inversions_2 (by decide) ?_
  refine lv_istore_n (lv' := [(2, .int (nI 1)), (1, .int (nI 0)), (0, .ref h)]) hx hb d_Ro_inversions_3 rfl hl (by decide) rfl (fun ls hl => ?_)
  exact K4 _ 1 0 (by omega) (by omega) (by rfl) (Nat.lt_succ_self _) ls (lv_sub hl [2, 1, 0] rfl)
theorem d_Ro_isFirstOfItsKey_0 : decode b_Ro_isFirstOfItsKey 0 = .ok (.iconst 0, 1) := by decide +kernel
theorem d_Ro_isFirstOfItsKey_1 : decode b_Ro_isFirstOfItsKey 1 = .ok (.istore_n 2, 1) := by decide +kernel
theorem d_Ro_isFirstOfItsKey_2 : decode b_Ro_isFirstOfItsKey 2 = .ok (.iload_n 2, 1) := by decide +kernel
theorem d_Ro_isFirstOfItsKey_3 : decode b_Ro_isFirstOfItsKey 3 = .ok (.iload_n 1, 1) := by decide +kernel
theorem d_Ro_isFirstOfItsKey_4 : decode b_Ro_isFirstOfItsKey 4 = .ok (.if_icmp .ge 26, 3) := by decide +kernel
theorem d_Ro_isFirstOfItsKey_7 : decode b_Ro_isFirstOfItsKey 7 = .ok (.aload_n 0, 1) := by decide +kernel
theorem d_Ro_isFirstOfItsKey_8 : decode b_Ro_isFirstOfItsKey 8 = .ok (.getfield 9, 3) := by decide +kernel
theorem d_Ro_isFirstOfItsKey_11 : decode b_Ro_isFirstOfItsKey 11 = .ok (.iload_n 2, 1) := by decide +kernel
theorem d_Ro_isFirstOfItsKey_12 : decode b_Ro_isFirstOfItsKey 12 = .ok (.iaload, 1) := by decide +kernel
theorem d_Ro_isFirstOfItsKey_13 : decode b_Ro_isFirstOfItsKey 13 = .ok (.aload_n 0, 1) := by decide +kernel
theorem d_Ro_isFirstOfItsKey_14 : decode b_Ro_isFirstOfItsKey 14 = .ok (.getfield 9, 3) := by decide +kernel
theorem d_Ro_isFirstOfItsKey_17 : decode b_Ro_isFirstOfItsKey 17 = .ok (.iload_n 1, 1) := by decide +kernel
theorem d_Ro_isFirstOfItsKey_18 : decode b_Ro_isFirstOfItsKey 18 = .ok (.iaload, 1) := by decide +kernel
theorem d_Ro_isFirstOfItsKey_19 : decode b_Ro_isFirstOfItsKey 19 = .ok (.if_icmp .ne 5, 3) := by decide +kernel
theorem d_Ro_isFirstOfItsKey_22 : decode b_Ro_isFirstOfItsKey 22 = .ok (.iconst 0, 1) := by decide +kernel
theorem d_Ro_isFirstOfItsKey_23 : decode b_Ro_isFirstOfItsKey 23 = .ok (.ireturn, 1) := by decide +kernel
theorem d_Ro_isFirstOfItsKey_24 : decode b_Ro_isFirstOfItsKey 24 = .ok (.iinc 2 1, 3) := by decide +kernel
theorem d_Ro_isFirstOfItsKey_27 : decode b_Ro_isFirstOfItsKey 27 = .ok (.goto (-25), 3) := by decide +kernel
theorem d_Ro_isFirstOfItsKey_30 : decode b_Ro_isFirstOfItsKey 30 = .ok (.iconst 1, 1) := by decide +kernel
theorem d_Ro_isFirstOfItsKey_31 : decode b_Ro_isFirstOfItsKey 31 = .ok (.ireturn, 1) := by decide +kernel
abbrev ws_Ro_isFirstOfItsKey : List Cond := .code y_Ro_isFirstOfItsKey b_Ro_isFirstOfItsKey 3 (some .boolean) :: ALLG
abbrev rm_Ro_isFirstOfItsKey : Room := { frames := 0, cells := 0, slots := 0, locals := 0 }
set_option maxHeartbeats 4000000 in
set_option maxRecDepth 100000 in
theorem c_Ro_isFirstOfItsKey (l : Launch) (DD : va_G) (h : Nat) (hk : Nat) (ht : Nat) (ck : ClassId) (n : Nat) (k : Nat → Int32) (j : Nat) (hj : j < 150) : Met l y_Ro_isFirstOfItsKey ws_Ro_isFirstOfItsKey rm_Ro_isFirstOfItsKey (va_Pc [.ref h, .int (nI j)] (fun U => va_P DD vwCl [(h, .inr (4, [.ref hk, .ref ht, .int (nI n)])), (hk, .inl (ck, 150, .inl k))] U.heap ∧ va_K DD vwCl [(ck, .int)] U)) (vp_Si (fun r9 => r9 = zb (firstB k j))) 0 0 (fun _ => False) := by
  refine Met.ofW (cc := b_Ro_isFirstOfItsKey) (maxL := 3) (ret := (some .boolean)) (by decide) rfl ?_
  intro p e s m args below meth c s₁ B hml hv
  obtain ⟨ha, hP, hK⟩ := hv
  have hx := B.exec
  have hb := B.bytes
  have hr := B.returns
  have hts := atoms_spec (ws := ws_Ro_isFirstOfItsKey) B.pre
  have hg : ∀ w ∈ ALLG, w.before args s = true := fun w h => hts w (List.mem_cons_of_mem _ h)
  have hown : s.vm.findClass R_Ro = some m.cls := findClass_of_methodNamed B.named
  have hlocks := B.notSynchronized
  have hP : va_P DD vwCl [(h, .inr (4, [.ref hk, .ref ht, .int (nI n)])), (hk, .inl (ck, 150, .inl k))] s.heap := hP
  have hl := lv_entry ([.ref h, .int (nI j)]) (n := 3) (Nat.le_of_ble_eq_true rfl)
  rw [ha, lg_entry_eq, ← ha]
  generalize (lg_sl ([.ref h, .int (nI j)]) ++ List.replicate (3 - (lg_sl ([.ref h, .int (nI j)])).length) Slot.unset).toArray = ls at hl ⊢
  have hl : lv_has ls 3 [(0, .ref h), (1, .int (nI j))] := hl
  have K2 : ∀ (kk : Nat) (i : Nat), (hi : i ≤ j) → (hc : 0 = cnt (eqB k (k j)) i) → j - i < kk → ∀ (ls : Array Slot), lv_has ls 3 [(0, .ref h), (1, .int (nI j)), (2, .int (nI i))] → W p l e (headSpec ws_Ro_isFirstOfItsKey rm_Ro_isFirstOfItsKey).room s m args below meth c s.heap [] 0 0 (MQ below (vp_Si (fun r9 => r9 = zb (firstB k j))) args s 0 0 (fun _ => False)) (F0 m 2 ls []) := by
    intro kk
    induction kk with
    | zero => intros; omega
    | succ kk ih2 =>
      intro i hi hc hkk ls hl
      refine lv_iload_n hx hb d_Ro_isFirstOfItsKey_2 rfl (lv_at hl 2 rfl) ?_
      refine lv_iload_n hx hb d_Ro_isFirstOfItsKey_3 rfl (lv_at hl 1 rfl) ?_
      refine z_icmp_ge (tgt := 30) hx hb d_Ro_isFirstOfItsKey_4 (by decide) (by omega) (by omega) (fun c_4 => ?_) (fun c_4 => ?_)
      · refine lv_iconst (v := nI 1) hx hb d_Ro_isFirstOfItsKey_30 (by decide) ?_
        exact W.zret (v := nI 1) hx hb hr (by rfl) (fun t9 ht9 hW9 => ⟨_, rfl, (by first | exact first_t hc c_4 hi | exact first_f c_4 c_19), ht9⟩) (fun _ h => nomatch h) d_Ro_isFirstOfItsKey_31
      · refine lv_aload_n hx hb d_Ro_isFirstOfItsKey_7 rfl (lv_at hl 0 rfl) ?_
        refine va_get (D := DD) (ci := 4) (v := .ref hk) (C := R_Ro) (T := T_Ro) (N := 3) hx hb hg in_Ro hown hK hP 0 rfl rfl 0 (by decide) (hg _ mw_35) (fun _ h9 => h9) rfl d_Ro_isFirstOfItsKey_8 ?_
        refine lv_iload_n hx hb d_Ro_isFirstOfItsKey_11 rfl (lv_at hl 2 rfl) ?_
        refine z_iald hx hb hK hP 1 0 rfl rfl (by omega) (by decide) d_Ro_isFirstOfItsKey_12 ?_
        refine lv_aload_n hx hb d_Ro_isFirstOfItsKey_13 rfl (lv_at hl 0 rfl) ?_
        refine va_get (D := DD) (ci := 4) (v := .ref hk) (C := R_Ro) (T := T_Ro) (N := 3) hx hb hg in_Ro hown hK hP 0 rfl rfl 0 (by decide) (hg _ mw_35) (fun _ h9 => h9) rfl d_Ro_isFirstOfItsKey_14 ?_
        refine lv_iload_n hx hb d_Ro_isFirstOfItsKey_17 rfl (lv_at hl 1 rfl) ?_
        refine z_iald hx hb hK hP 1 0 rfl rfl (by omega) (by decide) d_Ro_isFirstOfItsKey_18 ?_
        refine lv_icmp_ne (tgt := 24) hx hb d_Ro_isFirstOfItsKey_19 (by decide) (fun c_19 => ?_) (fun c_19 => ?_)
        · refine lv_iinc (v := nI (i + 1)) (lv' := [(2, .int (nI (i + 1))), (0, .ref h), (1, .int (nI j))]) hx hb d_Ro_isFirstOfItsKey_24 hl (k := 2) rfl (by exact nI_add i 1) (by decide) rfl (fun ls hl => ?_)
          refine lv_goto (tgt := 2) hx hb d_Ro_isFirstOfItsKey_27 (by decide) ?_
          exact ih2 (i + 1) (by omega) (by exact eq_f hc c_19) (by omega) ls (lv_sub hl [1, 2, 0] rfl)
        · refine lv_iconst (v := nI 0) hx hb d_Ro_isFirstOfItsKey_22 (by decide) ?_
          exact W.zret (v := nI 0) hx hb hr (by rfl) (fun t9 ht9 hW9 => ⟨_, rfl, (by first | exact first_t hc c_4 hi | exact first_f c_4 c_19), ht9⟩) (fun _ h => nomatch h) d_Ro_isFirstOfItsKey_23
  refine lv_iconst (v := nI 0) hx hb d_Ro_isFirstOfItsKey_0 (by decide) ?_
  refine lv_istore_n (lv' := [(2, .int (nI 0)), (0, .ref h), (1, .int (nI j))]) hx hb d_Ro_isFirstOfItsKey_1 rfl hl (by decide) rfl (fun ls hl => ?_)
  exact K2 _ 0 (by omega) (by rfl) (Nat.lt_succ_self _) ls (lv_sub hl [1, 2, 0] rfl)
theorem d_Ro_differentKeys_0 : decode b_Ro_differentKeys 0 = .ok (.iconst 0, 1) := by decide +kernel
theorem d_Ro_differentKeys_1 : decode b_Ro_differentKeys 1 = .ok (.istore_n 1, 1) := by decide +kernel
theorem d_Ro_differentKeys_2 : decode b_Ro_differentKeys 2 = .ok (.iconst 0, 1) := by decide +kernel
theorem d_Ro_differentKeys_3 : decode b_Ro_differentKeys 3 = .ok (.istore_n 2, 1) := by decide +kernel
theorem d_Ro_differentKeys_4 : decode b_Ro_differentKeys 4 = .ok (.iload_n 2, 1) := by decide +kernel
theorem d_Ro_differentKeys_5 : decode b_Ro_differentKeys 5 = .ok (.aload_n 0, 1) := by decide +kernel
theorem d_Ro_differentKeys_6 : decode b_Ro_differentKeys 6 = .ok (.getfield 18, 3) := by decide +kernel
theorem d_Ro_differentKeys_9 : decode b_Ro_differentKeys 9 = .ok (.if_icmp .ge 20, 3) := by decide +kernel
theorem d_Ro_differentKeys_12 : decode b_Ro_differentKeys 12 = .ok (.aload_n 0, 1) := by decide +kernel
theorem d_Ro_differentKeys_13 : decode b_Ro_differentKeys 13 = .ok (.iload_n 2, 1) := by decide +kernel
theorem d_Ro_differentKeys_14 : decode b_Ro_differentKeys 14 = .ok (.invokevirtual 63, 3) := by decide +kernel
theorem d_Ro_differentKeys_17 : decode b_Ro_differentKeys 17 = .ok (.ifCond .eq 6, 3) := by decide +kernel
theorem d_Ro_differentKeys_20 : decode b_Ro_differentKeys 20 = .ok (.iinc 1 1, 3) := by decide +kernel
theorem d_Ro_differentKeys_23 : decode b_Ro_differentKeys 23 = .ok (.iinc 2 1, 3) := by decide +kernel
theorem d_Ro_differentKeys_26 : decode b_Ro_differentKeys 26 = .ok (.goto (-22), 3) := by decide +kernel
theorem d_Ro_differentKeys_29 : decode b_Ro_differentKeys 29 = .ok (.iload_n 1, 1) := by decide +kernel
theorem d_Ro_differentKeys_30 : decode b_Ro_differentKeys 30 = .ok (.ireturn, 1) := by decide +kernel
abbrev ws_Ro_differentKeys : List Cond := .code y_Ro_differentKeys b_Ro_differentKeys 3 (some .int) :: ALLG
abbrev rm_Ro_differentKeys : Room := { frames := 1, cells := 0, slots := 0, locals := 22 }
set_option maxHeartbeats 4000000 in
set_option maxRecDepth 100000 in
theorem c_Ro_differentKeys (l : Launch) (DD : va_G) (h : Nat) (hk : Nat) (ht : Nat) (ck : ClassId) (n : Nat) (k : Nat → Int32) (hn : n ≤ 150) : Met l y_Ro_differentKeys ws_Ro_differentKeys rm_Ro_differentKeys (va_Pc [.ref h] (fun U => va_P DD vwCl [(h, .inr (4, [.ref hk, .ref ht, .int (nI n)])), (hk, .inl (ck, 150, .inl k))] U.heap ∧ va_K DD vwCl [(ck, .int)] U)) (vp_Si (fun r9 => r9 = nI (cnt (firstB k) n))) 0 0 (fun _ => False) := by
  refine Met.ofW (cc := b_Ro_differentKeys) (maxL := 3) (ret := (some .int)) (by decide) rfl ?_
  intro p e s m args below meth c s₁ B hml hv
  obtain ⟨ha, hP, hK⟩ := hv
  have hx := B.exec
  have hb := B.bytes
  have hr := B.returns
  have hts := atoms_spec (ws := ws_Ro_differentKeys) B.pre
  have hg : ∀ w ∈ ALLG, w.before args s = true := fun w h => hts w (List.mem_cons_of_mem _ h)
  have hown : s.vm.findClass R_Ro = some m.cls := findClass_of_methodNamed B.named
  have hlocks := B.notSynchronized
  have hP : va_P DD vwCl [(h, .inr (4, [.ref hk, .ref ht, .int (nI n)])), (hk, .inl (ck, 150, .inl k))] s.heap := hP
  have hl := lv_entry ([.ref h]) (n := 3) (Nat.le_of_ble_eq_true rfl)
  rw [ha, lg_entry_eq, ← ha]
  generalize (lg_sl ([.ref h]) ++ List.replicate (3 - (lg_sl ([.ref h])).length) Slot.unset).toArray = ls at hl ⊢
  have hl : lv_has ls 3 [(0, .ref h)] := hl
  have K4 : ∀ (kk : Nat) (i : Nat) (q : Nat), (hi : i ≤ n) → (hc : q = cnt (firstB k) i) → n - i < kk → ∀ (ls : Array Slot), lv_has ls 3 [(0, .ref h), (1, .int (nI q)), (2, .int (nI i))] → W p l e (headSpec ws_Ro_differentKeys rm_Ro_differentKeys).room s m args below meth c s.heap [] 0 0 (MQ below (vp_Si (fun r9 => r9 = nI (cnt (firstB k) n))) args s 0 0 (fun _ => False)) (F0 m 4 ls []) := by
    intro kk
    induction kk with
    | zero => intros; omega
    | succ kk ih4 =>
      intro i q hi hc hkk ls hl
      refine lv_iload_n hx hb d_Ro_differentKeys_4 rfl (lv_at hl 2 rfl) ?_
      refine lv_aload_n hx hb d_Ro_differentKeys_5 rfl (lv_at hl 0 rfl) ?_
      refine va_get (D := DD) (ci := 4) (v := .int (nI n)) (C := R_Ro) (T := T_Ro) (N := 3) hx hb hg in_Ro hown hK hP 0 rfl rfl 2 (by decide) (hg _ mw_37) (fun _ h9 => h9) rfl d_Ro_differentKeys_6 ?_
      refine z_icmp_ge (tgt := 29) hx hb d_Ro_differentKeys_9 (by decide) (by omega) (by omega) (fun c_9 => ?_) (fun c_9 => ?_)
      · refine lv_iload_n hx hb d_Ro_differentKeys_29 rfl (lv_at hl 1 rfl) ?_
        exact W.iret (v := nI q) hx hb hr (fun t9 ht9 hW9 => ⟨_, rfl, (by exact congrArg nI (by rw [hc, Nat.le_antisymm hi c_9])), ht9⟩) (fun _ h => nomatch h) d_Ro_differentKeys_30
      · refine lv_aload_n hx hb d_Ro_differentKeys_12 rfl (lv_at hl 0 rfl) ?_
        refine lv_iload_n hx hb d_Ro_differentKeys_13 rfl (lv_at hl 2 rfl) ?_
        have hPc := hP.sub (ws' := [(h, .inr (4, [.ref hk, .ref ht, .int (nI n)])), (hk, .inl (ck, 150, .inl k))]) [0, 1] rfl
        have hKc := hK.sub (tys' := [(ck, .int)]) [0] rfl
        refine vp_callSi (W.runV (As := [.int (nI i)]) (rest := []) ⟨hx, hb, hml, hown, hg⟩ (c_Ro_isFirstOfItsKey l DD h hk ht ck n k i (by omega)) (cwV 1 hg (gi_V mw_256 mw_257 mw_258 mw_2 mw_259) rfl rfl rfl (by decide +kernel) ⟨Nat.le_of_ble_eq_true rfl, Nat.le_of_ble_eq_true rfl⟩) ⟨z_blind, va_recv hKc hPc (ci := 4) (q0 := 0) rfl rfl, z_pre hPc hKc⟩ rfl rfl hl.1 rfl (lv_room (Nat.le_of_ble_eq_true rfl)) d_Ro_differentKeys_14 ⟨Nat.zero_le _, Nat.zero_le _⟩) (fun r_14 hr_14 => ?_)
        subst hr_14
        refine z_ifb_eq (tgt := 23) hx hb d_Ro_differentKeys_17 (by decide) (fun c_17 => ?_) (fun c_17 => ?_)
        · refine lv_iinc (v := nI (i + 1)) (lv' := [(2, .int (nI (i + 1))), (0, .ref h), (1, .int (nI q))]) hx hb d_Ro_differentKeys_23 hl (k := 2) rfl (by exact nI_add i 1) (by decide) rfl (fun ls hl => ?_)
          refine lv_goto (tgt := 4) hx hb d_Ro_differentKeys_26 (by decide) ?_
          exact ih4 (i + 1) q (by omega) (by first | exact cnt_t hc c_17 | exact cnt_f hc c_17) (by omega) ls (lv_sub hl [1, 2, 0] rfl)
        · refine lv_iinc (v := nI (q + 1)) (lv' := [(1, .int (nI (q + 1))), (0, .ref h), (2, .int (nI i))]) hx hb d_Ro_differentKeys_20 hl (k := 1) rfl (by exact nI_add q 1) (by decide) rfl (fun ls hl => ?_)
          refine lv_iinc (v := nI (i + 1)) (lv' := [(2, .int (nI (i + 1))), (1, .int (nI (q + 1))), (0, .ref h)]) hx hb d_Ro_differentKeys_23 hl (k := 2) rfl (by exact nI_add i 1) (by decide) rfl (fun ls hl => ?_)
          refine lv_goto (tgt := 4) hx hb d_Ro_differentKeys_26 (by decide) ?_
          exact ih4 (i + 1) (q + 1) (by omega) (by first | exact cnt_t hc c_17 | exact cnt_f hc c_17) (by omega) ls (lv_sub hl [2, 1, 0] rfl)
  refine lv_iconst (v := nI 0) hx hb d_Ro_differentKeys_0 (by decide) ?_
  refine lv_istore_n (lv' := [(1, .int (nI 0)), (0, .ref h)]) hx hb d_Ro_differentKeys_1 rfl hl (by decide) rfl (fun ls hl => ?_)
  refine lv_iconst (v := nI 0) hx hb d_Ro_differentKeys_2 (by decide) ?_
  refine lv_istore_n (lv' := [(2, .int (nI 0)), (1, .int (nI 0)), (0, .ref h)]) hx hb d_Ro_differentKeys_3 rfl hl (by decide) rfl (fun ls hl => ?_)
  exact K4 _ 0 0 (by omega) (by rfl) (Nat.lt_succ_self _) ls (lv_sub hl [2, 1, 0] rfl)
theorem d_Ro_keysBelow_0 : decode b_Ro_keysBelow 0 = .ok (.iconst 0, 1) := by decide +kernel
theorem d_Ro_keysBelow_1 : decode b_Ro_keysBelow 1 = .ok (.istore_n 2, 1) := by decide +kernel
theorem d_Ro_keysBelow_2 : decode b_Ro_keysBelow 2 = .ok (.iconst 0, 1) := by decide +kernel
theorem d_Ro_keysBelow_3 : decode b_Ro_keysBelow 3 = .ok (.istore_n 3, 1) := by decide +kernel
theorem d_Ro_keysBelow_4 : decode b_Ro_keysBelow 4 = .ok (.iload_n 3, 1) := by decide +kernel
theorem d_Ro_keysBelow_5 : decode b_Ro_keysBelow 5 = .ok (.aload_n 0, 1) := by decide +kernel
theorem d_Ro_keysBelow_6 : decode b_Ro_keysBelow 6 = .ok (.getfield 18, 3) := by decide +kernel
theorem d_Ro_keysBelow_9 : decode b_Ro_keysBelow 9 = .ok (.if_icmp .ge 22, 3) := by decide +kernel
theorem d_Ro_keysBelow_12 : decode b_Ro_keysBelow 12 = .ok (.aload_n 0, 1) := by decide +kernel
theorem d_Ro_keysBelow_13 : decode b_Ro_keysBelow 13 = .ok (.getfield 9, 3) := by decide +kernel
theorem d_Ro_keysBelow_16 : decode b_Ro_keysBelow 16 = .ok (.iload_n 3, 1) := by decide +kernel
theorem d_Ro_keysBelow_17 : decode b_Ro_keysBelow 17 = .ok (.iaload, 1) := by decide +kernel
theorem d_Ro_keysBelow_18 : decode b_Ro_keysBelow 18 = .ok (.iload_n 1, 1) := by decide +kernel
theorem d_Ro_keysBelow_19 : decode b_Ro_keysBelow 19 = .ok (.if_icmp .ge 6, 3) := by decide +kernel
theorem d_Ro_keysBelow_22 : decode b_Ro_keysBelow 22 = .ok (.iinc 2 1, 3) := by decide +kernel
theorem d_Ro_keysBelow_25 : decode b_Ro_keysBelow 25 = .ok (.iinc 3 1, 3) := by decide +kernel
theorem d_Ro_keysBelow_28 : decode b_Ro_keysBelow 28 = .ok (.goto (-24), 3) := by decide +kernel
theorem d_Ro_keysBelow_31 : decode b_Ro_keysBelow 31 = .ok (.iload_n 2, 1) := by decide +kernel
theorem d_Ro_keysBelow_32 : decode b_Ro_keysBelow 32 = .ok (.ireturn, 1) := by decide +kernel
abbrev ws_Ro_keysBelow : List Cond := .code y_Ro_keysBelow b_Ro_keysBelow 4 (some .int) :: ALLG
abbrev rm_Ro_keysBelow : Room := { frames := 0, cells := 0, slots := 0, locals := 0 }
set_option maxHeartbeats 4000000 in
set_option maxRecDepth 100000 in
theorem c_Ro_keysBelow (l : Launch) (DD : va_G) (h : Nat) (hk : Nat) (ht : Nat) (ck : ClassId) (n : Nat) (k : Nat → Int32) (x : Int32) (hn : n ≤ 150) : Met l y_Ro_keysBelow ws_Ro_keysBelow rm_Ro_keysBelow (va_Pc [.ref h, .int x] (fun U => va_P DD vwCl [(h, .inr (4, [.ref hk, .ref ht, .int (nI n)])), (hk, .inl (ck, 150, .inl k))] U.heap ∧ va_K DD vwCl [(ck, .int)] U)) (vp_Si (fun r9 => r9 = nI (cnt (ltB k x) n))) 0 0 (fun _ => False) := by
  refine Met.ofW (cc := b_Ro_keysBelow) (maxL := 4) (ret := (some .int)) (by decide) rfl ?_
  intro p e s m args below meth c s₁ B hml hv
  obtain ⟨ha, hP, hK⟩ := hv
  have hx := B.exec
  have hb := B.bytes
  have hr := B.returns
  have hts := atoms_spec (ws := ws_Ro_keysBelow) B.pre
  have hg : ∀ w ∈ ALLG, w.before args s = true := fun w h => hts w (List.mem_cons_of_mem _ h)
  have hown : s.vm.findClass R_Ro = some m.cls := findClass_of_methodNamed B.named
  have hlocks := B.notSynchronized
  have hP : va_P DD vwCl [(h, .inr (4, [.ref hk, .ref ht, .int (nI n)])), (hk, .inl (ck, 150, .inl k))] s.heap := hP
  have hl := lv_entry ([.ref h, .int x]) (n := 4) (Nat.le_of_ble_eq_true rfl)
  rw [ha, lg_entry_eq, ← ha]
  generalize (lg_sl ([.ref h, .int x]) ++ List.replicate (4 - (lg_sl ([.ref h, .int x])).length) Slot.unset).toArray = ls at hl ⊢
  have hl : lv_has ls 4 [(0, .ref h), (1, .int x)] := hl
  have K4 : ∀ (kk : Nat) (i : Nat) (q : Nat), (hi : i ≤ n) → (hc : q = cnt (ltB k x) i) → n - i < kk → ∀ (ls : Array Slot), lv_has ls 4 [(0, .ref h), (1, .int x), (2, .int (nI q)), (3, .int (nI i))] → W p l e (headSpec ws_Ro_keysBelow rm_Ro_keysBelow).room s m args below meth c s.heap [] 0 0 (MQ below (vp_Si (fun r9 => r9 = nI (cnt (ltB k x) n))) args s 0 0 (fun _ => False)) (F0 m 4 ls []) := by
    intro kk
    induction kk with
    | zero => intros; omega
    | succ kk ih4 =>
      intro i q hi hc hkk ls hl
      refine lv_iload_n hx hb d_Ro_keysBelow_4 rfl (lv_at hl 3 rfl) ?_
      refine lv_aload_n hx hb d_Ro_keysBelow_5 rfl (lv_at hl 0 rfl) ?_
      refine va_get (D := DD) (ci := 4) (v := .int (nI n)) (C := R_Ro) (T := T_Ro) (N := 3) hx hb hg in_Ro hown hK hP 0 rfl rfl 2 (by decide) (hg _ mw_37) (fun _ h9 => h9) rfl d_Ro_keysBelow_6 ?_
      refine z_icmp_ge (tgt := 31) hx hb d_Ro_keysBelow_9 (by decide) (by omega) (by omega) (fun c_9 => ?_) (fun c_9 => ?_)
      · refine lv_iload_n hx hb d_Ro_keysBelow_31 rfl (lv_at hl 2 rfl) ?_
        exact W.iret (v := nI q) hx hb hr (fun t9 ht9 hW9 => ⟨_, rfl, (by exact congrArg nI (by rw [hc, Nat.le_antisymm hi c_9])), ht9⟩) (fun _ h => nomatch h) d_Ro_keysBelow_32
      · refine lv_aload_n hx hb d_Ro_keysBelow_12 rfl (lv_at hl 0 rfl) ?_
        refine va_get (D := DD) (ci := 4) (v := .ref hk) (C := R_Ro) (T := T_Ro) (N := 3) hx hb hg in_Ro hown hK hP 0 rfl rfl 0 (by decide) (hg _ mw_35) (fun _ h9 => h9) rfl d_Ro_keysBelow_13 ?_
        refine lv_iload_n hx hb d_Ro_keysBelow_16 rfl (lv_at hl 3 rfl) ?_
        refine z_iald hx hb hK hP 1 0 rfl rfl (by omega) (by decide) d_Ro_keysBelow_17 ?_
        refine lv_iload_n hx hb d_Ro_keysBelow_18 rfl (lv_at hl 1 rfl) ?_
        refine lv_icmp_ge (tgt := 25) hx hb d_Ro_keysBelow_19 (by decide) (fun c_19 => ?_) (fun c_19 => ?_)
        · refine lv_iinc (v := nI (i + 1)) (lv' := [(3, .int (nI (i + 1))), (0, .ref h), (1, .int x), (2, .int (nI q))]) hx hb d_Ro_keysBelow_25 hl (k := 3) rfl (by exact nI_add i 1) (by decide) rfl (fun ls hl => ?_)
          refine lv_goto (tgt := 4) hx hb d_Ro_keysBelow_28 (by decide) ?_
          exact ih4 (i + 1) q (by omega) (by first | exact lt_t hc c_19 | exact lt_f hc c_19) (by omega) ls (lv_sub hl [1, 2, 3, 0] rfl)
        · refine lv_iinc (v := nI (q + 1)) (lv' := [(2, .int (nI (q + 1))), (0, .ref h), (1, .int x), (3, .int (nI i))]) hx hb d_Ro_keysBelow_22 hl (k := 2) rfl (by exact nI_add q 1) (by decide) rfl (fun ls hl => ?_)
          refine lv_iinc (v := nI (i + 1)) (lv' := [(3, .int (nI (i + 1))), (2, .int (nI (q + 1))), (0, .ref h), (1, .int x)]) hx hb d_Ro_keysBelow_25 hl (k := 3) rfl (by exact nI_add i 1) (by decide) rfl (fun ls hl => ?_)
          refine lv_goto (tgt := 4) hx hb d_Ro_keysBelow_28 (by decide) ?_
          exact ih4 (i + 1) (q + 1) (by omega) (by first | exact lt_t hc c_19 | exact lt_f hc c_19) (by omega) ls (lv_sub hl [2, 3, 1, 0] rfl)
  refine lv_iconst (v := nI 0) hx hb d_Ro_keysBelow_0 (by decide) ?_
  refine lv_istore_n (lv' := [(2, .int (nI 0)), (0, .ref h), (1, .int x)]) hx hb d_Ro_keysBelow_1 rfl hl (by decide) rfl (fun ls hl => ?_)
  refine lv_iconst (v := nI 0) hx hb d_Ro_keysBelow_2 (by decide) ?_
  refine lv_istore_n (lv' := [(3, .int (nI 0)), (2, .int (nI 0)), (0, .ref h), (1, .int x)]) hx hb d_Ro_keysBelow_3 rfl hl (by decide) rfl (fun ls hl => ?_)
  exact K4 _ 0 0 (by omega) (by rfl) (Nat.lt_succ_self _) ls (lv_sub hl [2, 3, 1, 0] rfl)
theorem d_Ro_goesBefore_0 : decode b_Ro_goesBefore 0 = .ok (.aload_n 0, 1) := by decide +kernel
theorem d_Ro_goesBefore_1 : decode b_Ro_goesBefore 1 = .ok (.getfield 9, 3) := by decide +kernel
theorem d_Ro_goesBefore_4 : decode b_Ro_goesBefore 4 = .ok (.iload_n 1, 1) := by decide +kernel
theorem d_Ro_goesBefore_5 : decode b_Ro_goesBefore 5 = .ok (.iaload, 1) := by decide +kernel
theorem d_Ro_goesBefore_6 : decode b_Ro_goesBefore 6 = .ok (.aload_n 0, 1) := by decide +kernel
theorem d_Ro_goesBefore_7 : decode b_Ro_goesBefore 7 = .ok (.getfield 9, 3) := by decide +kernel
theorem d_Ro_goesBefore_10 : decode b_Ro_goesBefore 10 = .ok (.iload_n 2, 1) := by decide +kernel
theorem d_Ro_goesBefore_11 : decode b_Ro_goesBefore 11 = .ok (.iaload, 1) := by decide +kernel
theorem d_Ro_goesBefore_12 : decode b_Ro_goesBefore 12 = .ok (.if_icmp .lt 23, 3) := by decide +kernel
theorem d_Ro_goesBefore_15 : decode b_Ro_goesBefore 15 = .ok (.aload_n 0, 1) := by decide +kernel
theorem d_Ro_goesBefore_16 : decode b_Ro_goesBefore 16 = .ok (.getfield 9, 3) := by decide +kernel
theorem d_Ro_goesBefore_19 : decode b_Ro_goesBefore 19 = .ok (.iload_n 1, 1) := by decide +kernel
theorem d_Ro_goesBefore_20 : decode b_Ro_goesBefore 20 = .ok (.iaload, 1) := by decide +kernel
theorem d_Ro_goesBefore_21 : decode b_Ro_goesBefore 21 = .ok (.aload_n 0, 1) := by decide +kernel
theorem d_Ro_goesBefore_22 : decode b_Ro_goesBefore 22 = .ok (.getfield 9, 3) := by decide +kernel
theorem d_Ro_goesBefore_25 : decode b_Ro_goesBefore 25 = .ok (.iload_n 2, 1) := by decide +kernel
theorem d_Ro_goesBefore_26 : decode b_Ro_goesBefore 26 = .ok (.iaload, 1) := by decide +kernel
theorem d_Ro_goesBefore_27 : decode b_Ro_goesBefore 27 = .ok (.if_icmp .ne 12, 3) := by decide +kernel
theorem d_Ro_goesBefore_30 : decode b_Ro_goesBefore 30 = .ok (.iload_n 1, 1) := by decide +kernel
theorem d_Ro_goesBefore_31 : decode b_Ro_goesBefore 31 = .ok (.iload_n 2, 1) := by decide +kernel
theorem d_Ro_goesBefore_32 : decode b_Ro_goesBefore 32 = .ok (.if_icmp .ge 7, 3) := by decide +kernel
theorem d_Ro_goesBefore_35 : decode b_Ro_goesBefore 35 = .ok (.iconst 1, 1) := by decide +kernel
theorem d_Ro_goesBefore_36 : decode b_Ro_goesBefore 36 = .ok (.goto 4, 3) := by decide +kernel
theorem d_Ro_goesBefore_39 : decode b_Ro_goesBefore 39 = .ok (.iconst 0, 1) := by decide +kernel
theorem d_Ro_goesBefore_40 : decode b_Ro_goesBefore 40 = .ok (.ireturn, 1) := by decide +kernel
abbrev ws_Ro_goesBefore : List Cond := .code y_Ro_goesBefore b_Ro_goesBefore 3 (some .boolean) :: ALLG
abbrev rm_Ro_goesBefore : Room := { frames := 0, cells := 0, slots := 0, locals := 0 }
set_option maxHeartbeats 4000000 in
set_option maxRecDepth 100000 in
theorem c_Ro_goesBefore (l : Launch) (DD : va_G) (h : Nat) (hk : Nat) (ht : Nat) (ck : ClassId) (n : Nat) (k : Nat → Int32) (a : Nat) (b : Nat) (haa : a < 150) (hbb : b < 150) : Met l y_Ro_goesBefore ws_Ro_goesBefore rm_Ro_goesBefore (va_Pc [.ref h, .int (nI a), .int (nI b)] (fun U => va_P DD vwCl [(h, .inr (4, [.ref hk, .ref ht, .int (nI n)])), (hk, .inl (ck, 150, .inl k))] U.heap ∧ va_K DD vwCl [(ck, .int)] U)) (vp_Si (fun r9 => r9 = zb (goesB k a b))) 0 0 (fun _ => False) := by
  refine Met.ofW (cc := b_Ro_goesBefore) (maxL := 3) (ret := (some .boolean)) (by decide) rfl ?_
  intro p e s m args below meth c s₁ B hml hv
  obtain ⟨ha, hP, hK⟩ := hv
  have hx := B.exec
  have hb := B.bytes
  have hr := B.returns
  have hts := atoms_spec (ws := ws_Ro_goesBefore) B.pre
  have hg : ∀ w ∈ ALLG, w.before args s = true := fun w h => hts w (List.mem_cons_of_mem _ h)
  have hown : s.vm.findClass R_Ro = some m.cls := findClass_of_methodNamed B.named
  have hlocks := B.notSynchronized
  have hP : va_P DD vwCl [(h, .inr (4, [.ref hk, .ref ht, .int (nI n)])), (hk, .inl (ck, 150, .inl k))] s.heap := hP
  have hl := lv_entry ([.ref h, .int (nI a), .int (nI b)]) (n := 3) (Nat.le_of_ble_eq_true rfl)
  rw [ha, lg_entry_eq, ← ha]
  generalize (lg_sl ([.ref h, .int (nI a), .int (nI b)]) ++ List.replicate (3 - (lg_sl ([.ref h, .int (nI a), .int (nI b)])).length) Slot.unset).toArray = ls at hl ⊢
  have hl : lv_has ls 3 [(0, .ref h), (1, .int (nI a)), (2, .int (nI b))] := hl
  refine lv_aload_n hx hb d_Ro_goesBefore_0 rfl (lv_at hl 0 rfl) ?_
  refine va_get (D := DD) (ci := 4) (v := .ref hk) (C := R_Ro) (T := T_Ro) (N := 3) hx hb hg in_Ro hown hK hP 0 rfl rfl 0 (by decide) (hg _ mw_35) (fun _ h9 => h9) rfl d_Ro_goesBefore_1 ?_
  refine lv_iload_n hx hb d_Ro_goesBefore_4 rfl (lv_at hl 1 rfl) ?_
  refine z_iald hx hb hK hP 1 0 rfl rfl (by omega) (by decide) d_Ro_goesBefore_5 ?_
  refine lv_aload_n hx hb d_Ro_goesBefore_6 rfl (lv_at hl 0 rfl) ?_
  refine va_get (D := DD) (ci := 4) (v := .ref hk) (C := R_Ro) (T := T_Ro) (N := 3) hx hb hg in_Ro hown hK hP 0 rfl rfl 0 (by decide) (hg _ mw_35) (fun _ h9 => h9) rfl d_Ro_goesBefore_7 ?_
  refine lv_iload_n hx hb d_Ro_goesBefore_10 rfl (lv_at hl 2 rfl) ?_
  refine z_iald hx hb hK hP 1 0 rfl rfl (by omega) (by decide) d_Ro_goesBefore_11 ?_
  refine lv_icmp_lt (tgt := 35) hx hb d_Ro_goesBefore_12 (by decide) (fun c_12 => ?_) (fun c_12 => ?_)
  · refine lv_iconst (v := nI 1) hx hb d_Ro_goesBefore_35 (by decide) ?_
    refine lv_goto (tgt := 40) hx hb d_Ro_goesBefore_36 (by decide) ?_
    exact W.zret (v := nI 1) hx hb hr (by rfl) (fun t9 ht9 hW9 => ⟨_, rfl, (by first | exact goes_1 c_12 | exact goes_2 c_27 c_32 | exact goes_3 c_12 c_32 | exact goes_4 c_12 c_27), ht9⟩) (fun _ h => nomatch h) d_Ro_goesBefore_40
  · refine lv_aload_n hx hb d_Ro_goesBefore_15 rfl (lv_at hl 0 rfl) ?_
    refine va_get (D := DD) (ci := 4) (v := .ref hk) (C := R_Ro) (T := T_Ro) (N := 3) hx hb hg in_Ro hown hK hP 0 rfl rfl 0 (by decide) (hg _ mw_35) (fun _ h9 => h9) rfl d_Ro_goesBefore_16 ?_
    refine lv_iload_n hx hb d_Ro_goesBefore_19 rfl (lv_at hl 1 rfl) ?_
    refine z_iald hx hb hK hP 1 0 rfl rfl (by omega) (by decide) d_Ro_goesBefore_20 ?_
    refine lv_aload_n hx hb d_Ro_goesBefore_21 rfl (lv_at hl 0 rfl) ?_
    refine va_get (D := DD) (ci := 4) (v := .ref hk) (C := R_Ro) (T := T_Ro) (N := 3) hx hb hg in_Ro hown hK hP 0 rfl rfl 0 (by decide) (hg _ mw_35) (fun _ h9 => h9) rfl d_Ro_goesBefore_22 ?_
    refine lv_iload_n hx hb d_Ro_goesBefore_25 rfl (lv_at hl 2 rfl) ?_
    refine z_iald hx hb hK hP 1 0 rfl rfl (by omega) (by decide) d_Ro_goesBefore_26 ?_
    refine lv_icmp_ne (tgt := 39) hx hb d_Ro_goesBefore_27 (by decide) (fun c_27 => ?_) (fun c_27 => ?_)
    · refine lv_iconst (v := nI 0) hx hb d_Ro_goesBefore_39 (by decide) ?_
      exact W.zret (v := nI 0) hx hb hr (by rfl) (fun t9 ht9 hW9 => ⟨_, rfl, (by first | exact goes_1 c_12 | exact goes_2 c_27 c_32 | exact goes_3 c_12 c_32 | exact goes_4 c_12 c_27), ht9⟩) (fun _ h => nomatch h) d_Ro_goesBefore_40
    · refine lv_iload_n hx hb d_Ro_goesBefore_30 rfl (lv_at hl 1 rfl) ?_
      refine lv_iload_n hx hb d_Ro_goesBefore_31 rfl (lv_at hl 2 rfl) ?_
      refine z_icmp_ge (tgt := 39) hx hb d_Ro_goesBefore_32 (by decide) (by omega) (by omega) (fun c_32 => ?_) (fun c_32 => ?_)
      · refine lv_iconst (v := nI 0) hx hb d_Ro_goesBefore_39 (by decide) ?_
        exact W.zret (v := nI 0) hx hb hr (by rfl) (fun t9 ht9 hW9 => ⟨_, rfl, (by first | exact goes_1 c_12 | exact goes_2 c_27 c_32 | exact goes_3 c_12 c_32 | exact goes_4 c_12 c_27), ht9⟩) (fun _ h => nomatch h) d_Ro_goesBefore_40
      · refine lv_iconst (v := nI 1) hx hb d_Ro_goesBefore_35 (by decide) ?_
        refine lv_goto (tgt := 40) hx hb d_Ro_goesBefore_36 (by decide) ?_
        exact W.zret (v := nI 1) hx hb hr (by rfl) (fun t9 ht9 hW9 => ⟨_, rfl, (by first | exact goes_1 c_12 | exact goes_2 c_27 c_32 | exact goes_3 c_12 c_32 | exact goes_4 c_12 c_27), ht9⟩) (fun _ h => nomatch h) d_Ro_goesBefore_40
theorem d_Ro_rank_0 : decode b_Ro_rank 0 = .ok (.iconst 0, 1) := by decide +kernel
theorem d_Ro_rank_1 : decode b_Ro_rank 1 = .ok (.istore_n 2, 1) := by decide +kernel
theorem d_Ro_rank_2 : decode b_Ro_rank 2 = .ok (.iconst 0, 1) := by decide +kernel
theorem d_Ro_rank_3 : decode b_Ro_rank 3 = .ok (.istore_n 3, 1) := by decide +kernel
theorem d_Ro_rank_4 : decode b_Ro_rank 4 = .ok (.iload_n 3, 1) := by decide +kernel
theorem d_Ro_rank_5 : decode b_Ro_rank 5 = .ok (.aload_n 0, 1) := by decide +kernel
theorem d_Ro_rank_6 : decode b_Ro_rank 6 = .ok (.getfield 18, 3) := by decide +kernel
theorem d_Ro_rank_9 : decode b_Ro_rank 9 = .ok (.if_icmp .ge 21, 3) := by decide +kernel
theorem d_Ro_rank_12 : decode b_Ro_rank 12 = .ok (.aload_n 0, 1) := by decide +kernel
theorem d_Ro_rank_13 : decode b_Ro_rank 13 = .ok (.iload_n 3, 1) := by decide +kernel
theorem d_Ro_rank_14 : decode b_Ro_rank 14 = .ok (.iload_n 1, 1) := by decide +kernel
theorem d_Ro_rank_15 : decode b_Ro_rank 15 = .ok (.invokevirtual 66, 3) := by decide +kernel
theorem d_Ro_rank_18 : decode b_Ro_rank 18 = .ok (.ifCond .eq 6, 3) := by decide +kernel
theorem d_Ro_rank_21 : decode b_Ro_rank 21 = .ok (.iinc 2 1, 3) := by decide +kernel
theorem d_Ro_rank_24 : decode b_Ro_rank 24 = .ok (.iinc 3 1, 3) := by decide +kernel
theorem d_Ro_rank_27 : decode b_Ro_rank 27 = .ok (.goto (-23), 3) := by decide +kernel
theorem d_Ro_rank_30 : decode b_Ro_rank 30 = .ok (.iload_n 2, 1) := by decide +kernel
theorem d_Ro_rank_31 : decode b_Ro_rank 31 = .ok (.ireturn, 1) := by decide +kernel
abbrev ws_Ro_rank : List Cond := .code y_Ro_rank b_Ro_rank 4 (some .int) :: ALLG
abbrev rm_Ro_rank : Room := { frames := 1, cells := 0, slots := 0, locals := 22 }
set_option maxHeartbeats 4000000 in
set_option maxRecDepth 100000 in
theorem c_Ro_rank (l : Launch) (DD : va_G) (h : Nat) (hk : Nat) (ht : Nat) (ck : ClassId) (n : Nat) (k : Nat → Int32) (a : Nat) (hn : n ≤ 150) (haa : a < 150) : Met l y_Ro_rank ws_Ro_rank rm_Ro_rank (va_Pc [.ref h, .int (nI a)] (fun U => va_P DD vwCl [(h, .inr (4, [.ref hk, .ref ht, .int (nI n)])), (hk, .inl (ck, 150, .inl k))] U.heap ∧ va_K DD vwCl [(ck, .int)] U)) (vp_Si (fun r9 => r9 = nI (rankF k n a))) 0 0 (fun _ => False) := by
  refine Met.ofW (cc := b_Ro_rank) (maxL := 4) (ret := (some .int)) (by decide) rfl ?_
  intro p e s m args below meth c s₁ B hml hv
  obtain ⟨ha, hP, hK⟩ := hv
  have hx := B.exec
  have hb := B.bytes
  have hr := B.returns
  have hts := atoms_spec (ws := ws_Ro_rank) B.pre
  have hg : ∀ w ∈ ALLG, w.before args s = true := fun w h => hts w (List.mem_cons_of_mem _ h)
  have hown : s.vm.findClass R_Ro = some m.cls := findClass_of_methodNamed B.named
  have hlocks := B.notSynchronized
  have hP : va_P DD vwCl [(h, .inr (4, [.ref hk, .ref ht, .int (nI n)])), (hk, .inl (ck, 150, .inl k))] s.heap := hP
  have hl := lv_entry ([.ref h, .int (nI a)]) (n := 4) (Nat.le_of_ble_eq_true rfl)
  rw [ha, lg_entry_eq, ← ha]
  generalize (lg_sl ([.ref h, .int (nI a)]) ++ List.replicate (4 - (lg_sl ([.ref h, .int (nI a)])).length) Slot.unset).toArray = ls at hl ⊢
  have hl : lv_has ls 4 [(0, .ref h), (1, .int (nI a))] := hl
  have K4 : ∀ (kk : Nat) (i : Nat) (q : Nat), (hi : i ≤ n) → (hc : q = cnt (fun i => goesB k i a) i) → n - i < kk → ∀ (ls : Array Slot), lv_has ls 4 [(0, .ref h), (1, .int (nI a)), (2, .int (nI q)), (3, .int (nI i))] → W p l e (headSpec ws_Ro_rank rm_Ro_rank).room s m args below meth c s.heap [] 0 0 (MQ below (vp_Si (fun r9 => r9 = nI (rankF k n a))) args s 0 0 (fun _ => False)) (F0 m 4 ls []) := by
    intro kk
    induction kk with
    | zero => intros; omega
    | succ kk ih4 =>
      intro i q hi hc hkk ls hl
      refine lv_iload_n hx hb d_Ro_rank_4 rfl (lv_at hl 3 rfl) ?_
      refine lv_aload_n hx hb d_Ro_rank_5 rfl (lv_at hl 0 rfl) ?_
      refine va_get (D := DD) (ci := 4) (v := .int (nI n)) (C := R_Ro) (T := T_Ro) (N := 3) hx hb hg in_Ro hown hK hP 0 rfl rfl 2 (by decide) (hg _ mw_37) (fun _ h9 => h9) rfl d_Ro_rank_6 ?_
      refine z_icmp_ge (tgt := 30) hx hb d_Ro_rank_9 (by decide) (by omega) (by omega) (fun c_9 => ?_) (fun c_9 => ?_)
      · refine lv_iload_n hx hb d_Ro_rank_30 rfl (lv_at hl 2 rfl) ?_
        exact W.iret (v := nI q) hx hb hr (fun t9 ht9 hW9 => ⟨_, rfl, (by exact congrArg nI (by rw [hc, Nat.le_antisymm hi c_9]; rfl)), ht9⟩) (fun _ h => nomatch h) d_Ro_rank_31
      · refine lv_aload_n hx hb d_Ro_rank_12 rfl (lv_at hl 0 rfl) ?_
        refine lv_iload_n hx hb d_Ro_rank_13 rfl (lv_at hl 3 rfl) ?_
        refine lv_iload_n hx hb d_Ro_rank_14 rfl (lv_at hl 1 rfl) ?_
        have hPc := hP.sub (ws' := [(h, .inr (4, [.ref hk, .ref ht, .int (nI n)])), (hk, .inl (ck, 150, .inl k))]) [0, 1] rfl
        have hKc := hK.sub (tys' := [(ck, .int)]) [0] rfl
        refine vp_callSi (W.runV (As := [.int (nI i), .int (nI a)]) (rest := []) ⟨hx, hb, hml, hown, hg⟩ (c_Ro_goesBefore l DD h hk ht ck n k i a (by omega) (by omega)) (cwV 2 hg (gi_V mw_665 mw_623 mw_624 mw_2 mw_625) rfl rfl rfl (by decide +kernel) ⟨Nat.le_of_ble_eq_true rfl, Nat.le_of_ble_eq_true rfl⟩) ⟨z_blind, va_recv hKc hPc (ci := 4) (q0 := 0) rfl rfl, z_pre hPc hKc⟩ rfl rfl hl.1 rfl (lv_room (Nat.le_of_ble_eq_true rfl)) d_Ro_rank_15 ⟨Nat.zero_le _, Nat.zero_le _⟩) (fun r_15 hr_15 => ?_)
        subst hr_15
        refine z_ifb_eq (tgt := 24) hx hb d_Ro_rank_18 (by decide) (fun c_18 => ?_) (fun c_18 => ?_)
        · refine lv_iinc (v := nI (i + 1)) (lv' := [(3, .int (nI (i + 1))), (0, .ref h), (1, .int (nI a)), (2, .int (nI q))]) hx hb d_Ro_rank_24 hl (k := 3) rfl (by exact nI_add i 1) (by decide) rfl (fun ls hl => ?_)
          refine lv_goto (tgt := 4) hx hb d_Ro_rank_27 (by decide) ?_
          exact ih4 (i + 1) q (by omega) (by first | exact cnt_t hc c_18 | exact cnt_f hc c_18) (by omega) ls (lv_sub hl [1, 2, 3, 0] rfl)
        · refine lv_iinc (v := nI (q + 1)) (lv' := [(2, .int (nI (q + 1))), (0, .ref h), (1, .int (nI a)), (3, .int (nI i))]) hx hb d_Ro_rank_21 hl (k := 2) rfl (by exact nI_add q 1) (by decide) rfl (fun ls hl => ?_)
          refine lv_iinc (v := nI (i + 1)) (lv' := [(3, .int (nI (i + 1))), (2, .int (nI (q + 1))), (0, .ref h), (1, .int (nI a))]) hx hb d_Ro_rank_24 hl (k := 3) rfl (by exact nI_add i 1) (by decide) rfl (fun ls hl => ?_)
          refine lv_goto (tgt := 4) hx hb d_Ro_rank_27 (by decide) ?_
          exact ih4 (i + 1) (q + 1) (by omega) (by first | exact cnt_t hc c_18 | exact cnt_f hc c_18) (by omega) ls (lv_sub hl [2, 3, 1, 0] rfl)
  refine lv_iconst (v := nI 0) hx hb d_Ro_rank_0 (by decide) ?_
  refine lv_istore_n (lv' := [(2, .int (nI 0)), (0, .ref h), (1, .int (nI a))]) hx hb d_Ro_rank_1 rfl hl (by decide) rfl (fun ls hl => ?_)
  refine lv_iconst (v := nI 0) hx hb d_Ro_rank_2 (by decide) ?_
  refine lv_istore_n (lv' := [(3, .int (nI 0)), (2, .int (nI 0)), (0, .ref h), (1, .int (nI a))]) hx hb d_Ro_rank_3 rfl hl (by decide) rfl (fun ls hl => ?_)
  exact K4 _ 0 0 (by omega) (by rfl) (Nat.lt_succ_self _) ls (lv_sub hl [2, 3, 1, 0] rfl)
theorem d_Ro_placeOfRank_0 : decode b_Ro_placeOfRank 0 = .ok (.iconst 0, 1) := by decide +kernel
theorem d_Ro_placeOfRank_1 : decode b_Ro_placeOfRank 1 = .ok (.istore_n 2, 1) := by decide +kernel
theorem d_Ro_placeOfRank_2 : decode b_Ro_placeOfRank 2 = .ok (.iconst 0, 1) := by decide +kernel
theorem d_Ro_placeOfRank_3 : decode b_Ro_placeOfRank 3 = .ok (.istore_n 3, 1) := by decide +kernel
theorem d_Ro_placeOfRank_4 : decode b_Ro_placeOfRank 4 = .ok (.iload_n 3, 1) := by decide +kernel
theorem d_Ro_placeOfRank_5 : decode b_Ro_placeOfRank 5 = .ok (.aload_n 0, 1) := by decide +kernel
theorem d_Ro_placeOfRank_6 : decode b_Ro_placeOfRank 6 = .ok (.getfield 18, 3) := by decide +kernel
theorem d_Ro_placeOfRank_9 : decode b_Ro_placeOfRank 9 = .ok (.if_icmp .ge 20, 3) := by decide +kernel
theorem d_Ro_placeOfRank_12 : decode b_Ro_placeOfRank 12 = .ok (.aload_n 0, 1) := by decide +kernel
theorem d_Ro_placeOfRank_13 : decode b_Ro_placeOfRank 13 = .ok (.iload_n 3, 1) := by decide +kernel
theorem d_Ro_placeOfRank_14 : decode b_Ro_placeOfRank 14 = .ok (.invokevirtual 70, 3) := by decide +kernel
theorem d_Ro_placeOfRank_17 : decode b_Ro_placeOfRank 17 = .ok (.iload_n 1, 1) := by decide +kernel
theorem d_Ro_placeOfRank_18 : decode b_Ro_placeOfRank 18 = .ok (.if_icmp .ne 5, 3) := by decide +kernel
theorem d_Ro_placeOfRank_21 : decode b_Ro_placeOfRank 21 = .ok (.iload_n 3, 1) := by decide +kernel
theorem d_Ro_placeOfRank_22 : decode b_Ro_placeOfRank 22 = .ok (.istore_n 2, 1) := by decide +kernel
theorem d_Ro_placeOfRank_23 : decode b_Ro_placeOfRank 23 = .ok (.iinc 3 1, 3) := by decide +kernel
theorem d_Ro_placeOfRank_26 : decode b_Ro_placeOfRank 26 = .ok (.goto (-22), 3) := by decide +kernel
theorem d_Ro_placeOfRank_29 : decode b_Ro_placeOfRank 29 = .ok (.iload_n 2, 1) := by decide +kernel
theorem d_Ro_placeOfRank_30 : decode b_Ro_placeOfRank 30 = .ok (.ireturn, 1) := by decide +kernel
abbrev ws_Ro_placeOfRank : List Cond := .code y_Ro_placeOfRank b_Ro_placeOfRank 4 (some .int) :: ALLG
abbrev rm_Ro_placeOfRank : Room := { frames := 2, cells := 0, slots := 0, locals := 45 }
set_option maxHeartbeats 4000000 in
set_option maxRecDepth 100000 in
theorem c_Ro_placeOfRank (l : Launch) (DD : va_G) (h : Nat) (hk : Nat) (ht : Nat) (ck : ClassId) (n : Nat) (k : Nat → Int32) (r : Nat) (hn : n ≤ 150) (hrr : r < 150) : Met l y_Ro_placeOfRank ws_Ro_placeOfRank rm_Ro_placeOfRank (va_Pc [.ref h, .int (nI r)] (fun U => va_P DD vwCl [(h, .inr (4, [.ref hk, .ref ht, .int (nI n)])), (hk, .inl (ck, 150, .inl k))] U.heap ∧ va_K DD vwCl [(ck, .int)] U)) (vp_Si (fun r9 => r9 = nI (findL (rankB k n r) n))) 0 0 (fun _ => False) := by
  refine Met.ofW (cc := b_Ro_placeOfRank) (maxL := 4) (ret := (some .int)) (by decide) rfl ?_
  intro p e s m args below meth c s₁ B hml hv
  obtain ⟨ha, hP, hK⟩ := hv
  have hx := B.exec
  have hb := B.bytes
  have hr := B.returns
  have hts := atoms_spec (ws := ws_Ro_placeOfRank) B.pre
  have hg : ∀ w ∈ ALLG, w.before args s = true := fun w h => hts w (List.mem_cons_of_mem _ h)
  have hown : s.vm.findClass R_Ro = some m.cls := findClass_of_methodNamed B.named
  have hlocks := B.notSynchronized
  have hP : va_P DD vwCl [(h, .inr (4, [.ref hk, .ref ht, .int (nI n)])), (hk, .inl (ck, 150, .inl k))] s.heap := hP
  have hl := lv_entry ([.ref h, .int (nI r)]) (n := 4) (Nat.le_of_ble_eq_true rfl)
  rw [ha, lg_entry_eq, ← ha]
  generalize (lg_sl ([.ref h, .int (nI r)]) ++ List.replicate (4 - (lg_sl ([.ref h, .int (nI r)])).length) Slot.unset).toArray = ls at hl ⊢
  have hl : lv_has ls 4 [(0, .ref h), (1, .int (nI r))] := hl
  have K4 : ∀ (kk : Nat) (i : Nat) (q : Nat), (hi : i ≤ n) → (hc : q = findL (rankB k n r) i) → n - i < kk → ∀ (ls : Array Slot), lv_has ls 4 [(0, .ref h), (1, .int (nI r)), (2, .int (nI q)), (3, .int (nI i))] → W p l e (headSpec ws_Ro_placeOfRank rm_Ro_placeOfRank).room s m args below meth c s.heap [] 0 0 (MQ below (vp_Si (fun r9 => r9 = nI (findL (rankB k n r) n))) args s 0 0 (fun _ => False)) (F0 m 4 ls []) := by
    intro kk
    induction kk with
    | zero => intros; omega
    | succ kk ih4 =>
      intro i q hi hc hkk ls hl
      refine lv_iload_n hx hb d_Ro_placeOfRank_4 rfl (lv_at hl 3 rfl) ?_
      refine lv_aload_n hx hb d_Ro_placeOfRank_5 rfl (lv_at hl 0 rfl) ?_
      refine va_get (D := DD) (ci := 4) (v := .int (nI n)) (C := R_Ro) (T := T_Ro) (N := 3) hx hb hg in_Ro hown hK hP 0 rfl rfl 2 (by decide) (hg _ mw_37) (fun _ h9 => h9) rfl d_Ro_placeOfRank_6 ?_
      refine z_icmp_ge (tgt := 29) hx hb d_Ro_placeOfRank_9 (by decide) (by omega) (by omega) (fun c_9 => ?_) (fun c_9 => ?_)
      · refine lv_iload_n hx hb d_Ro_placeOfRank_29 rfl (lv_at hl 2 rfl) ?_
        exact W.iret (v := nI q) hx hb hr (fun t9 ht9 hW9 => ⟨_, rfl, (by exact congrArg nI (by rw [hc, Nat.le_antisymm hi c_9])), ht9⟩) (fun _ h => nomatch h) d_Ro_placeOfRank_30
      · refine lv_aload_n hx hb d_Ro_placeOfRank_12 rfl (lv_at hl 0 rfl) ?_
        refine lv_iload_n hx hb d_Ro_placeOfRank_13 rfl (lv_at hl 3 rfl) ?_
        have hPc := hP.sub (ws' := [(h, .inr (4, [.ref hk, .ref ht, .int (nI n)])), (hk, .inl (ck, 150, .inl k))]) [0, 1] rfl
        have hKc := hK.sub (tys' := [(ck, .int)]) [0] rfl
        refine vp_callSi (W.runV (As := [.int (nI i)]) (rest := []) ⟨hx, hb, hml, hown, hg⟩ (c_Ro_rank l DD h hk ht ck n k i (by omega) (by omega)) (cwV 1 hg (gi_V mw_661 mw_662 mw_663 mw_2 mw_664) rfl rfl rfl (by decide +kernel) ⟨Nat.le_of_ble_eq_true rfl, Nat.le_of_ble_eq_true rfl⟩) ⟨z_blind, va_recv hKc hPc (ci := 4) (q0 := 0) rfl rfl, z_pre hPc hKc⟩ rfl rfl hl.1 rfl (lv_room (Nat.le_of_ble_eq_true rfl)) d_Ro_placeOfRank_14 ⟨Nat.zero_le _, Nat.zero_le _⟩) (fun r_14 hr_14 => ?_)
        subst hr_14
        refine lv_iload_n hx hb d_Ro_placeOfRank_17 rfl (lv_at hl 1 rfl) ?_
        have hcl : rankF k n i ≤ n := cnt_le _ n
        refine z_icmp_ne (tgt := 23) hx hb d_Ro_placeOfRank_18 (by decide) (by omega) (by omega) (fun c_18 => ?_) (fun c_18 => ?_)
        · refine lv_iinc (v := nI (i + 1)) (lv' := [(3, .int (nI (i + 1))), (0, .ref h), (1, .int (nI r)), (2, .int (nI q))]) hx hb d_Ro_placeOfRank_23 hl (k := 3) rfl (by exact nI_add i 1) (by decide) rfl (fun ls hl => ?_)
          refine lv_goto (tgt := 4) hx hb d_Ro_placeOfRank_26 (by decide) ?_
          exact ih4 (i + 1) q (by omega) (by first | exact find_t (decide_eq_true c_18) | exact find_f hc (decide_eq_false c_18)) (by omega) ls (lv_sub hl [1, 2, 3, 0] rfl)
        · refine lv_iload_n hx hb d_Ro_placeOfRank_21 rfl (lv_at hl 3 rfl) ?_
          refine lv_istore_n (lv' := [(2, .int (nI i)), (0, .ref h), (1, .int (nI r)), (3, .int (nI i))]) hx hb d_Ro_placeOfRank_22 rfl hl (by decide) rfl (fun ls hl => ?_)
          refine lv_iinc (v := nI (i + 1)) (lv' := [(3, .int (nI (i + 1))), (2, .int (nI i)), (0, .ref h), (1, .int (nI r))]) hx hb d_Ro_placeOfRank_23 hl (k := 3) rfl (by exact nI_add i 1) (by decide) rfl (fun ls hl => ?_)
          refine lv_goto (tgt := 4) hx hb d_Ro_placeOfRank_26 (by decide) ?_
          exact ih4 (i + 1) i (by omega) (by first | exact find_t (decide_eq_true c_18) | exact find_f hc (decide_eq_false c_18)) (by omega) ls (lv_sub hl [2, 3, 1, 0] rfl)
  refine lv_iconst (v := nI 0) hx hb d_Ro_placeOfRank_0 (by decide) ?_
  refine lv_istore_n (lv' := [(2, .int (nI 0)), (0, .ref h), (1, .int (nI r))]) hx hb d_Ro_placeOfRank_1 rfl hl (by decide) rfl (fun ls hl => ?_)
  refine lv_iconst (v := nI 0) hx hb d_Ro_placeOfRank_2 (by decide) ?_
  refine lv_istore_n (lv' := [(3, .int (nI 0)), (2, .int (nI 0)), (0, .ref h), (1, .int (nI r))]) hx hb d_Ro_placeOfRank_3 rfl hl (by decide) rfl (fun ls hl => ?_)
  exact K4 _ 0 0 (by omega) (by rfl) (Nat.lt_succ_self _) ls (lv_sub hl [2, 3, 1, 0] rfl)
theorem d_Ro_measure_0 : decode b_Ro_measure 0 = .ok (.iload_n 1, 1) := by decide +kernel
theorem d_Ro_measure_1 : decode b_Ro_measure 1 = .ok (.tableswitch 85 0 6 #[43, 49, 55, 61, 67, 73, 79], 43) := by decide +kernel
theorem d_Ro_measure_44 : decode b_Ro_measure 44 = .ok (.aload_n 0, 1) := by decide +kernel
theorem d_Ro_measure_45 : decode b_Ro_measure 45 = .ok (.getfield 18, 3) := by decide +kernel
theorem d_Ro_measure_48 : decode b_Ro_measure 48 = .ok (.i2l, 1) := by decide +kernel
theorem d_Ro_measure_49 : decode b_Ro_measure 49 = .ok (.lreturn, 1) := by decide +kernel
theorem d_Ro_measure_50 : decode b_Ro_measure 50 = .ok (.aload_n 0, 1) := by decide +kernel
theorem d_Ro_measure_51 : decode b_Ro_measure 51 = .ok (.invokevirtual 28, 3) := by decide +kernel
theorem d_Ro_measure_54 : decode b_Ro_measure 54 = .ok (.i2l, 1) := by decide +kernel
theorem d_Ro_measure_55 : decode b_Ro_measure 55 = .ok (.lreturn, 1) := by decide +kernel
theorem d_Ro_measure_56 : decode b_Ro_measure 56 = .ok (.aload_n 0, 1) := by decide +kernel
theorem d_Ro_measure_57 : decode b_Ro_measure 57 = .ok (.invokevirtual 32, 3) := by decide +kernel
theorem d_Ro_measure_60 : decode b_Ro_measure 60 = .ok (.i2l, 1) := by decide +kernel
theorem d_Ro_measure_61 : decode b_Ro_measure 61 = .ok (.lreturn, 1) := by decide +kernel
theorem d_Ro_measure_62 : decode b_Ro_measure 62 = .ok (.aload_n 0, 1) := by decide +kernel
theorem d_Ro_measure_63 : decode b_Ro_measure 63 = .ok (.invokevirtual 35, 3) := by decide +kernel
theorem d_Ro_measure_66 : decode b_Ro_measure 66 = .ok (.i2l, 1) := by decide +kernel
theorem d_Ro_measure_67 : decode b_Ro_measure 67 = .ok (.lreturn, 1) := by decide +kernel
theorem d_Ro_measure_68 : decode b_Ro_measure 68 = .ok (.aload_n 0, 1) := by decide +kernel
theorem d_Ro_measure_69 : decode b_Ro_measure 69 = .ok (.invokevirtual 38, 3) := by decide +kernel
theorem d_Ro_measure_72 : decode b_Ro_measure 72 = .ok (.i2l, 1) := by decide +kernel
theorem d_Ro_measure_73 : decode b_Ro_measure 73 = .ok (.lreturn, 1) := by decide +kernel
theorem d_Ro_measure_74 : decode b_Ro_measure 74 = .ok (.aload_n 0, 1) := by decide +kernel
theorem d_Ro_measure_75 : decode b_Ro_measure 75 = .ok (.invokevirtual 41, 3) := by decide +kernel
theorem d_Ro_measure_78 : decode b_Ro_measure 78 = .ok (.i2l, 1) := by decide +kernel
theorem d_Ro_measure_79 : decode b_Ro_measure 79 = .ok (.lreturn, 1) := by decide +kernel
theorem d_Ro_measure_80 : decode b_Ro_measure 80 = .ok (.aload_n 0, 1) := by decide +kernel
theorem d_Ro_measure_81 : decode b_Ro_measure 81 = .ok (.invokevirtual 44, 3) := by decide +kernel
theorem d_Ro_measure_84 : decode b_Ro_measure 84 = .ok (.i2l, 1) := by decide +kernel
theorem d_Ro_measure_85 : decode b_Ro_measure 85 = .ok (.lreturn, 1) := by decide +kernel
theorem d_Ro_measure_86 : decode b_Ro_measure 86 = .ok (.aload_n 0, 1) := by decide +kernel
theorem d_Ro_measure_87 : decode b_Ro_measure 87 = .ok (.invokevirtual 47, 3) := by decide +kernel
theorem d_Ro_measure_90 : decode b_Ro_measure 90 = .ok (.i2l, 1) := by decide +kernel
theorem d_Ro_measure_91 : decode b_Ro_measure 91 = .ok (.lreturn, 1) := by decide +kernel
abbrev ws_Ro_measure : List Cond := .code y_Ro_measure b_Ro_measure 2 (some .long) :: ALLG
abbrev rm_Ro_measure : Room := { frames := 3, cells := 0, slots := 0, locals := 63 }
set_option maxHeartbeats 4000000 in
set_option maxRecDepth 100000 in
theorem c_Ro_measure (l : Launch) (DD : va_G) (h : Nat) (hk : Nat) (ht : Nat) (ck : ClassId) (n : Nat) (k : Nat → Int32) (w : Nat) (hn : n ≤ 150) (hw : w < 8) : Met l y_Ro_measure ws_Ro_measure rm_Ro_measure (va_Pc [.ref h, .int (nI w)] (fun U => va_P DD vwCl [(h, .inr (4, [.ref hk, .ref ht, .int (nI n)])), (hk, .inl (ck, 150, .inl k))] U.heap ∧ va_K DD vwCl [(ck, .int)] U)) (vp_Sl (fun r9 => r9 = (figN k n w).toInt64)) 0 0 (fun _ => False) := by
  refine Met.ofW (cc := b_Ro_measure) (maxL := 2) (ret := (some .long)) (by decide) rfl ?_
  intro p e s m args below meth c s₁ B hml hv
  obtain ⟨ha, hP, hK⟩ := hv
  have hx := B.exec
  have hb := B.bytes
  have hr := B.returns
  have hts := atoms_spec (ws := ws_Ro_measure) B.pre
  have hg : ∀ w ∈ ALLG, w.before args s = true := fun w h => hts w (List.mem_cons_of_mem _ h)
  have hown : s.vm.findClass R_Ro = some m.cls := findClass_of_methodNamed B.named
  have hlocks := B.notSynchronized
  have hP : va_P DD vwCl [(h, .inr (4, [.ref hk, .ref ht, .int (nI n)])), (hk, .inl (ck, 150, .inl k))] s.heap := hP
  have hl := lv_entry ([.ref h, .int (nI w)]) (n := 2) (Nat.le_of_ble_eq_true rfl)
  rw [ha, lg_entry_eq, ← ha]
  generalize (lg_sl ([.ref h, .int (nI w)]) ++ List.replicate (2 - (lg_sl ([.ref h, .int (nI w)])).length) Slot.unset).toArray = ls at hl ⊢
  have hl : lv_has ls 2 [(0, .ref h), (1, .int (nI w))] := hl
  refine lv_iload_n hx hb d_Ro_measure_0 rfl (lv_at hl 1 rfl) ?_
  rcases (show w = 0 ∨ w = 1 ∨ w = 2 ∨ w = 3 ∨ w = 4 ∨ w = 5 ∨ w = 6 ∨ 7 ≤ w by omega) with rfl | rfl | rfl | rfl | rfl | rfl | rfl | h7
  · refine lv_tableIn (x := nI 0) (off := 43) (tgt := 44) hx hb d_Ro_measure_1 (by decide) (by decide) (by decide) (by decide) ?_
    refine lv_aload_n hx hb d_Ro_measure_44 rfl (lv_at hl 0 rfl) ?_
    refine va_get (D := DD) (ci := 4) (v := .int (nI n)) (C := R_Ro) (T := T_Ro) (N := 3) hx hb hg in_Ro hown hK hP 0 rfl rfl 2 (by decide) (hg _ mw_37) (fun _ h9 => h9) rfl d_Ro_measure_45 ?_
    refine lv_i2l hx hb d_Ro_measure_48 rfl ?_
    exact W.lret (v := (nI n).toInt64) hx hb hr (fun t9 ht9 hW9 => ⟨_, rfl, rfl, ht9⟩) (fun _ h => nomatch h) d_Ro_measure_49
  · refine lv_tableIn (x := nI 1) (off := 49) (tgt := 50) hx hb d_Ro_measure_1 (by decide) (by decide) (by decide) (by decide) ?_
    refine lv_aload_n hx hb d_Ro_measure_50 rfl (lv_at hl 0 rfl) ?_
    have hPc := hP.sub (ws' := [(h, .inr (4, [.ref hk, .ref ht, .int (nI n)])), (hk, .inl (ck, 150, .inl k))]) [0, 1] rfl
    have hKc := hK.sub (tys' := [(ck, .int)]) [0] rfl
    refine vp_callSi (W.runV (As := []) (rest := []) ⟨hx, hb, hml, hown, hg⟩ (c_Ro_runs l DD h hk ht ck n k (by omega)) (cwV 0 hg (gi_V mw_237 mw_238 mw_239 mw_2 mw_240) rfl rfl rfl (by decide +kernel) ⟨Nat.le_of_ble_eq_true rfl, Nat.le_of_ble_eq_true rfl⟩) ⟨z_blind, va_recv hKc hPc (ci := 4) (q0 := 0) rfl rfl, z_pre hPc hKc⟩ rfl rfl hl.1 rfl (lv_room (Nat.le_of_ble_eq_true rfl)) d_Ro_measure_51 ⟨Nat.zero_le _, Nat.zero_le _⟩) (fun r_51 hr_51 => ?_)
    subst hr_51
    refine lv_i2l hx hb d_Ro_measure_54 rfl ?_
    exact W.lret (v := (nI (runsF k n)).toInt64) hx hb hr (fun t9 ht9 hW9 => ⟨_, rfl, rfl, ht9⟩) (fun _ h => nomatch h) d_Ro_measure_55
  · refine lv_tableIn (x := nI 2) (off := 55) (tgt := 56) hx hb d_Ro_measure_1 (by decide) (by decide) (by decide) (by decide) ?_
    refine lv_aload_n hx hb d_Ro_measure_56 rfl (lv_at hl 0 rfl) ?_
    have hPc := hP.sub (ws' := [(h, .inr (4, [.ref hk, .ref ht, .int (nI n)])), (hk, .inl (ck, 150, .inl k))]) [0, 1] rfl
    have hKc := hK.sub (tys' := [(ck, .int)]) [0] rfl
    refine vp_callSi (W.runV (As := []) (rest := []) ⟨hx, hb, hml, hown, hg⟩ (c_Ro_falls l DD h hk ht ck n k (by omega)) (cwV 0 hg (gi_V mw_242 mw_243 mw_244 mw_2 mw_245) rfl rfl rfl (by decide +kernel) ⟨Nat.le_of_ble_eq_true rfl, Nat.le_of_ble_eq_true rfl⟩) ⟨z_blind, va_recv hKc hPc (ci := 4) (q0 := 0) rfl rfl, z_pre hPc hKc⟩ rfl rfl hl.1 rfl (lv_room (Nat.le_of_ble_eq_true rfl)) d_Ro_measure_57 ⟨Nat.zero_le _, Nat.zero_le _⟩) (fun r_57 hr_57 => ?_)
    subst hr_57
    refine lv_i2l hx hb d_Ro_measure_60 rfl ?_
    exact W.lret (v := (nI (cnt (fallB k) n)).toInt64) hx hb hr (fun t9 ht9 hW9 => ⟨_, rfl, rfl, ht9⟩) (fun _ h => nomatch h) d_Ro_measure_61
  · refine lv_tableIn (x := nI 3) (off := 61) (tgt := 62) hx hb d_Ro_measure_1 (by decide) (by decide) (by decide) (by decide) ?_
    refine lv_aload_n hx hb d_Ro_measure_62 rfl (lv_at hl 0 rfl) ?_
    have hPc := hP.sub (ws' := [(h, .inr (4, [.ref hk, .ref ht, .int (nI n)])), (hk, .inl (ck, 150, .inl k))]) [0, 1] rfl
    have hKc := hK.sub (tys' := [(ck, .int)]) [0] rfl
    refine vp_callSi (W.runV (As := []) (rest := []) ⟨hx, hb, hml, hown, hg⟩ (c_Ro_leastKey l DD h hk ht ck n k (by omega)) (cwV 0 hg (gi_V mw_246 mw_200 mw_201 mw_2 mw_202) rfl rfl rfl (by decide +kernel) ⟨Nat.le_of_ble_eq_true rfl, Nat.le_of_ble_eq_true rfl⟩) ⟨z_blind, va_recv hKc hPc (ci := 4) (q0 := 0) rfl rfl, z_pre hPc hKc⟩ rfl rfl hl.1 rfl (lv_room (Nat.le_of_ble_eq_true rfl)) d_Ro_measure_63 ⟨Nat.zero_le _, Nat.zero_le _⟩) (fun r_63 hr_63 => ?_)
    subst hr_63
    refine lv_i2l hx hb d_Ro_measure_66 rfl ?_
    exact W.lret (v := (leastF k n).toInt64) hx hb hr (fun t9 ht9 hW9 => ⟨_, rfl, rfl, ht9⟩) (fun _ h => nomatch h) d_Ro_measure_67
  · refine lv_tableIn (x := nI 4) (off := 67) (tgt := 68) hx hb d_Ro_measure_1 (by decide) (by decide) (by decide) (by decide) ?_
    refine lv_aload_n hx hb d_Ro_measure_68 rfl (lv_at hl 0 rfl) ?_
    have hPc := hP.sub (ws' := [(h, .inr (4, [.ref hk, .ref ht, .int (nI n)])), (hk, .inl (ck, 150, .inl k))]) [0, 1] rfl
    have hKc := hK.sub (tys' := [(ck, .int)]) [0] rfl
    refine vp_callSi (W.runV (As := []) (rest := []) ⟨hx, hb, hml, hown, hg⟩ (c_Ro_greatestKey l DD h hk ht ck n k (by omega)) (cwV 0 hg (gi_V mw_247 mw_193 mw_194 mw_2 mw_195) rfl rfl rfl (by decide +kernel) ⟨Nat.le_of_ble_eq_true rfl, Nat.le_of_ble_eq_true rfl⟩) ⟨z_blind, va_recv hKc hPc (ci := 4) (q0 := 0) rfl rfl, z_pre hPc hKc⟩ rfl rfl hl.1 rfl (lv_room (Nat.le_of_ble_eq_true rfl)) d_Ro_measure_69 ⟨Nat.zero_le _, Nat.zero_le _⟩) (fun r_69 hr_69 => ?_)
    subst hr_69
    refine lv_i2l hx hb d_Ro_measure_72 rfl ?_
    exact W.lret (v := (greatF k n).toInt64) hx hb hr (fun t9 ht9 hW9 => ⟨_, rfl, rfl, ht9⟩) (fun _ h => nomatch h) d_Ro_measure_73
  · refine lv_tableIn (x := nI 5) (off := 73) (tgt := 74) hx hb d_Ro_measure_1 (by decide) (by decide) (by decide) (by decide) ?_
    refine lv_aload_n hx hb d_Ro_measure_74 rfl (lv_at hl 0 rfl) ?_
    have hPc := hP.sub (ws' := [(h, .inr (4, [.ref hk, .ref ht, .int (nI n)])), (hk, .inl (ck, 150, .inl k))]) [0, 1] rfl
    have hKc := hK.sub (tys' := [(ck, .int)]) [0] rfl
    refine vp_callSi (W.runV (As := []) (rest := []) ⟨hx, hb, hml, hown, hg⟩ (c_Ro_drops l DD h hk ht ck n k (by omega)) (cwV 0 hg (gi_V mw_241 mw_221 mw_222 mw_2 mw_223) rfl rfl rfl (by decide +kernel) ⟨Nat.le_of_ble_eq_true rfl, Nat.le_of_ble_eq_true rfl⟩) ⟨z_blind, va_recv hKc hPc (ci := 4) (q0 := 0) rfl rfl, z_pre hPc hKc⟩ rfl rfl hl.1 rfl (lv_room (Nat.le_of_ble_eq_true rfl)) d_Ro_measure_75 ⟨Nat.zero_le _, Nat.zero_le _⟩) (fun r_75 hr_75 => ?_)
    subst hr_75
    refine lv_i2l hx hb d_Ro_measure_78 rfl ?_
    exact W.lret (v := (nI (cnt (dropB k) n)).toInt64) hx hb hr (fun t9 ht9 hW9 => ⟨_, rfl, rfl, ht9⟩) (fun _ h => nomatch h) d_Ro_measure_79
  · refine lv_tableIn (x := nI 6) (off := 79) (tgt := 80) hx hb d_Ro_measure_1 (by decide) (by decide) (by decide) (by decide) ?_
    refine lv_aload_n hx hb d_Ro_measure_80 rfl (lv_at hl 0 rfl) ?_
    have hPc := hP.sub (ws' := [(h, .inr (4, [.ref hk, .ref ht, .int (nI n)])), (hk, .inl (ck, 150, .inl k))]) [0, 1] rfl
    have hKc := hK.sub (tys' := [(ck, .int)]) [0] rfl
    refine vp_callSi (W.runV (As := []) (rest := []) ⟨hx, hb, hml, hown, hg⟩ (c_Ro_inversions l DD h hk ht ck n k (by omega)) (cwV 0 hg (gi_V mw_248 mw_249 mw_250 mw_2 mw_251) rfl rfl rfl (by decide +kernel) ⟨Nat.le_of_ble_eq_true rfl, Nat.le_of_ble_eq_true rfl⟩) ⟨z_blind, va_recv hKc hPc (ci := 4) (q0 := 0) rfl rfl, z_pre hPc hKc⟩ rfl rfl hl.1 rfl (lv_room (Nat.le_of_ble_eq_true rfl)) d_Ro_measure_81 ⟨Nat.zero_le _, Nat.zero_le _⟩) (fun r_81 hr_81 => ?_)
    subst hr_81
    refine lv_i2l hx hb d_Ro_measure_84 rfl ?_
    exact W.lret (v := (nI (invF k n)).toInt64) hx hb hr (fun t9 ht9 hW9 => ⟨_, rfl, rfl, ht9⟩) (fun _ h => nomatch h) d_Ro_measure_85
  · refine lv_tableOut (tgt := 86) hx hb d_Ro_measure_1 (Or.inr (by rw [nI_toInt (by omega)]; omega)) (by decide) ?_
    refine lv_aload_n hx hb d_Ro_measure_86 rfl (lv_at hl 0 rfl) ?_
    have hPc := hP.sub (ws' := [(h, .inr (4, [.ref hk, .ref ht, .int (nI n)])), (hk, .inl (ck, 150, .inl k))]) [0, 1] rfl
    have hKc := hK.sub (tys' := [(ck, .int)]) [0] rfl
    refine vp_callSi (W.runV (As := []) (rest := []) ⟨hx, hb, hml, hown, hg⟩ (c_Ro_differentKeys l DD h hk ht ck n k (by omega)) (cwV 0 hg (gi_V mw_252 mw_253 mw_254 mw_2 mw_255) rfl rfl rfl (by decide +kernel) ⟨Nat.le_of_ble_eq_true rfl, Nat.le_of_ble_eq_true rfl⟩) ⟨z_blind, va_recv hKc hPc (ci := 4) (q0 := 0) rfl rfl, z_pre hPc hKc⟩ rfl rfl hl.1 rfl (lv_room (Nat.le_of_ble_eq_true rfl)) d_Ro_measure_87 ⟨Nat.zero_le _, Nat.zero_le _⟩) (fun r_87 hr_87 => ?_)
    subst hr_87
    refine lv_i2l hx hb d_Ro_measure_90 rfl ?_
    exact W.lret (v := (nI (cnt (firstB k) n)).toInt64) hx hb hr (fun t9 ht9 hW9 => ⟨_, rfl, (by exact congrArg Int32.toInt64 (fig_7 h7)), ht9⟩) (fun _ h => nomatch h) d_Ro_measure_91
