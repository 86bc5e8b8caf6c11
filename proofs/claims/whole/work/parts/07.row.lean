theorem d_Ro_size_0 : decode b_Ro_size 0 = .ok (.aload_n 0, 1) := by decide +kernel
theorem d_Ro_size_1 : decode b_Ro_size 1 = .ok (.getfield 18, 3) := by decide +kernel
theorem d_Ro_size_4 : decode b_Ro_size 4 = .ok (.ireturn, 1) := by decide +kernel
abbrev ws_Ro_size : List Cond := .code y_Ro_size b_Ro_size 1 (some .int) :: ALLG
abbrev rm_Ro_size : Room := { frames := 0, cells := 0, slots := 0, locals := 0 }
set_option maxHeartbeats 4000000 in
set_option maxRecDepth 100000 in
theorem c_Ro_size (l : Launch) (DD : va_G) (h : Nat) (hk : Nat) (ht : Nat) (ck : ClassId) (n : Nat) (k : Nat → Int32) : Met l y_Ro_size ws_Ro_size rm_Ro_size (va_Pc [.ref h] (fun U => va_P DD vwCl [(h, .inr (4, [.ref hk, .ref ht, .int (nI n)])), (hk, .inl (ck, 150, .inl k))] U.heap ∧ va_K DD vwCl [(ck, .int)] U)) (vp_Si (fun r => r = nI n)) 0 0 (fun _ => False) := by
  refine Met.ofW (cc := b_Ro_size) (maxL := 1) (ret := (some .int)) (by decide) rfl ?_
  intro p e s m args below meth c s₁ B hml hv
  obtain ⟨ha, hP, hK⟩ := hv
  have hx := B.exec
  have hb := B.bytes
  have hr := B.returns
  have hts := atoms_spec (ws := ws_Ro_size) B.pre
  have hg : ∀ w ∈ ALLG, w.before args s = true := fun w h => hts w (List.mem_cons_of_mem _ h)
  have hown : s.vm.findClass R_Ro = some m.cls := findClass_of_methodNamed B.named
  have hlocks := B.notSynchronized
  have hP : va_P DD vwCl [(h, .inr (4, [.ref hk, .ref ht, .int (nI n)])), (hk, .inl (ck, 150, .inl k))] s.heap := hP
  have hl := lv_entry ([.ref h]) (n := 1) (Nat.le_of_ble_eq_true rfl)
  rw [ha, lg_entry_eq, ← ha]
  generalize (lg_sl ([.ref h]) ++ List.replicate (1 - (lg_sl ([.ref h])).length) Slot.unset).toArray = ls at hl ⊢
  have hl : lv_has ls 1 [(0, .ref h)] := hl
  refine lv_aload_n hx hb d_Ro_size_0 rfl (lv_at hl 0 rfl) ?_
  refine va_get (D := DD) (ci := 4) (v := .int (nI n)) (C := R_Ro) (T := T_Ro) (N := 3) hx hb hg in_Ro hown hK hP 0 rfl rfl 2 (by decide) (hg _ mw_37) (fun _ h9 => h9) rfl d_Ro_size_1 ?_
  exact W.iret (v := nI n) hx hb hr (fun t9 ht9 hW9 => ⟨_, rfl, rfl, ht9⟩) (fun _ h => nomatch h) d_Ro_size_4
theorem d_Ro_isFull_0 : decode b_Ro_isFull 0 = .ok (.aload_n 0, 1) := by decide +kernel
theorem d_Ro_isFull_1 : decode b_Ro_isFull 1 = .ok (.getfield 18, 3) := by decide +kernel
theorem d_Ro_isFull_4 : decode b_Ro_isFull 4 = .ok (.sipush 150, 3) := by decide +kernel
theorem d_Ro_isFull_7 : decode b_Ro_isFull 7 = .ok (.if_icmp .lt 7, 3) := by decide +kernel
theorem d_Ro_isFull_10 : decode b_Ro_isFull 10 = .ok (.iconst 1, 1) := by decide +kernel
theorem d_Ro_isFull_11 : decode b_Ro_isFull 11 = .ok (.goto 4, 3) := by decide +kernel
theorem d_Ro_isFull_14 : decode b_Ro_isFull 14 = .ok (.iconst 0, 1) := by decide +kernel
theorem d_Ro_isFull_15 : decode b_Ro_isFull 15 = .ok (.ireturn, 1) := by decide +kernel
abbrev ws_Ro_isFull : List Cond := .code y_Ro_isFull b_Ro_isFull 1 (some .boolean) :: ALLG
abbrev rm_Ro_isFull : Room := { frames := 0, cells := 0, slots := 0, locals := 0 }
set_option maxHeartbeats 4000000 in
set_option maxRecDepth 100000 in
theorem c_Ro_isFull (l : Launch) (DD : va_G) (h : Nat) (hk : Nat) (ht : Nat) (ck : ClassId) (n : Nat) (k : Nat → Int32) (hn : n ≤ 150) : Met l y_Ro_isFull ws_Ro_isFull rm_Ro_isFull (va_Pc [.ref h] (fun U => va_P DD vwCl [(h, .inr (4, [.ref hk, .ref ht, .int (nI n)])), (hk, .inl (ck, 150, .inl k))] U.heap ∧ va_K DD vwCl [(ck, .int)] U)) (vp_Si (fun r => r = zb (decide (150 ≤ n)))) 0 0 (fun _ => False) := by
  refine Met.ofW (cc := b_Ro_isFull) (maxL := 1) (ret := (some .boolean)) (by decide) rfl ?_
  intro p e s m args below meth c s₁ B hml hv
  obtain ⟨ha, hP, hK⟩ := hv
  have hx := B.exec
  have hb := B.bytes
  have hr := B.returns
  have hts := atoms_spec (ws := ws_Ro_isFull) B.pre
  have hg : ∀ w ∈ ALLG, w.before args s = true := fun w h => hts w (List.mem_cons_of_mem _ h)
  have hown : s.vm.findClass R_Ro = some m.cls := findClass_of_methodNamed B.named
  have hlocks := B.notSynchronized
  have hP : va_P DD vwCl [(h, .inr (4, [.ref hk, .ref ht, .int (nI n)])), (hk, .inl (ck, 150, .inl k))] s.heap := hP
  have hl := lv_entry ([.ref h]) (n := 1) (Nat.le_of_ble_eq_true rfl)
  rw [ha, lg_entry_eq, ← ha]
  generalize (lg_sl ([.ref h]) ++ List.replicate (1 - (lg_sl ([.ref h])).length) Slot.unset).toArray = ls at hl ⊢
  have hl : lv_has ls 1 [(0, .ref h)] := hl
  refine lv_aload_n hx hb d_Ro_isFull_0 rfl (lv_at hl 0 rfl) ?_
  refine va_get (D := DD) (ci := 4) (v := .int (nI n)) (C := R_Ro) (T := T_Ro) (N := 3) hx hb hg in_Ro hown hK hP 0 rfl rfl 2 (by decide) (hg _ mw_37) (fun _ h9 => h9) rfl d_Ro_isFull_1 ?_
  refine lv_sipush (v := nI 150) hx hb d_Ro_isFull_4 (by decide) ?_
  refine z_icmp_lt (tgt := 14) hx hb d_Ro_isFull_7 (by decide) (by omega) (by omega) (fun c_7 => ?_) (fun c_7 => ?_)
  · refine lv_iconst (v := nI 0) hx hb d_Ro_isFull_14 (by decide) ?_
    exact W.zret (v := nI 0) hx hb hr (by rfl) (fun t9 ht9 hW9 => ⟨_, rfl, (by first | exact zb_t (decide_eq_true c_7) | exact zb_f (decide_eq_false (by omega))), ht9⟩) (fun _ h => nomatch h) d_Ro_isFull_15
  · refine lv_iconst (v := nI 1) hx hb d_Ro_isFull_10 (by decide) ?_
    refine lv_goto (tgt := 15) hx hb d_Ro_isFull_11 (by decide) ?_
    exact W.zret (v := nI 1) hx hb hr (by rfl) (fun t9 ht9 hW9 => ⟨_, rfl, (by first | exact zb_t (decide_eq_true c_7) | exact zb_f (decide_eq_false (by omega))), ht9⟩) (fun _ h => nomatch h) d_Ro_isFull_15
theorem d_Ro_has_0 : decode b_Ro_has 0 = .ok (.iload_n 1, 1) := by decide +kernel
theorem d_Ro_has_1 : decode b_Ro_has 1 = .ok (.ifCond .lt 15, 3) := by decide +kernel
theorem d_Ro_has_4 : decode b_Ro_has 4 = .ok (.iload_n 1, 1) := by decide +kernel
theorem d_Ro_has_5 : decode b_Ro_has 5 = .ok (.aload_n 0, 1) := by decide +kernel
theorem d_Ro_has_6 : decode b_Ro_has 6 = .ok (.getfield 18, 3) := by decide +kernel
theorem d_Ro_has_9 : decode b_Ro_has 9 = .ok (.if_icmp .ge 7, 3) := by decide +kernel
theorem d_Ro_has_12 : decode b_Ro_has 12 = .ok (.iconst 1, 1) := by decide +kernel
theorem d_Ro_has_13 : decode b_Ro_has 13 = .ok (.goto 4, 3) := by decide +kernel
theorem d_Ro_has_16 : decode b_Ro_has 16 = .ok (.iconst 0, 1) := by decide +kernel
theorem d_Ro_has_17 : decode b_Ro_has 17 = .ok (.ireturn, 1) := by decide +kernel
abbrev ws_Ro_has : List Cond := .code y_Ro_has b_Ro_has 2 (some .boolean) :: ALLG
abbrev rm_Ro_has : Room := { frames := 0, cells := 0, slots := 0, locals := 0 }
set_option maxHeartbeats 4000000 in
set_option maxRecDepth 100000 in
theorem c_Ro_has (l : Launch) (DD : va_G) (h : Nat) (hk : Nat) (ht : Nat) (ck : ClassId) (n : Nat) (k : Nat → Int32) (x : Int32) (hn : n ≤ 150) : Met l y_Ro_has ws_Ro_has rm_Ro_has (va_Pc [.ref h, .int x] (fun U => va_P DD vwCl [(h, .inr (4, [.ref hk, .ref ht, .int (nI n)])), (hk, .inl (ck, 150, .inl k))] U.heap ∧ va_K DD vwCl [(ck, .int)] U)) (vp_Si (fun r => r = zb (hasB x n))) 0 0 (fun _ => False) := by
  refine Met.ofW (cc := b_Ro_has) (maxL := 2) (ret := (some .boolean)) (by decide) rfl ?_
  intro p e s m args below meth c s₁ B hml hv
  obtain ⟨ha, hP, hK⟩ := hv
  have hx := B.exec
  have hb := B.bytes
  have hr := B.returns
  have hts := atoms_spec (ws := ws_Ro_has) B.pre
  have hg : ∀ w ∈ ALLG, w.before args s = true := fun w h => hts w (List.mem_cons_of_mem _ h)
  have hown : s.vm.findClass R_Ro = some m.cls := findClass_of_methodNamed B.named
  have hlocks := B.notSynchronized
  have hP : va_P DD vwCl [(h, .inr (4, [.ref hk, .ref ht, .int (nI n)])), (hk, .inl (ck, 150, .inl k))] s.heap := hP
  have hl := lv_entry ([.ref h, .int x]) (n := 2) (Nat.le_of_ble_eq_true rfl)
  rw [ha, lg_entry_eq, ← ha]
  generalize (lg_sl ([.ref h, .int x]) ++ List.replicate (2 - (lg_sl ([.ref h, .int x])).length) Slot.unset).toArray = ls at hl ⊢
  have hl : lv_has ls 2 [(0, .ref h), (1, .int x)] := hl
  refine lv_iload_n hx hb d_Ro_has_0 rfl (lv_at hl 1 rfl) ?_
  refine lv_if_lt (tgt := 16) hx hb d_Ro_has_1 (by decide) (fun c_1 => ?_) (fun c_1 => ?_)
  · refine lv_iconst (v := nI 0) hx hb d_Ro_has_16 (by decide) ?_
    exact W.zret (v := nI 0) hx hb hr (by rfl) (fun t9 ht9 hW9 => ⟨_, rfl, (by first | exact hasB_t (by omega) c_1 c_9 | exact hasB_f2 (by omega) c_9 | exact hasB_f1 c_1), ht9⟩) (fun _ h => nomatch h) d_Ro_has_17
  · refine lv_iload_n hx hb d_Ro_has_4 rfl (lv_at hl 1 rfl) ?_
    refine lv_aload_n hx hb d_Ro_has_5 rfl (lv_at hl 0 rfl) ?_
    refine va_get (D := DD) (ci := 4) (v := .int (nI n)) (C := R_Ro) (T := T_Ro) (N := 3) hx hb hg in_Ro hown hK hP 0 rfl rfl 2 (by decide) (hg _ mw_37) (fun _ h9 => h9) rfl d_Ro_has_6 ?_
    refine lv_icmp_ge (tgt := 16) hx hb d_Ro_has_9 (by decide) (fun c_9 => ?_) (fun c_9 => ?_)
    · refine lv_iconst (v := nI 0) hx hb d_Ro_has_16 (by decide) ?_
      exact W.zret (v := nI 0) hx hb hr (by rfl) (fun t9 ht9 hW9 => ⟨_, rfl, (by first | exact hasB_t (by omega) c_1 c_9 | exact hasB_f2 (by omega) c_9 | exact hasB_f1 c_1), ht9⟩) (fun _ h => nomatch h) d_Ro_has_17
    · refine lv_iconst (v := nI 1) hx hb d_Ro_has_12 (by decide) ?_
      refine lv_goto (tgt := 17) hx hb d_Ro_has_13 (by decide) ?_
      exact W.zret (v := nI 1) hx hb hr (by rfl) (fun t9 ht9 hW9 => ⟨_, rfl, (by first | exact hasB_t (by omega) c_1 c_9 | exact hasB_f2 (by omega) c_9 | exact hasB_f1 c_1), ht9⟩) (fun _ h => nomatch h) d_Ro_has_17
theorem d_Ro_key_0 : decode b_Ro_key 0 = .ok (.aload_n 0, 1) := by decide +kernel
theorem d_Ro_key_1 : decode b_Ro_key 1 = .ok (.getfield 9, 3) := by decide +kernel
theorem d_Ro_key_4 : decode b_Ro_key 4 = .ok (.iload_n 1, 1) := by decide +kernel
theorem d_Ro_key_5 : decode b_Ro_key 5 = .ok (.iaload, 1) := by decide +kernel
theorem d_Ro_key_6 : decode b_Ro_key 6 = .ok (.ireturn, 1) := by decide +kernel
abbrev ws_Ro_key : List Cond := .code y_Ro_key b_Ro_key 2 (some .int) :: ALLG
abbrev rm_Ro_key : Room := { frames := 0, cells := 0, slots := 0, locals := 0 }
set_option maxHeartbeats 4000000 in
set_option maxRecDepth 100000 in
theorem c_Ro_key (l : Launch) (DD : va_G) (h : Nat) (hk : Nat) (ht : Nat) (ck : ClassId) (n : Nat) (k : Nat → Int32) (j : Nat) (hj : j < 150) : Met l y_Ro_key ws_Ro_key rm_Ro_key (va_Pc [.ref h, .int (nI j)] (fun U => va_P DD vwCl [(h, .inr (4, [.ref hk, .ref ht, .int (nI n)])), (hk, .inl (ck, 150, .inl k))] U.heap ∧ va_K DD vwCl [(ck, .int)] U)) (vp_Si (fun r => r = k j)) 0 0 (fun _ => False) := by
  refine Met.ofW (cc := b_Ro_key) (maxL := 2) (ret := (some .int)) (by decide) rfl ?_
  intro p e s m args below meth c s₁ B hml hv
  obtain ⟨ha, hP, hK⟩ := hv
  have hx := B.exec
  have hb := B.bytes
  have hr := B.returns
  have hts := atoms_spec (ws := ws_Ro_key) B.pre
  have hg : ∀ w ∈ ALLG, w.before args s = true := fun w h => hts w (List.mem_cons_of_mem _ h)
  have hown : s.vm.findClass R_Ro = some m.cls := findClass_of_methodNamed B.named
  have hlocks := B.notSynchronized
  have hP : va_P DD vwCl [(h, .inr (4, [.ref hk, .ref ht, .int (nI n)])), (hk, .inl (ck, 150, .inl k))] s.heap := hP
  have hl := lv_entry ([.ref h, .int (nI j)]) (n := 2) (Nat.le_of_ble_eq_true rfl)
  rw [ha, lg_entry_eq, ← ha]
  generalize (lg_sl ([.ref h, .int (nI j)]) ++ List.replicate (2 - (lg_sl ([.ref h, .int (nI j)])).length) Slot.unset).toArray = ls at hl ⊢
  have hl : lv_has ls 2 [(0, .ref h), (1, .int (nI j))] := hl
  refine lv_aload_n hx hb d_Ro_key_0 rfl (lv_at hl 0 rfl) ?_
  refine va_get (D := DD) (ci := 4) (v := .ref hk) (C := R_Ro) (T := T_Ro) (N := 3) hx hb hg in_Ro hown hK hP 0 rfl rfl 0 (by decide) (hg _ mw_35) (fun _ h9 => h9) rfl d_Ro_key_1 ?_
  refine lv_iload_n hx hb d_Ro_key_4 rfl (lv_at hl 1 rfl) ?_
  refine z_iald hx hb hK hP 1 0 rfl rfl (by omega) (by decide) d_Ro_key_5 ?_
  exact W.iret (v := k j) hx hb hr (fun t9 ht9 hW9 => ⟨_, rfl, rfl, ht9⟩) (fun _ h => nomatch h) d_Ro_key_6
theorem d_Ro_tag_0 : decode b_Ro_tag 0 = .ok (.aload_n 0, 1) := by decide +kernel
theorem d_Ro_tag_1 : decode b_Ro_tag 1 = .ok (.getfield 15, 3) := by decide +kernel
theorem d_Ro_tag_4 : decode b_Ro_tag 4 = .ok (.iload_n 1, 1) := by decide +kernel
theorem d_Ro_tag_5 : decode b_Ro_tag 5 = .ok (.iaload, 1) := by decide +kernel
theorem d_Ro_tag_6 : decode b_Ro_tag 6 = .ok (.ireturn, 1) := by decide +kernel
abbrev ws_Ro_tag : List Cond := .code y_Ro_tag b_Ro_tag 2 (some .int) :: ALLG
abbrev rm_Ro_tag : Room := { frames := 0, cells := 0, slots := 0, locals := 0 }
set_option maxHeartbeats 4000000 in
set_option maxRecDepth 100000 in
theorem c_Ro_tag (l : Launch) (DD : va_G) (h : Nat) (hk : Nat) (ht : Nat) (ck : ClassId) (n : Nat) (k : Nat → Int32) (ct : ClassId) (t : Nat → Int32) (j : Nat) (hj : j < 150) : Met l y_Ro_tag ws_Ro_tag rm_Ro_tag (va_Pc [.ref h, .int (nI j)] (fun U => va_P DD vwCl [(h, .inr (4, [.ref hk, .ref ht, .int (nI n)])), (hk, .inl (ck, 150, .inl k)), (ht, .inl (ct, 150, .inl t))] U.heap ∧ va_K DD vwCl [(ck, .int), (ct, .int)] U)) (vp_Si (fun r => r = t j)) 0 0 (fun _ => False) := by
  refine Met.ofW (cc := b_Ro_tag) (maxL := 2) (ret := (some .int)) (by decide) rfl ?_
  intro p e s m args below meth c s₁ B hml hv
  obtain ⟨ha, hP, hK⟩ := hv
  have hx := B.exec
  have hb := B.bytes
  have hr := B.returns
  have hts := atoms_spec (ws := ws_Ro_tag) B.pre
  have hg : ∀ w ∈ ALLG, w.before args s = true := fun w h => hts w (List.mem_cons_of_mem _ h)
  have hown : s.vm.findClass R_Ro = some m.cls := findClass_of_methodNamed B.named
  have hlocks := B.notSynchronized
  have hP : va_P DD vwCl [(h, .inr (4, [.ref hk, .ref ht, .int (nI n)])), (hk, .inl (ck, 150, .inl k)), (ht, .inl (ct, 150, .inl t))] s.heap := hP
  have hl := lv_entry ([.ref h, .int (nI j)]) (n := 2) (Nat.le_of_ble_eq_true rfl)
  rw [ha, lg_entry_eq, ← ha]
  generalize (lg_sl ([.ref h, .int (nI j)]) ++ List.replicate (2 - (lg_sl ([.ref h, .int (nI j)])).length) Slot.unset).toArray = ls at hl ⊢
  have hl : lv_has ls 2 [(0, .ref h), (1, .int (nI j))] := hl
  refine lv_aload_n hx hb d_Ro_tag_0 rfl (lv_at hl 0 rfl) ?_
  refine va_get (D := DD) (ci := 4) (v := .ref ht) (C := R_Ro) (T := T_Ro) (N := 3) hx hb hg in_Ro hown hK hP 0 rfl rfl 1 (by decide) (hg _ mw_36) (fun _ h9 => h9) rfl d_Ro_tag_1 ?_
  refine lv_iload_n hx hb d_Ro_tag_4 rfl (lv_at hl 1 rfl) ?_
  refine z_iald hx hb hK hP 2 1 rfl rfl (by omega) (by decide) d_Ro_tag_5 ?_
  exact W.iret (v := t j) hx hb hr (fun t9 ht9 hW9 => ⟨_, rfl, rfl, ht9⟩) (fun _ h => nomatch h) d_Ro_tag_6
theorem d_Ro_dropsBefore_0 : decode b_Ro_dropsBefore 0 = .ok (.iload_n 1, 1) := by decide +kernel
theorem d_Ro_dropsBefore_1 : decode b_Ro_dropsBefore 1 = .ok (.ifCond .le 24, 3) := by decide +kernel
theorem d_Ro_dropsBefore_4 : decode b_Ro_dropsBefore 4 = .ok (.aload_n 0, 1) := by decide +kernel
theorem d_Ro_dropsBefore_5 : decode b_Ro_dropsBefore 5 = .ok (.getfield 9, 3) := by decide +kernel
theorem d_Ro_dropsBefore_8 : decode b_Ro_dropsBefore 8 = .ok (.iload_n 1, 1) := by decide +kernel
theorem d_Ro_dropsBefore_9 : decode b_Ro_dropsBefore 9 = .ok (.iconst 1, 1) := by decide +kernel
theorem d_Ro_dropsBefore_10 : decode b_Ro_dropsBefore 10 = .ok (.isub, 1) := by decide +kernel
theorem d_Ro_dropsBefore_11 : decode b_Ro_dropsBefore 11 = .ok (.iaload, 1) := by decide +kernel
theorem d_Ro_dropsBefore_12 : decode b_Ro_dropsBefore 12 = .ok (.aload_n 0, 1) := by decide +kernel
theorem d_Ro_dropsBefore_13 : decode b_Ro_dropsBefore 13 = .ok (.getfield 9, 3) := by decide +kernel
theorem d_Ro_dropsBefore_16 : decode b_Ro_dropsBefore 16 = .ok (.iload_n 1, 1) := by decide +kernel
theorem d_Ro_dropsBefore_17 : decode b_Ro_dropsBefore 17 = .ok (.iaload, 1) := by decide +kernel
theorem d_Ro_dropsBefore_18 : decode b_Ro_dropsBefore 18 = .ok (.if_icmp .le 7, 3) := by decide +kernel
theorem d_Ro_dropsBefore_21 : decode b_Ro_dropsBefore 21 = .ok (.iconst 1, 1) := by decide +kernel
theorem d_Ro_dropsBefore_22 : decode b_Ro_dropsBefore 22 = .ok (.goto 4, 3) := by decide +kernel
theorem d_Ro_dropsBefore_25 : decode b_Ro_dropsBefore 25 = .ok (.iconst 0, 1) := by decide +kernel
theorem d_Ro_dropsBefore_26 : decode b_Ro_dropsBefore 26 = .ok (.ireturn, 1) := by decide +kernel
abbrev ws_Ro_dropsBefore : List Cond := .code y_Ro_dropsBefore b_Ro_dropsBefore 2 (some .boolean) :: ALLG
abbrev rm_Ro_dropsBefore : Room := { frames := 0, cells := 0, slots := 0, locals := 0 }
set_option maxHeartbeats 4000000 in
set_option maxRecDepth 100000 in
theorem c_Ro_dropsBefore (l : Launch) (DD : va_G) (h : Nat) (hk : Nat) (ht : Nat) (ck : ClassId) (n : Nat) (k : Nat → Int32) (j : Nat) (hj : j < 150) : Met l y_Ro_dropsBefore ws_Ro_dropsBefore rm_Ro_dropsBefore (va_Pc [.ref h, .int (nI j)] (fun U => va_P DD vwCl [(h, .inr (4, [.ref hk, .ref ht, .int (nI n)])), (hk, .inl (ck, 150, .inl k))] U.heap ∧ va_K DD vwCl [(ck, .int)] U)) (vp_Si (fun r => r = zb (dropB k j))) 0 0 (fun _ => False) := by
  refine Met.ofW (cc := b_Ro_dropsBefore) (maxL := 2) (ret := (some .boolean)) (by decide) rfl ?_
  intro p e s m args below meth c s₁ B hml hv
  obtain ⟨ha, hP, hK⟩ := hv
  have hx := B.exec
  have hb := B.bytes
  have hr := B.returns
  have hts := atoms_spec (ws := ws_Ro_dropsBefore) B.pre
  have hg : ∀ w ∈ ALLG, w.before args s = true := fun w h => hts w (List.mem_cons_of_mem _ h)
  have hown : s.vm.findClass R_Ro = some m.cls := findClass_of_methodNamed B.named
  have hlocks := B.notSynchronized
  have hP : va_P DD vwCl [(h, .inr (4, [.ref hk, .ref ht, .int (nI n)])), (hk, .inl (ck, 150, .inl k))] s.heap := hP
  have hl := lv_entry ([.ref h, .int (nI j)]) (n := 2) (Nat.le_of_ble_eq_true rfl)
  rw [ha, lg_entry_eq, ← ha]
  generalize (lg_sl ([.ref h, .int (nI j)]) ++ List.replicate (2 - (lg_sl ([.ref h, .int (nI j)])).length) Slot.unset).toArray = ls at hl ⊢
  have hl : lv_has ls 2 [(0, .ref h), (1, .int (nI j))] := hl
  refine lv_iload_n hx hb d_Ro_dropsBefore_0 rfl (lv_at hl 1 rfl) ?_
  refine z_if_le (tgt := 25) hx hb d_Ro_dropsBefore_1 (by decide) (by omega) (fun c_1 => ?_) (fun c_1 => ?_)
  · refine lv_iconst (v := nI 0) hx hb d_Ro_dropsBefore_25 (by decide) ?_
    exact W.zret (v := nI 0) hx hb hr (by rfl) (fun t9 ht9 hW9 => ⟨_, rfl, (by first | exact dropB_t c_1 c_18 | exact dropB_f c_18 | exact dropB_f0 c_1), ht9⟩) (fun _ h => nomatch h) d_Ro_dropsBefore_26
  · refine lv_aload_n hx hb d_Ro_dropsBefore_4 rfl (lv_at hl 0 rfl) ?_
    refine va_get (D := DD) (ci := 4) (v := .ref hk) (C := R_Ro) (T := T_Ro) (N := 3) hx hb hg in_Ro hown hK hP 0 rfl rfl 0 (by decide) (hg _ mw_35) (fun _ h9 => h9) rfl d_Ro_dropsBefore_5 ?_
    refine lv_iload_n hx hb d_Ro_dropsBefore_8 rfl (lv_at hl 1 rfl) ?_
    refine lv_iconst (v := nI 1) hx hb d_Ro_dropsBefore_9 (by decide) ?_
    refine z_isub hx hb d_Ro_dropsBefore_10 (by omega) ?_
    refine z_iald hx hb hK hP 1 0 rfl rfl (by omega) (by decide) d_Ro_dropsBefore_11 ?_
    refine lv_aload_n hx hb d_Ro_dropsBefore_12 rfl (lv_at hl 0 rfl) ?_
    refine va_get (D := DD) (ci := 4) (v := .ref hk) (C := R_Ro) (T := T_Ro) (N := 3) hx hb hg in_Ro hown hK hP 0 rfl rfl 0 (by decide) (hg _ mw_35) (fun _ h9 => h9) rfl d_Ro_dropsBefore_13 ?_
    refine lv_iload_n hx hb d_Ro_dropsBefore_16 rfl (lv_at hl 1 rfl) ?_
    refine z_iald hx hb hK hP 1 0 rfl rfl (by omega) (by decide) d_Ro_dropsBefore_17 ?_
    refine lv_icmp_le (tgt := 25) hx hb d_Ro_dropsBefore_18 (by decide) (fun c_18 => ?_) (fun c_18 => ?_)
    · refine lv_iconst (v := nI 0) hx hb d_Ro_dropsBefore_25 (by decide) ?_
      exact W.zret (v := nI 0) hx hb hr (by rfl) (fun t9 ht9 hW9 => ⟨_, rfl, (by first | exact dropB_t c_1 c_18 | exact dropB_f c_18 | exact dropB_f0 c_1), ht9⟩) (fun _ h => nomatch h) d_Ro_dropsBefore_26
    · refine lv_iconst (v := nI 1) hx hb d_Ro_dropsBefore_21 (by decide) ?_
      refine lv_goto (tgt := 26) hx hb d_Ro_dropsBefore_22 (by decide) ?_
      exact W.zret (v := nI 1) hx hb hr (by rfl) (fun t9 ht9 hW9 => ⟨_, rfl, (by first | exact dropB_t c_1 c_18 | exact dropB_f c_18 | exact dropB_f0 c_1), ht9⟩) (fun _ h => nomatch h) d_Ro_dropsBefore_26
theorem d_Ro_drops_0 : decode b_Ro_drops 0 = .ok (.iconst 0, 1) := by decide +kernel
theorem d_Ro_drops_1 : decode b_Ro_drops 1 = .ok (.istore_n 1, 1) := by decide +kernel
theorem d_Ro_drops_2 : decode b_Ro_drops 2 = .ok (.iconst 1, 1) := by decide +kernel
theorem d_Ro_drops_3 : decode b_Ro_drops 3 = .ok (.istore_n 2, 1) := by decide +kernel
theorem d_Ro_drops_4 : decode b_Ro_drops 4 = .ok (.iload_n 2, 1) := by decide +kernel
theorem d_Ro_drops_5 : decode b_Ro_drops 5 = .ok (.aload_n 0, 1) := by decide +kernel
theorem d_Ro_drops_6 : decode b_Ro_drops 6 = .ok (.getfield 18, 3) := by decide +kernel
theorem d_Ro_drops_9 : decode b_Ro_drops 9 = .ok (.if_icmp .ge 20, 3) := by decide +kernel
theorem d_Ro_drops_12 : decode b_Ro_drops 12 = .ok (.aload_n 0, 1) := by decide +kernel
theorem d_Ro_drops_13 : decode b_Ro_drops 13 = .ok (.iload_n 2, 1) := by decide +kernel
theorem d_Ro_drops_14 : decode b_Ro_drops 14 = .ok (.invokevirtual 50, 3) := by decide +kernel
theorem d_Ro_drops_17 : decode b_Ro_drops 17 = .ok (.ifCond .eq 6, 3) := by decide +kernel
theorem d_Ro_drops_20 : decode b_Ro_drops 20 = .ok (.iinc 1 1, 3) := by decide +kernel
theorem d_Ro_drops_23 : decode b_Ro_drops 23 = .ok (.iinc 2 1, 3) := by decide +kernel
theorem d_Ro_drops_26 : decode b_Ro_drops 26 = .ok (.goto (-22), 3) := by decide +kernel
theorem d_Ro_drops_29 : decode b_Ro_drops 29 = .ok (.iload_n 1, 1) := by decide +kernel
theorem d_Ro_drops_30 : decode b_Ro_drops 30 = .ok (.ireturn, 1) := by decide +kernel
abbrev ws_Ro_drops : List Cond := .code y_Ro_drops b_Ro_drops 3 (some .int) :: ALLG
abbrev rm_Ro_drops : Room := { frames := 1, cells := 0, slots := 0, locals := 21 }
set_option maxHeartbeats 4000000 in
set_option maxRecDepth 100000 in
theorem c_Ro_drops (l : Launch) (DD : va_G) (h : Nat) (hk : Nat) (ht : Nat) (ck : ClassId) (n : Nat) (k : Nat → Int32) (hn : n ≤ 150) : Met l y_Ro_drops ws_Ro_drops rm_Ro_drops (va_Pc [.ref h] (fun U => va_P DD vwCl [(h, .inr (4, [.ref hk, .ref ht, .int (nI n)])), (hk, .inl (ck, 150, .inl k))] U.heap ∧ va_K DD vwCl [(ck, .int)] U)) (vp_Si (fun r => r = nI (cnt (dropB k) n))) 0 0 (fun _ => False) := by
  refine Met.ofW (cc := b_Ro_drops) (maxL := 3) (ret := (some .int)) (by decide) rfl ?_
  intro p e s m args below meth c s₁ B hml hv
  obtain ⟨ha, hP, hK⟩ := hv
  have hx := B.exec
  have hb := B.bytes
  have hr := B.returns
  have hts := atoms_spec (ws := ws_Ro_drops) B.pre
  have hg : ∀ w ∈ ALLG, w.before args s = true := fun w h => hts w (List.mem_cons_of_mem _ h)
  have hown : s.vm.findClass R_Ro = some m.cls := findClass_of_methodNamed B.named
  have hlocks := B.notSynchronized
  have hP : va_P DD vwCl [(h, .inr (4, [.ref hk, .ref ht, .int (nI n)])), (hk, .inl (ck, 150, .inl k))] s.heap := hP
  have hl := lv_entry ([.ref h]) (n := 3) (Nat.le_of_ble_eq_true rfl)
  rw [ha, lg_entry_eq, ← ha]
  generalize (lg_sl ([.ref h]) ++ List.replicate (3 - (lg_sl ([.ref h])).length) Slot.unset).toArray = ls at hl ⊢
  have hl : lv_has ls 3 [(0, .ref h)] := hl
  have K4 : ∀ (kk : Nat) (i : Nat) (q : Nat), (hi : 1 ≤ i) → (hin : i ≤ n ∨ (i = 1 ∧ n = 0)) → (hc : q = cnt (dropB k) i) → n - i < kk → ∀ (ls : Array Slot), lv_has ls 3 [(0, .ref h), (1, .int (nI q)), (2, .int (nI i))] → W p l e (headSpec ws_Ro_drops rm_Ro_drops).room s m args below meth c s.heap [] 0 0 (MQ below (vp_Si (fun r => r = nI (cnt (dropB k) n))) args s 0 0 (fun _ => False)) (F0 m 4 ls []) := by
    intro kk
    induction kk with
    | zero => intros; omega
    | succ kk ih =>
      intro i q hi hin hc hkk ls hl
      refine lv_iload_n hx hb d_Ro_drops_4 rfl (lv_at hl 2 rfl) ?_
      refine lv_aload_n hx hb d_Ro_drops_5 rfl (lv_at hl 0 rfl) ?_
      refine va_get (D := DD) (ci := 4) (v := .int (nI n)) (C := R_Ro) (T := T_Ro) (N := 3) hx hb hg in_Ro hown hK hP 0 rfl rfl 2 (by decide) (hg _ mw_37) (fun _ h9 => h9) rfl d_Ro_drops_6 ?_
      refine z_icmp_ge (tgt := 29) hx hb d_Ro_drops_9 (by decide) (by omega) (by omega) (fun c_9 => ?_) (fun c_9 => ?_)
      · refine lv_iload_n hx hb d_Ro_drops_29 rfl (lv_at hl 1 rfl) ?_
        exact W.iret (v := nI q) hx hb hr (fun t9 ht9 hW9 => ⟨_, rfl, (by exact congrArg nI (one_exit (dropB_0 k) hc c_9 hin)), ht9⟩) (fun _ h => nomatch h) d_Ro_drops_30
      · refine lv_aload_n hx hb d_Ro_drops_12 rfl (lv_at hl 0 rfl) ?_
        refine lv_iload_n hx hb d_Ro_drops_13 rfl (lv_at hl 2 rfl) ?_
        have hPc := hP.sub (ws' := [(h, .inr (4, [.ref hk, .ref ht, .int (nI n)])), (hk, .inl (ck, 150, .inl k))]) [0, 1] rfl
        have hKc := hK.sub (tys' := [(ck, .int)]) [0] rfl
        refine vp_callSi (W.runV (As := [.int (nI i)]) (rest := []) ⟨hx, hb, hml, hown, hg⟩ (c_Ro_dropsBefore l DD h hk ht ck n k i (by omega)) (cwV 1 hg (gi_V mw_224 mw_225 mw_226 mw_2 mw_227) rfl rfl rfl (by decide +kernel) ⟨Nat.le_of_ble_eq_true rfl, Nat.le_of_ble_eq_true rfl⟩) ⟨z_blind, va_recv hKc hPc (ci := 4) (q0 := 0) rfl rfl, z_pre hPc hKc⟩ rfl rfl hl.1 rfl (lv_room (Nat.le_of_ble_eq_true rfl)) d_Ro_drops_14 ⟨Nat.zero_le _, Nat.zero_le _⟩) (fun r_14 hr_14 => ?_)
        subst hr_14
        refine z_ifb_eq (tgt := 23) hx hb d_Ro_drops_17 (by decide) (fun c_17 => ?_) (fun c_17 => ?_)
        · refine lv_iinc (v := nI (i + 1)) (lv' := [(2, .int (nI (i + 1))), (0, .ref h), (1, .int (nI q))]) hx hb d_Ro_drops_23 hl (k := 2) rfl (by exact nI_add i 1) (by decide) rfl (fun ls hl => ?_)
          refine lv_goto (tgt := 4) hx hb d_Ro_drops_26 (by decide) ?_
          exact ih (i + 1) q (by omega) (by omega) (by first | exact cnt_t hc c_17 | exact cnt_f hc c_17) (by omega) ls (lv_sub hl [1, 2, 0] rfl)
        · refine lv_iinc (v := nI (q + 1)) (lv' := [(1, .int (nI (q + 1))), (0, .ref h), (2, .int (nI i))]) hx hb d_Ro_drops_20 hl (k := 1) rfl (by exact nI_add q 1) (by decide) rfl (fun ls hl => ?_)
          refine lv_iinc (v := nI (i + 1)) (lv' := [(2, .int (nI (i + 1))), (1, .int (nI (q + 1))), (0, .ref h)]) hx hb d_Ro_drops_23 hl (k := 2) rfl (by exact nI_add i 1) (by decide) rfl (fun ls hl => ?_)
          refine lv_goto (tgt := 4) hx hb d_Ro_drops_26 (by decide) ?_
          exact ih (i + 1) (q + 1) (by omega) (by omega) (by first | exact cnt_t hc c_17 | exact cnt_f hc c_17) (by omega) ls (lv_sub hl [2, 1, 0] rfl)
  refine lv_iconst (v := nI 0) hx hb d_Ro_drops_0 (by decide) ?_
  refine lv_istore_n (lv' := [(1, .int (nI 0)), (0, .ref h)]) hx hb d_Ro_drops_1 rfl hl (by decide) rfl (fun ls hl => ?_)
  refine lv_iconst (v := nI 1) hx hb d_Ro_drops_2 (by decide) ?_
  refine lv_istore_n (lv' := [(2, .int (nI 1)), (1, .int (nI 0)), (0, .ref h)]) hx hb d_Ro_drops_3 rfl hl (by decide) rfl (fun ls hl => ?_)
  exact K4 _ 1 0 (by omega) (by omega) (by rfl) (Nat.lt_succ_self _) ls (lv_sub hl [2, 1, 0] rfl)
