theorem d_Ru_size_0 : decode b_Ru_size 0 = .ok (.aload_n 0, 1) := by decide +kernel
theorem d_Ru_size_1 : decode b_Ru_size 1 = .ok (.getfield 25, 3) := by decide +kernel
theorem d_Ru_size_4 : decode b_Ru_size 4 = .ok (.ireturn, 1) := by decide +kernel
abbrev ws_Ru_size : List Cond := .code y_Ru_size b_Ru_size 1 (some .int) :: ALLG
abbrev rm_Ru_size : Room := { frames := 0, cells := 0, slots := 0, locals := 0 }
set_option maxHeartbeats 4000000 in
set_option maxRecDepth 100000 in
theorem c_Ru_size (l : Launch) (DD : va_G) (ar : Nat) (hfg : Nat) (hle : Nat) (hmo : Nat) (hwy : Nat) (rn : Nat) : Met l y_Ru_size ws_Ru_size rm_Ru_size (va_Pc [.ref ar] (fun U => va_P DD vwCl [(ar, .inr (5, [.ref hfg, .ref hle, .ref hmo, .ref hwy, .int (nI rn)]))] U.heap ∧ va_K DD vwCl [] U)) (vp_Si (fun r9 => r9 = nI rn)) 0 0 (fun _ => False) := by
  refine Met.ofW (cc := b_Ru_size) (maxL := 1) (ret := (some .int)) (by decide) rfl ?_
  intro p e s m args below meth c s₁ B hml hv
  obtain ⟨ha, hP, hK⟩ := hv
  have hx := B.exec
  have hb := B.bytes
  have hr := B.returns
  have hts := atoms_spec (ws := ws_Ru_size) B.pre
  have hg : ∀ w ∈ ALLG, w.before args s = true := fun w h => hts w (List.mem_cons_of_mem _ h)
  have hown : s.vm.findClass R_Ru = some m.cls := findClass_of_methodNamed B.named
  have hlocks := B.notSynchronized
  have hP : va_P DD vwCl [(ar, .inr (5, [.ref hfg, .ref hle, .ref hmo, .ref hwy, .int (nI rn)]))] s.heap := hP
  have hl := lv_entry ([.ref ar]) (n := 1) (Nat.le_of_ble_eq_true rfl)
  rw [ha, lg_entry_eq, ← ha]
  generalize (lg_sl ([.ref ar]) ++ List.replicate (1 - (lg_sl ([.ref ar])).length) Slot.unset).toArray = ls at hl ⊢
  have hl : lv_has ls 1 [(0, .ref ar)] := hl
  refine lv_aload_n hx hb d_Ru_size_0 rfl (lv_at hl 0 rfl) ?_
  refine va_get (D := DD) (ci := 5) (v := .int (nI rn)) (C := R_Ru) (T := T_Ru) (N := 5) hx hb hg in_Ru hown hK hP 0 rfl rfl 4 (by decide) (hg _ mw_56) (fun _ h9 => h9) rfl d_Ru_size_1 ?_
  exact W.iret (v := nI rn) hx hb hr (fun t9 ht9 hW9 => ⟨_, rfl, rfl, ht9⟩) (fun _ h => nomatch h) d_Ru_size_4
theorem d_Ru_isFull_0 : decode b_Ru_isFull 0 = .ok (.aload_n 0, 1) := by decide +kernel
theorem d_Ru_isFull_1 : decode b_Ru_isFull 1 = .ok (.getfield 25, 3) := by decide +kernel
theorem d_Ru_isFull_4 : decode b_Ru_isFull 4 = .ok (.bipush 12, 2) := by decide +kernel
theorem d_Ru_isFull_6 : decode b_Ru_isFull 6 = .ok (.if_icmp .lt 7, 3) := by decide +kernel
theorem d_Ru_isFull_9 : decode b_Ru_isFull 9 = .ok (.iconst 1, 1) := by decide +kernel
theorem d_Ru_isFull_10 : decode b_Ru_isFull 10 = .ok (.goto 4, 3) := by decide +kernel
theorem d_Ru_isFull_13 : decode b_Ru_isFull 13 = .ok (.iconst 0, 1) := by decide +kernel
theorem d_Ru_isFull_14 : decode b_Ru_isFull 14 = .ok (.ireturn, 1) := by decide +kernel
abbrev ws_Ru_isFull : List Cond := .code y_Ru_isFull b_Ru_isFull 1 (some .boolean) :: ALLG
abbrev rm_Ru_isFull : Room := { frames := 0, cells := 0, slots := 0, locals := 0 }
set_option maxHeartbeats 4000000 in
set_option maxRecDepth 100000 in
theorem c_Ru_isFull (l : Launch) (DD : va_G) (ar : Nat) (hfg : Nat) (hle : Nat) (hmo : Nat) (hwy : Nat) (rn : Nat) (hrn : rn ≤ 12) : Met l y_Ru_isFull ws_Ru_isFull rm_Ru_isFull (va_Pc [.ref ar] (fun U => va_P DD vwCl [(ar, .inr (5, [.ref hfg, .ref hle, .ref hmo, .ref hwy, .int (nI rn)]))] U.heap ∧ va_K DD vwCl [] U)) (vp_Si (fun r9 => r9 = zb (decide (12 ≤ rn)))) 0 0 (fun _ => False) := by
  refine Met.ofW (cc := b_Ru_isFull) (maxL := 1) (ret := (some .boolean)) (by decide) rfl ?_
  intro p e s m args below meth c s₁ B hml hv
  obtain ⟨ha, hP, hK⟩ := hv
  have hx := B.exec
  have hb := B.bytes
  have hr := B.returns
  have hts := atoms_spec (ws := ws_Ru_isFull) B.pre
  have hg : ∀ w ∈ ALLG, w.before args s = true := fun w h => hts w (List.mem_cons_of_mem _ h)
  have hown : s.vm.findClass R_Ru = some m.cls := findClass_of_methodNamed B.named
  have hlocks := B.notSynchronized
  have hP : va_P DD vwCl [(ar, .inr (5, [.ref hfg, .ref hle, .ref hmo, .ref hwy, .int (nI rn)]))] s.heap := hP
  have hl := lv_entry ([.ref ar]) (n := 1) (Nat.le_of_ble_eq_true rfl)
  rw [ha, lg_entry_eq, ← ha]
  generalize (lg_sl ([.ref ar]) ++ List.replicate (1 - (lg_sl ([.ref ar])).length) Slot.unset).toArray = ls at hl ⊢
  have hl : lv_has ls 1 [(0, .ref ar)] := hl
  refine lv_aload_n hx hb d_Ru_isFull_0 rfl (lv_at hl 0 rfl) ?_
  refine va_get (D := DD) (ci := 5) (v := .int (nI rn)) (C := R_Ru) (T := T_Ru) (N := 5) hx hb hg in_Ru hown hK hP 0 rfl rfl 4 (by decide) (hg _ mw_56) (fun _ h9 => h9) rfl d_Ru_isFull_1 ?_
  refine lv_bipush (v := nI 12) hx hb d_Ru_isFull_4 (by decide) ?_
  refine z_icmp_lt (tgt := 13) hx hb d_Ru_isFull_6 (by decide) (by omega) (by omega) (fun c_6 => ?_) (fun c_6 => ?_)
  · refine lv_iconst (v := nI 0) hx hb d_Ru_isFull_13 (by decide) ?_
    exact W.zret (v := nI 0) hx hb hr (by rfl) (fun t9 ht9 hW9 => ⟨_, rfl, (by first | exact zb_t (decide_eq_true c_6) | exact zb_f (decide_eq_false (by omega))), ht9⟩) (fun _ h => nomatch h) d_Ru_isFull_14
  · refine lv_iconst (v := nI 1) hx hb d_Ru_isFull_9 (by decide) ?_
    refine lv_goto (tgt := 14) hx hb d_Ru_isFull_10 (by decide) ?_
    exact W.zret (v := nI 1) hx hb hr (by rfl) (fun t9 ht9 hW9 => ⟨_, rfl, (by first | exact zb_t (decide_eq_true c_6) | exact zb_f (decide_eq_false (by omega))), ht9⟩) (fun _ h => nomatch h) d_Ru_isFull_14
theorem d_Ru_has_0 : decode b_Ru_has 0 = .ok (.iload_n 1, 1) := by decide +kernel
theorem d_Ru_has_1 : decode b_Ru_has 1 = .ok (.ifCond .lt 15, 3) := by decide +kernel
theorem d_Ru_has_4 : decode b_Ru_has 4 = .ok (.iload_n 1, 1) := by decide +kernel
theorem d_Ru_has_5 : decode b_Ru_has 5 = .ok (.aload_n 0, 1) := by decide +kernel
theorem d_Ru_has_6 : decode b_Ru_has 6 = .ok (.getfield 25, 3) := by decide +kernel
theorem d_Ru_has_9 : decode b_Ru_has 9 = .ok (.if_icmp .ge 7, 3) := by decide +kernel
theorem d_Ru_has_12 : decode b_Ru_has 12 = .ok (.iconst 1, 1) := by decide +kernel
theorem d_Ru_has_13 : decode b_Ru_has 13 = .ok (.goto 4, 3) := by decide +kernel
theorem d_Ru_has_16 : decode b_Ru_has 16 = .ok (.iconst 0, 1) := by decide +kernel
theorem d_Ru_has_17 : decode b_Ru_has 17 = .ok (.ireturn, 1) := by decide +kernel
abbrev ws_Ru_has : List Cond := .code y_Ru_has b_Ru_has 2 (some .boolean) :: ALLG
abbrev rm_Ru_has : Room := { frames := 0, cells := 0, slots := 0, locals := 0 }
set_option maxHeartbeats 4000000 in
set_option maxRecDepth 100000 in
theorem c_Ru_has (l : Launch) (DD : va_G) (ar : Nat) (hfg : Nat) (hle : Nat) (hmo : Nat) (hwy : Nat) (rn : Nat) (x : Int32) (hrn : rn ≤ 12) : Met l y_Ru_has ws_Ru_has rm_Ru_has (va_Pc [.ref ar, .int x] (fun U => va_P DD vwCl [(ar, .inr (5, [.ref hfg, .ref hle, .ref hmo, .ref hwy, .int (nI rn)]))] U.heap ∧ va_K DD vwCl [] U)) (vp_Si (fun r9 => r9 = zb (hasB x rn))) 0 0 (fun _ => False) := by
  refine Met.ofW (cc := b_Ru_has) (maxL := 2) (ret := (some .boolean)) (by decide) rfl ?_
  intro p e s m args below meth c s₁ B hml hv
  obtain ⟨ha, hP, hK⟩ := hv
  have hx := B.exec
  have hb := B.bytes
  have hr := B.returns
  have hts := atoms_spec (ws := ws_Ru_has) B.pre
  have hg : ∀ w ∈ ALLG, w.before args s = true := fun w h => hts w (List.mem_cons_of_mem _ h)
  have hown : s.vm.findClass R_Ru = some m.cls := findClass_of_methodNamed B.named
  have hlocks := B.notSynchronized
  have hP : va_P DD vwCl [(ar, .inr (5, [.ref hfg, .ref hle, .ref hmo, .ref hwy, .int (nI rn)]))] s.heap := hP
  have hl := lv_entry ([.ref ar, .int x]) (n := 2) (Nat.le_of_ble_eq_true rfl)
  rw [ha, lg_entry_eq, ← ha]
  generalize (lg_sl ([.ref ar, .int x]) ++ List.replicate (2 - (lg_sl ([.ref ar, .int x])).length) Slot.unset).toArray = ls at hl ⊢
  have hl : lv_has ls 2 [(0, .ref ar), (1, .int x)] := hl
  refine lv_iload_n hx hb d_Ru_has_0 rfl (lv_at hl 1 rfl) ?_
  refine lv_if_lt (tgt := 16) hx hb d_Ru_has_1 (by decide) (fun c_1 => ?_) (fun c_1 => ?_)
  · refine lv_iconst (v := nI 0) hx hb d_Ru_has_16 (by decide) ?_
    exact W.zret (v := nI 0) hx hb hr (by rfl) (fun t9 ht9 hW9 => ⟨_, rfl, (by first | exact hasB_t (by omega) c_1 c_9 | exact hasB_f2 (by omega) c_9 | exact hasB_f1 c_1), ht9⟩) (fun _ h => nomatch h) d_Ru_has_17
  · refine lv_iload_n hx hb d_Ru_has_4 rfl (lv_at hl 1 rfl) ?_
    refine lv_aload_n hx hb d_Ru_has_5 rfl (lv_at hl 0 rfl) ?_
    refine va_get (D := DD) (ci := 5) (v := .int (nI rn)) (C := R_Ru) (T := T_Ru) (N := 5) hx hb hg in_Ru hown hK hP 0 rfl rfl 4 (by decide) (hg _ mw_56) (fun _ h9 => h9) rfl d_Ru_has_6 ?_
    refine lv_icmp_ge (tgt := 16) hx hb d_Ru_has_9 (by decide) (fun c_9 => ?_) (fun c_9 => ?_)
    · refine lv_iconst (v := nI 0) hx hb d_Ru_has_16 (by decide) ?_
      exact W.zret (v := nI 0) hx hb hr (by rfl) (fun t9 ht9 hW9 => ⟨_, rfl, (by first | exact hasB_t (by omega) c_1 c_9 | exact hasB_f2 (by omega) c_9 | exact hasB_f1 c_1), ht9⟩) (fun _ h => nomatch h) d_Ru_has_17
    · refine lv_iconst (v := nI 1) hx hb d_Ru_has_12 (by decide) ?_
      refine lv_goto (tgt := 17) hx hb d_Ru_has_13 (by decide) ?_
      exact W.zret (v := nI 1) hx hb hr (by rfl) (fun t9 ht9 hW9 => ⟨_, rfl, (by first | exact hasB_t (by omega) c_1 c_9 | exact hasB_f2 (by omega) c_9 | exact hasB_f1 c_1), ht9⟩) (fun _ h => nomatch h) d_Ru_has_17
theorem d_Ru_way_0 : decode b_Ru_way 0 = .ok (.aload_n 0, 1) := by decide +kernel
theorem d_Ru_way_1 : decode b_Ru_way 1 = .ok (.getfield 22, 3) := by decide +kernel
theorem d_Ru_way_4 : decode b_Ru_way 4 = .ok (.iload_n 1, 1) := by decide +kernel
theorem d_Ru_way_5 : decode b_Ru_way 5 = .ok (.iaload, 1) := by decide +kernel
theorem d_Ru_way_6 : decode b_Ru_way 6 = .ok (.ireturn, 1) := by decide +kernel
abbrev ws_Ru_way : List Cond := .code y_Ru_way b_Ru_way 2 (some .int) :: ALLG
abbrev rm_Ru_way : Room := { frames := 0, cells := 0, slots := 0, locals := 0 }
set_option maxHeartbeats 4000000 in
set_option maxRecDepth 100000 in
theorem c_Ru_way (l : Launch) (DD : va_G) (ar : Nat) (hfg : Nat) (hle : Nat) (hmo : Nat) (hwy : Nat) (cwy : ClassId) (wy : Nat → Nat) (rn : Nat) (j : Nat) (hj : j < 12) : Met l y_Ru_way ws_Ru_way rm_Ru_way (va_Pc [.ref ar, .int (nI j)] (fun U => va_P DD vwCl [(ar, .inr (5, [.ref hfg, .ref hle, .ref hmo, .ref hwy, .int (nI rn)])), (hwy, .inl (cwy, 12, .inl (nF wy)))] U.heap ∧ va_K DD vwCl [(cwy, .int)] U)) (vp_Si (fun r9 => r9 = nI (wy j))) 0 0 (fun _ => False) := by
  refine Met.ofW (cc := b_Ru_way) (maxL := 2) (ret := (some .int)) (by decide) rfl ?_
  intro p e s m args below meth c s₁ B hml hv
  obtain ⟨ha, hP, hK⟩ := hv
  have hx := B.exec
  have hb := B.bytes
  have hr := B.returns
  have hts := atoms_spec (ws := ws_Ru_way) B.pre
  have hg : ∀ w ∈ ALLG, w.before args s = true := fun w h => hts w (List.mem_cons_of_mem _ h)
  have hown : s.vm.findClass R_Ru = some m.cls := findClass_of_methodNamed B.named
  have hlocks := B.notSynchronized
  have hP : va_P DD vwCl [(ar, .inr (5, [.ref hfg, .ref hle, .ref hmo, .ref hwy, .int (nI rn)])), (hwy, .inl (cwy, 12, .inl (nF wy)))] s.heap := hP
  have hl := lv_entry ([.ref ar, .int (nI j)]) (n := 2) (Nat.le_of_ble_eq_true rfl)
  rw [ha, lg_entry_eq, ← ha]
  generalize (lg_sl ([.ref ar, .int (nI j)]) ++ List.replicate (2 - (lg_sl ([.ref ar, .int (nI j)])).length) Slot.unset).toArray = ls at hl ⊢
  have hl : lv_has ls 2 [(0, .ref ar), (1, .int (nI j))] := hl
  refine lv_aload_n hx hb d_Ru_way_0 rfl (lv_at hl 0 rfl) ?_
  refine va_get (D := DD) (ci := 5) (v := .ref hwy) (C := R_Ru) (T := T_Ru) (N := 5) hx hb hg in_Ru hown hK hP 0 rfl rfl 3 (by decide) (hg _ mw_55) (fun _ h9 => h9) rfl d_Ru_way_1 ?_
  refine lv_iload_n hx hb d_Ru_way_4 rfl (lv_at hl 1 rfl) ?_
  refine z_ialdN hx hb hK hP 1 0 rfl rfl (by omega) (by decide) d_Ru_way_5 ?_
  exact W.iret (v := nI (wy j)) hx hb hr (fun t9 ht9 hW9 => ⟨_, rfl, rfl, ht9⟩) (fun _ h => nomatch h) d_Ru_way_6
theorem d_Ru_append_0 : decode b_Ru_append 0 = .ok (.aload_n 0, 1) := by decide +kernel
theorem d_Ru_append_1 : decode b_Ru_append 1 = .ok (.getfield 9, 3) := by decide +kernel
theorem d_Ru_append_4 : decode b_Ru_append 4 = .ok (.aload_n 0, 1) := by decide +kernel
theorem d_Ru_append_5 : decode b_Ru_append 5 = .ok (.getfield 25, 3) := by decide +kernel
theorem d_Ru_append_8 : decode b_Ru_append 8 = .ok (.iload_n 1, 1) := by decide +kernel
theorem d_Ru_append_9 : decode b_Ru_append 9 = .ok (.iastore, 1) := by decide +kernel
theorem d_Ru_append_10 : decode b_Ru_append 10 = .ok (.aload_n 0, 1) := by decide +kernel
theorem d_Ru_append_11 : decode b_Ru_append 11 = .ok (.getfield 15, 3) := by decide +kernel
theorem d_Ru_append_14 : decode b_Ru_append 14 = .ok (.aload_n 0, 1) := by decide +kernel
theorem d_Ru_append_15 : decode b_Ru_append 15 = .ok (.getfield 25, 3) := by decide +kernel
theorem d_Ru_append_18 : decode b_Ru_append 18 = .ok (.lload_n 2, 1) := by decide +kernel
theorem d_Ru_append_19 : decode b_Ru_append 19 = .ok (.lastore, 1) := by decide +kernel
theorem d_Ru_append_20 : decode b_Ru_append 20 = .ok (.aload_n 0, 1) := by decide +kernel
theorem d_Ru_append_21 : decode b_Ru_append 21 = .ok (.getfield 19, 3) := by decide +kernel
theorem d_Ru_append_24 : decode b_Ru_append 24 = .ok (.aload_n 0, 1) := by decide +kernel
theorem d_Ru_append_25 : decode b_Ru_append 25 = .ok (.getfield 25, 3) := by decide +kernel
theorem d_Ru_append_28 : decode b_Ru_append 28 = .ok (.lload 4, 2) := by decide +kernel
theorem d_Ru_append_30 : decode b_Ru_append 30 = .ok (.lastore, 1) := by decide +kernel
theorem d_Ru_append_31 : decode b_Ru_append 31 = .ok (.aload_n 0, 1) := by decide +kernel
theorem d_Ru_append_32 : decode b_Ru_append 32 = .ok (.getfield 22, 3) := by decide +kernel
theorem d_Ru_append_35 : decode b_Ru_append 35 = .ok (.aload_n 0, 1) := by decide +kernel
theorem d_Ru_append_36 : decode b_Ru_append 36 = .ok (.getfield 25, 3) := by decide +kernel
theorem d_Ru_append_39 : decode b_Ru_append 39 = .ok (.iload 6, 2) := by decide +kernel
theorem d_Ru_append_41 : decode b_Ru_append 41 = .ok (.iastore, 1) := by decide +kernel
theorem d_Ru_append_42 : decode b_Ru_append 42 = .ok (.aload_n 0, 1) := by decide +kernel
theorem d_Ru_append_43 : decode b_Ru_append 43 = .ok (.dup, 1) := by decide +kernel
theorem d_Ru_append_44 : decode b_Ru_append 44 = .ok (.getfield 25, 3) := by decide +kernel
theorem d_Ru_append_47 : decode b_Ru_append 47 = .ok (.iconst 1, 1) := by decide +kernel
theorem d_Ru_append_48 : decode b_Ru_append 48 = .ok (.iadd, 1) := by decide +kernel
theorem d_Ru_append_49 : decode b_Ru_append 49 = .ok (.putfield 25, 3) := by decide +kernel
theorem d_Ru_append_52 : decode b_Ru_append 52 = .ok (.aload_n 0, 1) := by decide +kernel
theorem d_Ru_append_53 : decode b_Ru_append 53 = .ok (.getfield 25, 3) := by decide +kernel
theorem d_Ru_append_56 : decode b_Ru_append 56 = .ok (.iconst 1, 1) := by decide +kernel
theorem d_Ru_append_57 : decode b_Ru_append 57 = .ok (.isub, 1) := by decide +kernel
theorem d_Ru_append_58 : decode b_Ru_append 58 = .ok (.ireturn, 1) := by decide +kernel
abbrev ws_Ru_append : List Cond := .code y_Ru_append b_Ru_append 7 (some .int) :: ALLG
abbrev rm_Ru_append : Room := { frames := 0, cells := 0, slots := 0, locals := 0 }
set_option maxHeartbeats 4000000 in
set_option maxRecDepth 100000 in
theorem c_Ru_append (l : Launch) (DD : va_G) (sz : Nat) (ar : Nat) (hfg : Nat) (cfg : ClassId) (fg : Nat → Nat) (hle : Nat) (cle : ClassId) (le : Nat → Int64) (hmo : Nat) (cmo : ClassId) (mo : Nat → Int64) (hwy : Nat) (cwy : ClassId) (wy : Nat → Nat) (rn : Nat) (x : Nat) (y : Int64) (z : Int64) (w : Nat) (hrn : rn < 12) : Met l y_Ru_append ws_Ru_append rm_Ru_append (va_Pc [.ref ar, .int (nI x), .long y, .long z, .int (nI w)] (fun U => U.heap.size = sz ∧ va_P DD vwCl [(ar, .inr (5, [.ref hfg, .ref hle, .ref hmo, .ref hwy, .int (nI rn)])), (hfg, .inl (cfg, 12, .inl (nF fg))), (hle, .inl (cle, 12, .inr (.inl le))), (hmo, .inl (cmo, 12, .inr (.inl mo))), (hwy, .inl (cwy, 12, .inl (nF wy)))] U.heap ∧ va_K DD vwCl [(cfg, .int), (cle, .long), (cmo, .long), (cwy, .int)] U ∧ va_D (fun _ => True) [(ar, .inr (5, [.ref hfg, .ref hle, .ref hmo, .ref hwy, .int (nI rn)])), (hfg, .inl (cfg, 12, .inl (nF fg))), (hle, .inl (cle, 12, .inr (.inl le))), (hmo, .inl (cmo, 12, .inr (.inl mo))), (hwy, .inl (cwy, 12, .inl (nF wy)))])) (va_Qi (fun (r9 : Int32) (u9 : Unit) => match u9 with | _ => r9 = nI rn) (fun (u9 : Unit) (t9 : State) => match u9 with | _ => va_P DD vwCl [(ar, .inr (5, [.ref hfg, .ref hle, .ref hmo, .ref hwy, .int (nI (rn + 1))])), (hfg, .inl (cfg, 12, .inl (nF (va_up fg rn x)))), (hle, .inl (cle, 12, .inr (.inl (vp_updL le rn y)))), (hmo, .inl (cmo, 12, .inr (.inl (vp_updL mo rn z)))), (hwy, .inl (cwy, 12, .inl (nF (va_up wy rn w))))] t9.heap ∧ va_K DD vwCl [(cfg, .int), (cle, .long), (cmo, .long), (cwy, .int)] t9 ∧ va_D (va_A [(ar, .inr (5, [.ref hfg, .ref hle, .ref hmo, .ref hwy, .int (nI rn)])), (hfg, .inl (cfg, 12, .inl (nF fg))), (hle, .inl (cle, 12, .inr (.inl le))), (hmo, .inl (cmo, 12, .inr (.inl mo))), (hwy, .inl (cwy, 12, .inl (nF wy)))] sz) [(ar, .inr (5, [.ref hfg, .ref hle, .ref hmo, .ref hwy, .int (nI (rn + 1))])), (hfg, .inl (cfg, 12, .inl (nF (va_up fg rn x)))), (hle, .inl (cle, 12, .inr (.inl (vp_updL le rn y)))), (hmo, .inl (cmo, 12, .inr (.inl (vp_updL mo rn z)))), (hwy, .inl (cwy, 12, .inl (nF (va_up wy rn w))))]) (va_A [(ar, .inr (5, [.ref hfg, .ref hle, .ref hmo, .ref hwy, .int (nI rn)])), (hfg, .inl (cfg, 12, .inl (nF fg))), (hle, .inl (cle, 12, .inr (.inl le))), (hmo, .inl (cmo, 12, .inr (.inl mo))), (hwy, .inl (cwy, 12, .inl (nF wy)))] sz)) 0 0 (va_A [(ar, .inr (5, [.ref hfg, .ref hle, .ref hmo, .ref hwy, .int (nI rn)])), (hfg, .inl (cfg, 12, .inl (nF fg))), (hle, .inl (cle, 12, .inr (.inl le))), (hmo, .inl (cmo, 12, .inr (.inl mo))), (hwy, .inl (cwy, 12, .inl (nF wy)))] sz) := by
  refine Met.ofW (cc := b_Ru_append) (maxL := 7) (ret := (some .int)) (by decide) rfl ?_
  intro p e s m args below meth c s₁ B hml hv
  obtain ⟨ha, hsz, hP, hK, hD0⟩ := hv
  have hx := B.exec
  have hb := B.bytes
  have hr := B.returns
  have hts := atoms_spec (ws := ws_Ru_append) B.pre
  have hg : ∀ w ∈ ALLG, w.before args s = true := fun w h => hts w (List.mem_cons_of_mem _ h)
  have hown : s.vm.findClass R_Ru = some m.cls := findClass_of_methodNamed B.named
  have hlocks := B.notSynchronized
  subst hsz
  have hD := hD0.self (sz := s.heap.size)
  generalize hAe : va_A [(ar, .inr (5, [.ref hfg, .ref hle, .ref hmo, .ref hwy, .int (nI rn)])), (hfg, .inl (cfg, 12, .inl (nF fg))), (hle, .inl (cle, 12, .inr (.inl le))), (hmo, .inl (cmo, 12, .inr (.inl mo))), (hwy, .inl (cwy, 12, .inl (nF wy)))] s.heap.size = A at hD ⊢
  have hA : ∀ q : Nat, s.heap.size ≤ q → A q := fun q h => by rw [← hAe]; exact Or.inr h
  have hS : va_S A s.heap s.heap [] := va_S.rf
  have hP : va_P DD vwCl [(ar, .inr (5, [.ref hfg, .ref hle, .ref hmo, .ref hwy, .int (nI rn)])), (hfg, .inl (cfg, 12, .inl (nF fg))), (hle, .inl (cle, 12, .inr (.inl le))), (hmo, .inl (cmo, 12, .inr (.inl mo))), (hwy, .inl (cwy, 12, .inl (nF wy)))] s.heap := hP
  have hl := lv_entry ([.ref ar, .int (nI x), .long y, .long z, .int (nI w)]) (n := 7) (Nat.le_of_ble_eq_true rfl)
  rw [ha, lg_entry_eq, ← ha]
  generalize (lg_sl ([.ref ar, .int (nI x), .long y, .long z, .int (nI w)]) ++ List.replicate (7 - (lg_sl ([.ref ar, .int (nI x), .long y, .long z, .int (nI w)])).length) Slot.unset).toArray = ls at hl ⊢
  have hl : lv_has ls 7 [(0, .ref ar), (1, .int (nI x)), (2, .long y), (4, .long z), (6, .int (nI w))] := hl
  refine lv_aload_n hx hb d_Ru_append_0 rfl (lv_at hl 0 rfl) ?_
  refine va_get (D := DD) (ci := 5) (v := .ref hfg) (C := R_Ru) (T := T_Ru) (N := 5) hx hb hg in_Ru hown hK hP 0 rfl rfl 0 (by decide) (hg _ mw_52) (fun _ h9 => h9) rfl d_Ru_append_1 ?_
  refine lv_aload_n hx hb d_Ru_append_4 rfl (lv_at hl 0 rfl) ?_
  refine va_get (D := DD) (ci := 5) (v := .int (nI rn)) (C := R_Ru) (T := T_Ru) (N := 5) hx hb hg in_Ru hown hK hP 0 rfl rfl 4 (by decide) (hg _ mw_56) (fun _ h9 => h9) rfl d_Ru_append_5 ?_
  refine lv_iload_n hx hb d_Ru_append_8 rfl (lv_at hl 1 rfl) ?_
  refine z_iastN hx hb hK hP hD hS 1 0 rfl rfl (by omega) (by decide) d_Ru_append_9 (fun H locs hP hD hS => ?_)
  have hP : va_P DD vwCl [(ar, .inr (5, [.ref hfg, .ref hle, .ref hmo, .ref hwy, .int (nI rn)])), (hfg, .inl (cfg, 12, .inl (nF (va_up fg rn x)))), (hle, .inl (cle, 12, .inr (.inl le))), (hmo, .inl (cmo, 12, .inr (.inl mo))), (hwy, .inl (cwy, 12, .inl (nF wy)))] H := hP
  have hD : va_D A [(ar, .inr (5, [.ref hfg, .ref hle, .ref hmo, .ref hwy, .int (nI rn)])), (hfg, .inl (cfg, 12, .inl (nF (va_up fg rn x)))), (hle, .inl (cle, 12, .inr (.inl le))), (hmo, .inl (cmo, 12, .inr (.inl mo))), (hwy, .inl (cwy, 12, .inl (nF wy)))] := hD
  refine lv_aload_n hx hb d_Ru_append_10 rfl (lv_at hl 0 rfl) ?_
  refine va_get (D := DD) (ci := 5) (v := .ref hle) (C := R_Ru) (T := T_Ru) (N := 5) hx hb hg in_Ru hown hK hP 0 rfl rfl 1 (by decide) (hg _ mw_53) (fun _ h9 => h9) rfl d_Ru_append_11 ?_
  refine lv_aload_n hx hb d_Ru_append_14 rfl (lv_at hl 0 rfl) ?_
  refine va_get (D := DD) (ci := 5) (v := .int (nI rn)) (C := R_Ru) (T := T_Ru) (N := 5) hx hb hg in_Ru hown hK hP 0 rfl rfl 4 (by decide) (hg _ mw_56) (fun _ h9 => h9) rfl d_Ru_append_15 ?_
  refine lv_lload_n hx hb d_Ru_append_18 rfl (lv_at hl 2 rfl) ?_
  refine z_last hx hb hK hP hD hS 2 1 rfl rfl (by omega) (by decide) d_Ru_append_19 (fun H locs hP hD hS => ?_)
  have hP : va_P DD vwCl [(ar, .inr (5, [.ref hfg, .ref hle, .ref hmo, .ref hwy, .int (nI rn)])), (hfg, .inl (cfg, 12, .inl (nF (va_up fg rn x)))), (hle, .inl (cle, 12, .inr (.inl (vp_updL le rn y)))), (hmo, .inl (cmo, 12, .inr (.inl mo))), (hwy, .inl (cwy, 12, .inl (nF wy)))] H := hP
  have hD : va_D A [(ar, .inr (5, [.ref hfg, .ref hle, .ref hmo, .ref hwy, .int (nI rn)])), (hfg, .inl (cfg, 12, .inl (nF (va_up fg rn x)))), (hle, .inl (cle, 12, .inr (.inl (vp_updL le rn y)))), (hmo, .inl (cmo, 12, .inr (.inl mo))), (hwy, .inl (cwy, 12, .inl (nF wy)))] := hD
  refine lv_aload_n hx hb d_Ru_append_20 rfl (lv_at hl 0 rfl) ?_
  refine va_get (D := DD) (ci := 5) (v := .ref hmo) (C := R_Ru) (T := T_Ru) (N := 5) hx hb hg in_Ru hown hK hP 0 rfl rfl 2 (by decide) (hg _ mw_54) (fun _ h9 => h9) rfl d_Ru_append_21 ?_
  refine lv_aload_n hx hb d_Ru_append_24 rfl (lv_at hl 0 rfl) ?_
  refine va_get (D := DD) (ci := 5) (v := .int (nI rn)) (C := R_Ru) (T := T_Ru) (N := 5) hx hb hg in_Ru hown hK hP 0 rfl rfl 4 (by decide) (hg _ mw_56) (fun _ h9 => h9) rfl d_Ru_append_25 ?_
  refine lv_lload hx hb d_Ru_append_28 (lv_at hl 3 rfl) ?_
  refine z_last hx hb hK hP hD hS 3 2 rfl rfl (by omega) (by decide) d_Ru_append_30 (fun H locs hP hD hS => ?_)
  have hP : va_P DD vwCl [(ar, .inr (5, [.ref hfg, .ref hle, .ref hmo, .ref hwy, .int (nI rn)])), (hfg, .inl (cfg, 12, .inl (nF (va_up fg rn x)))), (hle, .inl (cle, 12, .inr (.inl (vp_updL le rn y)))), (hmo, .inl (cmo, 12, .inr (.inl (vp_updL mo rn z)))), (hwy, .inl (cwy, 12, .inl (nF wy)))] H := hP
  have hD : va_D A [(ar, .inr (5, [.ref hfg, .ref hle, .ref hmo, .ref hwy, .int (nI rn)])), (hfg, .inl (cfg, 12, .inl (nF (va_up fg rn x)))), (hle, .inl (cle, 12, .inr (.inl (vp_updL le rn y)))), (hmo, .inl (cmo, 12, .inr (.inl (vp_updL mo rn z)))), (hwy, .inl (cwy, 12, .inl (nF wy)))] := hD
  refine lv_aload_n hx hb d_Ru_append_31 rfl (lv_at hl 0 rfl) ?_
  refine va_get (D := DD) (ci := 5) (v := .ref hwy) (C := R_Ru) (T := T_Ru) (N := 5) hx hb hg in_Ru hown hK hP 0 rfl rfl 3 (by decide) (hg _ mw_55) (fun _ h9 => h9) rfl d_Ru_append_32 ?_
  refine lv_aload_n hx hb d_Ru_append_35 rfl (lv_at hl 0 rfl) ?_
  refine va_get (D := DD) (ci := 5) (v := .int (nI rn)) (C := R_Ru) (T := T_Ru) (N := 5) hx hb hg in_Ru hown hK hP 0 rfl rfl 4 (by decide) (hg _ mw_56) (fun _ h9 => h9) rfl d_Ru_append_36 ?_
  refine lv_iload hx hb d_Ru_append_39 (lv_at hl 4 rfl) ?_
  refine z_iastN hx hb hK hP hD hS 4 3 rfl rfl (by omega) (by decide) d_Ru_append_41 (fun H locs hP hD hS => ?_)
  have hP : va_P DD vwCl [(ar, .inr (5, [.ref hfg, .ref hle, .ref hmo, .ref hwy, .int (nI rn)])), (hfg, .inl (cfg, 12, .inl (nF (va_up fg rn x)))), (hle, .inl (cle, 12, .inr (.inl (vp_updL le rn y)))), (hmo, .inl (cmo, 12, .inr (.inl (vp_updL mo rn z)))), (hwy, .inl (cwy, 12, .inl (nF (va_up wy rn w))))] H := hP
  have hD : va_D A [(ar, .inr (5, [.ref hfg, .ref hle, .ref hmo, .ref hwy, .int (nI rn)])), (hfg, .inl (cfg, 12, .inl (nF (va_up fg rn x)))), (hle, .inl (cle, 12, .inr (.inl (vp_updL le rn y)))), (hmo, .inl (cmo, 12, .inr (.inl (vp_updL mo rn z)))), (hwy, .inl (cwy, 12, .inl (nF (va_up wy rn w))))] := hD
  refine lv_aload_n hx hb d_Ru_append_42 rfl (lv_at hl 0 rfl) ?_
  refine lv_dup hx hb d_Ru_append_43 rfl ?_
  refine va_get (D := DD) (ci := 5) (v := .int (nI rn)) (C := R_Ru) (T := T_Ru) (N := 5) hx hb hg in_Ru hown hK hP 0 rfl rfl 4 (by decide) (hg _ mw_56) (fun _ h9 => h9) rfl d_Ru_append_44 ?_
  refine lv_iconst (v := nI 1) hx hb d_Ru_append_47 (by decide) ?_
  refine z_iadd hx hb d_Ru_append_48 ?_
  refine va_put (D := DD) (ci := 5) (v := .int (nI (rn + 1))) (ty := .int) (C := R_Ru) (T := T_Ru) (N := 5) hx hb hg in_Ru t_Ru to_Ru n_Ru hown hK hP hD hS 0 rfl rfl 4 (by decide) (hg _ mw_56) (fun _ h9 => h9) rfl (by decide +kernel) rfl rfl (Nat.le_of_ble_eq_true rfl) d_Ru_append_49 (fun H locs hP hD hS => ?_)
  have hP : va_P DD vwCl [(ar, .inr (5, [.ref hfg, .ref hle, .ref hmo, .ref hwy, .int (nI (rn + 1))])), (hfg, .inl (cfg, 12, .inl (nF (va_up fg rn x)))), (hle, .inl (cle, 12, .inr (.inl (vp_updL le rn y)))), (hmo, .inl (cmo, 12, .inr (.inl (vp_updL mo rn z)))), (hwy, .inl (cwy, 12, .inl (nF (va_up wy rn w))))] H := hP
  have hD : va_D A [(ar, .inr (5, [.ref hfg, .ref hle, .ref hmo, .ref hwy, .int (nI (rn + 1))])), (hfg, .inl (cfg, 12, .inl (nF (va_up fg rn x)))), (hle, .inl (cle, 12, .inr (.inl (vp_updL le rn y)))), (hmo, .inl (cmo, 12, .inr (.inl (vp_updL mo rn z)))), (hwy, .inl (cwy, 12, .inl (nF (va_up wy rn w))))] := hD
  refine lv_aload_n hx hb d_Ru_append_52 rfl (lv_at hl 0 rfl) ?_
  refine va_get (D := DD) (ci := 5) (v := .int (nI (rn + 1))) (C := R_Ru) (T := T_Ru) (N := 5) hx hb hg in_Ru hown hK hP 0 rfl rfl 4 (by decide) (hg _ mw_56) (fun _ h9 => h9) rfl d_Ru_append_53 ?_
  refine lv_iconst (v := nI 1) hx hb d_Ru_append_56 (by decide) ?_
  refine z_isub hx hb d_Ru_append_57 (by omega) ?_
  have hP9 := hP.sub (ws' := [(ar, .inr (5, [.ref hfg, .ref hle, .ref hmo, .ref hwy, .int (nI (rn + 1))])), (hfg, .inl (cfg, 12, .inl (nF (va_up fg rn x)))), (hle, .inl (cle, 12, .inr (.inl (vp_updL le rn y)))), (hmo, .inl (cmo, 12, .inr (.inl (vp_updL mo rn z)))), (hwy, .inl (cwy, 12, .inl (nF (va_up wy rn w))))]) [0, 1, 2, 3, 4] rfl
  have hD9 := hD.sub (ws' := [(ar, .inr (5, [.ref hfg, .ref hle, .ref hmo, .ref hwy, .int (nI (rn + 1))])), (hfg, .inl (cfg, 12, .inl (nF (va_up fg rn x)))), (hle, .inl (cle, 12, .inr (.inl (vp_updL le rn y)))), (hmo, .inl (cmo, 12, .inr (.inl (vp_updL mo rn z)))), (hwy, .inl (cwy, 12, .inl (nF (va_up wy rn w))))]) [0, 1, 2, 3, 4] (by decide) rfl
  exact W.iret (v := nI ((rn + 1) - 1)) hx hb hr (fun t9 ht9 hW9 => ⟨⟨_, (), rfl, rfl, by rw [ht9]; exact hP9, va_K.moved hW9.alike hK, hD9⟩, hS.F ht9⟩) hS.2.2 d_Ru_append_58
theorem d_Ru_drop_0 : decode b_Ru_drop 0 = .ok (.aload_n 0, 1) := by decide +kernel
theorem d_Ru_drop_1 : decode b_Ru_drop 1 = .ok (.dup, 1) := by decide +kernel
theorem d_Ru_drop_2 : decode b_Ru_drop 2 = .ok (.getfield 25, 3) := by decide +kernel
theorem d_Ru_drop_5 : decode b_Ru_drop 5 = .ok (.iconst 1, 1) := by decide +kernel
theorem d_Ru_drop_6 : decode b_Ru_drop 6 = .ok (.isub, 1) := by decide +kernel
theorem d_Ru_drop_7 : decode b_Ru_drop 7 = .ok (.putfield 25, 3) := by decide +kernel
theorem d_Ru_drop_10 : decode b_Ru_drop 10 = .ok (.iload_n 1, 1) := by decide +kernel
theorem d_Ru_drop_11 : decode b_Ru_drop 11 = .ok (.istore_n 2, 1) := by decide +kernel
theorem d_Ru_drop_12 : decode b_Ru_drop 12 = .ok (.iload_n 2, 1) := by decide +kernel
theorem d_Ru_drop_13 : decode b_Ru_drop 13 = .ok (.aload_n 0, 1) := by decide +kernel
theorem d_Ru_drop_14 : decode b_Ru_drop 14 = .ok (.getfield 25, 3) := by decide +kernel
theorem d_Ru_drop_17 : decode b_Ru_drop 17 = .ok (.if_icmp .ge 65, 3) := by decide +kernel
theorem d_Ru_drop_20 : decode b_Ru_drop 20 = .ok (.aload_n 0, 1) := by decide +kernel
theorem d_Ru_drop_21 : decode b_Ru_drop 21 = .ok (.getfield 9, 3) := by decide +kernel
theorem d_Ru_drop_24 : decode b_Ru_drop 24 = .ok (.iload_n 2, 1) := by decide +kernel
theorem d_Ru_drop_25 : decode b_Ru_drop 25 = .ok (.aload_n 0, 1) := by decide +kernel
theorem d_Ru_drop_26 : decode b_Ru_drop 26 = .ok (.getfield 9, 3) := by decide +kernel
theorem d_Ru_drop_29 : decode b_Ru_drop 29 = .ok (.iload_n 2, 1) := by decide +kernel
theorem d_Ru_drop_30 : decode b_Ru_drop 30 = .ok (.iconst 1, 1) := by decide +kernel
theorem d_Ru_drop_31 : decode b_Ru_drop 31 = .ok (.iadd, 1) := by decide +kernel
theorem d_Ru_drop_32 : decode b_Ru_drop 32 = .ok (.iaload, 1) := by decide +kernel
theorem d_Ru_drop_33 : decode b_Ru_drop 33 = .ok (.iastore, 1) := by decide +kernel
theorem d_Ru_drop_34 : decode b_Ru_drop 34 = .ok (.aload_n 0, 1) := by decide +kernel
theorem d_Ru_drop_35 : decode b_Ru_drop 35 = .ok (.getfield 15, 3) := by decide +kernel
theorem d_Ru_drop_38 : decode b_Ru_drop 38 = .ok (.iload_n 2, 1) := by decide +kernel
theorem d_Ru_drop_39 : decode b_Ru_drop 39 = .ok (.aload_n 0, 1) := by decide +kernel
theorem d_Ru_drop_40 : decode b_Ru_drop 40 = .ok (.getfield 15, 3) := by decide +kernel
theorem d_Ru_drop_43 : decode b_Ru_drop 43 = .ok (.iload_n 2, 1) := by decide +kernel
theorem d_Ru_drop_44 : decode b_Ru_drop 44 = .ok (.iconst 1, 1) := by decide +kernel
theorem d_Ru_drop_45 : decode b_Ru_drop 45 = .ok (.iadd, 1) := by decide +kernel
theorem d_Ru_drop_46 : decode b_Ru_drop 46 = .ok (.laload, 1) := by decide +kernel
theorem d_Ru_drop_47 : decode b_Ru_drop 47 = .ok (.lastore, 1) := by decide +kernel
theorem d_Ru_drop_48 : decode b_Ru_drop 48 = .ok (.aload_n 0, 1) := by decide +kernel
theorem d_Ru_drop_49 : decode b_Ru_drop 49 = .ok (.getfield 19, 3) := by decide +kernel
theorem d_Ru_drop_52 : decode b_Ru_drop 52 = .ok (.iload_n 2, 1) := by decide +kernel
theorem d_Ru_drop_53 : decode b_Ru_drop 53 = .ok (.aload_n 0, 1) := by decide +kernel
theorem d_Ru_drop_54 : decode b_Ru_drop 54 = .ok (.getfield 19, 3) := by decide +kernel
theorem d_Ru_drop_57 : decode b_Ru_drop 57 = .ok (.iload_n 2, 1) := by decide +kernel
theorem d_Ru_drop_58 : decode b_Ru_drop 58 = .ok (.iconst 1, 1) := by decide +kernel
theorem d_Ru_drop_59 : decode b_Ru_drop 59 = .ok (.iadd, 1) := by decide +kernel
theorem d_Ru_drop_60 : decode b_Ru_drop 60 = .ok (.laload, 1) := by decide +kernel
theorem d_Ru_drop_61 : decode b_Ru_drop 61 = .ok (.lastore, 1) := by decide +kernel
theorem d_Ru_drop_62 : decode b_Ru_drop 62 = .ok (.aload_n 0, 1) := by decide +kernel
theorem d_Ru_drop_63 : decode b_Ru_drop 63 = .ok (.getfield 22, 3) := by decide +kernel
theorem d_Ru_drop_66 : decode b_Ru_drop 66 = .ok (.iload_n 2, 1) := by decide +kernel
theorem d_Ru_drop_67 : decode b_Ru_drop 67 = .ok (.aload_n 0, 1) := by decide +kernel
theorem d_Ru_drop_68 : decode b_Ru_drop 68 = .ok (.getfield 22, 3) := by decide +kernel
theorem d_Ru_drop_71 : decode b_Ru_drop 71 = .ok (.iload_n 2, 1) := by decide +kernel
theorem d_Ru_drop_72 : decode b_Ru_drop 72 = .ok (.iconst 1, 1) := by decide +kernel
theorem d_Ru_drop_73 : decode b_Ru_drop 73 = .ok (.iadd, 1) := by decide +kernel
theorem d_Ru_drop_74 : decode b_Ru_drop 74 = .ok (.iaload, 1) := by decide +kernel
theorem d_Ru_drop_75 : decode b_Ru_drop 75 = .ok (.iastore, 1) := by decide +kernel
theorem d_Ru_drop_76 : decode b_Ru_drop 76 = .ok (.iinc 2 1, 3) := by decide +kernel
theorem d_Ru_drop_79 : decode b_Ru_drop 79 = .ok (.goto (-67), 3) := by decide +kernel
theorem d_Ru_drop_82 : decode b_Ru_drop 82 = .ok (.return_, 1) := by decide +kernel
abbrev ws_Ru_drop : List Cond := .code y_Ru_drop b_Ru_drop 3 none :: ALLG
abbrev rm_Ru_drop : Room := { frames := 0, cells := 0, slots := 0, locals := 0 }
set_option maxHeartbeats 4000000 in
set_option maxRecDepth 100000 in
theorem c_Ru_drop (l : Launch) (DD : va_G) (sz : Nat) (ar : Nat) (hfg : Nat) (cfg : ClassId) (fg : Nat → Nat) (hle : Nat) (cle : ClassId) (le : Nat → Int64) (hmo : Nat) (cmo : ClassId) (mo : Nat → Int64) (hwy : Nat) (cwy : ClassId) (wy : Nat → Nat) (rn : Nat) (j : Nat) (hrn : rn ≤ 12) (hj : j < rn) : Met l y_Ru_drop ws_Ru_drop rm_Ru_drop (va_Pc [.ref ar, .int (nI j)] (fun U => U.heap.size = sz ∧ va_P DD vwCl [(ar, .inr (5, [.ref hfg, .ref hle, .ref hmo, .ref hwy, .int (nI rn)])), (hfg, .inl (cfg, 12, .inl (nF fg))), (hle, .inl (cle, 12, .inr (.inl le))), (hmo, .inl (cmo, 12, .inr (.inl mo))), (hwy, .inl (cwy, 12, .inl (nF wy)))] U.heap ∧ va_K DD vwCl [(cfg, .int), (cle, .long), (cmo, .long), (cwy, .int)] U ∧ va_D (fun _ => True) [(ar, .inr (5, [.ref hfg, .ref hle, .ref hmo, .ref hwy, .int (nI rn)])), (hfg, .inl (cfg, 12, .inl (nF fg))), (hle, .inl (cle, 12, .inr (.inl le))), (hmo, .inl (cmo, 12, .inr (.inl mo))), (hwy, .inl (cwy, 12, .inl (nF wy)))])) (va_Qv (fun (u9 : Unit) => match u9 with | _ => True) (fun (u9 : Unit) (t9 : State) => match u9 with | _ => va_P DD vwCl [(ar, .inr (5, [.ref hfg, .ref hle, .ref hmo, .ref hwy, .int (nI (rn - 1))])), (hfg, .inl (cfg, 12, .inl (nF (shF fg j (rn - 1))))), (hle, .inl (cle, 12, .inr (.inl (shF le j (rn - 1))))), (hmo, .inl (cmo, 12, .inr (.inl (shF mo j (rn - 1))))), (hwy, .inl (cwy, 12, .inl (nF (shF wy j (rn - 1)))))] t9.heap ∧ va_K DD vwCl [(cfg, .int), (cle, .long), (cmo, .long), (cwy, .int)] t9 ∧ va_D (va_A [(ar, .inr (5, [.ref hfg, .ref hle, .ref hmo, .ref hwy, .int (nI rn)])), (hfg, .inl (cfg, 12, .inl (nF fg))), (hle, .inl (cle, 12, .inr (.inl le))), (hmo, .inl (cmo, 12, .inr (.inl mo))), (hwy, .inl (cwy, 12, .inl (nF wy)))] sz) [(ar, .inr (5, [.ref hfg, .ref hle, .ref hmo, .ref hwy, .int (nI (rn - 1))])), (hfg, .inl (cfg, 12, .inl (nF (shF fg j (rn - 1))))), (hle, .inl (cle, 12, .inr (.inl (shF le j (rn - 1))))), (hmo, .inl (cmo, 12, .inr (.inl (shF mo j (rn - 1))))), (hwy, .inl (cwy, 12, .inl (nF (shF wy j (rn - 1)))))]) (va_A [(ar, .inr (5, [.ref hfg, .ref hle, .ref hmo, .ref hwy, .int (nI rn)])), (hfg, .inl (cfg, 12, .inl (nF fg))), (hle, .inl (cle, 12, .inr (.inl le))), (hmo, .inl (cmo, 12, .inr (.inl mo))), (hwy, .inl (cwy, 12, .inl (nF wy)))] sz)) 0 0 (va_A [(ar, .inr (5, [.ref hfg, .ref hle, .ref hmo, .ref hwy, .int (nI rn)])), (hfg, .inl (cfg, 12, .inl (nF fg))), (hle, .inl (cle, 12, .inr (.inl le))), (hmo, .inl (cmo, 12, .inr (.inl mo))), (hwy, .inl (cwy, 12, .inl (nF wy)))] sz) := by
  refine Met.ofW (cc := b_Ru_drop) (maxL := 3) (ret := none) (by decide) rfl ?_
  intro p e s m args below meth c s₁ B hml hv
  obtain ⟨ha, hsz, hP, hK, hD0⟩ := hv
  have hx := B.exec
  have hb := B.bytes
  have hr := B.returns
  have hts := atoms_spec (ws := ws_Ru_drop) B.pre
  have hg : ∀ w ∈ ALLG, w.before args s = true := fun w h => hts w (List.mem_cons_of_mem _ h)
  have hown : s.vm.findClass R_Ru = some m.cls := findClass_of_methodNamed B.named
  have hlocks := B.notSynchronized
  subst hsz
  have hD := hD0.self (sz := s.heap.size)
  generalize hAe : va_A [(ar, .inr (5, [.ref hfg, .ref hle, .ref hmo, .ref hwy, .int (nI rn)])), (hfg, .inl (cfg, 12, .inl (nF fg))), (hle, .inl (cle, 12, .inr (.inl le))), (hmo, .inl (cmo, 12, .inr (.inl mo))), (hwy, .inl (cwy, 12, .inl (nF wy)))] s.heap.size = A at hD ⊢
  have hA : ∀ q : Nat, s.heap.size ≤ q → A q := fun q h => by rw [← hAe]; exact Or.inr h
  have hS : va_S A s.heap s.heap [] := va_S.rf
  have hP : va_P DD vwCl [(ar, .inr (5, [.ref hfg, .ref hle, .ref hmo, .ref hwy, .int (nI rn)])), (hfg, .inl (cfg, 12, .inl (nF fg))), (hle, .inl (cle, 12, .inr (.inl le))), (hmo, .inl (cmo, 12, .inr (.inl mo))), (hwy, .inl (cwy, 12, .inl (nF wy)))] s.heap := hP
  have hl := lv_entry ([.ref ar, .int (nI j)]) (n := 3) (Nat.le_of_ble_eq_true rfl)
  rw [ha, lg_entry_eq, ← ha]
  generalize (lg_sl ([.ref ar, .int (nI j)]) ++ List.replicate (3 - (lg_sl ([.ref ar, .int (nI j)])).length) Slot.unset).toArray = ls at hl ⊢
  have hl : lv_has ls 3 [(0, .ref ar), (1, .int (nI j))] := hl
  have K12 : ∀ (kk : Nat) (i : Nat), (hji : j ≤ i) → (hi : i ≤ rn - 1) → rn - i < kk → ∀ (H : Heap) (locs : List Loc), va_P DD vwCl [(ar, .inr (5, [.ref hfg, .ref hle, .ref hmo, .ref hwy, .int (nI (rn - 1))])), (hfg, .inl (cfg, 12, .inl (nF (shF fg j i)))), (hle, .inl (cle, 12, .inr (.inl (shF le j i)))), (hmo, .inl (cmo, 12, .inr (.inl (shF mo j i)))), (hwy, .inl (cwy, 12, .inl (nF (shF wy j i))))] H → va_D A [(ar, .inr (5, [.ref hfg, .ref hle, .ref hmo, .ref hwy, .int (nI (rn - 1))])), (hfg, .inl (cfg, 12, .inl (nF (shF fg j i)))), (hle, .inl (cle, 12, .inr (.inl (shF le j i)))), (hmo, .inl (cmo, 12, .inr (.inl (shF mo j i)))), (hwy, .inl (cwy, 12, .inl (nF (shF wy j i))))] → va_S A s.heap H locs → ∀ (ls : Array Slot), lv_has ls 3 [(0, .ref ar), (1, .int (nI j)), (2, .int (nI i))] → W p l e (headSpec ws_Ru_drop rm_Ru_drop).room s m args below meth c H locs 0 0 (MQ below (va_Qv (fun (u9 : Unit) => match u9 with | _ => True) (fun (u9 : Unit) (t9 : State) => match u9 with | _ => va_P DD vwCl [(ar, .inr (5, [.ref hfg, .ref hle, .ref hmo, .ref hwy, .int (nI (rn - 1))])), (hfg, .inl (cfg, 12, .inl (nF (shF fg j (rn - 1))))), (hle, .inl (cle, 12, .inr (.inl (shF le j (rn - 1))))), (hmo, .inl (cmo, 12, .inr (.inl (shF mo j (rn - 1))))), (hwy, .inl (cwy, 12, .inl (nF (shF wy j (rn - 1)))))] t9.heap ∧ va_K DD vwCl [(cfg, .int), (cle, .long), (cmo, .long), (cwy, .int)] t9 ∧ va_D A [(ar, .inr (5, [.ref hfg, .ref hle, .ref hmo, .ref hwy, .int (nI (rn - 1))])), (hfg, .inl (cfg, 12, .inl (nF (shF fg j (rn - 1))))), (hle, .inl (cle, 12, .inr (.inl (shF le j (rn - 1))))), (hmo, .inl (cmo, 12, .inr (.inl (shF mo j (rn - 1))))), (hwy, .inl (cwy, 12, .inl (nF (shF wy j (rn - 1)))))]) A) args s 0 0 A) (F0 m 12 ls []) := by
    intro kk
    induction kk with
    | zero => intros; omega
    | succ kk ih12 =>
      intro i hji hi hkk H locs hP hD hS ls hl
      refine lv_iload_n hx hb d_Ru_drop_12 rfl (lv_at hl 2 rfl) ?_
      refine lv_aload_n hx hb d_Ru_drop_13 rfl (lv_at hl 0 rfl) ?_
      refine va_get (D := DD) (ci := 5) (v := .int (nI (rn - 1))) (C := R_Ru) (T := T_Ru) (N := 5) hx hb hg in_Ru hown hK hP 0 rfl rfl 4 (by decide) (hg _ mw_56) (fun _ h9 => h9) rfl d_Ru_drop_14 ?_
      refine z_icmp_ge (tgt := 82) hx hb d_Ru_drop_17 (by decide) (by omega) (by omega) (fun c_17 => ?_) (fun c_17 => ?_)
      · rw [show shF fg j i = shF fg j (rn - 1) from by rw [Nat.le_antisymm hi c_17]] at hP hD
        rw [show shF le j i = shF le j (rn - 1) from by rw [Nat.le_antisymm hi c_17]] at hP hD
        rw [show shF mo j i = shF mo j (rn - 1) from by rw [Nat.le_antisymm hi c_17]] at hP hD
        rw [show shF wy j i = shF wy j (rn - 1) from by rw [Nat.le_antisymm hi c_17]] at hP hD
        have hP9 := hP.sub (ws' := [(ar, .inr (5, [.ref hfg, .ref hle, .ref hmo, .ref hwy, .int (nI (rn - 1))])), (hfg, .inl (cfg, 12, .inl (nF (shF fg j (rn - 1))))), (hle, .inl (cle, 12, .inr (.inl (shF le j (rn - 1))))), (hmo, .inl (cmo, 12, .inr (.inl (shF mo j (rn - 1))))), (hwy, .inl (cwy, 12, .inl (nF (shF wy j (rn - 1)))))]) [0, 1, 2, 3, 4] rfl
        have hD9 := hD.sub (ws' := [(ar, .inr (5, [.ref hfg, .ref hle, .ref hmo, .ref hwy, .int (nI (rn - 1))])), (hfg, .inl (cfg, 12, .inl (nF (shF fg j (rn - 1))))), (hle, .inl (cle, 12, .inr (.inl (shF le j (rn - 1))))), (hmo, .inl (cmo, 12, .inr (.inl (shF mo j (rn - 1))))), (hwy, .inl (cwy, 12, .inl (nF (shF wy j (rn - 1)))))]) [0, 1, 2, 3, 4] (by decide) rfl
        exact W.vret hx hb hr (fun t9 ht9 hW9 => ⟨⟨(), rfl, trivial, by rw [ht9]; exact hP9, va_K.moved hW9.alike hK, hD9⟩, hS.F ht9⟩) hS.2.2 d_Ru_drop_82
      · refine lv_aload_n hx hb d_Ru_drop_20 rfl (lv_at hl 0 rfl) ?_
        refine va_get (D := DD) (ci := 5) (v := .ref hfg) (C := R_Ru) (T := T_Ru) (N := 5) hx hb hg in_Ru hown hK hP 0 rfl rfl 0 (by decide) (hg _ mw_52) (fun _ h9 => h9) rfl d_Ru_drop_21 ?_
        refine lv_iload_n hx hb d_Ru_drop_24 rfl (lv_at hl 2 rfl) ?_
        refine lv_aload_n hx hb d_Ru_drop_25 rfl (lv_at hl 0 rfl) ?_
        refine va_get (D := DD) (ci := 5) (v := .ref hfg) (C := R_Ru) (T := T_Ru) (N := 5) hx hb hg in_Ru hown hK hP 0 rfl rfl 0 (by decide) (hg _ mw_52) (fun _ h9 => h9) rfl d_Ru_drop_26 ?_
        refine lv_iload_n hx hb d_Ru_drop_29 rfl (lv_at hl 2 rfl) ?_
        refine lv_iconst (v := nI 1) hx hb d_Ru_drop_30 (by decide) ?_
        refine z_iadd hx hb d_Ru_drop_31 ?_
        refine z_ialdN hx hb hK hP 1 0 rfl rfl (by omega) (by decide) d_Ru_drop_32 ?_
        refine z_iastN hx hb hK hP hD hS 1 0 rfl rfl (by omega) (by decide) d_Ru_drop_33 (fun H locs hP hD hS => ?_)
        have hP : va_P DD vwCl [(ar, .inr (5, [.ref hfg, .ref hle, .ref hmo, .ref hwy, .int (nI (rn - 1))])), (hfg, .inl (cfg, 12, .inl (nF (va_up (shF fg j i) i ((shF fg j i) (i + 1)))))), (hle, .inl (cle, 12, .inr (.inl (shF le j i)))), (hmo, .inl (cmo, 12, .inr (.inl (shF mo j i)))), (hwy, .inl (cwy, 12, .inl (nF (shF wy j i))))] H := hP
        have hD : va_D A [(ar, .inr (5, [.ref hfg, .ref hle, .ref hmo, .ref hwy, .int (nI (rn - 1))])), (hfg, .inl (cfg, 12, .inl (nF (va_up (shF fg j i) i ((shF fg j i) (i + 1)))))), (hle, .inl (cle, 12, .inr (.inl (shF le j i)))), (hmo, .inl (cmo, 12, .inr (.inl (shF mo j i)))), (hwy, .inl (cwy, 12, .inl (nF (shF wy j i))))] := hD
        refine lv_aload_n hx hb d_Ru_drop_34 rfl (lv_at hl 0 rfl) ?_
        refine va_get (D := DD) (ci := 5) (v := .ref hle) (C := R_Ru) (T := T_Ru) (N := 5) hx hb hg in_Ru hown hK hP 0 rfl rfl 1 (by decide) (hg _ mw_53) (fun _ h9 => h9) rfl d_Ru_drop_35 ?_
        refine lv_iload_n hx hb d_Ru_drop_38 rfl (lv_at hl 2 rfl) ?_
        refine lv_aload_n hx hb d_Ru_drop_39 rfl (lv_at hl 0 rfl) ?_
        refine va_get (D := DD) (ci := 5) (v := .ref hle) (C := R_Ru) (T := T_Ru) (N := 5) hx hb hg in_Ru hown hK hP 0 rfl rfl 1 (by decide) (hg _ mw_53) (fun _ h9 => h9) rfl d_Ru_drop_40 ?_
        refine lv_iload_n hx hb d_Ru_drop_43 rfl (lv_at hl 2 rfl) ?_
        refine lv_iconst (v := nI 1) hx hb d_Ru_drop_44 (by decide) ?_
        refine z_iadd hx hb d_Ru_drop_45 ?_
        refine z_lald hx hb hK hP 2 1 rfl rfl (by omega) (by decide) d_Ru_drop_46 ?_
        refine z_last hx hb hK hP hD hS 2 1 rfl rfl (by omega) (by decide) d_Ru_drop_47 (fun H locs hP hD hS => ?_)
        have hP : va_P DD vwCl [(ar, .inr (5, [.ref hfg, .ref hle, .ref hmo, .ref hwy, .int (nI (rn - 1))])), (hfg, .inl (cfg, 12, .inl (nF (va_up (shF fg j i) i ((shF fg j i) (i + 1)))))), (hle, .inl (cle, 12, .inr (.inl (vp_updL (shF le j i) i ((shF le j i) (i + 1)))))), (hmo, .inl (cmo, 12, .inr (.inl (shF mo j i)))), (hwy, .inl (cwy, 12, .inl (nF (shF wy j i))))] H := hP
        have hD : va_D A [(ar, .inr (5, [.ref hfg, .ref hle, .ref hmo, .ref hwy, .int (nI (rn - 1))])), (hfg, .inl (cfg, 12, .inl (nF (va_up (shF fg j i) i ((shF fg j i) (i + 1)))))), (hle, .inl (cle, 12, .inr (.inl (vp_updL (shF le j i) i ((shF le j i) (i + 1)))))), (hmo, .inl (cmo, 12, .inr (.inl (shF mo j i)))), (hwy, .inl (cwy, 12, .inl (nF (shF wy j i))))] := hD
        refine lv_aload_n hx hb d_Ru_drop_48 rfl (lv_at hl 0 rfl) ?_
        refine va_get (D := DD) (ci := 5) (v := .ref hmo) (C := R_Ru) (T := T_Ru) (N := 5) hx hb hg in_Ru hown hK hP 0 rfl rfl 2 (by decide) (hg _ mw_54) (fun _ h9 => h9) rfl d_Ru_drop_49 ?_
        refine lv_iload_n hx hb d_Ru_drop_52 rfl (lv_at hl 2 rfl) ?_
        refine lv_aload_n hx hb d_Ru_drop_53 rfl (lv_at hl 0 rfl) ?_
        refine va_get (D := DD) (ci := 5) (v := .ref hmo) (C := R_Ru) (T := T_Ru) (N := 5) hx hb hg in_Ru hown hK hP 0 rfl rfl 2 (by decide) (hg _ mw_54) (fun _ h9 => h9) rfl d_Ru_drop_54 ?_
        refine lv_iload_n hx hb d_Ru_drop_57 rfl (lv_at hl 2 rfl) ?_
        refine lv_iconst (v := nI 1) hx hb d_Ru_drop_58 (by decide) ?_
        refine z_iadd hx hb d_Ru_drop_59 ?_
        refine z_lald hx hb hK hP 3 2 rfl rfl (by omega) (by decide) d_Ru_drop_60 ?_
        refine z_last hx hb hK hP hD hS 3 2 rfl rfl (by omega) (by decide) d_Ru_drop_61 (fun H locs hP hD hS => ?_)
        have hP : va_P DD vwCl [(ar, .inr (5, [.ref hfg, .ref hle, .ref hmo, .ref hwy, .int (nI (rn - 1))])), (hfg, .inl (cfg, 12, .inl (nF (va_up (shF fg j i) i ((shF fg j i) (i + 1)))))), (hle, .inl (cle, 12, .inr (.inl (vp_updL (shF le j i) i ((shF le j i) (i + 1)))))), (hmo, .inl (cmo, 12, .inr (.inl (vp_updL (shF mo j i) i ((shF mo j i) (i + 1)))))), (hwy, .inl (cwy, 12, .inl (nF (shF wy j i))))] H := hP
        have hD : va_D A [(ar, .inr (5, [.ref hfg, .ref hle, .ref hmo, .ref hwy, .int (nI (rn - 1))])), (hfg, .inl (cfg, 12, .inl (nF (va_up (shF fg j i) i ((shF fg j i) (i + 1)))))), (hle, .inl (cle, 12, .inr (.inl (vp_updL (shF le j i) i ((shF le j i) (i + 1)))))), (hmo, .inl (cmo, 12, .inr (.inl (vp_updL (shF mo j i) i ((shF mo j i) (i + 1)))))), (hwy, .inl (cwy, 12, .inl (nF (shF wy j i))))] := hD
        refine lv_aload_n hx hb d_Ru_drop_62 rfl (lv_at hl 0 rfl) ?_
        refine va_get (D := DD) (ci := 5) (v := .ref hwy) (C := R_Ru) (T := T_Ru) (N := 5) hx hb hg in_Ru hown hK hP 0 rfl rfl 3 (by decide) (hg _ mw_55) (fun _ h9 => h9) rfl d_Ru_drop_63 ?_
        refine lv_iload_n hx hb d_Ru_drop_66 rfl (lv_at hl 2 rfl) ?_
        refine lv_aload_n hx hb d_Ru_drop_67 rfl (lv_at hl 0 rfl) ?_
        refine va_get (D := DD) (ci := 5) (v := .ref hwy) (C := R_Ru) (T := T_Ru) (N := 5) hx hb hg in_Ru hown hK hP 0 rfl rfl 3 (by decide) (hg _ mw_55) (fun _ h9 => h9) rfl d_Ru_drop_68 ?_
        refine lv_iload_n hx hb d_Ru_drop_71 rfl (lv_at hl 2 rfl) ?_
        refine lv_iconst (v := nI 1) hx hb d_Ru_drop_72 (by decide) ?_
        refine z_iadd hx hb d_Ru_drop_73 ?_
        refine z_ialdN hx hb hK hP 4 3 rfl rfl (by omega) (by decide) d_Ru_drop_74 ?_
        refine z_iastN hx hb hK hP hD hS 4 3 rfl rfl (by omega) (by decide) d_Ru_drop_75 (fun H locs hP hD hS => ?_)
        have hP : va_P DD vwCl [(ar, .inr (5, [.ref hfg, .ref hle, .ref hmo, .ref hwy, .int (nI (rn - 1))])), (hfg, .inl (cfg, 12, .inl (nF (va_up (shF fg j i) i ((shF fg j i) (i + 1)))))), (hle, .inl (cle, 12, .inr (.inl (vp_updL (shF le j i) i ((shF le j i) (i + 1)))))), (hmo, .inl (cmo, 12, .inr (.inl (vp_updL (shF mo j i) i ((shF mo j i) (i + 1)))))), (hwy, .inl (cwy, 12, .inl (nF (va_up (shF wy j i) i ((shF wy j i) (i + 1))))))] H := hP
        have hD : va_D A [(ar, .inr (5, [.ref hfg, .ref hle, .ref hmo, .ref hwy, .int (nI (rn - 1))])), (hfg, .inl (cfg, 12, .inl (nF (va_up (shF fg j i) i ((shF fg j i) (i + 1)))))), (hle, .inl (cle, 12, .inr (.inl (vp_updL (shF le j i) i ((shF le j i) (i + 1)))))), (hmo, .inl (cmo, 12, .inr (.inl (vp_updL (shF mo j i) i ((shF mo j i) (i + 1)))))), (hwy, .inl (cwy, 12, .inl (nF (va_up (shF wy j i) i ((shF wy j i) (i + 1))))))] := hD
        rw [show va_up (shF fg j i) i ((shF fg j i) (i + 1)) = shF fg j (i + 1) from shF_n fg hji] at hP hD
        rw [show va_up (shF wy j i) i ((shF wy j i) (i + 1)) = shF wy j (i + 1) from shF_n wy hji] at hP hD
        rw [show vp_updL (shF le j i) i ((shF le j i) (i + 1)) = shF le j (i + 1) from shF_l le hji] at hP hD
        rw [show vp_updL (shF mo j i) i ((shF mo j i) (i + 1)) = shF mo j (i + 1) from shF_l mo hji] at hP hD
        refine lv_iinc (v := nI (i + 1)) (lv' := [(2, .int (nI (i + 1))), (0, .ref ar), (1, .int (nI j))]) hx hb d_Ru_drop_76 hl (k := 2) rfl (by exact nI_add i 1) (by decide) rfl (fun ls hl => ?_)
        refine lv_goto (tgt := 12) hx hb d_Ru_drop_79 (by decide) ?_
        exact ih12 (i + 1) (by omega) (by omega) (by omega) _ _ hP hD hS ls (lv_sub hl [1, 2, 0] rfl)
  refine lv_aload_n hx hb d_Ru_drop_0 rfl (lv_at hl 0 rfl) ?_
  refine lv_dup hx hb d_Ru_drop_1 rfl ?_
  refine va_get (D := DD) (ci := 5) (v := .int (nI rn)) (C := R_Ru) (T := T_Ru) (N := 5) hx hb hg in_Ru hown hK hP 0 rfl rfl 4 (by decide) (hg _ mw_56) (fun _ h9 => h9) rfl d_Ru_drop_2 ?_
  refine lv_iconst (v := nI 1) hx hb d_Ru_drop_5 (by decide) ?_
  refine z_isub hx hb d_Ru_drop_6 (by omega) ?_
  refine va_put (D := DD) (ci := 5) (v := .int (nI (rn - 1))) (ty := .int) (C := R_Ru) (T := T_Ru) (N := 5) hx hb hg in_Ru t_Ru to_Ru n_Ru hown hK hP hD hS 0 rfl rfl 4 (by decide) (hg _ mw_56) (fun _ h9 => h9) rfl (by decide +kernel) rfl rfl (Nat.le_of_ble_eq_true rfl) d_Ru_drop_7 (fun H locs hP hD hS => ?_)
  have hP : va_P DD vwCl [(ar, .inr (5, [.ref hfg, .ref hle, .ref hmo, .ref hwy, .int (nI (rn - 1))])), (hfg, .inl (cfg, 12, .inl (nF fg))), (hle, .inl (cle, 12, .inr (.inl le))), (hmo, .inl (cmo, 12, .inr (.inl mo))), (hwy, .inl (cwy, 12, .inl (nF wy)))] H := hP
  have hD : va_D A [(ar, .inr (5, [.ref hfg, .ref hle, .ref hmo, .ref hwy, .int (nI (rn - 1))])), (hfg, .inl (cfg, 12, .inl (nF fg))), (hle, .inl (cle, 12, .inr (.inl le))), (hmo, .inl (cmo, 12, .inr (.inl mo))), (hwy, .inl (cwy, 12, .inl (nF wy)))] := hD
  rw [show fg = shF fg j j from shF_0 fg j] at hP hD
  rw [show le = shF le j j from shF_0 le j] at hP hD
  rw [show mo = shF mo j j from shF_0 mo j] at hP hD
  rw [show wy = shF wy j j from shF_0 wy j] at hP hD
  refine lv_iload_n hx hb d_Ru_drop_10 rfl (lv_at hl 1 rfl) ?_
  refine lv_istore_n (lv' := [(2, .int (nI j)), (0, .ref ar), (1, .int (nI j))]) hx hb d_Ru_drop_11 rfl hl (by decide) rfl (fun ls hl => ?_)
  exact K12 _ j (by omega) (by omega) (Nat.lt_succ_self _) _ _ hP hD hS ls (lv_sub hl [1, 2, 0] rfl)
theorem d_Ru_admits_0 : decode b_Ru_admits 0 = .ok (.aload_n 2, 1) := by decide +kernel
theorem d_Ru_admits_1 : decode b_Ru_admits 1 = .ok (.aload_n 0, 1) := by decide +kernel
theorem d_Ru_admits_2 : decode b_Ru_admits 2 = .ok (.getfield 9, 3) := by decide +kernel
theorem d_Ru_admits_5 : decode b_Ru_admits 5 = .ok (.iload_n 1, 1) := by decide +kernel
theorem d_Ru_admits_6 : decode b_Ru_admits 6 = .ok (.iaload, 1) := by decide +kernel
theorem d_Ru_admits_7 : decode b_Ru_admits 7 = .ok (.invokevirtual 29, 3) := by decide +kernel
theorem d_Ru_admits_10 : decode b_Ru_admits 10 = .ok (.lstore_n 3, 1) := by decide +kernel
theorem d_Ru_admits_11 : decode b_Ru_admits 11 = .ok (.lload_n 3, 1) := by decide +kernel
theorem d_Ru_admits_12 : decode b_Ru_admits 12 = .ok (.aload_n 0, 1) := by decide +kernel
theorem d_Ru_admits_13 : decode b_Ru_admits 13 = .ok (.getfield 15, 3) := by decide +kernel
theorem d_Ru_admits_16 : decode b_Ru_admits 16 = .ok (.iload_n 1, 1) := by decide +kernel
theorem d_Ru_admits_17 : decode b_Ru_admits 17 = .ok (.laload, 1) := by decide +kernel
theorem d_Ru_admits_18 : decode b_Ru_admits 18 = .ok (.lcmp, 1) := by decide +kernel
theorem d_Ru_admits_19 : decode b_Ru_admits 19 = .ok (.ifCond .lt 18, 3) := by decide +kernel
theorem d_Ru_admits_22 : decode b_Ru_admits 22 = .ok (.lload_n 3, 1) := by decide +kernel
theorem d_Ru_admits_23 : decode b_Ru_admits 23 = .ok (.aload_n 0, 1) := by decide +kernel
theorem d_Ru_admits_24 : decode b_Ru_admits 24 = .ok (.getfield 19, 3) := by decide +kernel
theorem d_Ru_admits_27 : decode b_Ru_admits 27 = .ok (.iload_n 1, 1) := by decide +kernel
theorem d_Ru_admits_28 : decode b_Ru_admits 28 = .ok (.laload, 1) := by decide +kernel
theorem d_Ru_admits_29 : decode b_Ru_admits 29 = .ok (.lcmp, 1) := by decide +kernel
theorem d_Ru_admits_30 : decode b_Ru_admits 30 = .ok (.ifCond .gt 7, 3) := by decide +kernel
theorem d_Ru_admits_33 : decode b_Ru_admits 33 = .ok (.iconst 1, 1) := by decide +kernel
theorem d_Ru_admits_34 : decode b_Ru_admits 34 = .ok (.goto 4, 3) := by decide +kernel
theorem d_Ru_admits_37 : decode b_Ru_admits 37 = .ok (.iconst 0, 1) := by decide +kernel
theorem d_Ru_admits_38 : decode b_Ru_admits 38 = .ok (.ireturn, 1) := by decide +kernel
abbrev ws_Ru_admits : List Cond := .code y_Ru_admits b_Ru_admits 5 (some .boolean) :: ALLG
abbrev rm_Ru_admits : Room := { frames := 4, cells := 0, slots := 0, locals := 84 }
set_option maxHeartbeats 4000000 in
set_option maxRecDepth 100000 in
theorem c_Ru_admits (l : Launch) (DD : va_G) (ar : Nat) (hfg : Nat) (cfg : ClassId) (fg : Nat → Nat) (hle : Nat) (cle : ClassId) (le : Nat → Int64) (hmo : Nat) (cmo : ClassId) (mo : Nat → Int64) (hwy : Nat) (rn : Nat) (j : Nat) (h : Nat) (hk : Nat) (ck : ClassId) (k : Nat → Int32) (ht : Nat) (n : Nat) (hj : j < 12) (hn : n ≤ 150) (hf8 : fg j < 8) : Met l y_Ru_admits ws_Ru_admits rm_Ru_admits (va_Pc [.ref ar, .int (nI j), .ref h] (fun U => va_P DD vwCl [(ar, .inr (5, [.ref hfg, .ref hle, .ref hmo, .ref hwy, .int (nI rn)])), (hfg, .inl (cfg, 12, .inl (nF fg))), (hle, .inl (cle, 12, .inr (.inl le))), (hmo, .inl (cmo, 12, .inr (.inl mo))), (h, .inr (4, [.ref hk, .ref ht, .int (nI n)])), (hk, .inl (ck, 150, .inl k))] U.heap ∧ va_K DD vwCl [(cfg, .int), (cle, .long), (cmo, .long), (ck, .int)] U)) (vp_Si (fun r9 => r9 = zb (admB le mo (figN k n (fg j)).toInt64 j))) 0 0 (fun _ => False) := by
  refine Met.ofW (cc := b_Ru_admits) (maxL := 5) (ret := (some .boolean)) (by decide) rfl ?_
  intro p e s m args below meth c s₁ B hml hv
  obtain ⟨ha, hP, hK⟩ := hv
  have hx := B.exec
  have hb := B.bytes
  have hr := B.returns
  have hts := atoms_spec (ws := ws_Ru_admits) B.pre
  have hg : ∀ w ∈ ALLG, w.before args s = true := fun w h => hts w (List.mem_cons_of_mem _ h)
  have hown : s.vm.findClass R_Ru = some m.cls := findClass_of_methodNamed B.named
  have hlocks := B.notSynchronized
  have hP : va_P DD vwCl [(ar, .inr (5, [.ref hfg, .ref hle, .ref hmo, .ref hwy, .int (nI rn)])), (hfg, .inl (cfg, 12, .inl (nF fg))), (hle, .inl (cle, 12, .inr (.inl le))), (hmo, .inl (cmo, 12, .inr (.inl mo))), (h, .inr (4, [.ref hk, .ref ht, .int (nI n)])), (hk, .inl (ck, 150, .inl k))] s.heap := hP
  have hl := lv_entry ([.ref ar, .int (nI j), .ref h]) (n := 5) (Nat.le_of_ble_eq_true rfl)
  rw [ha, lg_entry_eq, ← ha]
  generalize (lg_sl ([.ref ar, .int (nI j), .ref h]) ++ List.replicate (5 - (lg_sl ([.ref ar, .int (nI j), .ref h])).length) Slot.unset).toArray = ls at hl ⊢
  have hl : lv_has ls 5 [(0, .ref ar), (1, .int (nI j)), (2, .ref h)] := hl
  refine lv_aload_n hx hb d_Ru_admits_0 rfl (lv_at hl 2 rfl) ?_
  refine lv_aload_n hx hb d_Ru_admits_1 rfl (lv_at hl 0 rfl) ?_
  refine va_get (D := DD) (ci := 5) (v := .ref hfg) (C := R_Ru) (T := T_Ru) (N := 5) hx hb hg in_Ru hown hK hP 0 rfl rfl 0 (by decide) (hg _ mw_52) (fun _ h9 => h9) rfl d_Ru_admits_2 ?_
  refine lv_iload_n hx hb d_Ru_admits_5 rfl (lv_at hl 1 rfl) ?_
  refine z_ialdN hx hb hK hP 1 0 rfl rfl (by omega) (by decide) d_Ru_admits_6 ?_
  have hPc := hP.sub (ws' := [(h, .inr (4, [.ref hk, .ref ht, .int (nI n)])), (hk, .inl (ck, 150, .inl k))]) [4, 5] rfl
  have hKc := hK.sub (tys' := [(ck, .int)]) [3] rfl
  refine vp_callSl (W.runV (As := [.int (nI (fg j))]) (rest := []) ⟨hx, hb, hml, hown, hg⟩ (c_Ro_measure l DD h hk ht ck n k (fg j) (by omega) (by omega)) (cwV 1 hg (gi_V mw_233 mw_234 mw_235 mw_2 mw_236) rfl rfl rfl (by decide +kernel) ⟨Nat.le_of_ble_eq_true rfl, Nat.le_of_ble_eq_true rfl⟩) ⟨z_blind, va_recv hKc hPc (ci := 4) (q0 := 0) rfl rfl, z_pre hPc hKc⟩ rfl rfl hl.1 rfl (lv_room (Nat.le_of_ble_eq_true rfl)) d_Ru_admits_7 ⟨Nat.zero_le _, Nat.zero_le _⟩) (fun r_7 hr_7 => ?_)
  subst hr_7
  refine lv_lstore_n (lv' := [(3, .long ((figN k n (fg j)).toInt64)), (0, .ref ar), (1, .int (nI j)), (2, .ref h)]) hx hb d_Ru_admits_10 rfl hl (by decide) rfl (fun ls hl => ?_)
  refine lv_lload_n hx hb d_Ru_admits_11 rfl (lv_at hl 0 rfl) ?_
  refine lv_aload_n hx hb d_Ru_admits_12 rfl (lv_at hl 1 rfl) ?_
  refine va_get (D := DD) (ci := 5) (v := .ref hle) (C := R_Ru) (T := T_Ru) (N := 5) hx hb hg in_Ru hown hK hP 0 rfl rfl 1 (by decide) (hg _ mw_53) (fun _ h9 => h9) rfl d_Ru_admits_13 ?_
  refine lv_iload_n hx hb d_Ru_admits_16 rfl (lv_at hl 2 rfl) ?_
  refine z_lald hx hb hK hP 2 1 rfl rfl (by omega) (by decide) d_Ru_admits_17 ?_
  refine z_lcmp_lt (tgt := 37) hx hb d_Ru_admits_18 d_Ru_admits_19 (by decide) (fun c_18 => ?_) (fun c_18 => ?_)
  · refine lv_iconst (v := nI 0) hx hb d_Ru_admits_37 (by decide) ?_
    exact W.zret (v := nI 0) hx hb hr (by rfl) (fun t9 ht9 hW9 => ⟨_, rfl, (by first | exact adm_t c_18 c_29 | exact adm_f2 c_29 | exact adm_f1 c_18), ht9⟩) (fun _ h => nomatch h) d_Ru_admits_38
  · refine lv_lload_n hx hb d_Ru_admits_22 rfl (lv_at hl 0 rfl) ?_
    refine lv_aload_n hx hb d_Ru_admits_23 rfl (lv_at hl 1 rfl) ?_
    refine va_get (D := DD) (ci := 5) (v := .ref hmo) (C := R_Ru) (T := T_Ru) (N := 5) hx hb hg in_Ru hown hK hP 0 rfl rfl 2 (by decide) (hg _ mw_54) (fun _ h9 => h9) rfl d_Ru_admits_24 ?_
    refine lv_iload_n hx hb d_Ru_admits_27 rfl (lv_at hl 2 rfl) ?_
    refine z_lald hx hb hK hP 3 2 rfl rfl (by omega) (by decide) d_Ru_admits_28 ?_
    refine z_lcmp_gt (tgt := 37) hx hb d_Ru_admits_29 d_Ru_admits_30 (by decide) (fun c_29 => ?_) (fun c_29 => ?_)
    · refine lv_iconst (v := nI 0) hx hb d_Ru_admits_37 (by decide) ?_
      exact W.zret (v := nI 0) hx hb hr (by rfl) (fun t9 ht9 hW9 => ⟨_, rfl, (by first | exact adm_t c_18 c_29 | exact adm_f2 c_29 | exact adm_f1 c_18), ht9⟩) (fun _ h => nomatch h) d_Ru_admits_38
    · refine lv_iconst (v := nI 1) hx hb d_Ru_admits_33 (by decide) ?_
      refine lv_goto (tgt := 38) hx hb d_Ru_admits_34 (by decide) ?_
      exact W.zret (v := nI 1) hx hb hr (by rfl) (fun t9 ht9 hW9 => ⟨_, rfl, (by first | exact adm_t c_18 c_29 | exact adm_f2 c_29 | exact adm_f1 c_18), ht9⟩) (fun _ h => nomatch h) d_Ru_admits_38
theorem d_Tr_size_0 : decode b_Tr_size 0 = .ok (.aload_n 0, 1) := by decide +kernel
theorem d_Tr_size_1 : decode b_Tr_size 1 = .ok (.getfield 15, 3) := by decide +kernel
theorem d_Tr_size_4 : decode b_Tr_size 4 = .ok (.ireturn, 1) := by decide +kernel
abbrev ws_Tr_size : List Cond := .code y_Tr_size b_Tr_size 1 (some .int) :: ALLG
abbrev rm_Tr_size : Room := { frames := 0, cells := 0, slots := 0, locals := 0 }
set_option maxHeartbeats 4000000 in
set_option maxRecDepth 100000 in
theorem c_Tr_size (l : Launch) (DD : va_G) (aq : Nat) (htf : Nat) (tn : Nat) : Met l y_Tr_size ws_Tr_size rm_Tr_size (va_Pc [.ref aq] (fun U => va_P DD vwCl [(aq, .inr (6, [.ref htf, .int (nI tn)]))] U.heap ∧ va_K DD vwCl [] U)) (vp_Si (fun r9 => r9 = nI tn)) 0 0 (fun _ => False) := by
  refine Met.ofW (cc := b_Tr_size) (maxL := 1) (ret := (some .int)) (by decide) rfl ?_
  intro p e s m args below meth c s₁ B hml hv
  obtain ⟨ha, hP, hK⟩ := hv
  have hx := B.exec
  have hb := B.bytes
  have hr := B.returns
  have hts := atoms_spec (ws := ws_Tr_size) B.pre
  have hg : ∀ w ∈ ALLG, w.before args s = true := fun w h => hts w (List.mem_cons_of_mem _ h)
  have hown : s.vm.findClass R_Tr = some m.cls := findClass_of_methodNamed B.named
  have hlocks := B.notSynchronized
  have hP : va_P DD vwCl [(aq, .inr (6, [.ref htf, .int (nI tn)]))] s.heap := hP
  have hl := lv_entry ([.ref aq]) (n := 1) (Nat.le_of_ble_eq_true rfl)
  rw [ha, lg_entry_eq, ← ha]
  generalize (lg_sl ([.ref aq]) ++ List.replicate (1 - (lg_sl ([.ref aq])).length) Slot.unset).toArray = ls at hl ⊢
  have hl : lv_has ls 1 [(0, .ref aq)] := hl
  refine lv_aload_n hx hb d_Tr_size_0 rfl (lv_at hl 0 rfl) ?_
  refine va_get (D := DD) (ci := 6) (v := .int (nI tn)) (C := R_Tr) (T := T_Tr) (N := 2) hx hb hg in_Tr hown hK hP 0 rfl rfl 1 (by decide) (hg _ mw_76) (fun _ h9 => h9) rfl d_Tr_size_1 ?_
  exact W.iret (v := nI tn) hx hb hr (fun t9 ht9 hW9 => ⟨_, rfl, rfl, ht9⟩) (fun _ h => nomatch h) d_Tr_size_4
theorem d_Tr_has_0 : decode b_Tr_has 0 = .ok (.iload_n 1, 1) := by decide +kernel
theorem d_Tr_has_1 : decode b_Tr_has 1 = .ok (.ifCond .lt 15, 3) := by decide +kernel
theorem d_Tr_has_4 : decode b_Tr_has 4 = .ok (.iload_n 1, 1) := by decide +kernel
theorem d_Tr_has_5 : decode b_Tr_has 5 = .ok (.aload_n 0, 1) := by decide +kernel
theorem d_Tr_has_6 : decode b_Tr_has 6 = .ok (.getfield 15, 3) := by decide +kernel
theorem d_Tr_has_9 : decode b_Tr_has 9 = .ok (.if_icmp .ge 7, 3) := by decide +kernel
theorem d_Tr_has_12 : decode b_Tr_has 12 = .ok (.iconst 1, 1) := by decide +kernel
theorem d_Tr_has_13 : decode b_Tr_has 13 = .ok (.goto 4, 3) := by decide +kernel
theorem d_Tr_has_16 : decode b_Tr_has 16 = .ok (.iconst 0, 1) := by decide +kernel
theorem d_Tr_has_17 : decode b_Tr_has 17 = .ok (.ireturn, 1) := by decide +kernel
abbrev ws_Tr_has : List Cond := .code y_Tr_has b_Tr_has 2 (some .boolean) :: ALLG
abbrev rm_Tr_has : Room := { frames := 0, cells := 0, slots := 0, locals := 0 }
set_option maxHeartbeats 4000000 in
set_option maxRecDepth 100000 in
theorem c_Tr_has (l : Launch) (DD : va_G) (aq : Nat) (htf : Nat) (tn : Nat) (x : Int32) (htn : tn ≤ 150) : Met l y_Tr_has ws_Tr_has rm_Tr_has (va_Pc [.ref aq, .int x] (fun U => va_P DD vwCl [(aq, .inr (6, [.ref htf, .int (nI tn)]))] U.heap ∧ va_K DD vwCl [] U)) (vp_Si (fun r9 => r9 = zb (hasB x tn))) 0 0 (fun _ => False) := by
  refine Met.ofW (cc := b_Tr_has) (maxL := 2) (ret := (some .boolean)) (by decide) rfl ?_
  intro p e s m args below meth c s₁ B hml hv
  obtain ⟨ha, hP, hK⟩ := hv
  have hx := B.exec
  have hb := B.bytes
  have hr := B.returns
  have hts := atoms_spec (ws := ws_Tr_has) B.pre
  have hg : ∀ w ∈ ALLG, w.before args s = true := fun w h => hts w (List.mem_cons_of_mem _ h)
  have hown : s.vm.findClass R_Tr = some m.cls := findClass_of_methodNamed B.named
  have hlocks := B.notSynchronized
  have hP : va_P DD vwCl [(aq, .inr (6, [.ref htf, .int (nI tn)]))] s.heap := hP
  have hl := lv_entry ([.ref aq, .int x]) (n := 2) (Nat.le_of_ble_eq_true rfl)
  rw [ha, lg_entry_eq, ← ha]
  generalize (lg_sl ([.ref aq, .int x]) ++ List.replicate (2 - (lg_sl ([.ref aq, .int x])).length) Slot.unset).toArray = ls at hl ⊢
  have hl : lv_has ls 2 [(0, .ref aq), (1, .int x)] := hl
  refine lv_iload_n hx hb d_Tr_has_0 rfl (lv_at hl 1 rfl) ?_
  refine lv_if_lt (tgt := 16) hx hb d_Tr_has_1 (by decide) (fun c_1 => ?_) (fun c_1 => ?_)
  · refine lv_iconst (v := nI 0) hx hb d_Tr_has_16 (by decide) ?_
    exact W.zret (v := nI 0) hx hb hr (by rfl) (fun t9 ht9 hW9 => ⟨_, rfl, (by first | exact hasB_t (by omega) c_1 c_9 | exact hasB_f2 (by omega) c_9 | exact hasB_f1 c_1), ht9⟩) (fun _ h => nomatch h) d_Tr_has_17
  · refine lv_iload_n hx hb d_Tr_has_4 rfl (lv_at hl 1 rfl) ?_
    refine lv_aload_n hx hb d_Tr_has_5 rfl (lv_at hl 0 rfl) ?_
    refine va_get (D := DD) (ci := 6) (v := .int (nI tn)) (C := R_Tr) (T := T_Tr) (N := 2) hx hb hg in_Tr hown hK hP 0 rfl rfl 1 (by decide) (hg _ mw_76) (fun _ h9 => h9) rfl d_Tr_has_6 ?_
    refine lv_icmp_ge (tgt := 16) hx hb d_Tr_has_9 (by decide) (fun c_9 => ?_) (fun c_9 => ?_)
    · refine lv_iconst (v := nI 0) hx hb d_Tr_has_16 (by decide) ?_
      exact W.zret (v := nI 0) hx hb hr (by rfl) (fun t9 ht9 hW9 => ⟨_, rfl, (by first | exact hasB_t (by omega) c_1 c_9 | exact hasB_f2 (by omega) c_9 | exact hasB_f1 c_1), ht9⟩) (fun _ h => nomatch h) d_Tr_has_17
    · refine lv_iconst (v := nI 1) hx hb d_Tr_has_12 (by decide) ?_
      refine lv_goto (tgt := 17) hx hb d_Tr_has_13 (by decide) ?_
      exact W.zret (v := nI 1) hx hb hr (by rfl) (fun t9 ht9 hW9 => ⟨_, rfl, (by first | exact hasB_t (by omega) c_1 c_9 | exact hasB_f2 (by omega) c_9 | exact hasB_f1 c_1), ht9⟩) (fun _ h => nomatch h) d_Tr_has_17
theorem d_Tr_number_0 : decode b_Tr_number 0 = .ok (.aload_n 0, 1) := by decide +kernel
theorem d_Tr_number_1 : decode b_Tr_number 1 = .ok (.getfield 9, 3) := by decide +kernel
theorem d_Tr_number_4 : decode b_Tr_number 4 = .ok (.iload_n 1, 1) := by decide +kernel
theorem d_Tr_number_5 : decode b_Tr_number 5 = .ok (.iconst 3, 1) := by decide +kernel
theorem d_Tr_number_6 : decode b_Tr_number 6 = .ok (.imul, 1) := by decide +kernel
theorem d_Tr_number_7 : decode b_Tr_number 7 = .ok (.iload_n 2, 1) := by decide +kernel
theorem d_Tr_number_8 : decode b_Tr_number 8 = .ok (.iadd, 1) := by decide +kernel
theorem d_Tr_number_9 : decode b_Tr_number 9 = .ok (.iaload, 1) := by decide +kernel
theorem d_Tr_number_10 : decode b_Tr_number 10 = .ok (.ireturn, 1) := by decide +kernel
abbrev ws_Tr_number : List Cond := .code y_Tr_number b_Tr_number 3 (some .int) :: ALLG
abbrev rm_Tr_number : Room := { frames := 0, cells := 0, slots := 0, locals := 0 }
set_option maxHeartbeats 4000000 in
set_option maxRecDepth 100000 in
theorem c_Tr_number (l : Launch) (DD : va_G) (aq : Nat) (htf : Nat) (ctf : ClassId) (tf : Nat → Int32) (tn : Nat) (i : Nat) (w : Nat) (hi : i < 150) (hw : w < 3) : Met l y_Tr_number ws_Tr_number rm_Tr_number (va_Pc [.ref aq, .int (nI i), .int (nI w)] (fun U => va_P DD vwCl [(aq, .inr (6, [.ref htf, .int (nI tn)])), (htf, .inl (ctf, 450, .inl tf))] U.heap ∧ va_K DD vwCl [(ctf, .int)] U)) (vp_Si (fun r9 => r9 = tf (i * 3 + w))) 0 0 (fun _ => False) := by
  refine Met.ofW (cc := b_Tr_number) (maxL := 3) (ret := (some .int)) (by decide) rfl ?_
  intro p e s m args below meth c s₁ B hml hv
  obtain ⟨ha, hP, hK⟩ := hv
  have hx := B.exec
  have hb := B.bytes
  have hr := B.returns
  have hts := atoms_spec (ws := ws_Tr_number) B.pre
  have hg : ∀ w ∈ ALLG, w.before args s = true := fun w h => hts w (List.mem_cons_of_mem _ h)
  have hown : s.vm.findClass R_Tr = some m.cls := findClass_of_methodNamed B.named
  have hlocks := B.notSynchronized
  have hP : va_P DD vwCl [(aq, .inr (6, [.ref htf, .int (nI tn)])), (htf, .inl (ctf, 450, .inl tf))] s.heap := hP
  have hl := lv_entry ([.ref aq, .int (nI i), .int (nI w)]) (n := 3) (Nat.le_of_ble_eq_true rfl)
  rw [ha, lg_entry_eq, ← ha]
  generalize (lg_sl ([.ref aq, .int (nI i), .int (nI w)]) ++ List.replicate (3 - (lg_sl ([.ref aq, .int (nI i), .int (nI w)])).length) Slot.unset).toArray = ls at hl ⊢
  have hl : lv_has ls 3 [(0, .ref aq), (1, .int (nI i)), (2, .int (nI w))] := hl
  refine lv_aload_n hx hb d_Tr_number_0 rfl (lv_at hl 0 rfl) ?_
  refine va_get (D := DD) (ci := 6) (v := .ref htf) (C := R_Tr) (T := T_Tr) (N := 2) hx hb hg in_Tr hown hK hP 0 rfl rfl 0 (by decide) (hg _ mw_75) (fun _ h9 => h9) rfl d_Tr_number_1 ?_
  refine lv_iload_n hx hb d_Tr_number_4 rfl (lv_at hl 1 rfl) ?_
  refine lv_iconst (v := nI 3) hx hb d_Tr_number_5 (by decide) ?_
  refine z_imul hx hb d_Tr_number_6 ?_
  refine lv_iload_n hx hb d_Tr_number_7 rfl (lv_at hl 2 rfl) ?_
  refine z_iadd hx hb d_Tr_number_8 ?_
  refine z_iald hx hb hK hP 1 0 rfl rfl (by omega) (by decide) d_Tr_number_9 ?_
  exact W.iret (v := tf ((i * 3) + w)) hx hb hr (fun t9 ht9 hW9 => ⟨_, rfl, rfl, ht9⟩) (fun _ h => nomatch h) d_Tr_number_10
theorem d_Tr_clear_0 : decode b_Tr_clear 0 = .ok (.aload_n 0, 1) := by decide +kernel
theorem d_Tr_clear_1 : decode b_Tr_clear 1 = .ok (.iconst 0, 1) := by decide +kernel
theorem d_Tr_clear_2 : decode b_Tr_clear 2 = .ok (.putfield 15, 3) := by decide +kernel
theorem d_Tr_clear_5 : decode b_Tr_clear 5 = .ok (.return_, 1) := by decide +kernel
abbrev ws_Tr_clear : List Cond := .code y_Tr_clear b_Tr_clear 1 none :: ALLG
abbrev rm_Tr_clear : Room := { frames := 0, cells := 0, slots := 0, locals := 0 }
set_option maxHeartbeats 4000000 in
set_option maxRecDepth 100000 in
theorem c_Tr_clear (l : Launch) (DD : va_G) (sz : Nat) (aq : Nat) (htf : Nat) (tn : Nat) : Met l y_Tr_clear ws_Tr_clear rm_Tr_clear (va_Pc [.ref aq] (fun U => U.heap.size = sz ∧ va_P DD vwCl [(aq, .inr (6, [.ref htf, .int (nI tn)]))] U.heap ∧ va_K DD vwCl [] U ∧ va_D (fun _ => True) [(aq, .inr (6, [.ref htf, .int (nI tn)]))])) (va_Qv (fun (u9 : Unit) => match u9 with | _ => True) (fun (u9 : Unit) (t9 : State) => match u9 with | _ => va_P DD vwCl [(aq, .inr (6, [.ref htf, .int (nI 0)]))] t9.heap ∧ va_K DD vwCl [] t9 ∧ va_D (va_A [(aq, .inr (6, [.ref htf, .int (nI tn)]))] sz) [(aq, .inr (6, [.ref htf, .int (nI 0)]))]) (va_A [(aq, .inr (6, [.ref htf, .int (nI tn)]))] sz)) 0 0 (va_A [(aq, .inr (6, [.ref htf, .int (nI tn)]))] sz) := by
  refine Met.ofW (cc := b_Tr_clear) (maxL := 1) (ret := none) (by decide) rfl ?_
  intro p e s m args below meth c s₁ B hml hv
  obtain ⟨ha, hsz, hP, hK, hD0⟩ := hv
  have hx := B.exec
  have hb := B.bytes
  have hr := B.returns
  have hts := atoms_spec (ws := ws_Tr_clear) B.pre
  have hg : ∀ w ∈ ALLG, w.before args s = true := fun w h => hts w (List.mem_cons_of_mem _ h)
  have hown : s.vm.findClass R_Tr = some m.cls := findClass_of_methodNamed B.named
  have hlocks := B.notSynchronized
  subst hsz
  have hD := hD0.self (sz := s.heap.size)
  generalize hAe : va_A [(aq, .inr (6, [.ref htf, .int (nI tn)]))] s.heap.size = A at hD ⊢
  have hA : ∀ q : Nat, s.heap.size ≤ q → A q := fun q h => by rw [← hAe]; exact Or.inr h
  have hS : va_S A s.heap s.heap [] := va_S.rf
  have hP : va_P DD vwCl [(aq, .inr (6, [.ref htf, .int (nI tn)]))] s.heap := hP
  have hl := lv_entry ([.ref aq]) (n := 1) (Nat.le_of_ble_eq_true rfl)
  rw [ha, lg_entry_eq, ← ha]
  generalize (lg_sl ([.ref aq]) ++ List.replicate (1 - (lg_sl ([.ref aq])).length) Slot.unset).toArray = ls at hl ⊢
  have hl : lv_has ls 1 [(0, .ref aq)] := hl
  refine lv_aload_n hx hb d_Tr_clear_0 rfl (lv_at hl 0 rfl) ?_
  refine lv_iconst (v := nI 0) hx hb d_Tr_clear_1 (by decide) ?_
  refine va_put (D := DD) (ci := 6) (v := .int (nI 0)) (ty := .int) (C := R_Tr) (T := T_Tr) (N := 2) hx hb hg in_Tr t_Tr to_Tr n_Tr hown hK hP hD hS 0 rfl rfl 1 (by decide) (hg _ mw_76) (fun _ h9 => h9) rfl (by decide +kernel) rfl rfl (Nat.le_of_ble_eq_true rfl) d_Tr_clear_2 (fun H locs hP hD hS => ?_)
  have hP : va_P DD vwCl [(aq, .inr (6, [.ref htf, .int (nI 0)]))] H := hP
  have hD : va_D A [(aq, .inr (6, [.ref htf, .int (nI 0)]))] := hD
  have hP9 := hP.sub (ws' := [(aq, .inr (6, [.ref htf, .int (nI 0)]))]) [0] rfl
  have hD9 := hD.sub (ws' := [(aq, .inr (6, [.ref htf, .int (nI 0)]))]) [0] (by decide) rfl
  exact W.vret hx hb hr (fun t9 ht9 hW9 => ⟨⟨(), rfl, trivial, by rw [ht9]; exact hP9, va_K.moved hW9.alike hK, hD9⟩, hS.F ht9⟩) hS.2.2 d_Tr_clear_5
theorem d_Tr_add_0 : decode b_Tr_add 0 = .ok (.aload_n 0, 1) := by decide +kernel
theorem d_Tr_add_1 : decode b_Tr_add 1 = .ok (.getfield 15, 3) := by decide +kernel
theorem d_Tr_add_4 : decode b_Tr_add 4 = .ok (.iconst 3, 1) := by decide +kernel
theorem d_Tr_add_5 : decode b_Tr_add 5 = .ok (.imul, 1) := by decide +kernel
theorem d_Tr_add_6 : decode b_Tr_add 6 = .ok (.istore 4, 2) := by decide +kernel
theorem d_Tr_add_8 : decode b_Tr_add 8 = .ok (.aload_n 0, 1) := by decide +kernel
theorem d_Tr_add_9 : decode b_Tr_add 9 = .ok (.getfield 9, 3) := by decide +kernel
theorem d_Tr_add_12 : decode b_Tr_add 12 = .ok (.iload 4, 2) := by decide +kernel
theorem d_Tr_add_14 : decode b_Tr_add 14 = .ok (.iload_n 1, 1) := by decide +kernel
theorem d_Tr_add_15 : decode b_Tr_add 15 = .ok (.iastore, 1) := by decide +kernel
theorem d_Tr_add_16 : decode b_Tr_add 16 = .ok (.aload_n 0, 1) := by decide +kernel
theorem d_Tr_add_17 : decode b_Tr_add 17 = .ok (.getfield 9, 3) := by decide +kernel
theorem d_Tr_add_20 : decode b_Tr_add 20 = .ok (.iload 4, 2) := by decide +kernel
theorem d_Tr_add_22 : decode b_Tr_add 22 = .ok (.iconst 1, 1) := by decide +kernel
theorem d_Tr_add_23 : decode b_Tr_add 23 = .ok (.iadd, 1) := by decide +kernel
theorem d_Tr_add_24 : decode b_Tr_add 24 = .ok (.iload_n 2, 1) := by decide +kernel
theorem d_Tr_add_25 : decode b_Tr_add 25 = .ok (.iastore, 1) := by decide +kernel
theorem d_Tr_add_26 : decode b_Tr_add 26 = .ok (.aload_n 0, 1) := by decide +kernel
theorem d_Tr_add_27 : decode b_Tr_add 27 = .ok (.getfield 9, 3) := by decide +kernel
theorem d_Tr_add_30 : decode b_Tr_add 30 = .ok (.iload 4, 2) := by decide +kernel
theorem d_Tr_add_32 : decode b_Tr_add 32 = .ok (.iconst 2, 1) := by decide +kernel
theorem d_Tr_add_33 : decode b_Tr_add 33 = .ok (.iadd, 1) := by decide +kernel
theorem d_Tr_add_34 : decode b_Tr_add 34 = .ok (.iload_n 3, 1) := by decide +kernel
theorem d_Tr_add_35 : decode b_Tr_add 35 = .ok (.iastore, 1) := by decide +kernel
theorem d_Tr_add_36 : decode b_Tr_add 36 = .ok (.aload_n 0, 1) := by decide +kernel
theorem d_Tr_add_37 : decode b_Tr_add 37 = .ok (.dup, 1) := by decide +kernel
theorem d_Tr_add_38 : decode b_Tr_add 38 = .ok (.getfield 15, 3) := by decide +kernel
theorem d_Tr_add_41 : decode b_Tr_add 41 = .ok (.iconst 1, 1) := by decide +kernel
theorem d_Tr_add_42 : decode b_Tr_add 42 = .ok (.iadd, 1) := by decide +kernel
theorem d_Tr_add_43 : decode b_Tr_add 43 = .ok (.putfield 15, 3) := by decide +kernel
theorem d_Tr_add_46 : decode b_Tr_add 46 = .ok (.return_, 1) := by decide +kernel
abbrev ws_Tr_add : List Cond := .code y_Tr_add b_Tr_add 5 none :: ALLG
abbrev rm_Tr_add : Room := { frames := 0, cells := 0, slots := 0, locals := 0 }
set_option maxHeartbeats 4000000 in
set_option maxRecDepth 100000 in
theorem c_Tr_add (l : Launch) (DD : va_G) (sz : Nat) (aq : Nat) (htf : Nat) (ctf : ClassId) (tf : Nat → Int32) (tn : Nat) (x : Int32) (y : Int32) (z : Int32) (htn : tn < 150) : Met l y_Tr_add ws_Tr_add rm_Tr_add (va_Pc [.ref aq, .int x, .int y, .int z] (fun U => U.heap.size = sz ∧ va_P DD vwCl [(aq, .inr (6, [.ref htf, .int (nI tn)])), (htf, .inl (ctf, 450, .inl tf))] U.heap ∧ va_K DD vwCl [(ctf, .int)] U ∧ va_D (fun _ => True) [(aq, .inr (6, [.ref htf, .int (nI tn)])), (htf, .inl (ctf, 450, .inl tf))])) (va_Qv (fun (u9 : Unit) => match u9 with | _ => True) (fun (u9 : Unit) (t9 : State) => match u9 with | _ => va_P DD vwCl [(aq, .inr (6, [.ref htf, .int (nI (tn + 1))])), (htf, .inl (ctf, 450, .inl (tadd tf tn x y z)))] t9.heap ∧ va_K DD vwCl [(ctf, .int)] t9 ∧ va_D (va_A [(aq, .inr (6, [.ref htf, .int (nI tn)])), (htf, .inl (ctf, 450, .inl tf))] sz) [(aq, .inr (6, [.ref htf, .int (nI (tn + 1))])), (htf, .inl (ctf, 450, .inl (tadd tf tn x y z)))]) (va_A [(aq, .inr (6, [.ref htf, .int (nI tn)])), (htf, .inl (ctf, 450, .inl tf))] sz)) 0 0 (va_A [(aq, .inr (6, [.ref htf, .int (nI tn)])), (htf, .inl (ctf, 450, .inl tf))] sz) := by
  refine Met.ofW (cc := b_Tr_add) (maxL := 5) (ret := none) (by decide) rfl ?_
  intro p e s m args below meth c s₁ B hml hv
  obtain ⟨ha, hsz, hP, hK, hD0⟩ := hv
  have hx := B.exec
  have hb := B.bytes
  have hr := B.returns
  have hts := atoms_spec (ws := ws_Tr_add) B.pre
  have hg : ∀ w ∈ ALLG, w.before args s = true := fun w h => hts w (List.mem_cons_of_mem _ h)
  have hown : s.vm.findClass R_Tr = some m.cls := findClass_of_methodNamed B.named
  have hlocks := B.notSynchronized
  subst hsz
  have hD := hD0.self (sz := s.heap.size)
  generalize hAe : va_A [(aq, .inr (6, [.ref htf, .int (nI tn)])), (htf, .inl (ctf, 450, .inl tf))] s.heap.size = A at hD ⊢
  have hA : ∀ q : Nat, s.heap.size ≤ q → A q := fun q h => by rw [← hAe]; exact Or.inr h
  have hS : va_S A s.heap s.heap [] := va_S.rf
  have hP : va_P DD vwCl [(aq, .inr (6, [.ref htf, .int (nI tn)])), (htf, .inl (ctf, 450, .inl tf))] s.heap := hP
  have hl := lv_entry ([.ref aq, .int x, .int y, .int z]) (n := 5) (Nat.le_of_ble_eq_true rfl)
  rw [ha, lg_entry_eq, ← ha]
  generalize (lg_sl ([.ref aq, .int x, .int y, .int z]) ++ List.replicate (5 - (lg_sl ([.ref aq, .int x, .int y, .int z])).length) Slot.unset).toArray = ls at hl ⊢
  have hl : lv_has ls 5 [(0, .ref aq), (1, .int x), (2, .int y), (3, .int z)] := hl
  refine lv_aload_n hx hb d_Tr_add_0 rfl (lv_at hl 0 rfl) ?_
  refine va_get (D := DD) (ci := 6) (v := .int (nI tn)) (C := R_Tr) (T := T_Tr) (N := 2) hx hb hg in_Tr hown hK hP 0 rfl rfl 1 (by decide) (hg _ mw_76) (fun _ h9 => h9) rfl d_Tr_add_1 ?_
  refine lv_iconst (v := nI 3) hx hb d_Tr_add_4 (by decide) ?_
  refine z_imul hx hb d_Tr_add_5 ?_
  refine lv_istore (lv' := [(4, .int (nI (tn * 3))), (0, .ref aq), (1, .int x), (2, .int y), (3, .int z)]) hx hb d_Tr_add_6 hl (by decide) rfl (fun ls hl => ?_)
  refine lv_aload_n hx hb d_Tr_add_8 rfl (lv_at hl 1 rfl) ?_
  refine va_get (D := DD) (ci := 6) (v := .ref htf) (C := R_Tr) (T := T_Tr) (N := 2) hx hb hg in_Tr hown hK hP 0 rfl rfl 0 (by decide) (hg _ mw_75) (fun _ h9 => h9) rfl d_Tr_add_9 ?_
  refine lv_iload hx hb d_Tr_add_12 (lv_at hl 0 rfl) ?_
  refine lv_iload_n hx hb d_Tr_add_14 rfl (lv_at hl 2 rfl) ?_
  refine z_iast hx hb hK hP hD hS 1 0 rfl rfl (by omega) (by decide) d_Tr_add_15 (fun H locs hP hD hS => ?_)
  have hP : va_P DD vwCl [(aq, .inr (6, [.ref htf, .int (nI tn)])), (htf, .inl (ctf, 450, .inl (upd tf (tn * 3) x)))] H := hP
  have hD : va_D A [(aq, .inr (6, [.ref htf, .int (nI tn)])), (htf, .inl (ctf, 450, .inl (upd tf (tn * 3) x)))] := hD
  refine lv_aload_n hx hb d_Tr_add_16 rfl (lv_at hl 1 rfl) ?_
  refine va_get (D := DD) (ci := 6) (v := .ref htf) (C := R_Tr) (T := T_Tr) (N := 2) hx hb hg in_Tr hown hK hP 0 rfl rfl 0 (by decide) (hg _ mw_75) (fun _ h9 => h9) rfl d_Tr_add_17 ?_
  refine lv_iload hx hb d_Tr_add_20 (lv_at hl 0 rfl) ?_
  refine lv_iconst (v := nI 1) hx hb d_Tr_add_22 (by decide) ?_
  refine z_iadd hx hb d_Tr_add_23 ?_
  refine lv_iload_n hx hb d_Tr_add_24 rfl (lv_at hl 3 rfl) ?_
  refine z_iast hx hb hK hP hD hS 1 0 rfl rfl (by omega) (by decide) d_Tr_add_25 (fun H locs hP hD hS => ?_)
  have hP : va_P DD vwCl [(aq, .inr (6, [.ref htf, .int (nI tn)])), (htf, .inl (ctf, 450, .inl (upd (upd tf (tn * 3) x) ((tn * 3) + 1) y)))] H := hP
  have hD : va_D A [(aq, .inr (6, [.ref htf, .int (nI tn)])), (htf, .inl (ctf, 450, .inl (upd (upd tf (tn * 3) x) ((tn * 3) + 1) y)))] := hD
  refine lv_aload_n hx hb d_Tr_add_26 rfl (lv_at hl 1 rfl) ?_
  refine va_get (D := DD) (ci := 6) (v := .ref htf) (C := R_Tr) (T := T_Tr) (N := 2) hx hb hg in_Tr hown hK hP 0 rfl rfl 0 (by decide) (hg _ mw_75) (fun _ h9 => h9) rfl d_Tr_add_27 ?_
  refine lv_iload hx hb d_Tr_add_30 (lv_at hl 0 rfl) ?_
  refine lv_iconst (v := nI 2) hx hb d_Tr_add_32 (by decide) ?_
  refine z_iadd hx hb d_Tr_add_33 ?_
  refine lv_iload_n hx hb d_Tr_add_34 rfl (lv_at hl 4 rfl) ?_
  refine z_iast hx hb hK hP hD hS 1 0 rfl rfl (by omega) (by decide) d_Tr_add_35 (fun H locs hP hD hS => ?_)
  have hP : va_P DD vwCl [(aq, .inr (6, [.ref htf, .int (nI tn)])), (htf, .inl (ctf, 450, .inl (upd (upd (upd tf (tn * 3) x) ((tn * 3) + 1) y) ((tn * 3) + 2) z)))] H := hP
  have hD : va_D A [(aq, .inr (6, [.ref htf, .int (nI tn)])), (htf, .inl (ctf, 450, .inl (upd (upd (upd tf (tn * 3) x) ((tn * 3) + 1) y) ((tn * 3) + 2) z)))] := hD
  refine lv_aload_n hx hb d_Tr_add_36 rfl (lv_at hl 1 rfl) ?_
  refine lv_dup hx hb d_Tr_add_37 rfl ?_
  refine va_get (D := DD) (ci := 6) (v := .int (nI tn)) (C := R_Tr) (T := T_Tr) (N := 2) hx hb hg in_Tr hown hK hP 0 rfl rfl 1 (by decide) (hg _ mw_76) (fun _ h9 => h9) rfl d_Tr_add_38 ?_
  refine lv_iconst (v := nI 1) hx hb d_Tr_add_41 (by decide) ?_
  refine z_iadd hx hb d_Tr_add_42 ?_
  refine va_put (D := DD) (ci := 6) (v := .int (nI (tn + 1))) (ty := .int) (C := R_Tr) (T := T_Tr) (N := 2) hx hb hg in_Tr t_Tr to_Tr n_Tr hown hK hP hD hS 0 rfl rfl 1 (by decide) (hg _ mw_76) (fun _ h9 => h9) rfl (by decide +kernel) rfl rfl (Nat.le_of_ble_eq_true rfl) d_Tr_add_43 (fun H locs hP hD hS => ?_)
  have hP : va_P DD vwCl [(aq, .inr (6, [.ref htf, .int (nI (tn + 1))])), (htf, .inl (ctf, 450, .inl (upd (upd (upd tf (tn * 3) x) ((tn * 3) + 1) y) ((tn * 3) + 2) z)))] H := hP
  have hD : va_D A [(aq, .inr (6, [.ref htf, .int (nI (tn + 1))])), (htf, .inl (ctf, 450, .inl (upd (upd (upd tf (tn * 3) x) ((tn * 3) + 1) y) ((tn * 3) + 2) z)))] := hD
  rw [show upd (upd (upd tf (tn * 3) x) ((tn * 3) + 1) y) ((tn * 3) + 2) z = tadd tf tn x y z from rfl] at hP hD
  have hP9 := hP.sub (ws' := [(aq, .inr (6, [.ref htf, .int (nI (tn + 1))])), (htf, .inl (ctf, 450, .inl (tadd tf tn x y z)))]) [0, 1] rfl
  have hD9 := hD.sub (ws' := [(aq, .inr (6, [.ref htf, .int (nI (tn + 1))])), (htf, .inl (ctf, 450, .inl (tadd tf tn x y z)))]) [0, 1] (by decide) rfl
  exact W.vret hx hb hr (fun t9 ht9 hW9 => ⟨⟨(), rfl, trivial, by rw [ht9]; exact hP9, va_K.moved hW9.alike hK, hD9⟩, hS.F ht9⟩) hS.2.2 d_Tr_add_46
