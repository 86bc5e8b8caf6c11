theorem hasB_lt {w : Int32} {n : Nat} (hn : n < 2 ^ 31) (h0 : ¬ w < 0) (h : w < nI n) : hasB w n = true := by
  have h1 : ¬ w.toInt < (0 : Int32).toInt := fun q => h0 (Int32.lt_iff_toInt_lt.mpr q)
  have h2 := Int32.lt_iff_toInt_lt.mp h
  rw [nI_toInt hn] at h2
  have h3 : (0 : Int32).toInt = 0 := rfl
  simp only [hasB, Bool.and_eq_true, decide_eq_true_eq]; omega
abbrev rm_De_put_T : Room := { frames := 6, cells := 1, slots := 6, locals := 82 }
set_option maxHeartbeats 4000000 in
set_option maxRecDepth 100000 in
theorem c_De_put_T (l : Launch) (hl0 : l.stackTraces = false) (DD : va_G) (ad : Nat) (h : Nat) (hk : Nat) (ck : ClassId) (k : Nat → Int32) (ht : Nat) (n : Nat) (h1 : Nat) (ar : Nat) (aq : Nat) (hwv : Nat) (hpn : Nat) (hod : Nat) (cm : Int64) (pb : Bool) (wa : Bool) (x : Int32) (y : Int32) (hn : n ≤ 150) (hf : 150 ≤ n) : MetT l y_De_put ws_De_put rm_De_put_T (va_Pc [.ref ad, .int x, .int y] (fun U => va_P DD vwCl [(ad, .inr (8, [.ref h, .ref h1, .ref ar, .ref aq, .ref hwv, .ref hpn, .ref hod, .long cm, .int (zb pb), .int (zb wa)])), (h, .inr (4, [.ref hk, .ref ht, .int (nI n)])), (hk, .inl (ck, 150, .inl k))] U.heap ∧ va_K DD vwCl [(ck, .int)] U ∧ (XK U ∧ thO U))) "java/lang/UnsupportedOperationException" := by
  refine MetT.ofW (cc := b_De_put) (maxL := 4) (ret := (some .int)) (by decide) rfl ?_
  intro p e s m args below meth c s₁ B hml hv
  obtain ⟨ha, hP, hK, hXK, hTH⟩ := hv
  have hx := B.exec
  have hb := B.bytes
  have hr := B.returns
  have hts := atoms_spec (ws := ws_De_put) B.pre
  have hg : ∀ w ∈ ALLG, w.before args s = true := fun w h => hts w (List.mem_cons_of_mem _ h)
  have hown : s.vm.findClass R_De = some m.cls := findClass_of_methodNamed B.named
  have hlocks := B.notSynchronized
  have hP : va_P DD vwCl [(ad, .inr (8, [.ref h, .ref h1, .ref ar, .ref aq, .ref hwv, .ref hpn, .ref hod, .long cm, .int (zb pb), .int (zb wa)])), (h, .inr (4, [.ref hk, .ref ht, .int (nI n)])), (hk, .inl (ck, 150, .inl k))] s.heap := hP
  have hl := lv_entry ([.ref ad, .int x, .int y]) (n := 4) (Nat.le_of_ble_eq_true rfl)
  rw [ha, lg_entry_eq, ← ha]
  generalize (lg_sl ([.ref ad, .int x, .int y]) ++ List.replicate (4 - (lg_sl ([.ref ad, .int x, .int y])).length) Slot.unset).toArray = ls at hl ⊢
  have hl : lv_has ls 4 [(0, .ref ad), (1, .int x), (2, .int y)] := hl
  refine lv_aload_n hx hb d_De_put_0 rfl (lv_at hl 0 rfl) ?_
  refine va_get (D := DD) (ci := 8) (v := .ref h) (C := R_De) (T := T_De) (N := 10) hx hb hg in_De hown hK hP 0 rfl rfl 0 (by decide) (hg _ mw_140) (fun _ h9 => h9) rfl d_De_put_1 ?_
  have hPc := hP.sub (ws' := [(h, .inr (4, [.ref hk, .ref ht, .int (nI n)])), (hk, .inl (ck, 150, .inl k))]) [1, 2] rfl
  have hKc := hK.sub (tys' := [(ck, .int)]) [0] rfl
  refine vp_callSi (W.runV (As := []) (rest := []) ⟨hx, hb, hml, hown, hg⟩ (c_Ro_isFull l DD h hk ht ck n k (by omega)) (cwV 0 hg (gi_V mw_293 mw_294 mw_295 mw_2 mw_296) rfl rfl rfl (by decide +kernel) ⟨Nat.le_of_ble_eq_true rfl, Nat.le_of_ble_eq_true rfl⟩) ⟨z_blind, va_recv hKc hPc (ci := 4) (q0 := 0) rfl rfl, z_pre hPc hKc⟩ rfl rfl hl.1 rfl (lv_room (Nat.le_of_ble_eq_true rfl)) d_De_put_4 ⟨Nat.zero_le _, Nat.zero_le _⟩) (fun r_4 hr_4 => ?_)
  subst hr_4
  refine z_ifb_eq (tgt := 20) hx hb d_De_put_7 (by decide) (fun c_7 => ?_) (fun c_7 => ?_)
  · exact absurd c_7 (by rw [decide_eq_true hf]; decide)
  · obtain ⟨sa, hsa⟩ := hXK.2.2.2.2.1 (67, "the row is full") (by decide)
    exact x_throw hx hb hl0 (names := exN) hown (by decide +kernel) (by decide +kernel) (hg _ mw_297) (hg _ mw_15) hsa (own_of oa_UnsupportedOperation hg hXK hTH) (hl.1.trans hml.symm) d_De_put_10 d_De_put_13 d_De_put_14 d_De_put_16 d_De_put_19 (covers_of_empty (B.noHandlers (hts _ List.mem_cons_self)) _) (by decide) (by decide) (by decide) (by decide) hlocks
abbrev rm_De_insert_T1 : Room := { frames := 6, cells := 1, slots := 6, locals := 82 }
set_option maxHeartbeats 4000000 in
set_option maxRecDepth 100000 in
theorem c_De_insert_T1 (l : Launch) (hl0 : l.stackTraces = false) (DD : va_G) (ad : Nat) (h : Nat) (hk : Nat) (ck : ClassId) (k : Nat → Int32) (ht : Nat) (n : Nat) (h1 : Nat) (ar : Nat) (aq : Nat) (hwv : Nat) (hpn : Nat) (hod : Nat) (cm : Int64) (pb : Bool) (wa : Bool) (v : Int32) (x : Int32) (y : Int32) (hn : n ≤ 150) (hf : v < 0 ∨ ¬ v ≤ nI n) : MetT l y_De_insert ws_De_insert rm_De_insert_T1 (va_Pc [.ref ad, .int v, .int x, .int y] (fun U => va_P DD vwCl [(ad, .inr (8, [.ref h, .ref h1, .ref ar, .ref aq, .ref hwv, .ref hpn, .ref hod, .long cm, .int (zb pb), .int (zb wa)])), (h, .inr (4, [.ref hk, .ref ht, .int (nI n)])), (hk, .inl (ck, 150, .inl k))] U.heap ∧ va_K DD vwCl [(ck, .int)] U ∧ (XK U ∧ thO U))) "java/lang/IndexOutOfBoundsException" := by
  refine MetT.ofW (cc := b_De_insert) (maxL := 4) (ret := (some .int)) (by decide) rfl ?_
  intro p e s m args below meth c s₁ B hml hv
  obtain ⟨ha, hP, hK, hXK, hTH⟩ := hv
  have hx := B.exec
  have hb := B.bytes
  have hr := B.returns
  have hts := atoms_spec (ws := ws_De_insert) B.pre
  have hg : ∀ w ∈ ALLG, w.before args s = true := fun w h => hts w (List.mem_cons_of_mem _ h)
  have hown : s.vm.findClass R_De = some m.cls := findClass_of_methodNamed B.named
  have hlocks := B.notSynchronized
  have hP : va_P DD vwCl [(ad, .inr (8, [.ref h, .ref h1, .ref ar, .ref aq, .ref hwv, .ref hpn, .ref hod, .long cm, .int (zb pb), .int (zb wa)])), (h, .inr (4, [.ref hk, .ref ht, .int (nI n)])), (hk, .inl (ck, 150, .inl k))] s.heap := hP
  have hl := lv_entry ([.ref ad, .int v, .int x, .int y]) (n := 4) (Nat.le_of_ble_eq_true rfl)
  rw [ha, lg_entry_eq, ← ha]
  generalize (lg_sl ([.ref ad, .int v, .int x, .int y]) ++ List.replicate (4 - (lg_sl ([.ref ad, .int v, .int x, .int y])).length) Slot.unset).toArray = ls at hl ⊢
  have hl : lv_has ls 4 [(0, .ref ad), (1, .int v), (2, .int x), (3, .int y)] := hl
  refine lv_iload_n hx hb d_De_insert_0 rfl (lv_at hl 1 rfl) ?_
  refine lv_if_lt (tgt := 15) hx hb d_De_insert_1 (by decide) (fun c_1 => ?_) (fun c_1 => ?_)
  · obtain ⟨sa, hsa⟩ := hXK.2.2.2.2.1 (86, "no such place") (by decide)
    exact x_throw hx hb hl0 (names := exN) hown (by decide +kernel) (by decide +kernel) (hg _ mw_382) (hg _ mw_17) hsa (own_of oa_IndexOutOfBounds hg hXK hTH) (hl.1.trans hml.symm) d_De_insert_15 d_De_insert_18 d_De_insert_19 d_De_insert_21 d_De_insert_24 (covers_of_empty (B.noHandlers (hts _ List.mem_cons_self)) _) (by decide) (by decide) (by decide) (by decide) hlocks
  · refine lv_iload_n hx hb d_De_insert_4 rfl (lv_at hl 1 rfl) ?_
    refine lv_aload_n hx hb d_De_insert_5 rfl (lv_at hl 0 rfl) ?_
    refine va_get (D := DD) (ci := 8) (v := .ref h) (C := R_De) (T := T_De) (N := 10) hx hb hg in_De hown hK hP 0 rfl rfl 0 (by decide) (hg _ mw_140) (fun _ h9 => h9) rfl d_De_insert_6 ?_
    have hPc := hP.sub (ws' := [(h, .inr (4, [.ref hk, .ref ht, .int (nI n)])), (hk, .inl (ck, 150, .inl k))]) [1, 2] rfl
    have hKc := hK.sub (tys' := [(ck, .int)]) [0] rfl
    refine vp_callSi (W.runV (As := []) (rest := [.int v]) ⟨hx, hb, hml, hown, hg⟩ (c_Ro_size l DD h hk ht ck n k) (cwV 0 hg (gi_V mw_366 mw_214 mw_215 mw_2 mw_216) rfl rfl rfl (by decide +kernel) ⟨Nat.le_of_ble_eq_true rfl, Nat.le_of_ble_eq_true rfl⟩) ⟨z_blind, va_recv hKc hPc (ci := 4) (q0 := 0) rfl rfl, z_pre hPc hKc⟩ rfl rfl hl.1 rfl (lv_room (Nat.le_of_ble_eq_true rfl)) d_De_insert_9 ⟨Nat.zero_le _, Nat.zero_le _⟩) (fun r_9 hr_9 => ?_)
    subst hr_9
    refine lv_icmp_le (tgt := 25) hx hb d_De_insert_12 (by decide) (fun c_12 => ?_) (fun c_12 => ?_)
    · exact absurd c_12 (hf.elim (fun h => absurd h c_1) id)
    · obtain ⟨sa, hsa⟩ := hXK.2.2.2.2.1 (86, "no such place") (by decide)
      exact x_throw hx hb hl0 (names := exN) hown (by decide +kernel) (by decide +kernel) (hg _ mw_382) (hg _ mw_17) hsa (own_of oa_IndexOutOfBounds hg hXK hTH) (hl.1.trans hml.symm) d_De_insert_15 d_De_insert_18 d_De_insert_19 d_De_insert_21 d_De_insert_24 (covers_of_empty (B.noHandlers (hts _ List.mem_cons_self)) _) (by decide) (by decide) (by decide) (by decide) hlocks
abbrev rm_De_insert_T2 : Room := { frames := 6, cells := 1, slots := 6, locals := 82 }
set_option maxHeartbeats 4000000 in
set_option maxRecDepth 100000 in
theorem c_De_insert_T2 (l : Launch) (hl0 : l.stackTraces = false) (DD : va_G) (ad : Nat) (h : Nat) (hk : Nat) (ck : ClassId) (k : Nat → Int32) (ht : Nat) (n : Nat) (h1 : Nat) (ar : Nat) (aq : Nat) (hwv : Nat) (hpn : Nat) (hod : Nat) (cm : Int64) (pb : Bool) (wa : Bool) (j : Nat) (x : Int32) (y : Int32) (hn : n ≤ 150) (hf : 150 ≤ n) (hj : j ≤ n) : MetT l y_De_insert ws_De_insert rm_De_insert_T2 (va_Pc [.ref ad, .int (nI j), .int x, .int y] (fun U => va_P DD vwCl [(ad, .inr (8, [.ref h, .ref h1, .ref ar, .ref aq, .ref hwv, .ref hpn, .ref hod, .long cm, .int (zb pb), .int (zb wa)])), (h, .inr (4, [.ref hk, .ref ht, .int (nI n)])), (hk, .inl (ck, 150, .inl k))] U.heap ∧ va_K DD vwCl [(ck, .int)] U ∧ (XK U ∧ thO U))) "java/lang/UnsupportedOperationException" := by
  refine MetT.ofW (cc := b_De_insert) (maxL := 4) (ret := (some .int)) (by decide) rfl ?_
  intro p e s m args below meth c s₁ B hml hv
  obtain ⟨ha, hP, hK, hXK, hTH⟩ := hv
  have hx := B.exec
  have hb := B.bytes
  have hr := B.returns
  have hts := atoms_spec (ws := ws_De_insert) B.pre
  have hg : ∀ w ∈ ALLG, w.before args s = true := fun w h => hts w (List.mem_cons_of_mem _ h)
  have hown : s.vm.findClass R_De = some m.cls := findClass_of_methodNamed B.named
  have hlocks := B.notSynchronized
  have hP : va_P DD vwCl [(ad, .inr (8, [.ref h, .ref h1, .ref ar, .ref aq, .ref hwv, .ref hpn, .ref hod, .long cm, .int (zb pb), .int (zb wa)])), (h, .inr (4, [.ref hk, .ref ht, .int (nI n)])), (hk, .inl (ck, 150, .inl k))] s.heap := hP
  have hl := lv_entry ([.ref ad, .int (nI j), .int x, .int y]) (n := 4) (Nat.le_of_ble_eq_true rfl)
  rw [ha, lg_entry_eq, ← ha]
  generalize (lg_sl ([.ref ad, .int (nI j), .int x, .int y]) ++ List.replicate (4 - (lg_sl ([.ref ad, .int (nI j), .int x, .int y])).length) Slot.unset).toArray = ls at hl ⊢
  have hl : lv_has ls 4 [(0, .ref ad), (1, .int (nI j)), (2, .int x), (3, .int y)] := hl
  refine lv_iload_n hx hb d_De_insert_0 rfl (lv_at hl 1 rfl) ?_
  refine z_if_lt (tgt := 15) hx hb d_De_insert_1 (by decide) (by omega) (fun c_1 => ?_) (fun c_1 => ?_)
  · exact c_1.elim
  · refine lv_iload_n hx hb d_De_insert_4 rfl (lv_at hl 1 rfl) ?_
    refine lv_aload_n hx hb d_De_insert_5 rfl (lv_at hl 0 rfl) ?_
    refine va_get (D := DD) (ci := 8) (v := .ref h) (C := R_De) (T := T_De) (N := 10) hx hb hg in_De hown hK hP 0 rfl rfl 0 (by decide) (hg _ mw_140) (fun _ h9 => h9) rfl d_De_insert_6 ?_
    have hPc := hP.sub (ws' := [(h, .inr (4, [.ref hk, .ref ht, .int (nI n)])), (hk, .inl (ck, 150, .inl k))]) [1, 2] rfl
    have hKc := hK.sub (tys' := [(ck, .int)]) [0] rfl
    refine vp_callSi (W.runV (As := []) (rest := [.int (nI j)]) ⟨hx, hb, hml, hown, hg⟩ (c_Ro_size l DD h hk ht ck n k) (cwV 0 hg (gi_V mw_366 mw_214 mw_215 mw_2 mw_216) rfl rfl rfl (by decide +kernel) ⟨Nat.le_of_ble_eq_true rfl, Nat.le_of_ble_eq_true rfl⟩) ⟨z_blind, va_recv hKc hPc (ci := 4) (q0 := 0) rfl rfl, z_pre hPc hKc⟩ rfl rfl hl.1 rfl (lv_room (Nat.le_of_ble_eq_true rfl)) d_De_insert_9 ⟨Nat.zero_le _, Nat.zero_le _⟩) (fun r_9 hr_9 => ?_)
    subst hr_9
    refine z_icmp_le (tgt := 25) hx hb d_De_insert_12 (by decide) (by omega) (by omega) (fun c_12 => ?_) (fun c_12 => ?_)
    · refine lv_aload_n hx hb d_De_insert_25 rfl (lv_at hl 0 rfl) ?_
      refine va_get (D := DD) (ci := 8) (v := .ref h) (C := R_De) (T := T_De) (N := 10) hx hb hg in_De hown hK hP 0 rfl rfl 0 (by decide) (hg _ mw_140) (fun _ h9 => h9) rfl d_De_insert_26 ?_
      have hPc := hP.sub (ws' := [(h, .inr (4, [.ref hk, .ref ht, .int (nI n)])), (hk, .inl (ck, 150, .inl k))]) [1, 2] rfl
      have hKc := hK.sub (tys' := [(ck, .int)]) [0] rfl
      refine vp_callSi (W.runV (As := []) (rest := []) ⟨hx, hb, hml, hown, hg⟩ (c_Ro_isFull l DD h hk ht ck n k (by omega)) (cwV 0 hg (gi_V mw_293 mw_294 mw_295 mw_2 mw_296) rfl rfl rfl (by decide +kernel) ⟨Nat.le_of_ble_eq_true rfl, Nat.le_of_ble_eq_true rfl⟩) ⟨z_blind, va_recv hKc hPc (ci := 4) (q0 := 0) rfl rfl, z_pre hPc hKc⟩ rfl rfl hl.1 rfl (lv_room (Nat.le_of_ble_eq_true rfl)) d_De_insert_29 ⟨Nat.zero_le _, Nat.zero_le _⟩) (fun r_29 hr_29 => ?_)
      subst hr_29
      refine z_ifb_eq (tgt := 45) hx hb d_De_insert_32 (by decide) (fun c_32 => ?_) (fun c_32 => ?_)
      · exact absurd c_32 (by rw [decide_eq_true hf]; decide)
      · obtain ⟨sa, hsa⟩ := hXK.2.2.2.2.1 (67, "the row is full") (by decide)
        exact x_throw hx hb hl0 (names := exN) hown (by decide +kernel) (by decide +kernel) (hg _ mw_297) (hg _ mw_15) hsa (own_of oa_UnsupportedOperation hg hXK hTH) (hl.1.trans hml.symm) d_De_insert_35 d_De_insert_38 d_De_insert_39 d_De_insert_41 d_De_insert_44 (covers_of_empty (B.noHandlers (hts _ List.mem_cons_self)) _) (by decide) (by decide) (by decide) (by decide) hlocks
    · exact absurd c_12 (by omega)
abbrev rm_De_remove_T : Room := { frames := 6, cells := 1, slots := 6, locals := 82 }
set_option maxHeartbeats 4000000 in
set_option maxRecDepth 100000 in
theorem c_De_remove_T (l : Launch) (hl0 : l.stackTraces = false) (DD : va_G) (ad : Nat) (h : Nat) (hk : Nat) (ck : ClassId) (k : Nat → Int32) (ht : Nat) (n : Nat) (h1 : Nat) (ar : Nat) (aq : Nat) (hwv : Nat) (hpn : Nat) (hod : Nat) (cm : Int64) (pb : Bool) (wa : Bool) (v : Int32) (hn : n ≤ 150) (hf : hasB v n = false) : MetT l y_De_remove ws_De_remove rm_De_remove_T (va_Pc [.ref ad, .int v] (fun U => va_P DD vwCl [(ad, .inr (8, [.ref h, .ref h1, .ref ar, .ref aq, .ref hwv, .ref hpn, .ref hod, .long cm, .int (zb pb), .int (zb wa)])), (h, .inr (4, [.ref hk, .ref ht, .int (nI n)])), (hk, .inl (ck, 150, .inl k))] U.heap ∧ va_K DD vwCl [(ck, .int)] U ∧ (XK U ∧ thO U))) "java/lang/IndexOutOfBoundsException" := by
  refine MetT.ofW (cc := b_De_remove) (maxL := 3) (ret := (some .int)) (by decide) rfl ?_
  intro p e s m args below meth c s₁ B hml hv
  obtain ⟨ha, hP, hK, hXK, hTH⟩ := hv
  have hx := B.exec
  have hb := B.bytes
  have hr := B.returns
  have hts := atoms_spec (ws := ws_De_remove) B.pre
  have hg : ∀ w ∈ ALLG, w.before args s = true := fun w h => hts w (List.mem_cons_of_mem _ h)
  have hown : s.vm.findClass R_De = some m.cls := findClass_of_methodNamed B.named
  have hlocks := B.notSynchronized
  have hP : va_P DD vwCl [(ad, .inr (8, [.ref h, .ref h1, .ref ar, .ref aq, .ref hwv, .ref hpn, .ref hod, .long cm, .int (zb pb), .int (zb wa)])), (h, .inr (4, [.ref hk, .ref ht, .int (nI n)])), (hk, .inl (ck, 150, .inl k))] s.heap := hP
  have hl := lv_entry ([.ref ad, .int v]) (n := 3) (Nat.le_of_ble_eq_true rfl)
  rw [ha, lg_entry_eq, ← ha]
  generalize (lg_sl ([.ref ad, .int v]) ++ List.replicate (3 - (lg_sl ([.ref ad, .int v])).length) Slot.unset).toArray = ls at hl ⊢
  have hl : lv_has ls 3 [(0, .ref ad), (1, .int v)] := hl
  refine lv_aload_n hx hb d_De_remove_0 rfl (lv_at hl 0 rfl) ?_
  refine va_get (D := DD) (ci := 8) (v := .ref h) (C := R_De) (T := T_De) (N := 10) hx hb hg in_De hown hK hP 0 rfl rfl 0 (by decide) (hg _ mw_140) (fun _ h9 => h9) rfl d_De_remove_1 ?_
  refine lv_iload_n hx hb d_De_remove_4 rfl (lv_at hl 1 rfl) ?_
  have hPc := hP.sub (ws' := [(h, .inr (4, [.ref hk, .ref ht, .int (nI n)])), (hk, .inl (ck, 150, .inl k))]) [1, 2] rfl
  have hKc := hK.sub (tys' := [(ck, .int)]) [0] rfl
  refine vp_callSi (W.runV (As := [.int v]) (rest := []) ⟨hx, hb, hml, hown, hg⟩ (c_Ro_has l DD h hk ht ck n k v (by omega)) (cwV 1 hg (gi_V mw_405 mw_406 mw_407 mw_2 mw_408) rfl rfl rfl (by decide +kernel) ⟨Nat.le_of_ble_eq_true rfl, Nat.le_of_ble_eq_true rfl⟩) ⟨z_blind, va_recv hKc hPc (ci := 4) (q0 := 0) rfl rfl, z_pre hPc hKc⟩ rfl rfl hl.1 rfl (lv_room (Nat.le_of_ble_eq_true rfl)) d_De_remove_5 ⟨Nat.zero_le _, Nat.zero_le _⟩) (fun r_5 hr_5 => ?_)
  subst hr_5
  refine z_ifb_ne (tgt := 21) hx hb d_De_remove_8 (by decide) (fun c_8 => ?_) (fun c_8 => ?_)
  · exact absurd c_8 (by rw [hf]; decide)
  · obtain ⟨sa, hsa⟩ := hXK.2.2.2.2.1 (86, "no such place") (by decide)
    exact x_throw hx hb hl0 (names := exN) hown (by decide +kernel) (by decide +kernel) (hg _ mw_382) (hg _ mw_17) hsa (own_of oa_IndexOutOfBounds hg hXK hTH) (hl.1.trans hml.symm) d_De_remove_11 d_De_remove_14 d_De_remove_15 d_De_remove_17 d_De_remove_20 (covers_of_empty (B.noHandlers (hts _ List.mem_cons_self)) _) (by decide) (by decide) (by decide) (by decide) hlocks
abbrev rm_De_at_T : Room := { frames := 6, cells := 1, slots := 6, locals := 82 }
set_option maxHeartbeats 4000000 in
set_option maxRecDepth 100000 in
theorem c_De_at_T (l : Launch) (hl0 : l.stackTraces = false) (DD : va_G) (ad : Nat) (h : Nat) (hk : Nat) (ck : ClassId) (k : Nat → Int32) (ht : Nat) (n : Nat) (h1 : Nat) (ar : Nat) (aq : Nat) (hwv : Nat) (hpn : Nat) (hod : Nat) (cm : Int64) (pb : Bool) (wa : Bool) (v : Int32) (g : Bool) (hn : n ≤ 150) (hf : hasB v n = false) : MetT l y_De_at ws_De_at rm_De_at_T (va_Pc [.ref ad, .int v, .int (zb g)] (fun U => va_P DD vwCl [(ad, .inr (8, [.ref h, .ref h1, .ref ar, .ref aq, .ref hwv, .ref hpn, .ref hod, .long cm, .int (zb pb), .int (zb wa)])), (h, .inr (4, [.ref hk, .ref ht, .int (nI n)])), (hk, .inl (ck, 150, .inl k))] U.heap ∧ va_K DD vwCl [(ck, .int)] U ∧ (XK U ∧ thO U))) "java/lang/IndexOutOfBoundsException" := by
  refine MetT.ofW (cc := b_De_at) (maxL := 3) (ret := (some .int)) (by decide) rfl ?_
  intro p e s m args below meth c s₁ B hml hv
  obtain ⟨ha, hP, hK, hXK, hTH⟩ := hv
  have hx := B.exec
  have hb := B.bytes
  have hr := B.returns
  have hts := atoms_spec (ws := ws_De_at) B.pre
  have hg : ∀ w ∈ ALLG, w.before args s = true := fun w h => hts w (List.mem_cons_of_mem _ h)
  have hown : s.vm.findClass R_De = some m.cls := findClass_of_methodNamed B.named
  have hlocks := B.notSynchronized
  have hP : va_P DD vwCl [(ad, .inr (8, [.ref h, .ref h1, .ref ar, .ref aq, .ref hwv, .ref hpn, .ref hod, .long cm, .int (zb pb), .int (zb wa)])), (h, .inr (4, [.ref hk, .ref ht, .int (nI n)])), (hk, .inl (ck, 150, .inl k))] s.heap := hP
  have hl := lv_entry ([.ref ad, .int v, .int (zb g)]) (n := 3) (Nat.le_of_ble_eq_true rfl)
  rw [ha, lg_entry_eq, ← ha]
  generalize (lg_sl ([.ref ad, .int v, .int (zb g)]) ++ List.replicate (3 - (lg_sl ([.ref ad, .int v, .int (zb g)])).length) Slot.unset).toArray = ls at hl ⊢
  have hl : lv_has ls 3 [(0, .ref ad), (1, .int v), (2, .int (zb g))] := hl
  refine lv_aload_n hx hb d_De_at_0 rfl (lv_at hl 0 rfl) ?_
  refine va_get (D := DD) (ci := 8) (v := .ref h) (C := R_De) (T := T_De) (N := 10) hx hb hg in_De hown hK hP 0 rfl rfl 0 (by decide) (hg _ mw_140) (fun _ h9 => h9) rfl d_De_at_1 ?_
  refine lv_iload_n hx hb d_De_at_4 rfl (lv_at hl 1 rfl) ?_
  have hPc := hP.sub (ws' := [(h, .inr (4, [.ref hk, .ref ht, .int (nI n)])), (hk, .inl (ck, 150, .inl k))]) [1, 2] rfl
  have hKc := hK.sub (tys' := [(ck, .int)]) [0] rfl
  refine vp_callSi (W.runV (As := [.int v]) (rest := []) ⟨hx, hb, hml, hown, hg⟩ (c_Ro_has l DD h hk ht ck n k v (by omega)) (cwV 1 hg (gi_V mw_405 mw_406 mw_407 mw_2 mw_408) rfl rfl rfl (by decide +kernel) ⟨Nat.le_of_ble_eq_true rfl, Nat.le_of_ble_eq_true rfl⟩) ⟨z_blind, va_recv hKc hPc (ci := 4) (q0 := 0) rfl rfl, z_pre hPc hKc⟩ rfl rfl hl.1 rfl (lv_room (Nat.le_of_ble_eq_true rfl)) d_De_at_5 ⟨Nat.zero_le _, Nat.zero_le _⟩) (fun r_5 hr_5 => ?_)
  subst hr_5
  refine z_ifb_ne (tgt := 21) hx hb d_De_at_8 (by decide) (fun c_8 => ?_) (fun c_8 => ?_)
  · exact absurd c_8 (by rw [hf]; decide)
  · obtain ⟨sa, hsa⟩ := hXK.2.2.2.2.1 (86, "no such place") (by decide)
    exact x_throw hx hb hl0 (names := exN) hown (by decide +kernel) (by decide +kernel) (hg _ mw_382) (hg _ mw_17) hsa (own_of oa_IndexOutOfBounds hg hXK hTH) (hl.1.trans hml.symm) d_De_at_11 d_De_at_14 d_De_at_15 d_De_at_17 d_De_at_20 (covers_of_empty (B.noHandlers (hts _ List.mem_cons_self)) _) (by decide) (by decide) (by decide) (by decide) hlocks
abbrev rm_De_figure_T : Room := { frames := 6, cells := 1, slots := 6, locals := 82 }
set_option maxHeartbeats 4000000 in
set_option maxRecDepth 100000 in
theorem c_De_figure_T (l : Launch) (hl0 : l.stackTraces = false) (DD : va_G) (ad : Nat) (h : Nat) (h1 : Nat) (ar : Nat) (aq : Nat) (hwv : Nat) (hpn : Nat) (hod : Nat) (cm : Int64) (pb : Bool) (wa : Bool) (v : Int32) (hf : hasB v 8 = false) : MetT l y_De_figure ws_De_figure rm_De_figure_T (va_Pc [.ref ad, .int v] (fun U => va_P DD vwCl [(ad, .inr (8, [.ref h, .ref h1, .ref ar, .ref aq, .ref hwv, .ref hpn, .ref hod, .long cm, .int (zb pb), .int (zb wa)]))] U.heap ∧ va_K DD vwCl [] U ∧ (XK U ∧ thO U))) "java/lang/IllegalArgumentException" := by
  refine MetT.ofW (cc := b_De_figure) (maxL := 2) (ret := (some .long)) (by decide) rfl ?_
  intro p e s m args below meth c s₁ B hml hv
  obtain ⟨ha, hP, hK, hXK, hTH⟩ := hv
  have hx := B.exec
  have hb := B.bytes
  have hr := B.returns
  have hts := atoms_spec (ws := ws_De_figure) B.pre
  have hg : ∀ w ∈ ALLG, w.before args s = true := fun w h => hts w (List.mem_cons_of_mem _ h)
  have hown : s.vm.findClass R_De = some m.cls := findClass_of_methodNamed B.named
  have hlocks := B.notSynchronized
  have hP : va_P DD vwCl [(ad, .inr (8, [.ref h, .ref h1, .ref ar, .ref aq, .ref hwv, .ref hpn, .ref hod, .long cm, .int (zb pb), .int (zb wa)]))] s.heap := hP
  have hl := lv_entry ([.ref ad, .int v]) (n := 2) (Nat.le_of_ble_eq_true rfl)
  rw [ha, lg_entry_eq, ← ha]
  generalize (lg_sl ([.ref ad, .int v]) ++ List.replicate (2 - (lg_sl ([.ref ad, .int v])).length) Slot.unset).toArray = ls at hl ⊢
  have hl : lv_has ls 2 [(0, .ref ad), (1, .int v)] := hl
  refine lv_iload_n hx hb d_De_figure_0 rfl (lv_at hl 1 rfl) ?_
  have hPc := hP.sub (ws' := []) [] rfl
  have hKc := hK.sub (tys' := []) [] rfl
  refine vp_callSi (W.runS (As := [.int v]) (rest := []) ⟨hx, hb, hml, hown, hg⟩ (c_De_isFigure l DD v) (cwS 1 hg (gi_S mw_436 mw_437 mw_1 mw_438) rfl rfl rfl (by decide +kernel) ⟨Nat.le_of_ble_eq_true rfl, Nat.le_of_ble_eq_true rfl⟩) ⟨z_blind, z_pre hPc hKc⟩ rfl rfl hl.1 rfl (lv_room (Nat.le_of_ble_eq_true rfl)) d_De_figure_1 ⟨Nat.zero_le _, Nat.zero_le _⟩) (fun r_1 hr_1 => ?_)
  subst hr_1
  refine z_ifb_ne (tgt := 17) hx hb d_De_figure_4 (by decide) (fun c_4 => ?_) (fun c_4 => ?_)
  · exact absurd c_4 (by rw [hf]; decide)
  · obtain ⟨sa, hsa⟩ := hXK.2.2.2.2.1 (109, "no such figure") (by decide)
    exact x_throw hx hb hl0 (names := exN) hown (by decide +kernel) (by decide +kernel) (hg _ mw_439) (hg _ mw_18) hsa (own_of oa_IllegalArgument hg hXK hTH) (hl.1.trans hml.symm) d_De_figure_7 d_De_figure_10 d_De_figure_11 d_De_figure_13 d_De_figure_16 (covers_of_empty (B.noHandlers (hts _ List.mem_cons_self)) _) (by decide) (by decide) (by decide) (by decide) hlocks
abbrev rm_De_rule_T1 : Room := { frames := 6, cells := 1, slots := 6, locals := 82 }
set_option maxHeartbeats 4000000 in
set_option maxRecDepth 100000 in
theorem c_De_rule_T1 (l : Launch) (hl0 : l.stackTraces = false) (DD : va_G) (ad : Nat) (h : Nat) (h1 : Nat) (ar : Nat) (aq : Nat) (hwv : Nat) (hpn : Nat) (hod : Nat) (cm : Int64) (pb : Bool) (wa : Bool) (v : Int32) (y : Int64) (z : Int64) (w : Int32) (hf : (hasB v 8 && hasB w 5) = false) : MetT l y_De_rule ws_De_rule rm_De_rule_T1 (va_Pc [.ref ad, .int v, .long y, .long z, .int w] (fun U => va_P DD vwCl [(ad, .inr (8, [.ref h, .ref h1, .ref ar, .ref aq, .ref hwv, .ref hpn, .ref hod, .long cm, .int (zb pb), .int (zb wa)]))] U.heap ∧ va_K DD vwCl [] U ∧ (XK U ∧ thO U))) "java/lang/IllegalArgumentException" := by
  refine MetT.ofW (cc := b_De_rule) (maxL := 7) (ret := (some .int)) (by decide) rfl ?_
  intro p e s m args below meth c s₁ B hml hv
  obtain ⟨ha, hP, hK, hXK, hTH⟩ := hv
  have hx := B.exec
  have hb := B.bytes
  have hr := B.returns
  have hts := atoms_spec (ws := ws_De_rule) B.pre
  have hg : ∀ w ∈ ALLG, w.before args s = true := fun w h => hts w (List.mem_cons_of_mem _ h)
  have hown : s.vm.findClass R_De = some m.cls := findClass_of_methodNamed B.named
  have hlocks := B.notSynchronized
  have hP : va_P DD vwCl [(ad, .inr (8, [.ref h, .ref h1, .ref ar, .ref aq, .ref hwv, .ref hpn, .ref hod, .long cm, .int (zb pb), .int (zb wa)]))] s.heap := hP
  have hl := lv_entry ([.ref ad, .int v, .long y, .long z, .int w]) (n := 7) (Nat.le_of_ble_eq_true rfl)
  rw [ha, lg_entry_eq, ← ha]
  generalize (lg_sl ([.ref ad, .int v, .long y, .long z, .int w]) ++ List.replicate (7 - (lg_sl ([.ref ad, .int v, .long y, .long z, .int w])).length) Slot.unset).toArray = ls at hl ⊢
  have hl : lv_has ls 7 [(0, .ref ad), (1, .int v), (2, .long y), (4, .long z), (6, .int w)] := hl
  refine lv_iload_n hx hb d_De_rule_0 rfl (lv_at hl 1 rfl) ?_
  have hPc := hP.sub (ws' := []) [] rfl
  have hKc := hK.sub (tys' := []) [] rfl
  refine vp_callSi (W.runS (As := [.int v]) (rest := []) ⟨hx, hb, hml, hown, hg⟩ (c_De_isFigure l DD v) (cwS 1 hg (gi_S mw_436 mw_437 mw_1 mw_438) rfl rfl rfl (by decide +kernel) ⟨Nat.le_of_ble_eq_true rfl, Nat.le_of_ble_eq_true rfl⟩) ⟨z_blind, z_pre hPc hKc⟩ rfl rfl hl.1 rfl (lv_room (Nat.le_of_ble_eq_true rfl)) d_De_rule_1 ⟨Nat.zero_le _, Nat.zero_le _⟩) (fun r_1 hr_1 => ?_)
  subst hr_1
  refine z_ifb_eq (tgt := 15) hx hb d_De_rule_4 (by decide) (fun c_4 => ?_) (fun c_4 => ?_)
  · obtain ⟨sa, hsa⟩ := hXK.2.2.2.2.1 (119, "no such figure or way") (by decide)
    exact x_throw hx hb hl0 (names := exN) hown (by decide +kernel) (by decide +kernel) (hg _ mw_439) (hg _ mw_18) hsa (own_of oa_IllegalArgument hg hXK hTH) (hl.1.trans hml.symm) d_De_rule_15 d_De_rule_18 d_De_rule_19 d_De_rule_21 d_De_rule_24 (covers_of_empty (B.noHandlers (hts _ List.mem_cons_self)) _) (by decide) (by decide) (by decide) (by decide) hlocks
  · refine lv_iload hx hb d_De_rule_7 (lv_at hl 4 rfl) ?_
    have hPc := hP.sub (ws' := []) [] rfl
    have hKc := hK.sub (tys' := []) [] rfl
    refine vp_callSi (W.runS (As := [.int w]) (rest := []) ⟨hx, hb, hml, hown, hg⟩ (c_De_isWay l DD w) (cwS 1 hg (gi_S mw_463 mw_464 mw_1 mw_465) rfl rfl rfl (by decide +kernel) ⟨Nat.le_of_ble_eq_true rfl, Nat.le_of_ble_eq_true rfl⟩) ⟨z_blind, z_pre hPc hKc⟩ rfl rfl hl.1 rfl (lv_room (Nat.le_of_ble_eq_true rfl)) d_De_rule_9 ⟨Nat.zero_le _, Nat.zero_le _⟩) (fun r_9 hr_9 => ?_)
    subst hr_9
    refine z_ifb_ne (tgt := 25) hx hb d_De_rule_12 (by decide) (fun c_12 => ?_) (fun c_12 => ?_)
    · exact absurd hf (by rw [c_4, c_12]; decide)
    · obtain ⟨sa, hsa⟩ := hXK.2.2.2.2.1 (119, "no such figure or way") (by decide)
      exact x_throw hx hb hl0 (names := exN) hown (by decide +kernel) (by decide +kernel) (hg _ mw_439) (hg _ mw_18) hsa (own_of oa_IllegalArgument hg hXK hTH) (hl.1.trans hml.symm) d_De_rule_15 d_De_rule_18 d_De_rule_19 d_De_rule_21 d_De_rule_24 (covers_of_empty (B.noHandlers (hts _ List.mem_cons_self)) _) (by decide) (by decide) (by decide) (by decide) hlocks
abbrev rm_De_rule_T2 : Room := { frames := 6, cells := 1, slots := 6, locals := 82 }
set_option maxHeartbeats 4000000 in
set_option maxRecDepth 100000 in
theorem c_De_rule_T2 (l : Launch) (hl0 : l.stackTraces = false) (DD : va_G) (ad : Nat) (h : Nat) (h1 : Nat) (ar : Nat) (hfg : Nat) (cfg : ClassId) (fg : Nat → Nat) (hle : Nat) (cle : ClassId) (le : Nat → Int64) (hmo : Nat) (cmo : ClassId) (mo : Nat → Int64) (hwy : Nat) (cwy : ClassId) (wy : Nat → Nat) (rn : Nat) (aq : Nat) (hwv : Nat) (hpn : Nat) (hod : Nat) (cm : Int64) (pb : Bool) (wa : Bool) (v : Int32) (y : Int64) (z : Int64) (w : Int32) (hrn : rn ≤ 12) (hf : 12 ≤ rn) (hv8 : hasB v 8 = true) (hv5 : hasB w 5 = true) : MetT l y_De_rule ws_De_rule rm_De_rule_T2 (va_Pc [.ref ad, .int v, .long y, .long z, .int w] (fun U => va_P DD vwCl [(ad, .inr (8, [.ref h, .ref h1, .ref ar, .ref aq, .ref hwv, .ref hpn, .ref hod, .long cm, .int (zb pb), .int (zb wa)])), (ar, .inr (5, [.ref hfg, .ref hle, .ref hmo, .ref hwy, .int (nI rn)])), (hfg, .inl (cfg, 12, .inl (nF fg))), (hle, .inl (cle, 12, .inr (.inl le))), (hmo, .inl (cmo, 12, .inr (.inl mo))), (hwy, .inl (cwy, 12, .inl (nF wy)))] U.heap ∧ va_K DD vwCl [(cfg, .int), (cle, .long), (cmo, .long), (cwy, .int)] U ∧ (XK U ∧ thO U))) "java/lang/UnsupportedOperationException" := by
  refine MetT.ofW (cc := b_De_rule) (maxL := 7) (ret := (some .int)) (by decide) rfl ?_
  intro p e s m args below meth c s₁ B hml hv
  obtain ⟨ha, hP, hK, hXK, hTH⟩ := hv
  have hx := B.exec
  have hb := B.bytes
  have hr := B.returns
  have hts := atoms_spec (ws := ws_De_rule) B.pre
  have hg : ∀ w ∈ ALLG, w.before args s = true := fun w h => hts w (List.mem_cons_of_mem _ h)
  have hown : s.vm.findClass R_De = some m.cls := findClass_of_methodNamed B.named
  have hlocks := B.notSynchronized
  have hP : va_P DD vwCl [(ad, .inr (8, [.ref h, .ref h1, .ref ar, .ref aq, .ref hwv, .ref hpn, .ref hod, .long cm, .int (zb pb), .int (zb wa)])), (ar, .inr (5, [.ref hfg, .ref hle, .ref hmo, .ref hwy, .int (nI rn)])), (hfg, .inl (cfg, 12, .inl (nF fg))), (hle, .inl (cle, 12, .inr (.inl le))), (hmo, .inl (cmo, 12, .inr (.inl mo))), (hwy, .inl (cwy, 12, .inl (nF wy)))] s.heap := hP
  have hl := lv_entry ([.ref ad, .int v, .long y, .long z, .int w]) (n := 7) (Nat.le_of_ble_eq_true rfl)
  rw [ha, lg_entry_eq, ← ha]
  generalize (lg_sl ([.ref ad, .int v, .long y, .long z, .int w]) ++ List.replicate (7 - (lg_sl ([.ref ad, .int v, .long y, .long z, .int w])).length) Slot.unset).toArray = ls at hl ⊢
  have hl : lv_has ls 7 [(0, .ref ad), (1, .int v), (2, .long y), (4, .long z), (6, .int w)] := hl
  refine lv_iload_n hx hb d_De_rule_0 rfl (lv_at hl 1 rfl) ?_
  have hPc := hP.sub (ws' := []) [] rfl
  have hKc := hK.sub (tys' := []) [] rfl
  refine vp_callSi (W.runS (As := [.int v]) (rest := []) ⟨hx, hb, hml, hown, hg⟩ (c_De_isFigure l DD v) (cwS 1 hg (gi_S mw_436 mw_437 mw_1 mw_438) rfl rfl rfl (by decide +kernel) ⟨Nat.le_of_ble_eq_true rfl, Nat.le_of_ble_eq_true rfl⟩) ⟨z_blind, z_pre hPc hKc⟩ rfl rfl hl.1 rfl (lv_room (Nat.le_of_ble_eq_true rfl)) d_De_rule_1 ⟨Nat.zero_le _, Nat.zero_le _⟩) (fun r_1 hr_1 => ?_)
  subst hr_1
  refine z_ifb_eq (tgt := 15) hx hb d_De_rule_4 (by decide) (fun c_4 => ?_) (fun c_4 => ?_)
  · exact absurd c_4 (by rw [hv8]; decide)
  · refine lv_iload hx hb d_De_rule_7 (lv_at hl 4 rfl) ?_
    have hPc := hP.sub (ws' := []) [] rfl
    have hKc := hK.sub (tys' := []) [] rfl
    refine vp_callSi (W.runS (As := [.int w]) (rest := []) ⟨hx, hb, hml, hown, hg⟩ (c_De_isWay l DD w) (cwS 1 hg (gi_S mw_463 mw_464 mw_1 mw_465) rfl rfl rfl (by decide +kernel) ⟨Nat.le_of_ble_eq_true rfl, Nat.le_of_ble_eq_true rfl⟩) ⟨z_blind, z_pre hPc hKc⟩ rfl rfl hl.1 rfl (lv_room (Nat.le_of_ble_eq_true rfl)) d_De_rule_9 ⟨Nat.zero_le _, Nat.zero_le _⟩) (fun r_9 hr_9 => ?_)
    subst hr_9
    refine z_ifb_ne (tgt := 25) hx hb d_De_rule_12 (by decide) (fun c_12 => ?_) (fun c_12 => ?_)
    · refine lv_aload_n hx hb d_De_rule_25 rfl (lv_at hl 0 rfl) ?_
      refine va_get (D := DD) (ci := 8) (v := .ref ar) (C := R_De) (T := T_De) (N := 10) hx hb hg in_De hown hK hP 0 rfl rfl 2 (by decide) (hg _ mw_142) (fun _ h9 => h9) rfl d_De_rule_26 ?_
      have hPc := hP.sub (ws' := [(ar, .inr (5, [.ref hfg, .ref hle, .ref hmo, .ref hwy, .int (nI rn)]))]) [1] rfl
      have hKc := hK.sub (tys' := []) [] rfl
      refine vp_callSi (W.runV (As := []) (rest := []) ⟨hx, hb, hml, hown, hg⟩ (c_Ru_isFull l DD ar hfg hle hmo hwy rn (by omega)) (cwV 0 hg (gi_V mw_467 mw_468 mw_469 mw_3 mw_470) rfl rfl rfl (by decide +kernel) ⟨Nat.le_of_ble_eq_true rfl, Nat.le_of_ble_eq_true rfl⟩) ⟨z_blind, va_recv hKc hPc (ci := 5) (q0 := 0) rfl rfl, z_pre hPc hKc⟩ rfl rfl hl.1 rfl (lv_room (Nat.le_of_ble_eq_true rfl)) d_De_rule_29 ⟨Nat.zero_le _, Nat.zero_le _⟩) (fun r_29 hr_29 => ?_)
      subst hr_29
      refine z_ifb_eq (tgt := 45) hx hb d_De_rule_32 (by decide) (fun c_32 => ?_) (fun c_32 => ?_)
      · exact absurd c_32 (by rw [decide_eq_true hf]; decide)
      · obtain ⟨sa, hsa⟩ := hXK.2.2.2.2.1 (122, "the table of rules is full") (by decide)
        exact x_throw hx hb hl0 (names := exN) hown (by decide +kernel) (by decide +kernel) (hg _ mw_297) (hg _ mw_15) hsa (own_of oa_UnsupportedOperation hg hXK hTH) (hl.1.trans hml.symm) d_De_rule_35 d_De_rule_38 d_De_rule_39 d_De_rule_41 d_De_rule_44 (covers_of_empty (B.noHandlers (hts _ List.mem_cons_self)) _) (by decide) (by decide) (by decide) (by decide) hlocks
    · exact absurd c_12 (by rw [hv5]; decide)
abbrev rm_De_forget_T : Room := { frames := 6, cells := 1, slots := 6, locals := 82 }
set_option maxHeartbeats 4000000 in
set_option maxRecDepth 100000 in
theorem c_De_forget_T (l : Launch) (hl0 : l.stackTraces = false) (DD : va_G) (ad : Nat) (h : Nat) (h1 : Nat) (ar : Nat) (hfg : Nat) (cfg : ClassId) (fg : Nat → Nat) (hle : Nat) (cle : ClassId) (le : Nat → Int64) (hmo : Nat) (cmo : ClassId) (mo : Nat → Int64) (hwy : Nat) (cwy : ClassId) (wy : Nat → Nat) (rn : Nat) (aq : Nat) (hwv : Nat) (hpn : Nat) (hod : Nat) (cm : Int64) (pb : Bool) (wa : Bool) (v : Int32) (hrn : rn ≤ 12) (hf : hasB v rn = false) : MetT l y_De_forget ws_De_forget rm_De_forget_T (va_Pc [.ref ad, .int v] (fun U => va_P DD vwCl [(ad, .inr (8, [.ref h, .ref h1, .ref ar, .ref aq, .ref hwv, .ref hpn, .ref hod, .long cm, .int (zb pb), .int (zb wa)])), (ar, .inr (5, [.ref hfg, .ref hle, .ref hmo, .ref hwy, .int (nI rn)])), (hfg, .inl (cfg, 12, .inl (nF fg))), (hle, .inl (cle, 12, .inr (.inl le))), (hmo, .inl (cmo, 12, .inr (.inl mo))), (hwy, .inl (cwy, 12, .inl (nF wy)))] U.heap ∧ va_K DD vwCl [(cfg, .int), (cle, .long), (cmo, .long), (cwy, .int)] U ∧ (XK U ∧ thO U))) "java/lang/IndexOutOfBoundsException" := by
  refine MetT.ofW (cc := b_De_forget) (maxL := 2) (ret := (some .int)) (by decide) rfl ?_
  intro p e s m args below meth c s₁ B hml hv
  obtain ⟨ha, hP, hK, hXK, hTH⟩ := hv
  have hx := B.exec
  have hb := B.bytes
  have hr := B.returns
  have hts := atoms_spec (ws := ws_De_forget) B.pre
  have hg : ∀ w ∈ ALLG, w.before args s = true := fun w h => hts w (List.mem_cons_of_mem _ h)
  have hown : s.vm.findClass R_De = some m.cls := findClass_of_methodNamed B.named
  have hlocks := B.notSynchronized
  have hP : va_P DD vwCl [(ad, .inr (8, [.ref h, .ref h1, .ref ar, .ref aq, .ref hwv, .ref hpn, .ref hod, .long cm, .int (zb pb), .int (zb wa)])), (ar, .inr (5, [.ref hfg, .ref hle, .ref hmo, .ref hwy, .int (nI rn)])), (hfg, .inl (cfg, 12, .inl (nF fg))), (hle, .inl (cle, 12, .inr (.inl le))), (hmo, .inl (cmo, 12, .inr (.inl mo))), (hwy, .inl (cwy, 12, .inl (nF wy)))] s.heap := hP
  have hl := lv_entry ([.ref ad, .int v]) (n := 2) (Nat.le_of_ble_eq_true rfl)
  rw [ha, lg_entry_eq, ← ha]
  generalize (lg_sl ([.ref ad, .int v]) ++ List.replicate (2 - (lg_sl ([.ref ad, .int v])).length) Slot.unset).toArray = ls at hl ⊢
  have hl : lv_has ls 2 [(0, .ref ad), (1, .int v)] := hl
  refine lv_aload_n hx hb d_De_forget_0 rfl (lv_at hl 0 rfl) ?_
  refine va_get (D := DD) (ci := 8) (v := .ref ar) (C := R_De) (T := T_De) (N := 10) hx hb hg in_De hown hK hP 0 rfl rfl 2 (by decide) (hg _ mw_142) (fun _ h9 => h9) rfl d_De_forget_1 ?_
  refine lv_iload_n hx hb d_De_forget_4 rfl (lv_at hl 1 rfl) ?_
  have hPc := hP.sub (ws' := [(ar, .inr (5, [.ref hfg, .ref hle, .ref hmo, .ref hwy, .int (nI rn)]))]) [1] rfl
  have hKc := hK.sub (tys' := []) [] rfl
  refine vp_callSi (W.runV (As := [.int v]) (rest := []) ⟨hx, hb, hml, hown, hg⟩ (c_Ru_has l DD ar hfg hle hmo hwy rn v (by omega)) (cwV 1 hg (gi_V mw_483 mw_484 mw_485 mw_3 mw_486) rfl rfl rfl (by decide +kernel) ⟨Nat.le_of_ble_eq_true rfl, Nat.le_of_ble_eq_true rfl⟩) ⟨z_blind, va_recv hKc hPc (ci := 5) (q0 := 0) rfl rfl, z_pre hPc hKc⟩ rfl rfl hl.1 rfl (lv_room (Nat.le_of_ble_eq_true rfl)) d_De_forget_5 ⟨Nat.zero_le _, Nat.zero_le _⟩) (fun r_5 hr_5 => ?_)
  subst hr_5
  refine z_ifb_ne (tgt := 21) hx hb d_De_forget_8 (by decide) (fun c_8 => ?_) (fun c_8 => ?_)
  · exact absurd c_8 (by rw [hf]; decide)
  · obtain ⟨sa, hsa⟩ := hXK.2.2.2.2.1 (129, "no such rule") (by decide)
    exact x_throw hx hb hl0 (names := exN) hown (by decide +kernel) (by decide +kernel) (hg _ mw_382) (hg _ mw_17) hsa (own_of oa_IndexOutOfBounds hg hXK hTH) (hl.1.trans hml.symm) d_De_forget_11 d_De_forget_14 d_De_forget_15 d_De_forget_17 d_De_forget_20 (covers_of_empty (B.noHandlers (hts _ List.mem_cons_self)) _) (by decide) (by decide) (by decide) (by decide) hlocks
theorem d_De_isFit_0 : decode b_De_isFit 0 = .ok (.iload_n 1, 1) := by decide +kernel
theorem d_De_isFit_1 : decode b_De_isFit 1 = .ok (.invokestatic 116, 3) := by decide +kernel
theorem d_De_isFit_4 : decode b_De_isFit 4 = .ok (.ifCond .ne 13, 3) := by decide +kernel
theorem d_De_isFit_7 : decode b_De_isFit 7 = .ok (.new 107, 3) := by decide +kernel
theorem d_De_isFit_10 : decode b_De_isFit 10 = .ok (.dup, 1) := by decide +kernel
theorem d_De_isFit_11 : decode b_De_isFit 11 = .ok (.ldc 146, 2) := by decide +kernel
theorem d_De_isFit_13 : decode b_De_isFit 13 = .ok (.invokespecial 111, 3) := by decide +kernel
theorem d_De_isFit_16 : decode b_De_isFit 16 = .ok (.athrow, 1) := by decide +kernel
theorem d_De_isFit_17 : decode b_De_isFit 17 = .ok (.aload_n 0, 1) := by decide +kernel
theorem d_De_isFit_18 : decode b_De_isFit 18 = .ok (.getfield 35, 3) := by decide +kernel
theorem d_De_isFit_21 : decode b_De_isFit 21 = .ok (.iload_n 1, 1) := by decide +kernel
theorem d_De_isFit_22 : decode b_De_isFit 22 = .ok (.aaload, 1) := by decide +kernel
theorem d_De_isFit_23 : decode b_De_isFit 23 = .ok (.aload_n 0, 1) := by decide +kernel
theorem d_De_isFit_24 : decode b_De_isFit 24 = .ok (.getfield 12, 3) := by decide +kernel
theorem d_De_isFit_27 : decode b_De_isFit 27 = .ok (.invokevirtual 138, 3) := by decide +kernel
theorem d_De_isFit_30 : decode b_De_isFit 30 = .ok (.ireturn, 1) := by decide +kernel
abbrev ws_De_isFit : List Cond := .code y_De_isFit b_De_isFit 2 (some .boolean) :: ALLG
abbrev rm_De_isFit_T : Room := { frames := 6, cells := 1, slots := 6, locals := 82 }
set_option maxHeartbeats 4000000 in
set_option maxRecDepth 100000 in
theorem c_De_isFit_T (l : Launch) (hl0 : l.stackTraces = false) (DD : va_G) (ad : Nat) (h : Nat) (h1 : Nat) (ar : Nat) (aq : Nat) (hwv : Nat) (hpn : Nat) (hod : Nat) (cm : Int64) (pb : Bool) (wa : Bool) (v : Int32) (hf : hasB v 5 = false) : MetT l y_De_isFit ws_De_isFit rm_De_isFit_T (va_Pc [.ref ad, .int v] (fun U => va_P DD vwCl [(ad, .inr (8, [.ref h, .ref h1, .ref ar, .ref aq, .ref hwv, .ref hpn, .ref hod, .long cm, .int (zb pb), .int (zb wa)]))] U.heap ∧ va_K DD vwCl [] U ∧ (XK U ∧ thO U))) "java/lang/IllegalArgumentException" := by
  refine MetT.ofW (cc := b_De_isFit) (maxL := 2) (ret := (some .boolean)) (by decide) rfl ?_
  intro p e s m args below meth c s₁ B hml hv
  obtain ⟨ha, hP, hK, hXK, hTH⟩ := hv
  have hx := B.exec
  have hb := B.bytes
  have hr := B.returns
  have hts := atoms_spec (ws := ws_De_isFit) B.pre
  have hg : ∀ w ∈ ALLG, w.before args s = true := fun w h => hts w (List.mem_cons_of_mem _ h)
  have hown : s.vm.findClass R_De = some m.cls := findClass_of_methodNamed B.named
  have hlocks := B.notSynchronized
  have hP : va_P DD vwCl [(ad, .inr (8, [.ref h, .ref h1, .ref ar, .ref aq, .ref hwv, .ref hpn, .ref hod, .long cm, .int (zb pb), .int (zb wa)]))] s.heap := hP
  have hl := lv_entry ([.ref ad, .int v]) (n := 2) (Nat.le_of_ble_eq_true rfl)
  rw [ha, lg_entry_eq, ← ha]
  generalize (lg_sl ([.ref ad, .int v]) ++ List.replicate (2 - (lg_sl ([.ref ad, .int v])).length) Slot.unset).toArray = ls at hl ⊢
  have hl : lv_has ls 2 [(0, .ref ad), (1, .int v)] := hl
  refine lv_iload_n hx hb d_De_isFit_0 rfl (lv_at hl 1 rfl) ?_
  have hPc := hP.sub (ws' := []) [] rfl
  have hKc := hK.sub (tys' := []) [] rfl
  refine vp_callSi (W.runS (As := [.int v]) (rest := []) ⟨hx, hb, hml, hown, hg⟩ (c_De_isWay l DD v) (cwS 1 hg (gi_S mw_463 mw_464 mw_1 mw_465) rfl rfl rfl (by decide +kernel) ⟨Nat.le_of_ble_eq_true rfl, Nat.le_of_ble_eq_true rfl⟩) ⟨z_blind, z_pre hPc hKc⟩ rfl rfl hl.1 rfl (lv_room (Nat.le_of_ble_eq_true rfl)) d_De_isFit_1 ⟨Nat.zero_le _, Nat.zero_le _⟩) (fun r_1 hr_1 => ?_)
  subst hr_1
  refine z_ifb_ne (tgt := 17) hx hb d_De_isFit_4 (by decide) (fun c_4 => ?_) (fun c_4 => ?_)
  · exact absurd c_4 (by rw [hf]; decide)
  · obtain ⟨sa, hsa⟩ := hXK.2.2.2.2.1 (146, "no such way") (by decide)
    exact x_throw hx hb hl0 (names := exN) hown (by decide +kernel) (by decide +kernel) (hg _ mw_439) (hg _ mw_18) hsa (own_of oa_IllegalArgument hg hXK hTH) (hl.1.trans hml.symm) d_De_isFit_7 d_De_isFit_10 d_De_isFit_11 d_De_isFit_13 d_De_isFit_16 (covers_of_empty (B.noHandlers (hts _ List.mem_cons_self)) _) (by decide) (by decide) (by decide) (by decide) hlocks
theorem d_De_order_0 : decode b_De_order 0 = .ok (.iload_n 1, 1) := by decide +kernel
theorem d_De_order_1 : decode b_De_order 1 = .ok (.iconst (-1), 1) := by decide +kernel
theorem d_De_order_2 : decode b_De_order 2 = .ok (.if_icmp .eq 20, 3) := by decide +kernel
theorem d_De_order_5 : decode b_De_order 5 = .ok (.iload_n 1, 1) := by decide +kernel
theorem d_De_order_6 : decode b_De_order 6 = .ok (.invokestatic 116, 3) := by decide +kernel
theorem d_De_order_9 : decode b_De_order 9 = .ok (.ifCond .ne 13, 3) := by decide +kernel
theorem d_De_order_12 : decode b_De_order 12 = .ok (.new 107, 3) := by decide +kernel
theorem d_De_order_15 : decode b_De_order 15 = .ok (.dup, 1) := by decide +kernel
theorem d_De_order_16 : decode b_De_order 16 = .ok (.ldc 146, 2) := by decide +kernel
theorem d_De_order_18 : decode b_De_order 18 = .ok (.invokespecial 111, 3) := by decide +kernel
theorem d_De_order_21 : decode b_De_order 21 = .ok (.athrow, 1) := by decide +kernel
theorem d_De_order_22 : decode b_De_order 22 = .ok (.iload_n 1, 1) := by decide +kernel
theorem d_De_order_23 : decode b_De_order 23 = .ok (.iconst (-1), 1) := by decide +kernel
theorem d_De_order_24 : decode b_De_order 24 = .ok (.if_icmp .ne 10, 3) := by decide +kernel
theorem d_De_order_27 : decode b_De_order 27 = .ok (.aload_n 0, 1) := by decide +kernel
theorem d_De_order_28 : decode b_De_order 28 = .ok (.invokevirtual 148, 3) := by decide +kernel
theorem d_De_order_31 : decode b_De_order 31 = .ok (.goto 4, 3) := by decide +kernel
theorem d_De_order_34 : decode b_De_order 34 = .ok (.iload_n 1, 1) := by decide +kernel
theorem d_De_order_35 : decode b_De_order 35 = .ok (.istore_n 2, 1) := by decide +kernel
theorem d_De_order_36 : decode b_De_order 36 = .ok (.aload_n 0, 1) := by decide +kernel
theorem d_De_order_37 : decode b_De_order 37 = .ok (.getfield 35, 3) := by decide +kernel
theorem d_De_order_40 : decode b_De_order 40 = .ok (.iload_n 2, 1) := by decide +kernel
theorem d_De_order_41 : decode b_De_order 41 = .ok (.aaload, 1) := by decide +kernel
theorem d_De_order_42 : decode b_De_order 42 = .ok (.aload_n 0, 1) := by decide +kernel
theorem d_De_order_43 : decode b_De_order 43 = .ok (.getfield 12, 3) := by decide +kernel
theorem d_De_order_46 : decode b_De_order 46 = .ok (.invokevirtual 138, 3) := by decide +kernel
theorem d_De_order_49 : decode b_De_order 49 = .ok (.ifCond .ne 13, 3) := by decide +kernel
theorem d_De_order_52 : decode b_De_order 52 = .ok (.new 151, 3) := by decide +kernel
theorem d_De_order_55 : decode b_De_order 55 = .ok (.dup, 1) := by decide +kernel
theorem d_De_order_56 : decode b_De_order 56 = .ok (.ldc 153, 2) := by decide +kernel
theorem d_De_order_58 : decode b_De_order 58 = .ok (.invokespecial 155, 3) := by decide +kernel
theorem d_De_order_61 : decode b_De_order 61 = .ok (.athrow, 1) := by decide +kernel
theorem d_De_order_62 : decode b_De_order 62 = .ok (.aload_n 0, 1) := by decide +kernel
theorem d_De_order_63 : decode b_De_order 63 = .ok (.iload_n 2, 1) := by decide +kernel
theorem d_De_order_64 : decode b_De_order 64 = .ok (.invokevirtual 156, 3) := by decide +kernel
theorem d_De_order_67 : decode b_De_order 67 = .ok (.ireturn, 1) := by decide +kernel
abbrev ws_De_order : List Cond := .code y_De_order b_De_order 3 (some .int) :: ALLG
abbrev rm_De_order_T1 : Room := { frames := 6, cells := 1, slots := 6, locals := 82 }
set_option maxHeartbeats 4000000 in
set_option maxRecDepth 100000 in
theorem c_De_order_T1 (l : Launch) (hl0 : l.stackTraces = false) (DD : va_G) (ad : Nat) (h : Nat) (h1 : Nat) (ar : Nat) (aq : Nat) (hwv : Nat) (hpn : Nat) (hod : Nat) (cm : Int64) (pb : Bool) (wa : Bool) (v : Int32) (hf : hasB v 5 = false) (hf1 : ¬ v = -1) : MetT l y_De_order ws_De_order rm_De_order_T1 (va_Pc [.ref ad, .int v] (fun U => va_P DD vwCl [(ad, .inr (8, [.ref h, .ref h1, .ref ar, .ref aq, .ref hwv, .ref hpn, .ref hod, .long cm, .int (zb pb), .int (zb wa)]))] U.heap ∧ va_K DD vwCl [] U ∧ (XK U ∧ thO U))) "java/lang/IllegalArgumentException" := by
  refine MetT.ofW (cc := b_De_order) (maxL := 3) (ret := (some .int)) (by decide) rfl ?_
  intro p e s m args below meth c s₁ B hml hv
  obtain ⟨ha, hP, hK, hXK, hTH⟩ := hv
  have hx := B.exec
  have hb := B.bytes
  have hr := B.returns
  have hts := atoms_spec (ws := ws_De_order) B.pre
  have hg : ∀ w ∈ ALLG, w.before args s = true := fun w h => hts w (List.mem_cons_of_mem _ h)
  have hown : s.vm.findClass R_De = some m.cls := findClass_of_methodNamed B.named
  have hlocks := B.notSynchronized
  have hP : va_P DD vwCl [(ad, .inr (8, [.ref h, .ref h1, .ref ar, .ref aq, .ref hwv, .ref hpn, .ref hod, .long cm, .int (zb pb), .int (zb wa)]))] s.heap := hP
  have hl := lv_entry ([.ref ad, .int v]) (n := 3) (Nat.le_of_ble_eq_true rfl)
  rw [ha, lg_entry_eq, ← ha]
  generalize (lg_sl ([.ref ad, .int v]) ++ List.replicate (3 - (lg_sl ([.ref ad, .int v])).length) Slot.unset).toArray = ls at hl ⊢
  have hl : lv_has ls 3 [(0, .ref ad), (1, .int v)] := hl
  refine lv_iload_n hx hb d_De_order_0 rfl (lv_at hl 1 rfl) ?_
  refine lv_iconst (v := -1) hx hb d_De_order_1 (by decide) ?_
  refine lv_icmp_eq (tgt := 22) hx hb d_De_order_2 (by decide) (fun c_2 => ?_) (fun c_2 => ?_)
  · exact absurd c_2 hf1
  · refine lv_iload_n hx hb d_De_order_5 rfl (lv_at hl 1 rfl) ?_
    have hPc := hP.sub (ws' := []) [] rfl
    have hKc := hK.sub (tys' := []) [] rfl
    refine vp_callSi (W.runS (As := [.int v]) (rest := []) ⟨hx, hb, hml, hown, hg⟩ (c_De_isWay l DD v) (cwS 1 hg (gi_S mw_463 mw_464 mw_1 mw_465) rfl rfl rfl (by decide +kernel) ⟨Nat.le_of_ble_eq_true rfl, Nat.le_of_ble_eq_true rfl⟩) ⟨z_blind, z_pre hPc hKc⟩ rfl rfl hl.1 rfl (lv_room (Nat.le_of_ble_eq_true rfl)) d_De_order_6 ⟨Nat.zero_le _, Nat.zero_le _⟩) (fun r_6 hr_6 => ?_)
    subst hr_6
    refine z_ifb_ne (tgt := 22) hx hb d_De_order_9 (by decide) (fun c_9 => ?_) (fun c_9 => ?_)
    · exact absurd c_9 (by rw [hf]; decide)
    · obtain ⟨sa, hsa⟩ := hXK.2.2.2.2.1 (146, "no such way") (by decide)
      exact x_throw hx hb hl0 (names := exN) hown (by decide +kernel) (by decide +kernel) (hg _ mw_439) (hg _ mw_18) hsa (own_of oa_IllegalArgument hg hXK hTH) (hl.1.trans hml.symm) d_De_order_12 d_De_order_15 d_De_order_16 d_De_order_18 d_De_order_21 (covers_of_empty (B.noHandlers (hts _ List.mem_cons_self)) _) (by decide) (by decide) (by decide) (by decide) hlocks
theorem d_De_putBack_0 : decode b_De_putBack 0 = .ok (.aload_n 0, 1) := by decide +kernel
theorem d_De_putBack_1 : decode b_De_putBack 1 = .ok (.getfield 80, 3) := by decide +kernel
theorem d_De_putBack_4 : decode b_De_putBack 4 = .ok (.ifCond .ne 13, 3) := by decide +kernel
theorem d_De_putBack_7 : decode b_De_putBack 7 = .ok (.new 151, 3) := by decide +kernel
theorem d_De_putBack_10 : decode b_De_putBack 10 = .ok (.dup, 1) := by decide +kernel
theorem d_De_putBack_11 : decode b_De_putBack 11 = .ok (.ldc 159, 2) := by decide +kernel
theorem d_De_putBack_13 : decode b_De_putBack 13 = .ok (.invokespecial 155, 3) := by decide +kernel
theorem d_De_putBack_16 : decode b_De_putBack 16 = .ok (.athrow, 1) := by decide +kernel
theorem d_De_putBack_17 : decode b_De_putBack 17 = .ok (.aload_n 0, 1) := by decide +kernel
theorem d_De_putBack_18 : decode b_De_putBack 18 = .ok (.getfield 12, 3) := by decide +kernel
theorem d_De_putBack_21 : decode b_De_putBack 21 = .ok (.aload_n 0, 1) := by decide +kernel
theorem d_De_putBack_22 : decode b_De_putBack 22 = .ok (.getfield 16, 3) := by decide +kernel
theorem d_De_putBack_25 : decode b_De_putBack 25 = .ok (.invokevirtual 161, 3) := by decide +kernel
theorem d_De_putBack_28 : decode b_De_putBack 28 = .ok (.aload_n 0, 1) := by decide +kernel
theorem d_De_putBack_29 : decode b_De_putBack 29 = .ok (.getfield 29, 3) := by decide +kernel
theorem d_De_putBack_32 : decode b_De_putBack 32 = .ok (.invokevirtual 165, 3) := by decide +kernel
theorem d_De_putBack_35 : decode b_De_putBack 35 = .ok (.aload_n 0, 1) := by decide +kernel
theorem d_De_putBack_36 : decode b_De_putBack 36 = .ok (.iconst 0, 1) := by decide +kernel
theorem d_De_putBack_37 : decode b_De_putBack 37 = .ok (.putfield 80, 3) := by decide +kernel
theorem d_De_putBack_40 : decode b_De_putBack 40 = .ok (.aload_n 0, 1) := by decide +kernel
theorem d_De_putBack_41 : decode b_De_putBack 41 = .ok (.getfield 12, 3) := by decide +kernel
theorem d_De_putBack_44 : decode b_De_putBack 44 = .ok (.invokevirtual 72, 3) := by decide +kernel
theorem d_De_putBack_47 : decode b_De_putBack 47 = .ok (.ireturn, 1) := by decide +kernel
abbrev ws_De_putBack : List Cond := .code y_De_putBack b_De_putBack 1 (some .int) :: ALLG
abbrev rm_De_putBack_T : Room := { frames := 6, cells := 1, slots := 6, locals := 82 }
set_option maxHeartbeats 4000000 in
set_option maxRecDepth 100000 in
theorem c_De_putBack_T (l : Launch) (hl0 : l.stackTraces = false) (DD : va_G) (ad : Nat) (h : Nat) (h1 : Nat) (ar : Nat) (aq : Nat) (hwv : Nat) (hpn : Nat) (hod : Nat) (cm : Int64) (pb : Bool) (wa : Bool) (hf : pb = false) : MetT l y_De_putBack ws_De_putBack rm_De_putBack_T (va_Pc [.ref ad] (fun U => va_P DD vwCl [(ad, .inr (8, [.ref h, .ref h1, .ref ar, .ref aq, .ref hwv, .ref hpn, .ref hod, .long cm, .int (zb pb), .int (zb wa)]))] U.heap ∧ va_K DD vwCl [] U ∧ (XK U ∧ thO U))) "java/lang/IllegalStateException" := by
  refine MetT.ofW (cc := b_De_putBack) (maxL := 1) (ret := (some .int)) (by decide) rfl ?_
  intro p e s m args below meth c s₁ B hml hv
  obtain ⟨ha, hP, hK, hXK, hTH⟩ := hv
  have hx := B.exec
  have hb := B.bytes
  have hr := B.returns
  have hts := atoms_spec (ws := ws_De_putBack) B.pre
  have hg : ∀ w ∈ ALLG, w.before args s = true := fun w h => hts w (List.mem_cons_of_mem _ h)
  have hown : s.vm.findClass R_De = some m.cls := findClass_of_methodNamed B.named
  have hlocks := B.notSynchronized
  have hP : va_P DD vwCl [(ad, .inr (8, [.ref h, .ref h1, .ref ar, .ref aq, .ref hwv, .ref hpn, .ref hod, .long cm, .int (zb pb), .int (zb wa)]))] s.heap := hP
  have hl := lv_entry ([.ref ad]) (n := 1) (Nat.le_of_ble_eq_true rfl)
  rw [ha, lg_entry_eq, ← ha]
  generalize (lg_sl ([.ref ad]) ++ List.replicate (1 - (lg_sl ([.ref ad])).length) Slot.unset).toArray = ls at hl ⊢
  have hl : lv_has ls 1 [(0, .ref ad)] := hl
  refine lv_aload_n hx hb d_De_putBack_0 rfl (lv_at hl 0 rfl) ?_
  refine va_get (D := DD) (ci := 8) (v := .int (zb pb)) (C := R_De) (T := T_De) (N := 10) hx hb hg in_De hown hK hP 0 rfl rfl 8 (by decide) (hg _ mw_148) (fun _ h9 => h9) rfl d_De_putBack_1 ?_
  refine z_ifb_ne (tgt := 17) hx hb d_De_putBack_4 (by decide) (fun c_4 => ?_) (fun c_4 => ?_)
  · exact absurd c_4 (by rw [hf]; decide)
  · obtain ⟨sa, hsa⟩ := hXK.2.2.2.2.1 (159, "no ordering to put back") (by decide)
    exact x_throw hx hb hl0 (names := exN) hown (by decide +kernel) (by decide +kernel) (hg _ mw_509) (hg _ mw_20) hsa (own_of oa_IllegalState hg hXK hTH) (hl.1.trans hml.symm) d_De_putBack_7 d_De_putBack_10 d_De_putBack_11 d_De_putBack_13 d_De_putBack_16 (covers_of_empty (B.noHandlers (hts _ List.mem_cons_self)) _) (by decide) (by decide) (by decide) (by decide) hlocks
theorem d_De_step_0 : decode b_De_step 0 = .ok (.aload_n 0, 1) := by decide +kernel
theorem d_De_step_1 : decode b_De_step 1 = .ok (.getfield 29, 3) := by decide +kernel
theorem d_De_step_4 : decode b_De_step 4 = .ok (.iload_n 1, 1) := by decide +kernel
theorem d_De_step_5 : decode b_De_step 5 = .ok (.invokevirtual 169, 3) := by decide +kernel
theorem d_De_step_8 : decode b_De_step 8 = .ok (.ifCond .eq 12, 3) := by decide +kernel
theorem d_De_step_11 : decode b_De_step 11 = .ok (.iload_n 2, 1) := by decide +kernel
theorem d_De_step_12 : decode b_De_step 12 = .ok (.ifCond .lt 8, 3) := by decide +kernel
theorem d_De_step_15 : decode b_De_step 15 = .ok (.iload_n 2, 1) := by decide +kernel
theorem d_De_step_16 : decode b_De_step 16 = .ok (.iconst 3, 1) := by decide +kernel
theorem d_De_step_17 : decode b_De_step 17 = .ok (.if_icmp .lt 13, 3) := by decide +kernel
theorem d_De_step_20 : decode b_De_step 20 = .ok (.new 84, 3) := by decide +kernel
theorem d_De_step_23 : decode b_De_step 23 = .ok (.dup, 1) := by decide +kernel
theorem d_De_step_24 : decode b_De_step 24 = .ok (.ldc 170, 2) := by decide +kernel
theorem d_De_step_26 : decode b_De_step 26 = .ok (.invokespecial 88, 3) := by decide +kernel
theorem d_De_step_29 : decode b_De_step 29 = .ok (.athrow, 1) := by decide +kernel
theorem d_De_step_30 : decode b_De_step 30 = .ok (.aload_n 0, 1) := by decide +kernel
theorem d_De_step_31 : decode b_De_step 31 = .ok (.getfield 29, 3) := by decide +kernel
theorem d_De_step_34 : decode b_De_step 34 = .ok (.iload_n 1, 1) := by decide +kernel
theorem d_De_step_35 : decode b_De_step 35 = .ok (.iload_n 2, 1) := by decide +kernel
theorem d_De_step_36 : decode b_De_step 36 = .ok (.invokevirtual 172, 3) := by decide +kernel
theorem d_De_step_39 : decode b_De_step 39 = .ok (.ireturn, 1) := by decide +kernel
abbrev ws_De_step : List Cond := .code y_De_step b_De_step 3 (some .int) :: ALLG
abbrev rm_De_step_T : Room := { frames := 6, cells := 1, slots := 6, locals := 82 }
set_option maxHeartbeats 4000000 in
set_option maxRecDepth 100000 in
theorem c_De_step_T (l : Launch) (hl0 : l.stackTraces = false) (DD : va_G) (ad : Nat) (h : Nat) (h1 : Nat) (ar : Nat) (aq : Nat) (htf : Nat) (ctf : ClassId) (tf : Nat → Int32) (tn : Nat) (hwv : Nat) (hpn : Nat) (hod : Nat) (cm : Int64) (pb : Bool) (wa : Bool) (v : Int32) (w : Int32) (htn : tn ≤ 150) (hf : (hasB v tn && hasB w 3) = false) : MetT l y_De_step ws_De_step rm_De_step_T (va_Pc [.ref ad, .int v, .int w] (fun U => va_P DD vwCl [(ad, .inr (8, [.ref h, .ref h1, .ref ar, .ref aq, .ref hwv, .ref hpn, .ref hod, .long cm, .int (zb pb), .int (zb wa)])), (aq, .inr (6, [.ref htf, .int (nI tn)])), (htf, .inl (ctf, 450, .inl tf))] U.heap ∧ va_K DD vwCl [(ctf, .int)] U ∧ (XK U ∧ thO U))) "java/lang/IndexOutOfBoundsException" := by
  refine MetT.ofW (cc := b_De_step) (maxL := 3) (ret := (some .int)) (by decide) rfl ?_
  intro p e s m args below meth c s₁ B hml hv
  obtain ⟨ha, hP, hK, hXK, hTH⟩ := hv
  have hx := B.exec
  have hb := B.bytes
  have hr := B.returns
  have hts := atoms_spec (ws := ws_De_step) B.pre
  have hg : ∀ w ∈ ALLG, w.before args s = true := fun w h => hts w (List.mem_cons_of_mem _ h)
  have hown : s.vm.findClass R_De = some m.cls := findClass_of_methodNamed B.named
  have hlocks := B.notSynchronized
  have hP : va_P DD vwCl [(ad, .inr (8, [.ref h, .ref h1, .ref ar, .ref aq, .ref hwv, .ref hpn, .ref hod, .long cm, .int (zb pb), .int (zb wa)])), (aq, .inr (6, [.ref htf, .int (nI tn)])), (htf, .inl (ctf, 450, .inl tf))] s.heap := hP
  have hl := lv_entry ([.ref ad, .int v, .int w]) (n := 3) (Nat.le_of_ble_eq_true rfl)
  rw [ha, lg_entry_eq, ← ha]
  generalize (lg_sl ([.ref ad, .int v, .int w]) ++ List.replicate (3 - (lg_sl ([.ref ad, .int v, .int w])).length) Slot.unset).toArray = ls at hl ⊢
  have hl : lv_has ls 3 [(0, .ref ad), (1, .int v), (2, .int w)] := hl
  refine lv_aload_n hx hb d_De_step_0 rfl (lv_at hl 0 rfl) ?_
  refine va_get (D := DD) (ci := 8) (v := .ref aq) (C := R_De) (T := T_De) (N := 10) hx hb hg in_De hown hK hP 0 rfl rfl 3 (by decide) (hg _ mw_143) (fun _ h9 => h9) rfl d_De_step_1 ?_
  refine lv_iload_n hx hb d_De_step_4 rfl (lv_at hl 1 rfl) ?_
  have hPc := hP.sub (ws' := [(aq, .inr (6, [.ref htf, .int (nI tn)]))]) [1] rfl
  have hKc := hK.sub (tys' := []) [] rfl
  refine vp_callSi (W.runV (As := [.int v]) (rest := []) ⟨hx, hb, hml, hown, hg⟩ (c_Tr_has l DD aq htf tn v (by omega)) (cwV 1 hg (gi_V mw_641 mw_642 mw_643 mw_4 mw_644) rfl rfl rfl (by decide +kernel) ⟨Nat.le_of_ble_eq_true rfl, Nat.le_of_ble_eq_true rfl⟩) ⟨z_blind, va_recv hKc hPc (ci := 6) (q0 := 0) rfl rfl, z_pre hPc hKc⟩ rfl rfl hl.1 rfl (lv_room (Nat.le_of_ble_eq_true rfl)) d_De_step_5 ⟨Nat.zero_le _, Nat.zero_le _⟩) (fun r_5 hr_5 => ?_)
  subst hr_5
  refine z_ifb_eq (tgt := 20) hx hb d_De_step_8 (by decide) (fun c_8 => ?_) (fun c_8 => ?_)
  · obtain ⟨sa, hsa⟩ := hXK.2.2.2.2.1 (170, "no such step or number of it") (by decide)
    exact x_throw hx hb hl0 (names := exN) hown (by decide +kernel) (by decide +kernel) (hg _ mw_382) (hg _ mw_17) hsa (own_of oa_IndexOutOfBounds hg hXK hTH) (hl.1.trans hml.symm) d_De_step_20 d_De_step_23 d_De_step_24 d_De_step_26 d_De_step_29 (covers_of_empty (B.noHandlers (hts _ List.mem_cons_self)) _) (by decide) (by decide) (by decide) (by decide) hlocks
  · refine lv_iload_n hx hb d_De_step_11 rfl (lv_at hl 2 rfl) ?_
    refine lv_if_lt (tgt := 20) hx hb d_De_step_12 (by decide) (fun c_12 => ?_) (fun c_12 => ?_)
    · obtain ⟨sa, hsa⟩ := hXK.2.2.2.2.1 (170, "no such step or number of it") (by decide)
      exact x_throw hx hb hl0 (names := exN) hown (by decide +kernel) (by decide +kernel) (hg _ mw_382) (hg _ mw_17) hsa (own_of oa_IndexOutOfBounds hg hXK hTH) (hl.1.trans hml.symm) d_De_step_20 d_De_step_23 d_De_step_24 d_De_step_26 d_De_step_29 (covers_of_empty (B.noHandlers (hts _ List.mem_cons_self)) _) (by decide) (by decide) (by decide) (by decide) hlocks
    · refine lv_iload_n hx hb d_De_step_15 rfl (lv_at hl 2 rfl) ?_
      refine lv_iconst (v := nI 3) hx hb d_De_step_16 (by decide) ?_
      refine lv_icmp_lt (tgt := 30) hx hb d_De_step_17 (by decide) (fun c_17 => ?_) (fun c_17 => ?_)
      · exact absurd hf (by rw [c_8, hasB_lt (n := 3) (by decide) c_12 c_17]; decide)
      · obtain ⟨sa, hsa⟩ := hXK.2.2.2.2.1 (170, "no such step or number of it") (by decide)
        exact x_throw hx hb hl0 (names := exN) hown (by decide +kernel) (by decide +kernel) (hg _ mw_382) (hg _ mw_17) hsa (own_of oa_IndexOutOfBounds hg hXK hTH) (hl.1.trans hml.symm) d_De_step_20 d_De_step_23 d_De_step_24 d_De_step_26 d_De_step_29 (covers_of_empty (B.noHandlers (hts _ List.mem_cons_self)) _) (by decide) (by decide) (by decide) (by decide) hlocks
abbrev rm_De_origin_T : Room := { frames := 6, cells := 1, slots := 6, locals := 82 }
set_option maxHeartbeats 4000000 in
set_option maxRecDepth 100000 in
theorem c_De_origin_T (l : Launch) (hl0 : l.stackTraces = false) (DD : va_G) (ad : Nat) (h : Nat) (hk : Nat) (ck : ClassId) (k : Nat → Int32) (ht : Nat) (n : Nat) (h1 : Nat) (ar : Nat) (aq : Nat) (hwv : Nat) (hpn : Nat) (hod : Nat) (cm : Int64) (pb : Bool) (wa : Bool) (v : Int32) (hn : n ≤ 150) (hf : hasB v n = false) : MetT l y_De_origin ws_De_origin rm_De_origin_T (va_Pc [.ref ad, .int v] (fun U => va_P DD vwCl [(ad, .inr (8, [.ref h, .ref h1, .ref ar, .ref aq, .ref hwv, .ref hpn, .ref hod, .long cm, .int (zb pb), .int (zb wa)])), (h, .inr (4, [.ref hk, .ref ht, .int (nI n)])), (hk, .inl (ck, 150, .inl k))] U.heap ∧ va_K DD vwCl [(ck, .int)] U ∧ (XK U ∧ thO U))) "java/lang/IndexOutOfBoundsException" := by
  refine MetT.ofW (cc := b_De_origin) (maxL := 2) (ret := (some .int)) (by decide) rfl ?_
  intro p e s m args below meth c s₁ B hml hv
  obtain ⟨ha, hP, hK, hXK, hTH⟩ := hv
  have hx := B.exec
  have hb := B.bytes
  have hr := B.returns
  have hts := atoms_spec (ws := ws_De_origin) B.pre
  have hg : ∀ w ∈ ALLG, w.before args s = true := fun w h => hts w (List.mem_cons_of_mem _ h)
  have hown : s.vm.findClass R_De = some m.cls := findClass_of_methodNamed B.named
  have hlocks := B.notSynchronized
  have hP : va_P DD vwCl [(ad, .inr (8, [.ref h, .ref h1, .ref ar, .ref aq, .ref hwv, .ref hpn, .ref hod, .long cm, .int (zb pb), .int (zb wa)])), (h, .inr (4, [.ref hk, .ref ht, .int (nI n)])), (hk, .inl (ck, 150, .inl k))] s.heap := hP
  have hl := lv_entry ([.ref ad, .int v]) (n := 2) (Nat.le_of_ble_eq_true rfl)
  rw [ha, lg_entry_eq, ← ha]
  generalize (lg_sl ([.ref ad, .int v]) ++ List.replicate (2 - (lg_sl ([.ref ad, .int v])).length) Slot.unset).toArray = ls at hl ⊢
  have hl : lv_has ls 2 [(0, .ref ad), (1, .int v)] := hl
  refine lv_aload_n hx hb d_De_origin_0 rfl (lv_at hl 0 rfl) ?_
  refine va_get (D := DD) (ci := 8) (v := .ref h) (C := R_De) (T := T_De) (N := 10) hx hb hg in_De hown hK hP 0 rfl rfl 0 (by decide) (hg _ mw_140) (fun _ h9 => h9) rfl d_De_origin_1 ?_
  refine lv_iload_n hx hb d_De_origin_4 rfl (lv_at hl 1 rfl) ?_
  have hPc := hP.sub (ws' := [(h, .inr (4, [.ref hk, .ref ht, .int (nI n)])), (hk, .inl (ck, 150, .inl k))]) [1, 2] rfl
  have hKc := hK.sub (tys' := [(ck, .int)]) [0] rfl
  refine vp_callSi (W.runV (As := [.int v]) (rest := []) ⟨hx, hb, hml, hown, hg⟩ (c_Ro_has l DD h hk ht ck n k v (by omega)) (cwV 1 hg (gi_V mw_405 mw_406 mw_407 mw_2 mw_408) rfl rfl rfl (by decide +kernel) ⟨Nat.le_of_ble_eq_true rfl, Nat.le_of_ble_eq_true rfl⟩) ⟨z_blind, va_recv hKc hPc (ci := 4) (q0 := 0) rfl rfl, z_pre hPc hKc⟩ rfl rfl hl.1 rfl (lv_room (Nat.le_of_ble_eq_true rfl)) d_De_origin_5 ⟨Nat.zero_le _, Nat.zero_le _⟩) (fun r_5 hr_5 => ?_)
  subst hr_5
  refine z_ifb_ne (tgt := 21) hx hb d_De_origin_8 (by decide) (fun c_8 => ?_) (fun c_8 => ?_)
  · exact absurd c_8 (by rw [hf]; decide)
  · obtain ⟨sa, hsa⟩ := hXK.2.2.2.2.1 (86, "no such place") (by decide)
    exact x_throw hx hb hl0 (names := exN) hown (by decide +kernel) (by decide +kernel) (hg _ mw_382) (hg _ mw_17) hsa (own_of oa_IndexOutOfBounds hg hXK hTH) (hl.1.trans hml.symm) d_De_origin_11 d_De_origin_14 d_De_origin_15 d_De_origin_17 d_De_origin_20 (covers_of_empty (B.noHandlers (hts _ List.mem_cons_self)) _) (by decide) (by decide) (by decide) (by decide) hlocks
abbrev rm_De_times_T : Room := { frames := 6, cells := 1, slots := 6, locals := 82 }
set_option maxHeartbeats 4000000 in
set_option maxRecDepth 100000 in
theorem c_De_times_T (l : Launch) (hl0 : l.stackTraces = false) (DD : va_G) (ad : Nat) (h : Nat) (h1 : Nat) (ar : Nat) (aq : Nat) (hwv : Nat) (hpn : Nat) (hod : Nat) (cm : Int64) (pb : Bool) (wa : Bool) (v : Int32) (hf : hasB v 5 = false) : MetT l y_De_times ws_De_times rm_De_times_T (va_Pc [.ref ad, .int v] (fun U => va_P DD vwCl [(ad, .inr (8, [.ref h, .ref h1, .ref ar, .ref aq, .ref hwv, .ref hpn, .ref hod, .long cm, .int (zb pb), .int (zb wa)]))] U.heap ∧ va_K DD vwCl [] U ∧ (XK U ∧ thO U))) "java/lang/IllegalArgumentException" := by
  refine MetT.ofW (cc := b_De_times) (maxL := 2) (ret := (some .int)) (by decide) rfl ?_
  intro p e s m args below meth c s₁ B hml hv
  obtain ⟨ha, hP, hK, hXK, hTH⟩ := hv
  have hx := B.exec
  have hb := B.bytes
  have hr := B.returns
  have hts := atoms_spec (ws := ws_De_times) B.pre
  have hg : ∀ w ∈ ALLG, w.before args s = true := fun w h => hts w (List.mem_cons_of_mem _ h)
  have hown : s.vm.findClass R_De = some m.cls := findClass_of_methodNamed B.named
  have hlocks := B.notSynchronized
  have hP : va_P DD vwCl [(ad, .inr (8, [.ref h, .ref h1, .ref ar, .ref aq, .ref hwv, .ref hpn, .ref hod, .long cm, .int (zb pb), .int (zb wa)]))] s.heap := hP
  have hl := lv_entry ([.ref ad, .int v]) (n := 2) (Nat.le_of_ble_eq_true rfl)
  rw [ha, lg_entry_eq, ← ha]
  generalize (lg_sl ([.ref ad, .int v]) ++ List.replicate (2 - (lg_sl ([.ref ad, .int v])).length) Slot.unset).toArray = ls at hl ⊢
  have hl : lv_has ls 2 [(0, .ref ad), (1, .int v)] := hl
  refine lv_iload_n hx hb d_De_times_0 rfl (lv_at hl 1 rfl) ?_
  have hPc := hP.sub (ws' := []) [] rfl
  have hKc := hK.sub (tys' := []) [] rfl
  refine vp_callSi (W.runS (As := [.int v]) (rest := []) ⟨hx, hb, hml, hown, hg⟩ (c_De_isWay l DD v) (cwS 1 hg (gi_S mw_463 mw_464 mw_1 mw_465) rfl rfl rfl (by decide +kernel) ⟨Nat.le_of_ble_eq_true rfl, Nat.le_of_ble_eq_true rfl⟩) ⟨z_blind, z_pre hPc hKc⟩ rfl rfl hl.1 rfl (lv_room (Nat.le_of_ble_eq_true rfl)) d_De_times_1 ⟨Nat.zero_le _, Nat.zero_le _⟩) (fun r_1 hr_1 => ?_)
  subst hr_1
  refine z_ifb_ne (tgt := 17) hx hb d_De_times_4 (by decide) (fun c_4 => ?_) (fun c_4 => ?_)
  · exact absurd c_4 (by rw [hf]; decide)
  · obtain ⟨sa, hsa⟩ := hXK.2.2.2.2.1 (146, "no such way") (by decide)
    exact x_throw hx hb hl0 (names := exN) hown (by decide +kernel) (by decide +kernel) (hg _ mw_439) (hg _ mw_18) hsa (own_of oa_IllegalArgument hg hXK hTH) (hl.1.trans hml.symm) d_De_times_7 d_De_times_10 d_De_times_11 d_De_times_13 d_De_times_16 (covers_of_empty (B.noHandlers (hts _ List.mem_cons_self)) _) (by decide) (by decide) (by decide) (by decide) hlocks
