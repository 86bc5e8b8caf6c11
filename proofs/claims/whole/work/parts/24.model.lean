theorem d_Mo_thrown_0 : decode b_Mo_thrown 0 = .ok (.aload_n 0, 1) := by decide +kernel
theorem d_Mo_thrown_1 : decode b_Mo_thrown 1 = .ok (.getfield 50, 3) := by decide +kernel
theorem d_Mo_thrown_4 : decode b_Mo_thrown 4 = .ok (.ireturn, 1) := by decide +kernel
abbrev ws_Mo_thrown : List Cond := .code y_Mo_thrown b_Mo_thrown 1 (some .int) :: ALLG
abbrev rm_Mo_thrown : Room := { frames := 0, cells := 0, slots := 0, locals := 0 }
set_option maxHeartbeats 4000000 in
set_option maxRecDepth 100000 in
theorem c_Mo_thrown (l : Launch) (DD : va_G) (am : Nat) (th : Nat) (n : Nat) (hk : Nat) (ht : Nat) (n1 : Nat) (hk1 : Nat) (ht1 : Nat) (pb : Bool) (rn : Nat) (hfg : Nat) (hle : Nat) (hmo : Nat) (hwy : Nat) (tn : Nat) (htf : Nat) (cm : Int64) (hod : Nat) (hwk : Nat) (hot : Nat) (ru : Nat) (hen : Nat) : Met l y_Mo_thrown ws_Mo_thrown rm_Mo_thrown (va_Pc [.ref am] (fun U => va_P DD vwCl [(am, .inr (9, [.int (nI th), .int (nI n), .ref hk, .ref ht, .int (nI n1), .ref hk1, .ref ht1, .int (zb pb), .int (nI rn), .ref hfg, .ref hle, .ref hmo, .ref hwy, .int (nI tn), .ref htf, .long cm, .ref hod, .ref hwk, .ref hot, .int (nI ru), .ref hen]))] U.heap ∧ va_K DD vwCl [] U)) (vp_Si (fun r9 => r9 = nI th)) 0 0 (fun _ => False) := by
  refine Met.ofW (cc := b_Mo_thrown) (maxL := 1) (ret := (some .int)) (by decide) rfl ?_
  intro p e s m args below meth c s₁ B hml hv
  obtain ⟨ha, hP, hK⟩ := hv
  have hx := B.exec
  have hb := B.bytes
  have hr := B.returns
  have hts := atoms_spec (ws := ws_Mo_thrown) B.pre
  have hg : ∀ w ∈ ALLG, w.before args s = true := fun w h => hts w (List.mem_cons_of_mem _ h)
  have hown : s.vm.findClass R_Mo = some m.cls := findClass_of_methodNamed B.named
  have hlocks := B.notSynchronized
  have hP : va_P DD vwCl [(am, .inr (9, [.int (nI th), .int (nI n), .ref hk, .ref ht, .int (nI n1), .ref hk1, .ref ht1, .int (zb pb), .int (nI rn), .ref hfg, .ref hle, .ref hmo, .ref hwy, .int (nI tn), .ref htf, .long cm, .ref hod, .ref hwk, .ref hot, .int (nI ru), .ref hen]))] s.heap := hP
  have hl := lv_entry ([.ref am]) (n := 1) (Nat.le_of_ble_eq_true rfl)
  rw [ha, lg_entry_eq, ← ha]
  generalize (lg_sl ([.ref am]) ++ List.replicate (1 - (lg_sl ([.ref am])).length) Slot.unset).toArray = ls at hl ⊢
  have hl : lv_has ls 1 [(0, .ref am)] := hl
  refine lv_aload_n hx hb d_Mo_thrown_0 rfl (lv_at hl 0 rfl) ?_
  refine va_get (D := DD) (ci := 9) (v := .int (nI th)) (C := R_Mo) (T := T_Mo) (N := 21) hx hb hg in_Mo hown hK hP 0 rfl rfl 0 (by decide) (hg _ mw_679) (fun _ h9 => h9) rfl d_Mo_thrown_1 ?_
  exact W.iret (v := nI th) hx hb hr (fun t9 ht9 hW9 => ⟨_, rfl, rfl, ht9⟩) (fun _ h => nomatch h) d_Mo_thrown_4
theorem d_Mo_descents_0 : decode b_Mo_descents 0 = .ok (.iconst 0, 1) := by decide +kernel
theorem d_Mo_descents_1 : decode b_Mo_descents 1 = .ok (.istore_n 1, 1) := by decide +kernel
theorem d_Mo_descents_2 : decode b_Mo_descents 2 = .ok (.iconst 1, 1) := by decide +kernel
theorem d_Mo_descents_3 : decode b_Mo_descents 3 = .ok (.istore_n 2, 1) := by decide +kernel
theorem d_Mo_descents_4 : decode b_Mo_descents 4 = .ok (.iload_n 2, 1) := by decide +kernel
theorem d_Mo_descents_5 : decode b_Mo_descents 5 = .ok (.aload_n 0, 1) := by decide +kernel
theorem d_Mo_descents_6 : decode b_Mo_descents 6 = .ok (.getfield 54, 3) := by decide +kernel
theorem d_Mo_descents_9 : decode b_Mo_descents 9 = .ok (.if_icmp .ge 34, 3) := by decide +kernel
theorem d_Mo_descents_12 : decode b_Mo_descents 12 = .ok (.aload_n 0, 1) := by decide +kernel
theorem d_Mo_descents_13 : decode b_Mo_descents 13 = .ok (.getfield 7, 3) := by decide +kernel
theorem d_Mo_descents_16 : decode b_Mo_descents 16 = .ok (.iload_n 2, 1) := by decide +kernel
theorem d_Mo_descents_17 : decode b_Mo_descents 17 = .ok (.iconst 1, 1) := by decide +kernel
theorem d_Mo_descents_18 : decode b_Mo_descents 18 = .ok (.isub, 1) := by decide +kernel
theorem d_Mo_descents_19 : decode b_Mo_descents 19 = .ok (.iaload, 1) := by decide +kernel
theorem d_Mo_descents_20 : decode b_Mo_descents 20 = .ok (.aload_n 0, 1) := by decide +kernel
theorem d_Mo_descents_21 : decode b_Mo_descents 21 = .ok (.getfield 7, 3) := by decide +kernel
theorem d_Mo_descents_24 : decode b_Mo_descents 24 = .ok (.iload_n 2, 1) := by decide +kernel
theorem d_Mo_descents_25 : decode b_Mo_descents 25 = .ok (.iaload, 1) := by decide +kernel
theorem d_Mo_descents_26 : decode b_Mo_descents 26 = .ok (.if_icmp .le 9, 3) := by decide +kernel
theorem d_Mo_descents_29 : decode b_Mo_descents 29 = .ok (.iload_n 1, 1) := by decide +kernel
theorem d_Mo_descents_30 : decode b_Mo_descents 30 = .ok (.iconst 1, 1) := by decide +kernel
theorem d_Mo_descents_31 : decode b_Mo_descents 31 = .ok (.iadd, 1) := by decide +kernel
theorem d_Mo_descents_32 : decode b_Mo_descents 32 = .ok (.goto 4, 3) := by decide +kernel
theorem d_Mo_descents_35 : decode b_Mo_descents 35 = .ok (.iload_n 1, 1) := by decide +kernel
theorem d_Mo_descents_36 : decode b_Mo_descents 36 = .ok (.istore_n 1, 1) := by decide +kernel
theorem d_Mo_descents_37 : decode b_Mo_descents 37 = .ok (.iinc 2 1, 3) := by decide +kernel
theorem d_Mo_descents_40 : decode b_Mo_descents 40 = .ok (.goto (-36), 3) := by decide +kernel
theorem d_Mo_descents_43 : decode b_Mo_descents 43 = .ok (.iload_n 1, 1) := by decide +kernel
theorem d_Mo_descents_44 : decode b_Mo_descents 44 = .ok (.ireturn, 1) := by decide +kernel
abbrev ws_Mo_descents : List Cond := .code y_Mo_descents b_Mo_descents 3 (some .int) :: ALLG
abbrev rm_Mo_descents : Room := { frames := 0, cells := 0, slots := 0, locals := 0 }
set_option maxHeartbeats 4000000 in
set_option maxRecDepth 100000 in
theorem c_Mo_descents (l : Launch) (DD : va_G) (am : Nat) (th : Nat) (n : Nat) (hk : Nat) (ck : ClassId) (k : Nat → Int32) (ht : Nat) (n1 : Nat) (hk1 : Nat) (ht1 : Nat) (pb : Bool) (rn : Nat) (hfg : Nat) (hle : Nat) (hmo : Nat) (hwy : Nat) (tn : Nat) (htf : Nat) (cm : Int64) (hod : Nat) (hwk : Nat) (hot : Nat) (ru : Nat) (hen : Nat) (hn : n ≤ 150) : Met l y_Mo_descents ws_Mo_descents rm_Mo_descents (va_Pc [.ref am] (fun U => va_P DD vwCl [(am, .inr (9, [.int (nI th), .int (nI n), .ref hk, .ref ht, .int (nI n1), .ref hk1, .ref ht1, .int (zb pb), .int (nI rn), .ref hfg, .ref hle, .ref hmo, .ref hwy, .int (nI tn), .ref htf, .long cm, .ref hod, .ref hwk, .ref hot, .int (nI ru), .ref hen])), (hk, .inl (ck, 150, .inl k))] U.heap ∧ va_K DD vwCl [(ck, .int)] U)) (vp_Si (fun r9 => r9 = nI (cnt (dropB k) n))) 0 0 (fun _ => False) := by
  refine Met.ofW (cc := b_Mo_descents) (maxL := 3) (ret := (some .int)) (by decide) rfl ?_
  intro p e s m args below meth c s₁ B hml hv
  obtain ⟨ha, hP, hK⟩ := hv
  have hx := B.exec
  have hb := B.bytes
  have hr := B.returns
  have hts := atoms_spec (ws := ws_Mo_descents) B.pre
  have hg : ∀ w ∈ ALLG, w.before args s = true := fun w h => hts w (List.mem_cons_of_mem _ h)
  have hown : s.vm.findClass R_Mo = some m.cls := findClass_of_methodNamed B.named
  have hlocks := B.notSynchronized
  have hP : va_P DD vwCl [(am, .inr (9, [.int (nI th), .int (nI n), .ref hk, .ref ht, .int (nI n1), .ref hk1, .ref ht1, .int (zb pb), .int (nI rn), .ref hfg, .ref hle, .ref hmo, .ref hwy, .int (nI tn), .ref htf, .long cm, .ref hod, .ref hwk, .ref hot, .int (nI ru), .ref hen])), (hk, .inl (ck, 150, .inl k))] s.heap := hP
  have hl := lv_entry ([.ref am]) (n := 3) (Nat.le_of_ble_eq_true rfl)
  rw [ha, lg_entry_eq, ← ha]
  generalize (lg_sl ([.ref am]) ++ List.replicate (3 - (lg_sl ([.ref am])).length) Slot.unset).toArray = ls at hl ⊢
  have hl : lv_has ls 3 [(0, .ref am)] := hl
  have K4 : ∀ (kk : Nat) (i : Nat) (q : Nat), (hi : 1 ≤ i) → (hin : i ≤ n ∨ (i = 1 ∧ n = 0)) → (hc : q = cnt (dropB k) i) → n - i < kk → ∀ (ls : Array Slot), lv_has ls 3 [(0, .ref am), (1, .int (nI q)), (2, .int (nI i))] → W p l e (headSpec ws_Mo_descents rm_Mo_descents).room s m args below meth c s.heap [] 0 0 (MQ below (vp_Si (fun r9 => r9 = nI (cnt (dropB k) n))) args s 0 0 (fun _ => False)) (F0 m 4 ls []) := by
    intro kk
    induction kk with
    | zero => intros; omega
    | succ kk ih4 =>
      intro i q hi hin hc hkk ls hl
      refine lv_iload_n hx hb d_Mo_descents_4 rfl (lv_at hl 2 rfl) ?_
      refine lv_aload_n hx hb d_Mo_descents_5 rfl (lv_at hl 0 rfl) ?_
      refine va_get (D := DD) (ci := 9) (v := .int (nI n)) (C := R_Mo) (T := T_Mo) (N := 21) hx hb hg in_Mo hown hK hP 0 rfl rfl 1 (by decide) (hg _ mw_680) (fun _ h9 => h9) rfl d_Mo_descents_6 ?_
      refine z_icmp_ge (tgt := 43) hx hb d_Mo_descents_9 (by decide) (by omega) (by omega) (fun c_9 => ?_) (fun c_9 => ?_)
      · refine lv_iload_n hx hb d_Mo_descents_43 rfl (lv_at hl 1 rfl) ?_
        exact W.iret (v := nI q) hx hb hr (fun t9 ht9 hW9 => ⟨_, rfl, (by exact congrArg nI (one_exit (dropB_0 k) hc c_9 hin)), ht9⟩) (fun _ h => nomatch h) d_Mo_descents_44
      · refine lv_aload_n hx hb d_Mo_descents_12 rfl (lv_at hl 0 rfl) ?_
        refine va_get (D := DD) (ci := 9) (v := .ref hk) (C := R_Mo) (T := T_Mo) (N := 21) hx hb hg in_Mo hown hK hP 0 rfl rfl 2 (by decide) (hg _ mw_681) (fun _ h9 => h9) rfl d_Mo_descents_13 ?_
        refine lv_iload_n hx hb d_Mo_descents_16 rfl (lv_at hl 2 rfl) ?_
        refine lv_iconst (v := nI 1) hx hb d_Mo_descents_17 (by decide) ?_
        refine z_isub hx hb d_Mo_descents_18 (by omega) ?_
        refine z_iald hx hb hK hP 1 0 rfl rfl (by omega) (by decide) d_Mo_descents_19 ?_
        refine lv_aload_n hx hb d_Mo_descents_20 rfl (lv_at hl 0 rfl) ?_
        refine va_get (D := DD) (ci := 9) (v := .ref hk) (C := R_Mo) (T := T_Mo) (N := 21) hx hb hg in_Mo hown hK hP 0 rfl rfl 2 (by decide) (hg _ mw_681) (fun _ h9 => h9) rfl d_Mo_descents_21 ?_
        refine lv_iload_n hx hb d_Mo_descents_24 rfl (lv_at hl 2 rfl) ?_
        refine z_iald hx hb hK hP 1 0 rfl rfl (by omega) (by decide) d_Mo_descents_25 ?_
        refine lv_icmp_le (tgt := 35) hx hb d_Mo_descents_26 (by decide) (fun c_26 => ?_) (fun c_26 => ?_)
        · refine lv_iload_n hx hb d_Mo_descents_35 rfl (lv_at hl 1 rfl) ?_
          refine lv_istore_n (lv' := [(1, .int (nI q)), (0, .ref am), (2, .int (nI i))]) hx hb d_Mo_descents_36 rfl hl (by decide) rfl (fun ls hl => ?_)
          refine lv_iinc (v := nI (i + 1)) (lv' := [(2, .int (nI (i + 1))), (1, .int (nI q)), (0, .ref am)]) hx hb d_Mo_descents_37 hl (k := 2) rfl (by exact nI_add i 1) (by decide) rfl (fun ls hl => ?_)
          refine lv_goto (tgt := 4) hx hb d_Mo_descents_40 (by decide) ?_
          exact ih4 (i + 1) q (by omega) (by omega) (by first | exact cnt_t hc (dropB_tt hi c_26) | exact cnt_f hc (dropB_ff c_26)) (by omega) ls (lv_sub hl [2, 1, 0] rfl)
        · refine lv_iload_n hx hb d_Mo_descents_29 rfl (lv_at hl 1 rfl) ?_
          refine lv_iconst (v := nI 1) hx hb d_Mo_descents_30 (by decide) ?_
          refine z_iadd hx hb d_Mo_descents_31 ?_
          refine lv_goto (tgt := 36) hx hb d_Mo_descents_32 (by decide) ?_
          refine lv_istore_n (lv' := [(1, .int (nI (q + 1))), (0, .ref am), (2, .int (nI i))]) hx hb d_Mo_descents_36 rfl hl (by decide) rfl (fun ls hl => ?_)
          refine lv_iinc (v := nI (i + 1)) (lv' := [(2, .int (nI (i + 1))), (1, .int (nI (q + 1))), (0, .ref am)]) hx hb d_Mo_descents_37 hl (k := 2) rfl (by exact nI_add i 1) (by decide) rfl (fun ls hl => ?_)
          refine lv_goto (tgt := 4) hx hb d_Mo_descents_40 (by decide) ?_
          exact ih4 (i + 1) (q + 1) (by omega) (by omega) (by first | exact cnt_t hc (dropB_tt hi c_26) | exact cnt_f hc (dropB_ff c_26)) (by omega) ls (lv_sub hl [2, 1, 0] rfl)
  refine lv_iconst (v := nI 0) hx hb d_Mo_descents_0 (by decide) ?_
  refine lv_istore_n (lv' := [(1, .int (nI 0)), (0, .ref am)]) hx hb d_Mo_descents_1 rfl hl (by decide) rfl (fun ls hl => ?_)
  refine lv_iconst (v := nI 1) hx hb d_Mo_descents_2 (by decide) ?_
  refine lv_istore_n (lv' := [(2, .int (nI 1)), (1, .int (nI 0)), (0, .ref am)]) hx hb d_Mo_descents_3 rfl hl (by decide) rfl (fun ls hl => ?_)
  exact K4 _ 1 0 (by omega) (by omega) (by rfl) (Nat.lt_succ_self _) ls (lv_sub hl [2, 1, 0] rfl)
theorem d_Mo_falls_0 : decode b_Mo_falls 0 = .ok (.iconst 0, 1) := by decide +kernel
theorem d_Mo_falls_1 : decode b_Mo_falls 1 = .ok (.istore_n 1, 1) := by decide +kernel
theorem d_Mo_falls_2 : decode b_Mo_falls 2 = .ok (.iconst 1, 1) := by decide +kernel
theorem d_Mo_falls_3 : decode b_Mo_falls 3 = .ok (.istore_n 2, 1) := by decide +kernel
theorem d_Mo_falls_4 : decode b_Mo_falls 4 = .ok (.iload_n 2, 1) := by decide +kernel
theorem d_Mo_falls_5 : decode b_Mo_falls 5 = .ok (.aload_n 0, 1) := by decide +kernel
theorem d_Mo_falls_6 : decode b_Mo_falls 6 = .ok (.getfield 54, 3) := by decide +kernel
theorem d_Mo_falls_9 : decode b_Mo_falls 9 = .ok (.if_icmp .ge 80, 3) := by decide +kernel
theorem d_Mo_falls_12 : decode b_Mo_falls 12 = .ok (.aload_n 0, 1) := by decide +kernel
theorem d_Mo_falls_13 : decode b_Mo_falls 13 = .ok (.getfield 7, 3) := by decide +kernel
theorem d_Mo_falls_16 : decode b_Mo_falls 16 = .ok (.iload_n 2, 1) := by decide +kernel
theorem d_Mo_falls_17 : decode b_Mo_falls 17 = .ok (.iconst 1, 1) := by decide +kernel
theorem d_Mo_falls_18 : decode b_Mo_falls 18 = .ok (.isub, 1) := by decide +kernel
theorem d_Mo_falls_19 : decode b_Mo_falls 19 = .ok (.iaload, 1) := by decide +kernel
theorem d_Mo_falls_20 : decode b_Mo_falls 20 = .ok (.aload_n 0, 1) := by decide +kernel
theorem d_Mo_falls_21 : decode b_Mo_falls 21 = .ok (.getfield 7, 3) := by decide +kernel
theorem d_Mo_falls_24 : decode b_Mo_falls 24 = .ok (.iload_n 2, 1) := by decide +kernel
theorem d_Mo_falls_25 : decode b_Mo_falls 25 = .ok (.iaload, 1) := by decide +kernel
theorem d_Mo_falls_26 : decode b_Mo_falls 26 = .ok (.if_icmp .le 7, 3) := by decide +kernel
theorem d_Mo_falls_29 : decode b_Mo_falls 29 = .ok (.iconst 1, 1) := by decide +kernel
theorem d_Mo_falls_30 : decode b_Mo_falls 30 = .ok (.goto 4, 3) := by decide +kernel
theorem d_Mo_falls_33 : decode b_Mo_falls 33 = .ok (.iconst 0, 1) := by decide +kernel
theorem d_Mo_falls_34 : decode b_Mo_falls 34 = .ok (.istore_n 3, 1) := by decide +kernel
theorem d_Mo_falls_35 : decode b_Mo_falls 35 = .ok (.iload_n 2, 1) := by decide +kernel
theorem d_Mo_falls_36 : decode b_Mo_falls 36 = .ok (.iconst 1, 1) := by decide +kernel
theorem d_Mo_falls_37 : decode b_Mo_falls 37 = .ok (.if_icmp .le 26, 3) := by decide +kernel
theorem d_Mo_falls_40 : decode b_Mo_falls 40 = .ok (.aload_n 0, 1) := by decide +kernel
theorem d_Mo_falls_41 : decode b_Mo_falls 41 = .ok (.getfield 7, 3) := by decide +kernel
theorem d_Mo_falls_44 : decode b_Mo_falls 44 = .ok (.iload_n 2, 1) := by decide +kernel
theorem d_Mo_falls_45 : decode b_Mo_falls 45 = .ok (.iconst 2, 1) := by decide +kernel
theorem d_Mo_falls_46 : decode b_Mo_falls 46 = .ok (.isub, 1) := by decide +kernel
theorem d_Mo_falls_47 : decode b_Mo_falls 47 = .ok (.iaload, 1) := by decide +kernel
theorem d_Mo_falls_48 : decode b_Mo_falls 48 = .ok (.aload_n 0, 1) := by decide +kernel
theorem d_Mo_falls_49 : decode b_Mo_falls 49 = .ok (.getfield 7, 3) := by decide +kernel
theorem d_Mo_falls_52 : decode b_Mo_falls 52 = .ok (.iload_n 2, 1) := by decide +kernel
theorem d_Mo_falls_53 : decode b_Mo_falls 53 = .ok (.iconst 1, 1) := by decide +kernel
theorem d_Mo_falls_54 : decode b_Mo_falls 54 = .ok (.isub, 1) := by decide +kernel
theorem d_Mo_falls_55 : decode b_Mo_falls 55 = .ok (.iaload, 1) := by decide +kernel
theorem d_Mo_falls_56 : decode b_Mo_falls 56 = .ok (.if_icmp .le 7, 3) := by decide +kernel
theorem d_Mo_falls_59 : decode b_Mo_falls 59 = .ok (.iconst 1, 1) := by decide +kernel
theorem d_Mo_falls_60 : decode b_Mo_falls 60 = .ok (.goto 4, 3) := by decide +kernel
theorem d_Mo_falls_63 : decode b_Mo_falls 63 = .ok (.iconst 0, 1) := by decide +kernel
theorem d_Mo_falls_64 : decode b_Mo_falls 64 = .ok (.istore 4, 2) := by decide +kernel
theorem d_Mo_falls_66 : decode b_Mo_falls 66 = .ok (.iload_n 3, 1) := by decide +kernel
theorem d_Mo_falls_67 : decode b_Mo_falls 67 = .ok (.ifCond .eq 14, 3) := by decide +kernel
theorem d_Mo_falls_70 : decode b_Mo_falls 70 = .ok (.iload 4, 2) := by decide +kernel
theorem d_Mo_falls_72 : decode b_Mo_falls 72 = .ok (.ifCond .ne 9, 3) := by decide +kernel
theorem d_Mo_falls_75 : decode b_Mo_falls 75 = .ok (.iload_n 1, 1) := by decide +kernel
theorem d_Mo_falls_76 : decode b_Mo_falls 76 = .ok (.iconst 1, 1) := by decide +kernel
theorem d_Mo_falls_77 : decode b_Mo_falls 77 = .ok (.iadd, 1) := by decide +kernel
theorem d_Mo_falls_78 : decode b_Mo_falls 78 = .ok (.goto 4, 3) := by decide +kernel
theorem d_Mo_falls_81 : decode b_Mo_falls 81 = .ok (.iload_n 1, 1) := by decide +kernel
theorem d_Mo_falls_82 : decode b_Mo_falls 82 = .ok (.istore_n 1, 1) := by decide +kernel
theorem d_Mo_falls_83 : decode b_Mo_falls 83 = .ok (.iinc 2 1, 3) := by decide +kernel
theorem d_Mo_falls_86 : decode b_Mo_falls 86 = .ok (.goto (-82), 3) := by decide +kernel
theorem d_Mo_falls_89 : decode b_Mo_falls 89 = .ok (.iload_n 1, 1) := by decide +kernel
theorem d_Mo_falls_90 : decode b_Mo_falls 90 = .ok (.ireturn, 1) := by decide +kernel
abbrev ws_Mo_falls : List Cond := .code y_Mo_falls b_Mo_falls 5 (some .int) :: ALLG
abbrev rm_Mo_falls : Room := { frames := 0, cells := 0, slots := 0, locals := 0 }
set_option maxHeartbeats 4000000 in
set_option maxRecDepth 100000 in
theorem c_Mo_falls (l : Launch) (DD : va_G) (am : Nat) (th : Nat) (n : Nat) (hk : Nat) (ck : ClassId) (k : Nat → Int32) (ht : Nat) (n1 : Nat) (hk1 : Nat) (ht1 : Nat) (pb : Bool) (rn : Nat) (hfg : Nat) (hle : Nat) (hmo : Nat) (hwy : Nat) (tn : Nat) (htf : Nat) (cm : Int64) (hod : Nat) (hwk : Nat) (hot : Nat) (ru : Nat) (hen : Nat) (hn : n ≤ 150) : Met l y_Mo_falls ws_Mo_falls rm_Mo_falls (va_Pc [.ref am] (fun U => va_P DD vwCl [(am, .inr (9, [.int (nI th), .int (nI n), .ref hk, .ref ht, .int (nI n1), .ref hk1, .ref ht1, .int (zb pb), .int (nI rn), .ref hfg, .ref hle, .ref hmo, .ref hwy, .int (nI tn), .ref htf, .long cm, .ref hod, .ref hwk, .ref hot, .int (nI ru), .ref hen])), (hk, .inl (ck, 150, .inl k))] U.heap ∧ va_K DD vwCl [(ck, .int)] U)) (vp_Si (fun r9 => r9 = nI (cnt (fallB k) n))) 0 0 (fun _ => False) := by
  refine Met.ofW (cc := b_Mo_falls) (maxL := 5) (ret := (some .int)) (by decide) rfl ?_
  intro p e s m args below meth c s₁ B hml hv
  obtain ⟨ha, hP, hK⟩ := hv
  have hx := B.exec
  have hb := B.bytes
  have hr := B.returns
  have hts := atoms_spec (ws := ws_Mo_falls) B.pre
  have hg : ∀ w ∈ ALLG, w.before args s = true := fun w h => hts w (List.mem_cons_of_mem _ h)
  have hown : s.vm.findClass R_Mo = some m.cls := findClass_of_methodNamed B.named
  have hlocks := B.notSynchronized
  have hP : va_P DD vwCl [(am, .inr (9, [.int (nI th), .int (nI n), .ref hk, .ref ht, .int (nI n1), .ref hk1, .ref ht1, .int (zb pb), .int (nI rn), .ref hfg, .ref hle, .ref hmo, .ref hwy, .int (nI tn), .ref htf, .long cm, .ref hod, .ref hwk, .ref hot, .int (nI ru), .ref hen])), (hk, .inl (ck, 150, .inl k))] s.heap := hP
  have hl := lv_entry ([.ref am]) (n := 5) (Nat.le_of_ble_eq_true rfl)
  rw [ha, lg_entry_eq, ← ha]
  generalize (lg_sl ([.ref am]) ++ List.replicate (5 - (lg_sl ([.ref am])).length) Slot.unset).toArray = ls at hl ⊢
  have hl : lv_has ls 5 [(0, .ref am)] := hl
  have K4 : ∀ (kk : Nat) (i : Nat) (q : Nat), (hi : 1 ≤ i) → (hin : i ≤ n ∨ (i = 1 ∧ n = 0)) → (hc : q = cnt (fallB k) i) → n - i < kk → ∀ (ls : Array Slot), lv_has ls 5 [(0, .ref am), (1, .int (nI q)), (2, .int (nI i))] → W p l e (headSpec ws_Mo_falls rm_Mo_falls).room s m args below meth c s.heap [] 0 0 (MQ below (vp_Si (fun r9 => r9 = nI (cnt (fallB k) n))) args s 0 0 (fun _ => False)) (F0 m 4 ls []) := by
    intro kk
    induction kk with
    | zero => intros; omega
    | succ kk ih4 =>
      intro i q hi hin hc hkk ls hl
      refine lv_iload_n hx hb d_Mo_falls_4 rfl (lv_at hl 2 rfl) ?_
      refine lv_aload_n hx hb d_Mo_falls_5 rfl (lv_at hl 0 rfl) ?_
      refine va_get (D := DD) (ci := 9) (v := .int (nI n)) (C := R_Mo) (T := T_Mo) (N := 21) hx hb hg in_Mo hown hK hP 0 rfl rfl 1 (by decide) (hg _ mw_680) (fun _ h9 => h9) rfl d_Mo_falls_6 ?_
      refine z_icmp_ge (tgt := 89) hx hb d_Mo_falls_9 (by decide) (by omega) (by omega) (fun c_9 => ?_) (fun c_9 => ?_)
      · refine lv_iload_n hx hb d_Mo_falls_89 rfl (lv_at hl 1 rfl) ?_
        exact W.iret (v := nI q) hx hb hr (fun t9 ht9 hW9 => ⟨_, rfl, (by exact congrArg nI (one_exit rfl hc c_9 hin)), ht9⟩) (fun _ h => nomatch h) d_Mo_falls_90
      · refine lv_aload_n hx hb d_Mo_falls_12 rfl (lv_at hl 0 rfl) ?_
        refine va_get (D := DD) (ci := 9) (v := .ref hk) (C := R_Mo) (T := T_Mo) (N := 21) hx hb hg in_Mo hown hK hP 0 rfl rfl 2 (by decide) (hg _ mw_681) (fun _ h9 => h9) rfl d_Mo_falls_13 ?_
        refine lv_iload_n hx hb d_Mo_falls_16 rfl (lv_at hl 2 rfl) ?_
        refine lv_iconst (v := nI 1) hx hb d_Mo_falls_17 (by decide) ?_
        refine z_isub hx hb d_Mo_falls_18 (by omega) ?_
        refine z_iald hx hb hK hP 1 0 rfl rfl (by omega) (by decide) d_Mo_falls_19 ?_
        refine lv_aload_n hx hb d_Mo_falls_20 rfl (lv_at hl 0 rfl) ?_
        refine va_get (D := DD) (ci := 9) (v := .ref hk) (C := R_Mo) (T := T_Mo) (N := 21) hx hb hg in_Mo hown hK hP 0 rfl rfl 2 (by decide) (hg _ mw_681) (fun _ h9 => h9) rfl d_Mo_falls_21 ?_
        refine lv_iload_n hx hb d_Mo_falls_24 rfl (lv_at hl 2 rfl) ?_
        refine z_iald hx hb hK hP 1 0 rfl rfl (by omega) (by decide) d_Mo_falls_25 ?_
        refine lv_icmp_le (tgt := 33) hx hb d_Mo_falls_26 (by decide) (fun c_26 => ?_) (fun c_26 => ?_)
        · refine lv_iconst (v := nI 0) hx hb d_Mo_falls_33 (by decide) ?_
          refine lv_istore_n (lv' := [(3, .int (nI 0)), (0, .ref am), (1, .int (nI q)), (2, .int (nI i))]) hx hb d_Mo_falls_34 rfl hl (by decide) rfl (fun ls hl => ?_)
          refine lv_iload_n hx hb d_Mo_falls_35 rfl (lv_at hl 3 rfl) ?_
          refine lv_iconst (v := nI 1) hx hb d_Mo_falls_36 (by decide) ?_
          refine z_icmp_le (tgt := 63) hx hb d_Mo_falls_37 (by decide) (by omega) (by omega) (fun c_37 => ?_) (fun c_37 => ?_)
          · refine lv_iconst (v := nI 0) hx hb d_Mo_falls_63 (by decide) ?_
            refine lv_istore (lv' := [(4, .int (nI 0)), (3, .int (nI 0)), (0, .ref am), (1, .int (nI q)), (2, .int (nI i))]) hx hb d_Mo_falls_64 hl (by decide) rfl (fun ls hl => ?_)
            refine lv_iload_n hx hb d_Mo_falls_66 rfl (lv_at hl 1 rfl) ?_
            refine z_if_eq (tgt := 81) hx hb d_Mo_falls_67 (by decide) (by omega) (fun c_67 => ?_) (fun c_67 => ?_)
            · refine lv_iload_n hx hb d_Mo_falls_81 rfl (lv_at hl 3 rfl) ?_
              refine lv_istore_n (lv' := [(1, .int (nI q)), (4, .int (nI 0)), (3, .int (nI 0)), (0, .ref am), (2, .int (nI i))]) hx hb d_Mo_falls_82 rfl hl (by decide) rfl (fun ls hl => ?_)
              refine lv_iinc (v := nI (i + 1)) (lv' := [(2, .int (nI (i + 1))), (1, .int (nI q)), (4, .int (nI 0)), (3, .int (nI 0)), (0, .ref am)]) hx hb d_Mo_falls_83 hl (k := 4) rfl (by exact nI_add i 1) (by decide) rfl (fun ls hl => ?_)
              refine lv_goto (tgt := 4) hx hb d_Mo_falls_86 (by decide) ?_
              exact ih4 (i + 1) q (by omega) (by omega) (by first | exact cnt_t hc (fl_t1 hi c_26 c_37) | exact cnt_t hc (fl_t2 hi c_26 c_56) | exact cnt_f hc (fl_f2 c_37 c_56) | exact cnt_f hc (fl_f1 c_26)) (by omega) ls (lv_sub hl [4, 1, 0] rfl)
            · exact absurd c_67 (by decide)
          · refine lv_aload_n hx hb d_Mo_falls_40 rfl (lv_at hl 1 rfl) ?_
            refine va_get (D := DD) (ci := 9) (v := .ref hk) (C := R_Mo) (T := T_Mo) (N := 21) hx hb hg in_Mo hown hK hP 0 rfl rfl 2 (by decide) (hg _ mw_681) (fun _ h9 => h9) rfl d_Mo_falls_41 ?_
            refine lv_iload_n hx hb d_Mo_falls_44 rfl (lv_at hl 3 rfl) ?_
            refine lv_iconst (v := nI 2) hx hb d_Mo_falls_45 (by decide) ?_
            refine z_isub hx hb d_Mo_falls_46 (by omega) ?_
            refine z_iald hx hb hK hP 1 0 rfl rfl (by omega) (by decide) d_Mo_falls_47 ?_
            refine lv_aload_n hx hb d_Mo_falls_48 rfl (lv_at hl 1 rfl) ?_
            refine va_get (D := DD) (ci := 9) (v := .ref hk) (C := R_Mo) (T := T_Mo) (N := 21) hx hb hg in_Mo hown hK hP 0 rfl rfl 2 (by decide) (hg _ mw_681) (fun _ h9 => h9) rfl d_Mo_falls_49 ?_
            refine lv_iload_n hx hb d_Mo_falls_52 rfl (lv_at hl 3 rfl) ?_
            refine lv_iconst (v := nI 1) hx hb d_Mo_falls_53 (by decide) ?_
            refine z_isub hx hb d_Mo_falls_54 (by omega) ?_
            refine z_iald hx hb hK hP 1 0 rfl rfl (by omega) (by decide) d_Mo_falls_55 ?_
            refine lv_icmp_le (tgt := 63) hx hb d_Mo_falls_56 (by decide) (fun c_56 => ?_) (fun c_56 => ?_)
            · refine lv_iconst (v := nI 0) hx hb d_Mo_falls_63 (by decide) ?_
              refine lv_istore (lv' := [(4, .int (nI 0)), (3, .int (nI 0)), (0, .ref am), (1, .int (nI q)), (2, .int (nI i))]) hx hb d_Mo_falls_64 hl (by decide) rfl (fun ls hl => ?_)
              refine lv_iload_n hx hb d_Mo_falls_66 rfl (lv_at hl 1 rfl) ?_
              refine z_if_eq (tgt := 81) hx hb d_Mo_falls_67 (by decide) (by omega) (fun c_67 => ?_) (fun c_67 => ?_)
              · refine lv_iload_n hx hb d_Mo_falls_81 rfl (lv_at hl 3 rfl) ?_
                refine lv_istore_n (lv' := [(1, .int (nI q)), (4, .int (nI 0)), (3, .int (nI 0)), (0, .ref am), (2, .int (nI i))]) hx hb d_Mo_falls_82 rfl hl (by decide) rfl (fun ls hl => ?_)
                refine lv_iinc (v := nI (i + 1)) (lv' := [(2, .int (nI (i + 1))), (1, .int (nI q)), (4, .int (nI 0)), (3, .int (nI 0)), (0, .ref am)]) hx hb d_Mo_falls_83 hl (k := 4) rfl (by exact nI_add i 1) (by decide) rfl (fun ls hl => ?_)
                refine lv_goto (tgt := 4) hx hb d_Mo_falls_86 (by decide) ?_
                exact ih4 (i + 1) q (by omega) (by omega) (by first | exact cnt_t hc (fl_t1 hi c_26 c_37) | exact cnt_t hc (fl_t2 hi c_26 c_56) | exact cnt_f hc (fl_f2 c_37 c_56) | exact cnt_f hc (fl_f1 c_26)) (by omega) ls (lv_sub hl [4, 1, 0] rfl)
              · exact absurd c_67 (by decide)
            · refine lv_iconst (v := nI 1) hx hb d_Mo_falls_59 (by decide) ?_
              refine lv_goto (tgt := 64) hx hb d_Mo_falls_60 (by decide) ?_
              refine lv_istore (lv' := [(4, .int (nI 1)), (3, .int (nI 0)), (0, .ref am), (1, .int (nI q)), (2, .int (nI i))]) hx hb d_Mo_falls_64 hl (by decide) rfl (fun ls hl => ?_)
              refine lv_iload_n hx hb d_Mo_falls_66 rfl (lv_at hl 1 rfl) ?_
              refine z_if_eq (tgt := 81) hx hb d_Mo_falls_67 (by decide) (by omega) (fun c_67 => ?_) (fun c_67 => ?_)
              · refine lv_iload_n hx hb d_Mo_falls_81 rfl (lv_at hl 3 rfl) ?_
                refine lv_istore_n (lv' := [(1, .int (nI q)), (4, .int (nI 1)), (3, .int (nI 0)), (0, .ref am), (2, .int (nI i))]) hx hb d_Mo_falls_82 rfl hl (by decide) rfl (fun ls hl => ?_)
                refine lv_iinc (v := nI (i + 1)) (lv' := [(2, .int (nI (i + 1))), (1, .int (nI q)), (4, .int (nI 1)), (3, .int (nI 0)), (0, .ref am)]) hx hb d_Mo_falls_83 hl (k := 4) rfl (by exact nI_add i 1) (by decide) rfl (fun ls hl => ?_)
                refine lv_goto (tgt := 4) hx hb d_Mo_falls_86 (by decide) ?_
                exact ih4 (i + 1) q (by omega) (by omega) (by first | exact cnt_t hc (fl_t1 hi c_26 c_37) | exact cnt_t hc (fl_t2 hi c_26 c_56) | exact cnt_f hc (fl_f2 c_37 c_56) | exact cnt_f hc (fl_f1 c_26)) (by omega) ls (lv_sub hl [4, 1, 0] rfl)
              · exact absurd c_67 (by decide)
        · refine lv_iconst (v := nI 1) hx hb d_Mo_falls_29 (by decide) ?_
          refine lv_goto (tgt := 34) hx hb d_Mo_falls_30 (by decide) ?_
          refine lv_istore_n (lv' := [(3, .int (nI 1)), (0, .ref am), (1, .int (nI q)), (2, .int (nI i))]) hx hb d_Mo_falls_34 rfl hl (by decide) rfl (fun ls hl => ?_)
          refine lv_iload_n hx hb d_Mo_falls_35 rfl (lv_at hl 3 rfl) ?_
          refine lv_iconst (v := nI 1) hx hb d_Mo_falls_36 (by decide) ?_
          refine z_icmp_le (tgt := 63) hx hb d_Mo_falls_37 (by decide) (by omega) (by omega) (fun c_37 => ?_) (fun c_37 => ?_)
          · refine lv_iconst (v := nI 0) hx hb d_Mo_falls_63 (by decide) ?_
            refine lv_istore (lv' := [(4, .int (nI 0)), (3, .int (nI 1)), (0, .ref am), (1, .int (nI q)), (2, .int (nI i))]) hx hb d_Mo_falls_64 hl (by decide) rfl (fun ls hl => ?_)
            refine lv_iload_n hx hb d_Mo_falls_66 rfl (lv_at hl 1 rfl) ?_
            refine z_if_eq (tgt := 81) hx hb d_Mo_falls_67 (by decide) (by omega) (fun c_67 => ?_) (fun c_67 => ?_)
            · exact absurd c_67 (by decide)
            · refine lv_iload hx hb d_Mo_falls_70 (lv_at hl 0 rfl) ?_
              refine z_if_ne (tgt := 81) hx hb d_Mo_falls_72 (by decide) (by omega) (fun c_72 => ?_) (fun c_72 => ?_)
              · exact absurd c_72 (by decide)
              · refine lv_iload_n hx hb d_Mo_falls_75 rfl (lv_at hl 3 rfl) ?_
                refine lv_iconst (v := nI 1) hx hb d_Mo_falls_76 (by decide) ?_
                refine z_iadd hx hb d_Mo_falls_77 ?_
                refine lv_goto (tgt := 82) hx hb d_Mo_falls_78 (by decide) ?_
                refine lv_istore_n (lv' := [(1, .int (nI (q + 1))), (4, .int (nI 0)), (3, .int (nI 1)), (0, .ref am), (2, .int (nI i))]) hx hb d_Mo_falls_82 rfl hl (by decide) rfl (fun ls hl => ?_)
                refine lv_iinc (v := nI (i + 1)) (lv' := [(2, .int (nI (i + 1))), (1, .int (nI (q + 1))), (4, .int (nI 0)), (3, .int (nI 1)), (0, .ref am)]) hx hb d_Mo_falls_83 hl (k := 4) rfl (by exact nI_add i 1) (by decide) rfl (fun ls hl => ?_)
                refine lv_goto (tgt := 4) hx hb d_Mo_falls_86 (by decide) ?_
                exact ih4 (i + 1) (q + 1) (by omega) (by omega) (by first | exact cnt_t hc (fl_t1 hi c_26 c_37) | exact cnt_t hc (fl_t2 hi c_26 c_56) | exact cnt_f hc (fl_f2 c_37 c_56) | exact cnt_f hc (fl_f1 c_26)) (by omega) ls (lv_sub hl [4, 1, 0] rfl)
          · refine lv_aload_n hx hb d_Mo_falls_40 rfl (lv_at hl 1 rfl) ?_
            refine va_get (D := DD) (ci := 9) (v := .ref hk) (C := R_Mo) (T := T_Mo) (N := 21) hx hb hg in_Mo hown hK hP 0 rfl rfl 2 (by decide) (hg _ mw_681) (fun _ h9 => h9) rfl d_Mo_falls_41 ?_
            refine lv_iload_n hx hb d_Mo_falls_44 rfl (lv_at hl 3 rfl) ?_
            refine lv_iconst (v := nI 2) hx hb d_Mo_falls_45 (by decide) ?_
            refine z_isub hx hb d_Mo_falls_46 (by omega) ?_
            refine z_iald hx hb hK hP 1 0 rfl rfl (by omega) (by decide) d_Mo_falls_47 ?_
            refine lv_aload_n hx hb d_Mo_falls_48 rfl (lv_at hl 1 rfl) ?_
            refine va_get (D := DD) (ci := 9) (v := .ref hk) (C := R_Mo) (T := T_Mo) (N := 21) hx hb hg in_Mo hown hK hP 0 rfl rfl 2 (by decide) (hg _ mw_681) (fun _ h9 => h9) rfl d_Mo_falls_49 ?_
            refine lv_iload_n hx hb d_Mo_falls_52 rfl (lv_at hl 3 rfl) ?_
            refine lv_iconst (v := nI 1) hx hb d_Mo_falls_53 (by decide) ?_
            refine z_isub hx hb d_Mo_falls_54 (by omega) ?_
            refine z_iald hx hb hK hP 1 0 rfl rfl (by omega) (by decide) d_Mo_falls_55 ?_
            refine lv_icmp_le (tgt := 63) hx hb d_Mo_falls_56 (by decide) (fun c_56 => ?_) (fun c_56 => ?_)
            · refine lv_iconst (v := nI 0) hx hb d_Mo_falls_63 (by decide) ?_
              refine lv_istore (lv' := [(4, .int (nI 0)), (3, .int (nI 1)), (0, .ref am), (1, .int (nI q)), (2, .int (nI i))]) hx hb d_Mo_falls_64 hl (by decide) rfl (fun ls hl => ?_)
              refine lv_iload_n hx hb d_Mo_falls_66 rfl (lv_at hl 1 rfl) ?_
              refine z_if_eq (tgt := 81) hx hb d_Mo_falls_67 (by decide) (by omega) (fun c_67 => ?_) (fun c_67 => ?_)
              · exact absurd c_67 (by decide)
              · refine lv_iload hx hb d_Mo_falls_70 (lv_at hl 0 rfl) ?_
                refine z_if_ne (tgt := 81) hx hb d_Mo_falls_72 (by decide) (by omega) (fun c_72 => ?_) (fun c_72 => ?_)
                · exact absurd c_72 (by decide)
                · refine lv_iload_n hx hb d_Mo_falls_75 rfl (lv_at hl 3 rfl) ?_
                  refine lv_iconst (v := nI 1) hx hb d_Mo_falls_76 (by decide) ?_
                  refine z_iadd hx hb d_Mo_falls_77 ?_
                  refine lv_goto (tgt := 82) hx hb d_Mo_falls_78 (by decide) ?_
                  refine lv_istore_n (lv' := [(1, .int (nI (q + 1))), (4, .int (nI 0)), (3, .int (nI 1)), (0, .ref am), (2, .int (nI i))]) hx hb d_Mo_falls_82 rfl hl (by decide) rfl (fun ls hl => ?_)
                  refine lv_iinc (v := nI (i + 1)) (lv' := [(2, .int (nI (i + 1))), (1, .int (nI (q + 1))), (4, .int (nI 0)), (3, .int (nI 1)), (0, .ref am)]) hx hb d_Mo_falls_83 hl (k := 4) rfl (by exact nI_add i 1) (by decide) rfl (fun ls hl => ?_)
                  refine lv_goto (tgt := 4) hx hb d_Mo_falls_86 (by decide) ?_
                  exact ih4 (i + 1) (q + 1) (by omega) (by omega) (by first | exact cnt_t hc (fl_t1 hi c_26 c_37) | exact cnt_t hc (fl_t2 hi c_26 c_56) | exact cnt_f hc (fl_f2 c_37 c_56) | exact cnt_f hc (fl_f1 c_26)) (by omega) ls (lv_sub hl [4, 1, 0] rfl)
            · refine lv_iconst (v := nI 1) hx hb d_Mo_falls_59 (by decide) ?_
              refine lv_goto (tgt := 64) hx hb d_Mo_falls_60 (by decide) ?_
              refine lv_istore (lv' := [(4, .int (nI 1)), (3, .int (nI 1)), (0, .ref am), (1, .int (nI q)), (2, .int (nI i))]) hx hb d_Mo_falls_64 hl (by decide) rfl (fun ls hl => ?_)
              refine lv_iload_n hx hb d_Mo_falls_66 rfl (lv_at hl 1 rfl) ?_
              refine z_if_eq (tgt := 81) hx hb d_Mo_falls_67 (by decide) (by omega) (fun c_67 => ?_) (fun c_67 => ?_)
              · exact absurd c_67 (by decide)
              · refine lv_iload hx hb d_Mo_falls_70 (lv_at hl 0 rfl) ?_
                refine z_if_ne (tgt := 81) hx hb d_Mo_falls_72 (by decide) (by omega) (fun c_72 => ?_) (fun c_72 => ?_)
                · refine lv_iload_n hx hb d_Mo_falls_81 rfl (lv_at hl 3 rfl) ?_
                  refine lv_istore_n (lv' := [(1, .int (nI q)), (4, .int (nI 1)), (3, .int (nI 1)), (0, .ref am), (2, .int (nI i))]) hx hb d_Mo_falls_82 rfl hl (by decide) rfl (fun ls hl => ?_)
                  refine lv_iinc (v := nI (i + 1)) (lv' := [(2, .int (nI (i + 1))), (1, .int (nI q)), (4, .int (nI 1)), (3, .int (nI 1)), (0, .ref am)]) hx hb d_Mo_falls_83 hl (k := 4) rfl (by exact nI_add i 1) (by decide) rfl (fun ls hl => ?_)
                  refine lv_goto (tgt := 4) hx hb d_Mo_falls_86 (by decide) ?_
                  exact ih4 (i + 1) q (by omega) (by omega) (by first | exact cnt_t hc (fl_t1 hi c_26 c_37) | exact cnt_t hc (fl_t2 hi c_26 c_56) | exact cnt_f hc (fl_f2 c_37 c_56) | exact cnt_f hc (fl_f1 c_26)) (by omega) ls (lv_sub hl [4, 1, 0] rfl)
                · exact absurd c_72 (by decide)
  refine lv_iconst (v := nI 0) hx hb d_Mo_falls_0 (by decide) ?_
  refine lv_istore_n (lv' := [(1, .int (nI 0)), (0, .ref am)]) hx hb d_Mo_falls_1 rfl hl (by decide) rfl (fun ls hl => ?_)
  refine lv_iconst (v := nI 1) hx hb d_Mo_falls_2 (by decide) ?_
  refine lv_istore_n (lv' := [(2, .int (nI 1)), (1, .int (nI 0)), (0, .ref am)]) hx hb d_Mo_falls_3 rfl hl (by decide) rfl (fun ls hl => ?_)
  exact K4 _ 1 0 (by omega) (by omega) (by rfl) (Nat.lt_succ_self _) ls (lv_sub hl [2, 1, 0] rfl)
theorem d_Mo_extreme_0 : decode b_Mo_extreme 0 = .ok (.aload_n 0, 1) := by decide +kernel
theorem d_Mo_extreme_1 : decode b_Mo_extreme 1 = .ok (.getfield 54, 3) := by decide +kernel
theorem d_Mo_extreme_4 : decode b_Mo_extreme 4 = .ok (.ifCond .ne 7, 3) := by decide +kernel
theorem d_Mo_extreme_7 : decode b_Mo_extreme 7 = .ok (.lconst 0, 1) := by decide +kernel
theorem d_Mo_extreme_8 : decode b_Mo_extreme 8 = .ok (.goto 10, 3) := by decide +kernel
theorem d_Mo_extreme_11 : decode b_Mo_extreme 11 = .ok (.aload_n 0, 1) := by decide +kernel
theorem d_Mo_extreme_12 : decode b_Mo_extreme 12 = .ok (.getfield 7, 3) := by decide +kernel
theorem d_Mo_extreme_15 : decode b_Mo_extreme 15 = .ok (.iconst 0, 1) := by decide +kernel
theorem d_Mo_extreme_16 : decode b_Mo_extreme 16 = .ok (.iaload, 1) := by decide +kernel
theorem d_Mo_extreme_17 : decode b_Mo_extreme 17 = .ok (.i2l, 1) := by decide +kernel
theorem d_Mo_extreme_18 : decode b_Mo_extreme 18 = .ok (.lstore_n 2, 1) := by decide +kernel
theorem d_Mo_extreme_19 : decode b_Mo_extreme 19 = .ok (.iconst 1, 1) := by decide +kernel
theorem d_Mo_extreme_20 : decode b_Mo_extreme 20 = .ok (.istore 4, 2) := by decide +kernel
theorem d_Mo_extreme_22 : decode b_Mo_extreme 22 = .ok (.iload 4, 2) := by decide +kernel
theorem d_Mo_extreme_24 : decode b_Mo_extreme 24 = .ok (.aload_n 0, 1) := by decide +kernel
theorem d_Mo_extreme_25 : decode b_Mo_extreme 25 = .ok (.getfield 54, 3) := by decide +kernel
theorem d_Mo_extreme_28 : decode b_Mo_extreme 28 = .ok (.if_icmp .ge 72, 3) := by decide +kernel
theorem d_Mo_extreme_31 : decode b_Mo_extreme 31 = .ok (.iload_n 1, 1) := by decide +kernel
theorem d_Mo_extreme_32 : decode b_Mo_extreme 32 = .ok (.ifCond .eq 24, 3) := by decide +kernel
theorem d_Mo_extreme_35 : decode b_Mo_extreme 35 = .ok (.aload_n 0, 1) := by decide +kernel
theorem d_Mo_extreme_36 : decode b_Mo_extreme 36 = .ok (.getfield 7, 3) := by decide +kernel
theorem d_Mo_extreme_39 : decode b_Mo_extreme 39 = .ok (.iload 4, 2) := by decide +kernel
theorem d_Mo_extreme_41 : decode b_Mo_extreme 41 = .ok (.iaload, 1) := by decide +kernel
theorem d_Mo_extreme_42 : decode b_Mo_extreme 42 = .ok (.i2l, 1) := by decide +kernel
theorem d_Mo_extreme_43 : decode b_Mo_extreme 43 = .ok (.lload_n 2, 1) := by decide +kernel
theorem d_Mo_extreme_44 : decode b_Mo_extreme 44 = .ok (.lcmp, 1) := by decide +kernel
theorem d_Mo_extreme_45 : decode b_Mo_extreme 45 = .ok (.ifCond .ge 7, 3) := by decide +kernel
theorem d_Mo_extreme_48 : decode b_Mo_extreme 48 = .ok (.iconst 1, 1) := by decide +kernel
theorem d_Mo_extreme_49 : decode b_Mo_extreme 49 = .ok (.goto 25, 3) := by decide +kernel
theorem d_Mo_extreme_52 : decode b_Mo_extreme 52 = .ok (.iconst 0, 1) := by decide +kernel
theorem d_Mo_extreme_53 : decode b_Mo_extreme 53 = .ok (.goto 21, 3) := by decide +kernel
theorem d_Mo_extreme_56 : decode b_Mo_extreme 56 = .ok (.aload_n 0, 1) := by decide +kernel
theorem d_Mo_extreme_57 : decode b_Mo_extreme 57 = .ok (.getfield 7, 3) := by decide +kernel
theorem d_Mo_extreme_60 : decode b_Mo_extreme 60 = .ok (.iload 4, 2) := by decide +kernel
theorem d_Mo_extreme_62 : decode b_Mo_extreme 62 = .ok (.iaload, 1) := by decide +kernel
theorem d_Mo_extreme_63 : decode b_Mo_extreme 63 = .ok (.i2l, 1) := by decide +kernel
theorem d_Mo_extreme_64 : decode b_Mo_extreme 64 = .ok (.lload_n 2, 1) := by decide +kernel
theorem d_Mo_extreme_65 : decode b_Mo_extreme 65 = .ok (.lcmp, 1) := by decide +kernel
theorem d_Mo_extreme_66 : decode b_Mo_extreme 66 = .ok (.ifCond .le 7, 3) := by decide +kernel
theorem d_Mo_extreme_69 : decode b_Mo_extreme 69 = .ok (.iconst 1, 1) := by decide +kernel
theorem d_Mo_extreme_70 : decode b_Mo_extreme 70 = .ok (.goto 4, 3) := by decide +kernel
theorem d_Mo_extreme_73 : decode b_Mo_extreme 73 = .ok (.iconst 0, 1) := by decide +kernel
theorem d_Mo_extreme_74 : decode b_Mo_extreme 74 = .ok (.istore 5, 2) := by decide +kernel
theorem d_Mo_extreme_76 : decode b_Mo_extreme 76 = .ok (.iload 5, 2) := by decide +kernel
theorem d_Mo_extreme_78 : decode b_Mo_extreme 78 = .ok (.ifCond .eq 14, 3) := by decide +kernel
theorem d_Mo_extreme_81 : decode b_Mo_extreme 81 = .ok (.aload_n 0, 1) := by decide +kernel
theorem d_Mo_extreme_82 : decode b_Mo_extreme 82 = .ok (.getfield 7, 3) := by decide +kernel
theorem d_Mo_extreme_85 : decode b_Mo_extreme 85 = .ok (.iload 4, 2) := by decide +kernel
theorem d_Mo_extreme_87 : decode b_Mo_extreme 87 = .ok (.iaload, 1) := by decide +kernel
theorem d_Mo_extreme_88 : decode b_Mo_extreme 88 = .ok (.i2l, 1) := by decide +kernel
theorem d_Mo_extreme_89 : decode b_Mo_extreme 89 = .ok (.goto 4, 3) := by decide +kernel
theorem d_Mo_extreme_92 : decode b_Mo_extreme 92 = .ok (.lload_n 2, 1) := by decide +kernel
theorem d_Mo_extreme_93 : decode b_Mo_extreme 93 = .ok (.lstore_n 2, 1) := by decide +kernel
theorem d_Mo_extreme_94 : decode b_Mo_extreme 94 = .ok (.iinc 4 1, 3) := by decide +kernel
theorem d_Mo_extreme_97 : decode b_Mo_extreme 97 = .ok (.goto (-75), 3) := by decide +kernel
theorem d_Mo_extreme_100 : decode b_Mo_extreme 100 = .ok (.lload_n 2, 1) := by decide +kernel
theorem d_Mo_extreme_101 : decode b_Mo_extreme 101 = .ok (.lreturn, 1) := by decide +kernel
abbrev ws_Mo_extreme : List Cond := .code y_Mo_extreme b_Mo_extreme 6 (some .long) :: ALLG
abbrev rm_Mo_extreme : Room := { frames := 0, cells := 0, slots := 0, locals := 0 }
set_option maxHeartbeats 4000000 in
set_option maxRecDepth 100000 in
theorem c_Mo_extreme (l : Launch) (DD : va_G) (am : Nat) (th : Nat) (n : Nat) (hk : Nat) (ck : ClassId) (k : Nat → Int32) (ht : Nat) (n1 : Nat) (hk1 : Nat) (ht1 : Nat) (pb : Bool) (rn : Nat) (hfg : Nat) (hle : Nat) (hmo : Nat) (hwy : Nat) (tn : Nat) (htf : Nat) (cm : Int64) (hod : Nat) (hwk : Nat) (hot : Nat) (ru : Nat) (hen : Nat) (g : Nat) (hn : n ≤ 150) (hg1 : g < 2) : Met l y_Mo_extreme ws_Mo_extreme rm_Mo_extreme (va_Pc [.ref am, .int (nI g)] (fun U => va_P DD vwCl [(am, .inr (9, [.int (nI th), .int (nI n), .ref hk, .ref ht, .int (nI n1), .ref hk1, .ref ht1, .int (zb pb), .int (nI rn), .ref hfg, .ref hle, .ref hmo, .ref hwy, .int (nI tn), .ref htf, .long cm, .ref hod, .ref hwk, .ref hot, .int (nI ru), .ref hen])), (hk, .inl (ck, 150, .inl k))] U.heap ∧ va_K DD vwCl [(ck, .int)] U)) (vp_Sl (fun r9 => r9 = (if g = 0 then greatF k n else leastF k n).toInt64)) 0 0 (fun _ => False) := by
  refine Met.ofW (cc := b_Mo_extreme) (maxL := 6) (ret := (some .long)) (by decide) rfl ?_
  intro p e s m args below meth c s₁ B hml hv
  obtain ⟨ha, hP, hK⟩ := hv
  have hx := B.exec
  have hb := B.bytes
  have hr := B.returns
  have hts := atoms_spec (ws := ws_Mo_extreme) B.pre
  have hg : ∀ w ∈ ALLG, w.before args s = true := fun w h => hts w (List.mem_cons_of_mem _ h)
  have hown : s.vm.findClass R_Mo = some m.cls := findClass_of_methodNamed B.named
  have hlocks := B.notSynchronized
  have hP : va_P DD vwCl [(am, .inr (9, [.int (nI th), .int (nI n), .ref hk, .ref ht, .int (nI n1), .ref hk1, .ref ht1, .int (zb pb), .int (nI rn), .ref hfg, .ref hle, .ref hmo, .ref hwy, .int (nI tn), .ref htf, .long cm, .ref hod, .ref hwk, .ref hot, .int (nI ru), .ref hen])), (hk, .inl (ck, 150, .inl k))] s.heap := hP
  have hl := lv_entry ([.ref am, .int (nI g)]) (n := 6) (Nat.le_of_ble_eq_true rfl)
  rw [ha, lg_entry_eq, ← ha]
  generalize (lg_sl ([.ref am, .int (nI g)]) ++ List.replicate (6 - (lg_sl ([.ref am, .int (nI g)])).length) Slot.unset).toArray = ls at hl ⊢
  have hl : lv_has ls 6 [(0, .ref am), (1, .int (nI g))] := hl
  have K22 : ∀ (kk : Nat) (i : Nat) (v : Int64), (hi : 1 ≤ i) → (hin : i ≤ n ∨ (i = 1 ∧ n = 0)) → (hv : exI k n g i v) → n - i < kk → ∀ (ls : Array Slot), lv_has ls 6 [(0, .ref am), (1, .int (nI g)), (2, .long v), (4, .int (nI i))] → W p l e (headSpec ws_Mo_extreme rm_Mo_extreme).room s m args below meth c s.heap [] 0 0 (MQ below (vp_Sl (fun r9 => r9 = (if g = 0 then greatF k n else leastF k n).toInt64)) args s 0 0 (fun _ => False)) (F0 m 22 ls []) := by
    intro kk
    induction kk with
    | zero => intros; omega
    | succ kk ih22 =>
      intro i v hi hin hv hkk ls hl
      refine lv_iload hx hb d_Mo_extreme_22 (lv_at hl 3 rfl) ?_
      refine lv_aload_n hx hb d_Mo_extreme_24 rfl (lv_at hl 0 rfl) ?_
      refine va_get (D := DD) (ci := 9) (v := .int (nI n)) (C := R_Mo) (T := T_Mo) (N := 21) hx hb hg in_Mo hown hK hP 0 rfl rfl 1 (by decide) (hg _ mw_680) (fun _ h9 => h9) rfl d_Mo_extreme_25 ?_
      refine z_icmp_ge (tgt := 100) hx hb d_Mo_extreme_28 (by decide) (by omega) (by omega) (fun c_28 => ?_) (fun c_28 => ?_)
      · refine lv_lload_n hx hb d_Mo_extreme_100 rfl (lv_at hl 2 rfl) ?_
        exact W.lret (v := v) hx hb hr (fun t9 ht9 hW9 => ⟨_, rfl, (by exact ex_x c_28 hin hv), ht9⟩) (fun _ h => nomatch h) d_Mo_extreme_101
      · refine lv_iload_n hx hb d_Mo_extreme_31 rfl (lv_at hl 1 rfl) ?_
        refine z_if_eq (tgt := 56) hx hb d_Mo_extreme_32 (by decide) (by omega) (fun c_32 => ?_) (fun c_32 => ?_)
        · refine lv_aload_n hx hb d_Mo_extreme_56 rfl (lv_at hl 0 rfl) ?_
          refine va_get (D := DD) (ci := 9) (v := .ref hk) (C := R_Mo) (T := T_Mo) (N := 21) hx hb hg in_Mo hown hK hP 0 rfl rfl 2 (by decide) (hg _ mw_681) (fun _ h9 => h9) rfl d_Mo_extreme_57 ?_
          refine lv_iload hx hb d_Mo_extreme_60 (lv_at hl 3 rfl) ?_
          refine z_iald hx hb hK hP 1 0 rfl rfl (by omega) (by decide) d_Mo_extreme_62 ?_
          refine lv_i2l hx hb d_Mo_extreme_63 rfl ?_
          refine lv_lload_n hx hb d_Mo_extreme_64 rfl (lv_at hl 2 rfl) ?_
          refine z_lcmp_le (tgt := 73) hx hb d_Mo_extreme_65 d_Mo_extreme_66 (by decide) (fun c_65 => ?_) (fun c_65 => ?_)
          · refine lv_iconst (v := nI 0) hx hb d_Mo_extreme_73 (by decide) ?_
            refine lv_istore (lv' := [(5, .int (nI 0)), (0, .ref am), (1, .int (nI g)), (2, .long v), (4, .int (nI i))]) hx hb d_Mo_extreme_74 hl (by decide) rfl (fun ls hl => ?_)
            refine lv_iload hx hb d_Mo_extreme_76 (lv_at hl 0 rfl) ?_
            refine z_if_eq (tgt := 92) hx hb d_Mo_extreme_78 (by decide) (by omega) (fun c_78 => ?_) (fun c_78 => ?_)
            · refine lv_lload_n hx hb d_Mo_extreme_92 rfl (lv_at hl 3 rfl) ?_
              refine lv_lstore_n (lv' := [(2, .long v), (5, .int (nI 0)), (0, .ref am), (1, .int (nI g)), (4, .int (nI i))]) hx hb d_Mo_extreme_93 rfl hl (by decide) rfl (fun ls hl => ?_)
              refine lv_iinc (v := nI (i + 1)) (lv' := [(4, .int (nI (i + 1))), (2, .long v), (5, .int (nI 0)), (0, .ref am), (1, .int (nI g))]) hx hb d_Mo_extreme_94 hl (k := 4) rfl (by exact nI_add i 1) (by decide) rfl (fun ls hl => ?_)
              refine lv_goto (tgt := 22) hx hb d_Mo_extreme_97 (by decide) ?_
              exact ih22 (i + 1) v (by omega) (by omega) (by first | exact ex_a hi c_28 hv c_32 c_44 | exact ex_b hi c_28 hv c_32 c_44 | exact ex_c hi c_28 hv c_32 c_65 | exact ex_d hi c_28 hv c_32 c_65) (by omega) ls (lv_sub hl [3, 4, 1, 0] rfl)
            · exact absurd c_78 (by decide)
          · refine lv_iconst (v := nI 1) hx hb d_Mo_extreme_69 (by decide) ?_
            refine lv_goto (tgt := 74) hx hb d_Mo_extreme_70 (by decide) ?_
            refine lv_istore (lv' := [(5, .int (nI 1)), (0, .ref am), (1, .int (nI g)), (2, .long v), (4, .int (nI i))]) hx hb d_Mo_extreme_74 hl (by decide) rfl (fun ls hl => ?_)
            refine lv_iload hx hb d_Mo_extreme_76 (lv_at hl 0 rfl) ?_
            refine z_if_eq (tgt := 92) hx hb d_Mo_extreme_78 (by decide) (by omega) (fun c_78 => ?_) (fun c_78 => ?_)
            · exact absurd c_78 (by decide)
            · refine lv_aload_n hx hb d_Mo_extreme_81 rfl (lv_at hl 1 rfl) ?_
              refine va_get (D := DD) (ci := 9) (v := .ref hk) (C := R_Mo) (T := T_Mo) (N := 21) hx hb hg in_Mo hown hK hP 0 rfl rfl 2 (by decide) (hg _ mw_681) (fun _ h9 => h9) rfl d_Mo_extreme_82 ?_
              refine lv_iload hx hb d_Mo_extreme_85 (lv_at hl 4 rfl) ?_
              refine z_iald hx hb hK hP 1 0 rfl rfl (by omega) (by decide) d_Mo_extreme_87 ?_
              refine lv_i2l hx hb d_Mo_extreme_88 rfl ?_
              refine lv_goto (tgt := 93) hx hb d_Mo_extreme_89 (by decide) ?_
              refine lv_lstore_n (lv' := [(2, .long ((k i).toInt64)), (5, .int (nI 1)), (0, .ref am), (1, .int (nI g)), (4, .int (nI i))]) hx hb d_Mo_extreme_93 rfl hl (by decide) rfl (fun ls hl => ?_)
              refine lv_iinc (v := nI (i + 1)) (lv' := [(4, .int (nI (i + 1))), (2, .long ((k i).toInt64)), (5, .int (nI 1)), (0, .ref am), (1, .int (nI g))]) hx hb d_Mo_extreme_94 hl (k := 4) rfl (by exact nI_add i 1) (by decide) rfl (fun ls hl => ?_)
              refine lv_goto (tgt := 22) hx hb d_Mo_extreme_97 (by decide) ?_
              exact ih22 (i + 1) ((k i).toInt64) (by omega) (by omega) (by first | exact ex_a hi c_28 hv c_32 c_44 | exact ex_b hi c_28 hv c_32 c_44 | exact ex_c hi c_28 hv c_32 c_65 | exact ex_d hi c_28 hv c_32 c_65) (by omega) ls (lv_sub hl [3, 4, 1, 0] rfl)
        · refine lv_aload_n hx hb d_Mo_extreme_35 rfl (lv_at hl 0 rfl) ?_
          refine va_get (D := DD) (ci := 9) (v := .ref hk) (C := R_Mo) (T := T_Mo) (N := 21) hx hb hg in_Mo hown hK hP 0 rfl rfl 2 (by decide) (hg _ mw_681) (fun _ h9 => h9) rfl d_Mo_extreme_36 ?_
          refine lv_iload hx hb d_Mo_extreme_39 (lv_at hl 3 rfl) ?_
          refine z_iald hx hb hK hP 1 0 rfl rfl (by omega) (by decide) d_Mo_extreme_41 ?_
          refine lv_i2l hx hb d_Mo_extreme_42 rfl ?_
          refine lv_lload_n hx hb d_Mo_extreme_43 rfl (lv_at hl 2 rfl) ?_
          refine z_lcmp_ge (tgt := 52) hx hb d_Mo_extreme_44 d_Mo_extreme_45 (by decide) (fun c_44 => ?_) (fun c_44 => ?_)
          · refine lv_iconst (v := nI 0) hx hb d_Mo_extreme_52 (by decide) ?_
            refine lv_goto (tgt := 74) hx hb d_Mo_extreme_53 (by decide) ?_
            refine lv_istore (lv' := [(5, .int (nI 0)), (0, .ref am), (1, .int (nI g)), (2, .long v), (4, .int (nI i))]) hx hb d_Mo_extreme_74 hl (by decide) rfl (fun ls hl => ?_)
            refine lv_iload hx hb d_Mo_extreme_76 (lv_at hl 0 rfl) ?_
            refine z_if_eq (tgt := 92) hx hb d_Mo_extreme_78 (by decide) (by omega) (fun c_78 => ?_) (fun c_78 => ?_)
            · refine lv_lload_n hx hb d_Mo_extreme_92 rfl (lv_at hl 3 rfl) ?_
              refine lv_lstore_n (lv' := [(2, .long v), (5, .int (nI 0)), (0, .ref am), (1, .int (nI g)), (4, .int (nI i))]) hx hb d_Mo_extreme_93 rfl hl (by decide) rfl (fun ls hl => ?_)
              refine lv_iinc (v := nI (i + 1)) (lv' := [(4, .int (nI (i + 1))), (2, .long v), (5, .int (nI 0)), (0, .ref am), (1, .int (nI g))]) hx hb d_Mo_extreme_94 hl (k := 4) rfl (by exact nI_add i 1) (by decide) rfl (fun ls hl => ?_)
              refine lv_goto (tgt := 22) hx hb d_Mo_extreme_97 (by decide) ?_
              exact ih22 (i + 1) v (by omega) (by omega) (by first | exact ex_a hi c_28 hv c_32 c_44 | exact ex_b hi c_28 hv c_32 c_44 | exact ex_c hi c_28 hv c_32 c_65 | exact ex_d hi c_28 hv c_32 c_65) (by omega) ls (lv_sub hl [3, 4, 1, 0] rfl)
            · exact absurd c_78 (by decide)
          · refine lv_iconst (v := nI 1) hx hb d_Mo_extreme_48 (by decide) ?_
            refine lv_goto (tgt := 74) hx hb d_Mo_extreme_49 (by decide) ?_
            refine lv_istore (lv' := [(5, .int (nI 1)), (0, .ref am), (1, .int (nI g)), (2, .long v), (4, .int (nI i))]) hx hb d_Mo_extreme_74 hl (by decide) rfl (fun ls hl => ?_)
            refine lv_iload hx hb d_Mo_extreme_76 (lv_at hl 0 rfl) ?_
            refine z_if_eq (tgt := 92) hx hb d_Mo_extreme_78 (by decide) (by omega) (fun c_78 => ?_) (fun c_78 => ?_)
            · exact absurd c_78 (by decide)
            · refine lv_aload_n hx hb d_Mo_extreme_81 rfl (lv_at hl 1 rfl) ?_
              refine va_get (D := DD) (ci := 9) (v := .ref hk) (C := R_Mo) (T := T_Mo) (N := 21) hx hb hg in_Mo hown hK hP 0 rfl rfl 2 (by decide) (hg _ mw_681) (fun _ h9 => h9) rfl d_Mo_extreme_82 ?_
              refine lv_iload hx hb d_Mo_extreme_85 (lv_at hl 4 rfl) ?_
              refine z_iald hx hb hK hP 1 0 rfl rfl (by omega) (by decide) d_Mo_extreme_87 ?_
              refine lv_i2l hx hb d_Mo_extreme_88 rfl ?_
              refine lv_goto (tgt := 93) hx hb d_Mo_extreme_89 (by decide) ?_
              refine lv_lstore_n (lv' := [(2, .long ((k i).toInt64)), (5, .int (nI 1)), (0, .ref am), (1, .int (nI g)), (4, .int (nI i))]) hx hb d_Mo_extreme_93 rfl hl (by decide) rfl (fun ls hl => ?_)
              refine lv_iinc (v := nI (i + 1)) (lv' := [(4, .int (nI (i + 1))), (2, .long ((k i).toInt64)), (5, .int (nI 1)), (0, .ref am), (1, .int (nI g))]) hx hb d_Mo_extreme_94 hl (k := 4) rfl (by exact nI_add i 1) (by decide) rfl (fun ls hl => ?_)
              refine lv_goto (tgt := 22) hx hb d_Mo_extreme_97 (by decide) ?_
              exact ih22 (i + 1) ((k i).toInt64) (by omega) (by omega) (by first | exact ex_a hi c_28 hv c_32 c_44 | exact ex_b hi c_28 hv c_32 c_44 | exact ex_c hi c_28 hv c_32 c_65 | exact ex_d hi c_28 hv c_32 c_65) (by omega) ls (lv_sub hl [3, 4, 1, 0] rfl)
  refine lv_aload_n hx hb d_Mo_extreme_0 rfl (lv_at hl 0 rfl) ?_
  refine va_get (D := DD) (ci := 9) (v := .int (nI n)) (C := R_Mo) (T := T_Mo) (N := 21) hx hb hg in_Mo hown hK hP 0 rfl rfl 1 (by decide) (hg _ mw_680) (fun _ h9 => h9) rfl d_Mo_extreme_1 ?_
  refine z_if_ne (tgt := 11) hx hb d_Mo_extreme_4 (by decide) (by omega) (fun c_4 => ?_) (fun c_4 => ?_)
  · refine lv_aload_n hx hb d_Mo_extreme_11 rfl (lv_at hl 0 rfl) ?_
    refine va_get (D := DD) (ci := 9) (v := .ref hk) (C := R_Mo) (T := T_Mo) (N := 21) hx hb hg in_Mo hown hK hP 0 rfl rfl 2 (by decide) (hg _ mw_681) (fun _ h9 => h9) rfl d_Mo_extreme_12 ?_
    refine lv_iconst (v := nI 0) hx hb d_Mo_extreme_15 (by decide) ?_
    refine z_iald hx hb hK hP 1 0 rfl rfl (by omega) (by decide) d_Mo_extreme_16 ?_
    refine lv_i2l hx hb d_Mo_extreme_17 rfl ?_
    refine lv_lstore_n (lv' := [(2, .long ((k 0).toInt64)), (0, .ref am), (1, .int (nI g))]) hx hb d_Mo_extreme_18 rfl hl (by decide) rfl (fun ls hl => ?_)
    refine lv_iconst (v := nI 1) hx hb d_Mo_extreme_19 (by decide) ?_
    refine lv_istore (lv' := [(4, .int (nI 1)), (2, .long ((k 0).toInt64)), (0, .ref am), (1, .int (nI g))]) hx hb d_Mo_extreme_20 hl (by decide) rfl (fun ls hl => ?_)
    exact K22 _ 1 ((k 0).toInt64) (by omega) (by omega) (by first | exact ex_0 c_4 | exact ex_1 c_4) (Nat.lt_succ_self _) ls (lv_sub hl [2, 3, 1, 0] rfl)
  · refine lv_lconst (v := 0) hx hb d_Mo_extreme_7 (by decide) ?_
    refine lv_goto (tgt := 18) hx hb d_Mo_extreme_8 (by decide) ?_
    refine lv_lstore_n (lv' := [(2, .long 0), (0, .ref am), (1, .int (nI g))]) hx hb d_Mo_extreme_18 rfl hl (by decide) rfl (fun ls hl => ?_)
    refine lv_iconst (v := nI 1) hx hb d_Mo_extreme_19 (by decide) ?_
    refine lv_istore (lv' := [(4, .int (nI 1)), (2, .long 0), (0, .ref am), (1, .int (nI g))]) hx hb d_Mo_extreme_20 hl (by decide) rfl (fun ls hl => ?_)
    exact K22 _ 1 0 (by omega) (by omega) (by first | exact ex_0 c_4 | exact ex_1 c_4) (Nat.lt_succ_self _) ls (lv_sub hl [2, 3, 1, 0] rfl)
theorem d_Mo_inversions_0 : decode b_Mo_inversions 0 = .ok (.iconst 0, 1) := by decide +kernel
theorem d_Mo_inversions_1 : decode b_Mo_inversions 1 = .ok (.istore_n 1, 1) := by decide +kernel
theorem d_Mo_inversions_2 : decode b_Mo_inversions 2 = .ok (.iconst 0, 1) := by decide +kernel
theorem d_Mo_inversions_3 : decode b_Mo_inversions 3 = .ok (.istore_n 2, 1) := by decide +kernel
theorem d_Mo_inversions_4 : decode b_Mo_inversions 4 = .ok (.iload_n 2, 1) := by decide +kernel
theorem d_Mo_inversions_5 : decode b_Mo_inversions 5 = .ok (.aload_n 0, 1) := by decide +kernel
theorem d_Mo_inversions_6 : decode b_Mo_inversions 6 = .ok (.getfield 54, 3) := by decide +kernel
theorem d_Mo_inversions_9 : decode b_Mo_inversions 9 = .ok (.if_icmp .ge 45, 3) := by decide +kernel
theorem d_Mo_inversions_12 : decode b_Mo_inversions 12 = .ok (.iconst 0, 1) := by decide +kernel
theorem d_Mo_inversions_13 : decode b_Mo_inversions 13 = .ok (.istore_n 3, 1) := by decide +kernel
theorem d_Mo_inversions_14 : decode b_Mo_inversions 14 = .ok (.iload_n 3, 1) := by decide +kernel
theorem d_Mo_inversions_15 : decode b_Mo_inversions 15 = .ok (.iload_n 2, 1) := by decide +kernel
theorem d_Mo_inversions_16 : decode b_Mo_inversions 16 = .ok (.if_icmp .ge 32, 3) := by decide +kernel
theorem d_Mo_inversions_19 : decode b_Mo_inversions 19 = .ok (.aload_n 0, 1) := by decide +kernel
theorem d_Mo_inversions_20 : decode b_Mo_inversions 20 = .ok (.getfield 7, 3) := by decide +kernel
theorem d_Mo_inversions_23 : decode b_Mo_inversions 23 = .ok (.iload_n 3, 1) := by decide +kernel
theorem d_Mo_inversions_24 : decode b_Mo_inversions 24 = .ok (.iaload, 1) := by decide +kernel
theorem d_Mo_inversions_25 : decode b_Mo_inversions 25 = .ok (.aload_n 0, 1) := by decide +kernel
theorem d_Mo_inversions_26 : decode b_Mo_inversions 26 = .ok (.getfield 7, 3) := by decide +kernel
theorem d_Mo_inversions_29 : decode b_Mo_inversions 29 = .ok (.iload_n 2, 1) := by decide +kernel
theorem d_Mo_inversions_30 : decode b_Mo_inversions 30 = .ok (.iaload, 1) := by decide +kernel
theorem d_Mo_inversions_31 : decode b_Mo_inversions 31 = .ok (.if_icmp .le 9, 3) := by decide +kernel
theorem d_Mo_inversions_34 : decode b_Mo_inversions 34 = .ok (.iload_n 1, 1) := by decide +kernel
theorem d_Mo_inversions_35 : decode b_Mo_inversions 35 = .ok (.iconst 1, 1) := by decide +kernel
theorem d_Mo_inversions_36 : decode b_Mo_inversions 36 = .ok (.iadd, 1) := by decide +kernel
theorem d_Mo_inversions_37 : decode b_Mo_inversions 37 = .ok (.goto 4, 3) := by decide +kernel
theorem d_Mo_inversions_40 : decode b_Mo_inversions 40 = .ok (.iload_n 1, 1) := by decide +kernel
theorem d_Mo_inversions_41 : decode b_Mo_inversions 41 = .ok (.istore_n 1, 1) := by decide +kernel
theorem d_Mo_inversions_42 : decode b_Mo_inversions 42 = .ok (.iinc 3 1, 3) := by decide +kernel
theorem d_Mo_inversions_45 : decode b_Mo_inversions 45 = .ok (.goto (-31), 3) := by decide +kernel
theorem d_Mo_inversions_48 : decode b_Mo_inversions 48 = .ok (.iinc 2 1, 3) := by decide +kernel
theorem d_Mo_inversions_51 : decode b_Mo_inversions 51 = .ok (.goto (-47), 3) := by decide +kernel
theorem d_Mo_inversions_54 : decode b_Mo_inversions 54 = .ok (.iload_n 1, 1) := by decide +kernel
theorem d_Mo_inversions_55 : decode b_Mo_inversions 55 = .ok (.ireturn, 1) := by decide +kernel
abbrev ws_Mo_inversions : List Cond := .code y_Mo_inversions b_Mo_inversions 4 (some .int) :: ALLG
abbrev rm_Mo_inversions : Room := { frames := 0, cells := 0, slots := 0, locals := 0 }
set_option maxHeartbeats 4000000 in
set_option maxRecDepth 100000 in
theorem c_Mo_inversions (l : Launch) (DD : va_G) (am : Nat) (th : Nat) (n : Nat) (hk : Nat) (ck : ClassId) (k : Nat → Int32) (ht : Nat) (n1 : Nat) (hk1 : Nat) (ht1 : Nat) (pb : Bool) (rn : Nat) (hfg : Nat) (hle : Nat) (hmo : Nat) (hwy : Nat) (tn : Nat) (htf : Nat) (cm : Int64) (hod : Nat) (hwk : Nat) (hot : Nat) (ru : Nat) (hen : Nat) (hn : n ≤ 150) : Met l y_Mo_inversions ws_Mo_inversions rm_Mo_inversions (va_Pc [.ref am] (fun U => va_P DD vwCl [(am, .inr (9, [.int (nI th), .int (nI n), .ref hk, .ref ht, .int (nI n1), .ref hk1, .ref ht1, .int (zb pb), .int (nI rn), .ref hfg, .ref hle, .ref hmo, .ref hwy, .int (nI tn), .ref htf, .long cm, .ref hod, .ref hwk, .ref hot, .int (nI ru), .ref hen])), (hk, .inl (ck, 150, .inl k))] U.heap ∧ va_K DD vwCl [(ck, .int)] U)) (vp_Si (fun r9 => r9 = nI (invF k n))) 0 0 (fun _ => False) := by
  refine Met.ofW (cc := b_Mo_inversions) (maxL := 4) (ret := (some .int)) (by decide) rfl ?_
  intro p e s m args below meth c s₁ B hml hv
  obtain ⟨ha, hP, hK⟩ := hv
  have hx := B.exec
  have hb := B.bytes
  have hr := B.returns
  have hts := atoms_spec (ws := ws_Mo_inversions) B.pre
  have hg : ∀ w ∈ ALLG, w.before args s = true := fun w h => hts w (List.mem_cons_of_mem _ h)
  have hown : s.vm.findClass R_Mo = some m.cls := findClass_of_methodNamed B.named
  have hlocks := B.notSynchronized
  have hP : va_P DD vwCl [(am, .inr (9, [.int (nI th), .int (nI n), .ref hk, .ref ht, .int (nI n1), .ref hk1, .ref ht1, .int (zb pb), .int (nI rn), .ref hfg, .ref hle, .ref hmo, .ref hwy, .int (nI tn), .ref htf, .long cm, .ref hod, .ref hwk, .ref hot, .int (nI ru), .ref hen])), (hk, .inl (ck, 150, .inl k))] s.heap := hP
  have hl := lv_entry ([.ref am]) (n := 4) (Nat.le_of_ble_eq_true rfl)
  rw [ha, lg_entry_eq, ← ha]
  generalize (lg_sl ([.ref am]) ++ List.replicate (4 - (lg_sl ([.ref am])).length) Slot.unset).toArray = ls at hl ⊢
  have hl : lv_has ls 4 [(0, .ref am)] := hl
  have K4 : ∀ (kk : Nat) (i : Nat) (q : Nat), (hi : i ≤ n) → (hc : q = invF k i) → n - i < kk → ∀ (ls : Array Slot), lv_has ls 4 [(0, .ref am), (1, .int (nI q)), (2, .int (nI i))] → W p l e (headSpec ws_Mo_inversions rm_Mo_inversions).room s m args below meth c s.heap [] 0 0 (MQ below (vp_Si (fun r9 => r9 = nI (invF k n))) args s 0 0 (fun _ => False)) (F0 m 4 ls []) := by
    intro kk
    induction kk with
    | zero => intros; omega
    | succ kk ih4 =>
      intro i q hi hc hkk ls hl
      have K14 : ∀ (kk : Nat) (j : Nat) (q2 : Nat), (hlt : i < n) → (hj : j ≤ i) → (hq : q2 = invF k i + cnt (invB k i) j) → i - j < kk → ∀ (ls : Array Slot), lv_has ls 4 [(0, .ref am), (1, .int (nI q2)), (2, .int (nI i)), (3, .int (nI j))] → W p l e (headSpec ws_Mo_inversions rm_Mo_inversions).room s m args below meth c s.heap [] 0 0 (MQ below (vp_Si (fun r9 => r9 = nI (invF k n))) args s 0 0 (fun _ => False)) (F0 m 14 ls []) := by
        intro kk
        induction kk with
        | zero => intros; omega
        | succ kk ih14 =>
          intro j q2 hlt hj hq hkk ls hl
          refine lv_iload_n hx hb d_Mo_inversions_14 rfl (lv_at hl 3 rfl) ?_
          refine lv_iload_n hx hb d_Mo_inversions_15 rfl (lv_at hl 2 rfl) ?_
          refine z_icmp_ge (tgt := 48) hx hb d_Mo_inversions_16 (by decide) (by omega) (by omega) (fun c_16 => ?_) (fun c_16 => ?_)
          · refine lv_iinc (v := nI (i + 1)) (lv' := [(2, .int (nI (i + 1))), (0, .ref am), (1, .int (nI q2)), (3, .int (nI j))]) hx hb d_Mo_inversions_48 hl (k := 2) rfl (by exact nI_add i 1) (by decide) rfl (fun ls hl => ?_)
            refine lv_goto (tgt := 4) hx hb d_Mo_inversions_51 (by decide) ?_
            exact ih4 (i + 1) q2 (by omega) (by exact inv_x hq c_16 hj) (by omega) ls (lv_sub hl [1, 2, 0] rfl)
          · refine lv_aload_n hx hb d_Mo_inversions_19 rfl (lv_at hl 0 rfl) ?_
            refine va_get (D := DD) (ci := 9) (v := .ref hk) (C := R_Mo) (T := T_Mo) (N := 21) hx hb hg in_Mo hown hK hP 0 rfl rfl 2 (by decide) (hg _ mw_681) (fun _ h9 => h9) rfl d_Mo_inversions_20 ?_
            refine lv_iload_n hx hb d_Mo_inversions_23 rfl (lv_at hl 3 rfl) ?_
            refine z_iald hx hb hK hP 1 0 rfl rfl (by omega) (by decide) d_Mo_inversions_24 ?_
            refine lv_aload_n hx hb d_Mo_inversions_25 rfl (lv_at hl 0 rfl) ?_
            refine va_get (D := DD) (ci := 9) (v := .ref hk) (C := R_Mo) (T := T_Mo) (N := 21) hx hb hg in_Mo hown hK hP 0 rfl rfl 2 (by decide) (hg _ mw_681) (fun _ h9 => h9) rfl d_Mo_inversions_26 ?_
            refine lv_iload_n hx hb d_Mo_inversions_29 rfl (lv_at hl 2 rfl) ?_
            refine z_iald hx hb hK hP 1 0 rfl rfl (by omega) (by decide) d_Mo_inversions_30 ?_
            refine lv_icmp_le (tgt := 40) hx hb d_Mo_inversions_31 (by decide) (fun c_31 => ?_) (fun c_31 => ?_)
            · refine lv_iload_n hx hb d_Mo_inversions_40 rfl (lv_at hl 1 rfl) ?_
              refine lv_istore_n (lv' := [(1, .int (nI q2)), (0, .ref am), (2, .int (nI i)), (3, .int (nI j))]) hx hb d_Mo_inversions_41 rfl hl (by decide) rfl (fun ls hl => ?_)
              refine lv_iinc (v := nI (j + 1)) (lv' := [(3, .int (nI (j + 1))), (1, .int (nI q2)), (0, .ref am), (2, .int (nI i))]) hx hb d_Mo_inversions_42 hl (k := 3) rfl (by exact nI_add j 1) (by decide) rfl (fun ls hl => ?_)
              refine lv_goto (tgt := 14) hx hb d_Mo_inversions_45 (by decide) ?_
              exact ih14 (j + 1) q2 (by omega) (by omega) (by first | exact inv_t hq c_31 | exact inv_f hq c_31) (by omega) ls (lv_sub hl [2, 1, 3, 0] rfl)
            · refine lv_iload_n hx hb d_Mo_inversions_34 rfl (lv_at hl 1 rfl) ?_
              refine lv_iconst (v := nI 1) hx hb d_Mo_inversions_35 (by decide) ?_
              refine z_iadd hx hb d_Mo_inversions_36 ?_
              refine lv_goto (tgt := 41) hx hb d_Mo_inversions_37 (by decide) ?_
              refine lv_istore_n (lv' := [(1, .int (nI (q2 + 1))), (0, .ref am), (2, .int (nI i)), (3, .int (nI j))]) hx hb d_Mo_inversions_41 rfl hl (by decide) rfl (fun ls hl => ?_)
              refine lv_iinc (v := nI (j + 1)) (lv' := [(3, .int (nI (j + 1))), (1, .int (nI (q2 + 1))), (0, .ref am), (2, .int (nI i))]) hx hb d_Mo_inversions_42 hl (k := 3) rfl (by exact nI_add j 1) (by decide) rfl (fun ls hl => ?_)
              refine lv_goto (tgt := 14) hx hb d_Mo_inversions_45 (by decide) ?_
              exact ih14 (j + 1) (q2 + 1) (by omega) (by omega) (by first | exact inv_t hq c_31 | exact inv_f hq c_31) (by omega) ls (lv_sub hl [2, 1, 3, 0] rfl)
      refine lv_iload_n hx hb d_Mo_inversions_4 rfl (lv_at hl 2 rfl) ?_
      refine lv_aload_n hx hb d_Mo_inversions_5 rfl (lv_at hl 0 rfl) ?_
      refine va_get (D := DD) (ci := 9) (v := .int (nI n)) (C := R_Mo) (T := T_Mo) (N := 21) hx hb hg in_Mo hown hK hP 0 rfl rfl 1 (by decide) (hg _ mw_680) (fun _ h9 => h9) rfl d_Mo_inversions_6 ?_
      refine z_icmp_ge (tgt := 54) hx hb d_Mo_inversions_9 (by decide) (by omega) (by omega) (fun c_9 => ?_) (fun c_9 => ?_)
      · refine lv_iload_n hx hb d_Mo_inversions_54 rfl (lv_at hl 1 rfl) ?_
        exact W.iret (v := nI q) hx hb hr (fun t9 ht9 hW9 => ⟨_, rfl, (by exact congrArg nI (by rw [hc, Nat.le_antisymm hi c_9])), ht9⟩) (fun _ h => nomatch h) d_Mo_inversions_55
      · refine lv_iconst (v := nI 0) hx hb d_Mo_inversions_12 (by decide) ?_
        refine lv_istore_n (lv' := [(3, .int (nI 0)), (0, .ref am), (1, .int (nI q)), (2, .int (nI i))]) hx hb d_Mo_inversions_13 rfl hl (by decide) rfl (fun ls hl => ?_)
        exact K14 _ 0 q (by omega) (by omega) (by exact hc) (Nat.lt_succ_self _) ls (lv_sub hl [1, 2, 3, 0] rfl)
  refine lv_iconst (v := nI 0) hx hb d_Mo_inversions_0 (by decide) ?_
  refine lv_istore_n (lv' := [(1, .int (nI 0)), (0, .ref am)]) hx hb d_Mo_inversions_1 rfl hl (by decide) rfl (fun ls hl => ?_)
  refine lv_iconst (v := nI 0) hx hb d_Mo_inversions_2 (by decide) ?_
  refine lv_istore_n (lv' := [(2, .int (nI 0)), (1, .int (nI 0)), (0, .ref am)]) hx hb d_Mo_inversions_3 rfl hl (by decide) rfl (fun ls hl => ?_)
  exact K4 _ 0 0 (by omega) (by rfl) (Nat.lt_succ_self _) ls (lv_sub hl [2, 1, 0] rfl)
theorem d_Mo_different_0 : decode b_Mo_different 0 = .ok (.iconst 0, 1) := by decide +kernel
theorem d_Mo_different_1 : decode b_Mo_different 1 = .ok (.istore_n 1, 1) := by decide +kernel
theorem d_Mo_different_2 : decode b_Mo_different 2 = .ok (.iconst 0, 1) := by decide +kernel
theorem d_Mo_different_3 : decode b_Mo_different 3 = .ok (.istore_n 2, 1) := by decide +kernel
theorem d_Mo_different_4 : decode b_Mo_different 4 = .ok (.iload_n 2, 1) := by decide +kernel
theorem d_Mo_different_5 : decode b_Mo_different 5 = .ok (.aload_n 0, 1) := by decide +kernel
theorem d_Mo_different_6 : decode b_Mo_different 6 = .ok (.getfield 54, 3) := by decide +kernel
theorem d_Mo_different_9 : decode b_Mo_different 9 = .ok (.if_icmp .ge 64, 3) := by decide +kernel
theorem d_Mo_different_12 : decode b_Mo_different 12 = .ok (.iconst 1, 1) := by decide +kernel
theorem d_Mo_different_13 : decode b_Mo_different 13 = .ok (.istore_n 3, 1) := by decide +kernel
theorem d_Mo_different_14 : decode b_Mo_different 14 = .ok (.iconst 0, 1) := by decide +kernel
theorem d_Mo_different_15 : decode b_Mo_different 15 = .ok (.istore 4, 2) := by decide +kernel
theorem d_Mo_different_17 : decode b_Mo_different 17 = .ok (.iload 4, 2) := by decide +kernel
theorem d_Mo_different_19 : decode b_Mo_different 19 = .ok (.iload_n 2, 1) := by decide +kernel
theorem d_Mo_different_20 : decode b_Mo_different 20 = .ok (.if_icmp .ge 35, 3) := by decide +kernel
theorem d_Mo_different_23 : decode b_Mo_different 23 = .ok (.iload_n 3, 1) := by decide +kernel
theorem d_Mo_different_24 : decode b_Mo_different 24 = .ok (.ifCond .eq 23, 3) := by decide +kernel
theorem d_Mo_different_27 : decode b_Mo_different 27 = .ok (.aload_n 0, 1) := by decide +kernel
theorem d_Mo_different_28 : decode b_Mo_different 28 = .ok (.getfield 7, 3) := by decide +kernel
theorem d_Mo_different_31 : decode b_Mo_different 31 = .ok (.iload 4, 2) := by decide +kernel
theorem d_Mo_different_33 : decode b_Mo_different 33 = .ok (.iaload, 1) := by decide +kernel
theorem d_Mo_different_34 : decode b_Mo_different 34 = .ok (.aload_n 0, 1) := by decide +kernel
theorem d_Mo_different_35 : decode b_Mo_different 35 = .ok (.getfield 7, 3) := by decide +kernel
theorem d_Mo_different_38 : decode b_Mo_different 38 = .ok (.iload_n 2, 1) := by decide +kernel
theorem d_Mo_different_39 : decode b_Mo_different 39 = .ok (.iaload, 1) := by decide +kernel
theorem d_Mo_different_40 : decode b_Mo_different 40 = .ok (.if_icmp .eq 7, 3) := by decide +kernel
theorem d_Mo_different_43 : decode b_Mo_different 43 = .ok (.iconst 1, 1) := by decide +kernel
theorem d_Mo_different_44 : decode b_Mo_different 44 = .ok (.goto 4, 3) := by decide +kernel
theorem d_Mo_different_47 : decode b_Mo_different 47 = .ok (.iconst 0, 1) := by decide +kernel
theorem d_Mo_different_48 : decode b_Mo_different 48 = .ok (.istore_n 3, 1) := by decide +kernel
theorem d_Mo_different_49 : decode b_Mo_different 49 = .ok (.iinc 4 1, 3) := by decide +kernel
theorem d_Mo_different_52 : decode b_Mo_different 52 = .ok (.goto (-35), 3) := by decide +kernel
theorem d_Mo_different_55 : decode b_Mo_different 55 = .ok (.iload_n 3, 1) := by decide +kernel
theorem d_Mo_different_56 : decode b_Mo_different 56 = .ok (.ifCond .eq 9, 3) := by decide +kernel
theorem d_Mo_different_59 : decode b_Mo_different 59 = .ok (.iload_n 1, 1) := by decide +kernel
theorem d_Mo_different_60 : decode b_Mo_different 60 = .ok (.iconst 1, 1) := by decide +kernel
theorem d_Mo_different_61 : decode b_Mo_different 61 = .ok (.iadd, 1) := by decide +kernel
theorem d_Mo_different_62 : decode b_Mo_different 62 = .ok (.goto 4, 3) := by decide +kernel
theorem d_Mo_different_65 : decode b_Mo_different 65 = .ok (.iload_n 1, 1) := by decide +kernel
theorem d_Mo_different_66 : decode b_Mo_different 66 = .ok (.istore_n 1, 1) := by decide +kernel
theorem d_Mo_different_67 : decode b_Mo_different 67 = .ok (.iinc 2 1, 3) := by decide +kernel
theorem d_Mo_different_70 : decode b_Mo_different 70 = .ok (.goto (-66), 3) := by decide +kernel
theorem d_Mo_different_73 : decode b_Mo_different 73 = .ok (.iload_n 1, 1) := by decide +kernel
theorem d_Mo_different_74 : decode b_Mo_different 74 = .ok (.ireturn, 1) := by decide +kernel
abbrev ws_Mo_different : List Cond := .code y_Mo_different b_Mo_different 5 (some .int) :: ALLG
abbrev rm_Mo_different : Room := { frames := 0, cells := 0, slots := 0, locals := 0 }
set_option maxHeartbeats 4000000 in
set_option maxRecDepth 100000 in
theorem c_Mo_different (l : Launch) (DD : va_G) (am : Nat) (th : Nat) (n : Nat) (hk : Nat) (ck : ClassId) (k : Nat → Int32) (ht : Nat) (n1 : Nat) (hk1 : Nat) (ht1 : Nat) (pb : Bool) (rn : Nat) (hfg : Nat) (hle : Nat) (hmo : Nat) (hwy : Nat) (tn : Nat) (htf : Nat) (cm : Int64) (hod : Nat) (hwk : Nat) (hot : Nat) (ru : Nat) (hen : Nat) (hn : n ≤ 150) : Met l y_Mo_different ws_Mo_different rm_Mo_different (va_Pc [.ref am] (fun U => va_P DD vwCl [(am, .inr (9, [.int (nI th), .int (nI n), .ref hk, .ref ht, .int (nI n1), .ref hk1, .ref ht1, .int (zb pb), .int (nI rn), .ref hfg, .ref hle, .ref hmo, .ref hwy, .int (nI tn), .ref htf, .long cm, .ref hod, .ref hwk, .ref hot, .int (nI ru), .ref hen])), (hk, .inl (ck, 150, .inl k))] U.heap ∧ va_K DD vwCl [(ck, .int)] U)) (vp_Si (fun r9 => r9 = nI (cnt (firstB k) n))) 0 0 (fun _ => False) := by
  refine Met.ofW (cc := b_Mo_different) (maxL := 5) (ret := (some .int)) (by decide) rfl ?_
  intro p e s m args below meth c s₁ B hml hv
  obtain ⟨ha, hP, hK⟩ := hv
  have hx := B.exec
  have hb := B.bytes
  have hr := B.returns
  have hts := atoms_spec (ws := ws_Mo_different) B.pre
  have hg : ∀ w ∈ ALLG, w.before args s = true := fun w h => hts w (List.mem_cons_of_mem _ h)
  have hown : s.vm.findClass R_Mo = some m.cls := findClass_of_methodNamed B.named
  have hlocks := B.notSynchronized
  have hP : va_P DD vwCl [(am, .inr (9, [.int (nI th), .int (nI n), .ref hk, .ref ht, .int (nI n1), .ref hk1, .ref ht1, .int (zb pb), .int (nI rn), .ref hfg, .ref hle, .ref hmo, .ref hwy, .int (nI tn), .ref htf, .long cm, .ref hod, .ref hwk, .ref hot, .int (nI ru), .ref hen])), (hk, .inl (ck, 150, .inl k))] s.heap := hP
  have hl := lv_entry ([.ref am]) (n := 5) (Nat.le_of_ble_eq_true rfl)
  rw [ha, lg_entry_eq, ← ha]
  generalize (lg_sl ([.ref am]) ++ List.replicate (5 - (lg_sl ([.ref am])).length) Slot.unset).toArray = ls at hl ⊢
  have hl : lv_has ls 5 [(0, .ref am)] := hl
  have K4 : ∀ (kk : Nat) (i : Nat) (q : Nat), (hi : i ≤ n) → (hc : q = cnt (firstB k) i) → n - i < kk → ∀ (ls : Array Slot), lv_has ls 5 [(0, .ref am), (1, .int (nI q)), (2, .int (nI i))] → W p l e (headSpec ws_Mo_different rm_Mo_different).room s m args below meth c s.heap [] 0 0 (MQ below (vp_Si (fun r9 => r9 = nI (cnt (firstB k) n))) args s 0 0 (fun _ => False)) (F0 m 4 ls []) := by
    intro kk
    induction kk with
    | zero => intros; omega
    | succ kk ih4 =>
      intro i q hi hc hkk ls hl
      have K17 : ∀ (kk : Nat) (j : Nat) (b : Nat), (hlt : i < n) → (hj : j ≤ i) → (hb2 : b < 2) → (hb9 : b = if cnt (eqB k (k i)) j = 0 then 1 else 0) → i - j < kk → ∀ (ls : Array Slot), lv_has ls 5 [(0, .ref am), (1, .int (nI q)), (2, .int (nI i)), (3, .int (nI b)), (4, .int (nI j))] → W p l e (headSpec ws_Mo_different rm_Mo_different).room s m args below meth c s.heap [] 0 0 (MQ below (vp_Si (fun r9 => r9 = nI (cnt (firstB k) n))) args s 0 0 (fun _ => False)) (F0 m 17 ls []) := by
        intro kk
        induction kk with
        | zero => intros; omega
        | succ kk ih17 =>
          intro j b hlt hj hb2 hb9 hkk ls hl
          refine lv_iload hx hb d_Mo_different_17 (lv_at hl 4 rfl) ?_
          refine lv_iload_n hx hb d_Mo_different_19 rfl (lv_at hl 2 rfl) ?_
          refine z_icmp_ge (tgt := 55) hx hb d_Mo_different_20 (by decide) (by omega) (by omega) (fun c_20 => ?_) (fun c_20 => ?_)
          · refine lv_iload_n hx hb d_Mo_different_55 rfl (lv_at hl 3 rfl) ?_
            refine z_if_eq (tgt := 65) hx hb d_Mo_different_56 (by decide) (by omega) (fun c_56 => ?_) (fun c_56 => ?_)
            · refine lv_iload_n hx hb d_Mo_different_65 rfl (lv_at hl 1 rfl) ?_
              refine lv_istore_n (lv' := [(1, .int (nI q)), (0, .ref am), (2, .int (nI i)), (3, .int (nI b)), (4, .int (nI j))]) hx hb d_Mo_different_66 rfl hl (by decide) rfl (fun ls hl => ?_)
              refine lv_iinc (v := nI (i + 1)) (lv' := [(2, .int (nI (i + 1))), (1, .int (nI q)), (0, .ref am), (3, .int (nI b)), (4, .int (nI j))]) hx hb d_Mo_different_67 hl (k := 2) rfl (by exact nI_add i 1) (by decide) rfl (fun ls hl => ?_)
              refine lv_goto (tgt := 4) hx hb d_Mo_different_70 (by decide) ?_
              exact ih4 (i + 1) q (by omega) (by first | exact cnt_t hc ((df_x hb9 c_20 hj).trans (decide_eq_true c_56)) | exact cnt_f hc ((df_x hb9 c_20 hj).trans (decide_eq_false (by omega)))) (by omega) ls (lv_sub hl [2, 1, 0] rfl)
            · refine lv_iload_n hx hb d_Mo_different_59 rfl (lv_at hl 1 rfl) ?_
              refine lv_iconst (v := nI 1) hx hb d_Mo_different_60 (by decide) ?_
              refine z_iadd hx hb d_Mo_different_61 ?_
              refine lv_goto (tgt := 66) hx hb d_Mo_different_62 (by decide) ?_
              refine lv_istore_n (lv' := [(1, .int (nI (q + 1))), (0, .ref am), (2, .int (nI i)), (3, .int (nI b)), (4, .int (nI j))]) hx hb d_Mo_different_66 rfl hl (by decide) rfl (fun ls hl => ?_)
              refine lv_iinc (v := nI (i + 1)) (lv' := [(2, .int (nI (i + 1))), (1, .int (nI (q + 1))), (0, .ref am), (3, .int (nI b)), (4, .int (nI j))]) hx hb d_Mo_different_67 hl (k := 2) rfl (by exact nI_add i 1) (by decide) rfl (fun ls hl => ?_)
              refine lv_goto (tgt := 4) hx hb d_Mo_different_70 (by decide) ?_
              exact ih4 (i + 1) (q + 1) (by omega) (by first | exact cnt_t hc ((df_x hb9 c_20 hj).trans (decide_eq_true c_56)) | exact cnt_f hc ((df_x hb9 c_20 hj).trans (decide_eq_false (by omega)))) (by omega) ls (lv_sub hl [2, 1, 0] rfl)
          · refine lv_iload_n hx hb d_Mo_different_23 rfl (lv_at hl 3 rfl) ?_
            refine z_if_eq (tgt := 47) hx hb d_Mo_different_24 (by decide) (by omega) (fun c_24 => ?_) (fun c_24 => ?_)
            · refine lv_iconst (v := nI 0) hx hb d_Mo_different_47 (by decide) ?_
              refine lv_istore_n (lv' := [(3, .int (nI 0)), (0, .ref am), (1, .int (nI q)), (2, .int (nI i)), (4, .int (nI j))]) hx hb d_Mo_different_48 rfl hl (by decide) rfl (fun ls hl => ?_)
              refine lv_iinc (v := nI (j + 1)) (lv' := [(4, .int (nI (j + 1))), (3, .int (nI 0)), (0, .ref am), (1, .int (nI q)), (2, .int (nI i))]) hx hb d_Mo_different_49 hl (k := 4) rfl (by exact nI_add j 1) (by decide) rfl (fun ls hl => ?_)
              refine lv_goto (tgt := 17) hx hb d_Mo_different_52 (by decide) ?_
              exact ih17 (j + 1) 0 (by omega) (by omega) (by omega) (by first | exact df_t hb9 c_24 c_40 | exact df_f2 c_40 | exact df_f1 hb9 c_24) (by omega) ls (lv_sub hl [2, 3, 4, 1, 0] rfl)
            · refine lv_aload_n hx hb d_Mo_different_27 rfl (lv_at hl 0 rfl) ?_
              refine va_get (D := DD) (ci := 9) (v := .ref hk) (C := R_Mo) (T := T_Mo) (N := 21) hx hb hg in_Mo hown hK hP 0 rfl rfl 2 (by decide) (hg _ mw_681) (fun _ h9 => h9) rfl d_Mo_different_28 ?_
              refine lv_iload hx hb d_Mo_different_31 (lv_at hl 4 rfl) ?_
              refine z_iald hx hb hK hP 1 0 rfl rfl (by omega) (by decide) d_Mo_different_33 ?_
              refine lv_aload_n hx hb d_Mo_different_34 rfl (lv_at hl 0 rfl) ?_
              refine va_get (D := DD) (ci := 9) (v := .ref hk) (C := R_Mo) (T := T_Mo) (N := 21) hx hb hg in_Mo hown hK hP 0 rfl rfl 2 (by decide) (hg _ mw_681) (fun _ h9 => h9) rfl d_Mo_different_35 ?_
              refine lv_iload_n hx hb d_Mo_different_38 rfl (lv_at hl 2 rfl) ?_
              refine z_iald hx hb hK hP 1 0 rfl rfl (by omega) (by decide) d_Mo_different_39 ?_
              refine lv_icmp_eq (tgt := 47) hx hb d_Mo_different_40 (by decide) (fun c_40 => ?_) (fun c_40 => ?_)
              · refine lv_iconst (v := nI 0) hx hb d_Mo_different_47 (by decide) ?_
                refine lv_istore_n (lv' := [(3, .int (nI 0)), (0, .ref am), (1, .int (nI q)), (2, .int (nI i)), (4, .int (nI j))]) hx hb d_Mo_different_48 rfl hl (by decide) rfl (fun ls hl => ?_)
                refine lv_iinc (v := nI (j + 1)) (lv' := [(4, .int (nI (j + 1))), (3, .int (nI 0)), (0, .ref am), (1, .int (nI q)), (2, .int (nI i))]) hx hb d_Mo_different_49 hl (k := 4) rfl (by exact nI_add j 1) (by decide) rfl (fun ls hl => ?_)
                refine lv_goto (tgt := 17) hx hb d_Mo_different_52 (by decide) ?_
                exact ih17 (j + 1) 0 (by omega) (by omega) (by omega) (by first | exact df_t hb9 c_24 c_40 | exact df_f2 c_40 | exact df_f1 hb9 c_24) (by omega) ls (lv_sub hl [2, 3, 4, 1, 0] rfl)
              · refine lv_iconst (v := nI 1) hx hb d_Mo_different_43 (by decide) ?_
                refine lv_goto (tgt := 48) hx hb d_Mo_different_44 (by decide) ?_
                refine lv_istore_n (lv' := [(3, .int (nI 1)), (0, .ref am), (1, .int (nI q)), (2, .int (nI i)), (4, .int (nI j))]) hx hb d_Mo_different_48 rfl hl (by decide) rfl (fun ls hl => ?_)
                refine lv_iinc (v := nI (j + 1)) (lv' := [(4, .int (nI (j + 1))), (3, .int (nI 1)), (0, .ref am), (1, .int (nI q)), (2, .int (nI i))]) hx hb d_Mo_different_49 hl (k := 4) rfl (by exact nI_add j 1) (by decide) rfl (fun ls hl => ?_)
                refine lv_goto (tgt := 17) hx hb d_Mo_different_52 (by decide) ?_
                exact ih17 (j + 1) 1 (by omega) (by omega) (by omega) (by first | exact df_t hb9 c_24 c_40 | exact df_f2 c_40 | exact df_f1 hb9 c_24) (by omega) ls (lv_sub hl [2, 3, 4, 1, 0] rfl)
      refine lv_iload_n hx hb d_Mo_different_4 rfl (lv_at hl 2 rfl) ?_
      refine lv_aload_n hx hb d_Mo_different_5 rfl (lv_at hl 0 rfl) ?_
      refine va_get (D := DD) (ci := 9) (v := .int (nI n)) (C := R_Mo) (T := T_Mo) (N := 21) hx hb hg in_Mo hown hK hP 0 rfl rfl 1 (by decide) (hg _ mw_680) (fun _ h9 => h9) rfl d_Mo_different_6 ?_
      refine z_icmp_ge (tgt := 73) hx hb d_Mo_different_9 (by decide) (by omega) (by omega) (fun c_9 => ?_) (fun c_9 => ?_)
      · refine lv_iload_n hx hb d_Mo_different_73 rfl (lv_at hl 1 rfl) ?_
        exact W.iret (v := nI q) hx hb hr (fun t9 ht9 hW9 => ⟨_, rfl, (by exact congrArg nI (by rw [hc, Nat.le_antisymm hi c_9])), ht9⟩) (fun _ h => nomatch h) d_Mo_different_74
      · refine lv_iconst (v := nI 1) hx hb d_Mo_different_12 (by decide) ?_
        refine lv_istore_n (lv' := [(3, .int (nI 1)), (0, .ref am), (1, .int (nI q)), (2, .int (nI i))]) hx hb d_Mo_different_13 rfl hl (by decide) rfl (fun ls hl => ?_)
        refine lv_iconst (v := nI 0) hx hb d_Mo_different_14 (by decide) ?_
        refine lv_istore (lv' := [(4, .int (nI 0)), (3, .int (nI 1)), (0, .ref am), (1, .int (nI q)), (2, .int (nI i))]) hx hb d_Mo_different_15 hl (by decide) rfl (fun ls hl => ?_)
        exact K17 _ 0 1 (by omega) (by omega) (by omega) (by rfl) (Nat.lt_succ_self _) ls (lv_sub hl [2, 3, 4, 1, 0] rfl)
  refine lv_iconst (v := nI 0) hx hb d_Mo_different_0 (by decide) ?_
  refine lv_istore_n (lv' := [(1, .int (nI 0)), (0, .ref am)]) hx hb d_Mo_different_1 rfl hl (by decide) rfl (fun ls hl => ?_)
  refine lv_iconst (v := nI 0) hx hb d_Mo_different_2 (by decide) ?_
  refine lv_istore_n (lv' := [(2, .int (nI 0)), (1, .int (nI 0)), (0, .ref am)]) hx hb d_Mo_different_3 rfl hl (by decide) rfl (fun ls hl => ?_)
  exact K4 _ 0 0 (by omega) (by rfl) (Nat.lt_succ_self _) ls (lv_sub hl [2, 1, 0] rfl)
theorem d_Mo_figureOf_0 : decode b_Mo_figureOf 0 = .ok (.iload_n 1, 1) := by decide +kernel
theorem d_Mo_figureOf_1 : decode b_Mo_figureOf 1 = .ok (.tableswitch 98 0 6 #[43, 49, 68, 74, 80, 86, 92], 43) := by decide +kernel
theorem d_Mo_figureOf_44 : decode b_Mo_figureOf 44 = .ok (.aload_n 0, 1) := by decide +kernel
theorem d_Mo_figureOf_45 : decode b_Mo_figureOf 45 = .ok (.getfield 54, 3) := by decide +kernel
theorem d_Mo_figureOf_48 : decode b_Mo_figureOf 48 = .ok (.i2l, 1) := by decide +kernel
theorem d_Mo_figureOf_49 : decode b_Mo_figureOf 49 = .ok (.lreturn, 1) := by decide +kernel
theorem d_Mo_figureOf_50 : decode b_Mo_figureOf 50 = .ok (.aload_n 0, 1) := by decide +kernel
theorem d_Mo_figureOf_51 : decode b_Mo_figureOf 51 = .ok (.getfield 54, 3) := by decide +kernel
theorem d_Mo_figureOf_54 : decode b_Mo_figureOf 54 = .ok (.ifCond .ne 7, 3) := by decide +kernel
theorem d_Mo_figureOf_57 : decode b_Mo_figureOf 57 = .ok (.lconst 0, 1) := by decide +kernel
theorem d_Mo_figureOf_58 : decode b_Mo_figureOf 58 = .ok (.goto 10, 3) := by decide +kernel
theorem d_Mo_figureOf_61 : decode b_Mo_figureOf 61 = .ok (.lconst 1, 1) := by decide +kernel
theorem d_Mo_figureOf_62 : decode b_Mo_figureOf 62 = .ok (.aload_n 0, 1) := by decide +kernel
theorem d_Mo_figureOf_63 : decode b_Mo_figureOf 63 = .ok (.invokevirtual 65, 3) := by decide +kernel
theorem d_Mo_figureOf_66 : decode b_Mo_figureOf 66 = .ok (.i2l, 1) := by decide +kernel
theorem d_Mo_figureOf_67 : decode b_Mo_figureOf 67 = .ok (.ladd, 1) := by decide +kernel
theorem d_Mo_figureOf_68 : decode b_Mo_figureOf 68 = .ok (.lreturn, 1) := by decide +kernel
theorem d_Mo_figureOf_69 : decode b_Mo_figureOf 69 = .ok (.aload_n 0, 1) := by decide +kernel
theorem d_Mo_figureOf_70 : decode b_Mo_figureOf 70 = .ok (.invokevirtual 69, 3) := by decide +kernel
theorem d_Mo_figureOf_73 : decode b_Mo_figureOf 73 = .ok (.i2l, 1) := by decide +kernel
theorem d_Mo_figureOf_74 : decode b_Mo_figureOf 74 = .ok (.lreturn, 1) := by decide +kernel
theorem d_Mo_figureOf_75 : decode b_Mo_figureOf 75 = .ok (.aload_n 0, 1) := by decide +kernel
theorem d_Mo_figureOf_76 : decode b_Mo_figureOf 76 = .ok (.iconst 1, 1) := by decide +kernel
theorem d_Mo_figureOf_77 : decode b_Mo_figureOf 77 = .ok (.invokevirtual 72, 3) := by decide +kernel
theorem d_Mo_figureOf_80 : decode b_Mo_figureOf 80 = .ok (.lreturn, 1) := by decide +kernel
theorem d_Mo_figureOf_81 : decode b_Mo_figureOf 81 = .ok (.aload_n 0, 1) := by decide +kernel
theorem d_Mo_figureOf_82 : decode b_Mo_figureOf 82 = .ok (.iconst 0, 1) := by decide +kernel
theorem d_Mo_figureOf_83 : decode b_Mo_figureOf 83 = .ok (.invokevirtual 72, 3) := by decide +kernel
theorem d_Mo_figureOf_86 : decode b_Mo_figureOf 86 = .ok (.lreturn, 1) := by decide +kernel
theorem d_Mo_figureOf_87 : decode b_Mo_figureOf 87 = .ok (.aload_n 0, 1) := by decide +kernel
theorem d_Mo_figureOf_88 : decode b_Mo_figureOf 88 = .ok (.invokevirtual 65, 3) := by decide +kernel
theorem d_Mo_figureOf_91 : decode b_Mo_figureOf 91 = .ok (.i2l, 1) := by decide +kernel
theorem d_Mo_figureOf_92 : decode b_Mo_figureOf 92 = .ok (.lreturn, 1) := by decide +kernel
theorem d_Mo_figureOf_93 : decode b_Mo_figureOf 93 = .ok (.aload_n 0, 1) := by decide +kernel
theorem d_Mo_figureOf_94 : decode b_Mo_figureOf 94 = .ok (.invokevirtual 76, 3) := by decide +kernel
theorem d_Mo_figureOf_97 : decode b_Mo_figureOf 97 = .ok (.i2l, 1) := by decide +kernel
theorem d_Mo_figureOf_98 : decode b_Mo_figureOf 98 = .ok (.lreturn, 1) := by decide +kernel
theorem d_Mo_figureOf_99 : decode b_Mo_figureOf 99 = .ok (.aload_n 0, 1) := by decide +kernel
theorem d_Mo_figureOf_100 : decode b_Mo_figureOf 100 = .ok (.invokevirtual 79, 3) := by decide +kernel
theorem d_Mo_figureOf_103 : decode b_Mo_figureOf 103 = .ok (.i2l, 1) := by decide +kernel
theorem d_Mo_figureOf_104 : decode b_Mo_figureOf 104 = .ok (.lreturn, 1) := by decide +kernel
abbrev ws_Mo_figureOf : List Cond := .code y_Mo_figureOf b_Mo_figureOf 2 (some .long) :: ALLG
abbrev rm_Mo_figureOf : Room := { frames := 1, cells := 0, slots := 0, locals := 25 }
set_option maxHeartbeats 4000000 in
set_option maxRecDepth 100000 in
theorem c_Mo_figureOf (l : Launch) (DD : va_G) (am : Nat) (th : Nat) (n : Nat) (hk : Nat) (ck : ClassId) (k : Nat → Int32) (ht : Nat) (n1 : Nat) (hk1 : Nat) (ht1 : Nat) (pb : Bool) (rn : Nat) (hfg : Nat) (hle : Nat) (hmo : Nat) (hwy : Nat) (tn : Nat) (htf : Nat) (cm : Int64) (hod : Nat) (hwk : Nat) (hot : Nat) (ru : Nat) (hen : Nat) (w : Nat) (hn : n ≤ 150) (hw8 : w < 8) : Met l y_Mo_figureOf ws_Mo_figureOf rm_Mo_figureOf (va_Pc [.ref am, .int (nI w)] (fun U => va_P DD vwCl [(am, .inr (9, [.int (nI th), .int (nI n), .ref hk, .ref ht, .int (nI n1), .ref hk1, .ref ht1, .int (zb pb), .int (nI rn), .ref hfg, .ref hle, .ref hmo, .ref hwy, .int (nI tn), .ref htf, .long cm, .ref hod, .ref hwk, .ref hot, .int (nI ru), .ref hen])), (hk, .inl (ck, 150, .inl k))] U.heap ∧ va_K DD vwCl [(ck, .int)] U)) (vp_Sl (fun r9 => r9 = (figN k n w).toInt64)) 0 0 (fun _ => False) := by
  refine Met.ofW (cc := b_Mo_figureOf) (maxL := 2) (ret := (some .long)) (by decide) rfl ?_
  intro p e s m args below meth c s₁ B hml hv
  obtain ⟨ha, hP, hK⟩ := hv
  have hx := B.exec
  have hb := B.bytes
  have hr := B.returns
  have hts := atoms_spec (ws := ws_Mo_figureOf) B.pre
  have hg : ∀ w ∈ ALLG, w.before args s = true := fun w h => hts w (List.mem_cons_of_mem _ h)
  have hown : s.vm.findClass R_Mo = some m.cls := findClass_of_methodNamed B.named
  have hlocks := B.notSynchronized
  have hP : va_P DD vwCl [(am, .inr (9, [.int (nI th), .int (nI n), .ref hk, .ref ht, .int (nI n1), .ref hk1, .ref ht1, .int (zb pb), .int (nI rn), .ref hfg, .ref hle, .ref hmo, .ref hwy, .int (nI tn), .ref htf, .long cm, .ref hod, .ref hwk, .ref hot, .int (nI ru), .ref hen])), (hk, .inl (ck, 150, .inl k))] s.heap := hP
  have hl := lv_entry ([.ref am, .int (nI w)]) (n := 2) (Nat.le_of_ble_eq_true rfl)
  rw [ha, lg_entry_eq, ← ha]
  generalize (lg_sl ([.ref am, .int (nI w)]) ++ List.replicate (2 - (lg_sl ([.ref am, .int (nI w)])).length) Slot.unset).toArray = ls at hl ⊢
  have hl : lv_has ls 2 [(0, .ref am), (1, .int (nI w))] := hl
  refine lv_iload_n hx hb d_Mo_figureOf_0 rfl (lv_at hl 1 rfl) ?_
  rcases (show w = 0 ∨ w = 1 ∨ w = 2 ∨ w = 3 ∨ w = 4 ∨ w = 5 ∨ w = 6 ∨ 7 ≤ w by omega) with rfl | rfl | rfl | rfl | rfl | rfl | rfl | h7
  · refine lv_tableIn (x := nI 0) (off := 43) (tgt := 44) hx hb d_Mo_figureOf_1 (by decide) (by decide) (by decide) (by decide) ?_
    refine lv_aload_n hx hb d_Mo_figureOf_44 rfl (lv_at hl 0 rfl) ?_
    refine va_get (D := DD) (ci := 9) (v := .int (nI n)) (C := R_Mo) (T := T_Mo) (N := 21) hx hb hg in_Mo hown hK hP 0 rfl rfl 1 (by decide) (hg _ mw_680) (fun _ h9 => h9) rfl d_Mo_figureOf_45 ?_
    refine lv_i2l hx hb d_Mo_figureOf_48 rfl ?_
    exact W.lret (v := (nI n).toInt64) hx hb hr (fun t9 ht9 hW9 => ⟨_, rfl, rfl, ht9⟩) (fun _ h => nomatch h) d_Mo_figureOf_49
  · refine lv_tableIn (x := nI 1) (off := 49) (tgt := 50) hx hb d_Mo_figureOf_1 (by decide) (by decide) (by decide) (by decide) ?_
    refine lv_aload_n hx hb d_Mo_figureOf_50 rfl (lv_at hl 0 rfl) ?_
    refine va_get (D := DD) (ci := 9) (v := .int (nI n)) (C := R_Mo) (T := T_Mo) (N := 21) hx hb hg in_Mo hown hK hP 0 rfl rfl 1 (by decide) (hg _ mw_680) (fun _ h9 => h9) rfl d_Mo_figureOf_51 ?_
    refine z_if_ne (tgt := 61) hx hb d_Mo_figureOf_54 (by decide) (by omega) (fun c_54 => ?_) (fun c_54 => ?_)
    · refine lv_lconst (v := 1) hx hb d_Mo_figureOf_61 (by decide) ?_
      refine lv_aload_n hx hb d_Mo_figureOf_62 rfl (lv_at hl 0 rfl) ?_
      have hPc := hP.sub (ws' := [(am, .inr (9, [.int (nI th), .int (nI n), .ref hk, .ref ht, .int (nI n1), .ref hk1, .ref ht1, .int (zb pb), .int (nI rn), .ref hfg, .ref hle, .ref hmo, .ref hwy, .int (nI tn), .ref htf, .long cm, .ref hod, .ref hwk, .ref hot, .int (nI ru), .ref hen])), (hk, .inl (ck, 150, .inl k))]) [0, 1] rfl
      have hKc := hK.sub (tys' := [(ck, .int)]) [0] rfl
      refine vp_callSi (W.runV (As := []) (rest := [.long 1]) ⟨hx, hb, hml, hown, hg⟩ (c_Mo_descents l DD am th n hk ck k ht n1 hk1 ht1 pb rn hfg hle hmo hwy tn htf cm hod hwk hot ru hen (by omega)) (cwV 0 hg (gi_V mw_775 mw_777 ms_Mo_descents mw_11 mw_778) rfl rfl rfl (by decide +kernel) ⟨Nat.le_of_ble_eq_true rfl, Nat.le_of_ble_eq_true rfl⟩) ⟨z_blind, va_recv hKc hPc (ci := 9) (q0 := 0) rfl rfl, z_pre hPc hKc⟩ rfl rfl hl.1 rfl (lv_room (Nat.le_of_ble_eq_true rfl)) d_Mo_figureOf_63 ⟨Nat.zero_le _, Nat.zero_le _⟩) (fun r_63 hr_63 => ?_)
      subst hr_63
      refine lv_i2l hx hb d_Mo_figureOf_66 rfl ?_
      refine lv_ladd hx hb d_Mo_figureOf_67 ?_
      exact W.lret (v := 1 + ((nI (cnt (dropB k) n)).toInt64)) hx hb hr (fun t9 ht9 hW9 => ⟨_, rfl, (by first | exact run_0 c_54 | exact run_l hn c_54), ht9⟩) (fun _ h => nomatch h) d_Mo_figureOf_68
    · refine lv_lconst (v := 0) hx hb d_Mo_figureOf_57 (by decide) ?_
      refine lv_goto (tgt := 68) hx hb d_Mo_figureOf_58 (by decide) ?_
      exact W.lret (v := 0) hx hb hr (fun t9 ht9 hW9 => ⟨_, rfl, (by first | exact run_0 c_54 | exact run_l hn c_54), ht9⟩) (fun _ h => nomatch h) d_Mo_figureOf_68
  · refine lv_tableIn (x := nI 2) (off := 68) (tgt := 69) hx hb d_Mo_figureOf_1 (by decide) (by decide) (by decide) (by decide) ?_
    refine lv_aload_n hx hb d_Mo_figureOf_69 rfl (lv_at hl 0 rfl) ?_
    have hPc := hP.sub (ws' := [(am, .inr (9, [.int (nI th), .int (nI n), .ref hk, .ref ht, .int (nI n1), .ref hk1, .ref ht1, .int (zb pb), .int (nI rn), .ref hfg, .ref hle, .ref hmo, .ref hwy, .int (nI tn), .ref htf, .long cm, .ref hod, .ref hwk, .ref hot, .int (nI ru), .ref hen])), (hk, .inl (ck, 150, .inl k))]) [0, 1] rfl
    have hKc := hK.sub (tys' := [(ck, .int)]) [0] rfl
    refine vp_callSi (W.runV (As := []) (rest := []) ⟨hx, hb, hml, hown, hg⟩ (c_Mo_falls l DD am th n hk ck k ht n1 hk1 ht1 pb rn hfg hle hmo hwy tn htf cm hod hwk hot ru hen (by omega)) (cwV 0 hg (gi_V mw_779 mw_781 ms_Mo_falls mw_11 mw_782) rfl rfl rfl (by decide +kernel) ⟨Nat.le_of_ble_eq_true rfl, Nat.le_of_ble_eq_true rfl⟩) ⟨z_blind, va_recv hKc hPc (ci := 9) (q0 := 0) rfl rfl, z_pre hPc hKc⟩ rfl rfl hl.1 rfl (lv_room (Nat.le_of_ble_eq_true rfl)) d_Mo_figureOf_70 ⟨Nat.zero_le _, Nat.zero_le _⟩) (fun r_70 hr_70 => ?_)
    subst hr_70
    refine lv_i2l hx hb d_Mo_figureOf_73 rfl ?_
    exact W.lret (v := (nI (cnt (fallB k) n)).toInt64) hx hb hr (fun t9 ht9 hW9 => ⟨_, rfl, rfl, ht9⟩) (fun _ h => nomatch h) d_Mo_figureOf_74
  · refine lv_tableIn (x := nI 3) (off := 74) (tgt := 75) hx hb d_Mo_figureOf_1 (by decide) (by decide) (by decide) (by decide) ?_
    refine lv_aload_n hx hb d_Mo_figureOf_75 rfl (lv_at hl 0 rfl) ?_
    refine lv_iconst (v := nI 1) hx hb d_Mo_figureOf_76 (by decide) ?_
    have hPc := hP.sub (ws' := [(am, .inr (9, [.int (nI th), .int (nI n), .ref hk, .ref ht, .int (nI n1), .ref hk1, .ref ht1, .int (zb pb), .int (nI rn), .ref hfg, .ref hle, .ref hmo, .ref hwy, .int (nI tn), .ref htf, .long cm, .ref hod, .ref hwk, .ref hot, .int (nI ru), .ref hen])), (hk, .inl (ck, 150, .inl k))]) [0, 1] rfl
    have hKc := hK.sub (tys' := [(ck, .int)]) [0] rfl
    refine vp_callSl (W.runV (As := [.int (nI 1)]) (rest := []) ⟨hx, hb, hml, hown, hg⟩ (c_Mo_extreme l DD am th n hk ck k ht n1 hk1 ht1 pb rn hfg hle hmo hwy tn htf cm hod hwk hot ru hen 1 (by omega) (by omega)) (cwV 1 hg (gi_V mw_783 mw_785 ms_Mo_extreme mw_11 mw_786) rfl rfl rfl (by decide +kernel) ⟨Nat.le_of_ble_eq_true rfl, Nat.le_of_ble_eq_true rfl⟩) ⟨z_blind, va_recv hKc hPc (ci := 9) (q0 := 0) rfl rfl, z_pre hPc hKc⟩ rfl rfl hl.1 rfl (lv_room (Nat.le_of_ble_eq_true rfl)) d_Mo_figureOf_77 ⟨Nat.zero_le _, Nat.zero_le _⟩) (fun r_77 hr_77 => ?_)
    subst hr_77
    exact W.lret (v := (if 1 = 0 then greatF k n else leastF k n).toInt64) hx hb hr (fun t9 ht9 hW9 => ⟨_, rfl, rfl, ht9⟩) (fun _ h => nomatch h) d_Mo_figureOf_80
  · refine lv_tableIn (x := nI 4) (off := 80) (tgt := 81) hx hb d_Mo_figureOf_1 (by decide) (by decide) (by decide) (by decide) ?_
    refine lv_aload_n hx hb d_Mo_figureOf_81 rfl (lv_at hl 0 rfl) ?_
    refine lv_iconst (v := nI 0) hx hb d_Mo_figureOf_82 (by decide) ?_
    have hPc := hP.sub (ws' := [(am, .inr (9, [.int (nI th), .int (nI n), .ref hk, .ref ht, .int (nI n1), .ref hk1, .ref ht1, .int (zb pb), .int (nI rn), .ref hfg, .ref hle, .ref hmo, .ref hwy, .int (nI tn), .ref htf, .long cm, .ref hod, .ref hwk, .ref hot, .int (nI ru), .ref hen])), (hk, .inl (ck, 150, .inl k))]) [0, 1] rfl
    have hKc := hK.sub (tys' := [(ck, .int)]) [0] rfl
    refine vp_callSl (W.runV (As := [.int (nI 0)]) (rest := []) ⟨hx, hb, hml, hown, hg⟩ (c_Mo_extreme l DD am th n hk ck k ht n1 hk1 ht1 pb rn hfg hle hmo hwy tn htf cm hod hwk hot ru hen 0 (by omega) (by omega)) (cwV 1 hg (gi_V mw_783 mw_785 ms_Mo_extreme mw_11 mw_786) rfl rfl rfl (by decide +kernel) ⟨Nat.le_of_ble_eq_true rfl, Nat.le_of_ble_eq_true rfl⟩) ⟨z_blind, va_recv hKc hPc (ci := 9) (q0 := 0) rfl rfl, z_pre hPc hKc⟩ rfl rfl hl.1 rfl (lv_room (Nat.le_of_ble_eq_true rfl)) d_Mo_figureOf_83 ⟨Nat.zero_le _, Nat.zero_le _⟩) (fun r_83 hr_83 => ?_)
    subst hr_83
    exact W.lret (v := (if 0 = 0 then greatF k n else leastF k n).toInt64) hx hb hr (fun t9 ht9 hW9 => ⟨_, rfl, rfl, ht9⟩) (fun _ h => nomatch h) d_Mo_figureOf_86
  · refine lv_tableIn (x := nI 5) (off := 86) (tgt := 87) hx hb d_Mo_figureOf_1 (by decide) (by decide) (by decide) (by decide) ?_
    refine lv_aload_n hx hb d_Mo_figureOf_87 rfl (lv_at hl 0 rfl) ?_
    have hPc := hP.sub (ws' := [(am, .inr (9, [.int (nI th), .int (nI n), .ref hk, .ref ht, .int (nI n1), .ref hk1, .ref ht1, .int (zb pb), .int (nI rn), .ref hfg, .ref hle, .ref hmo, .ref hwy, .int (nI tn), .ref htf, .long cm, .ref hod, .ref hwk, .ref hot, .int (nI ru), .ref hen])), (hk, .inl (ck, 150, .inl k))]) [0, 1] rfl
    have hKc := hK.sub (tys' := [(ck, .int)]) [0] rfl
    refine vp_callSi (W.runV (As := []) (rest := []) ⟨hx, hb, hml, hown, hg⟩ (c_Mo_descents l DD am th n hk ck k ht n1 hk1 ht1 pb rn hfg hle hmo hwy tn htf cm hod hwk hot ru hen (by omega)) (cwV 0 hg (gi_V mw_775 mw_777 ms_Mo_descents mw_11 mw_778) rfl rfl rfl (by decide +kernel) ⟨Nat.le_of_ble_eq_true rfl, Nat.le_of_ble_eq_true rfl⟩) ⟨z_blind, va_recv hKc hPc (ci := 9) (q0 := 0) rfl rfl, z_pre hPc hKc⟩ rfl rfl hl.1 rfl (lv_room (Nat.le_of_ble_eq_true rfl)) d_Mo_figureOf_88 ⟨Nat.zero_le _, Nat.zero_le _⟩) (fun r_88 hr_88 => ?_)
    subst hr_88
    refine lv_i2l hx hb d_Mo_figureOf_91 rfl ?_
    exact W.lret (v := (nI (cnt (dropB k) n)).toInt64) hx hb hr (fun t9 ht9 hW9 => ⟨_, rfl, rfl, ht9⟩) (fun _ h => nomatch h) d_Mo_figureOf_92
  · refine lv_tableIn (x := nI 6) (off := 92) (tgt := 93) hx hb d_Mo_figureOf_1 (by decide) (by decide) (by decide) (by decide) ?_
    refine lv_aload_n hx hb d_Mo_figureOf_93 rfl (lv_at hl 0 rfl) ?_
    have hPc := hP.sub (ws' := [(am, .inr (9, [.int (nI th), .int (nI n), .ref hk, .ref ht, .int (nI n1), .ref hk1, .ref ht1, .int (zb pb), .int (nI rn), .ref hfg, .ref hle, .ref hmo, .ref hwy, .int (nI tn), .ref htf, .long cm, .ref hod, .ref hwk, .ref hot, .int (nI ru), .ref hen])), (hk, .inl (ck, 150, .inl k))]) [0, 1] rfl
    have hKc := hK.sub (tys' := [(ck, .int)]) [0] rfl
    refine vp_callSi (W.runV (As := []) (rest := []) ⟨hx, hb, hml, hown, hg⟩ (c_Mo_inversions l DD am th n hk ck k ht n1 hk1 ht1 pb rn hfg hle hmo hwy tn htf cm hod hwk hot ru hen (by omega)) (cwV 0 hg (gi_V mw_787 mw_789 ms_Mo_inversions mw_11 mw_790) rfl rfl rfl (by decide +kernel) ⟨Nat.le_of_ble_eq_true rfl, Nat.le_of_ble_eq_true rfl⟩) ⟨z_blind, va_recv hKc hPc (ci := 9) (q0 := 0) rfl rfl, z_pre hPc hKc⟩ rfl rfl hl.1 rfl (lv_room (Nat.le_of_ble_eq_true rfl)) d_Mo_figureOf_94 ⟨Nat.zero_le _, Nat.zero_le _⟩) (fun r_94 hr_94 => ?_)
    subst hr_94
    refine lv_i2l hx hb d_Mo_figureOf_97 rfl ?_
    exact W.lret (v := (nI (invF k n)).toInt64) hx hb hr (fun t9 ht9 hW9 => ⟨_, rfl, rfl, ht9⟩) (fun _ h => nomatch h) d_Mo_figureOf_98
  · refine lv_tableOut (tgt := 99) hx hb d_Mo_figureOf_1 (Or.inr (by rw [nI_toInt (by omega)]; omega)) (by decide) ?_
    refine lv_aload_n hx hb d_Mo_figureOf_99 rfl (lv_at hl 0 rfl) ?_
    have hPc := hP.sub (ws' := [(am, .inr (9, [.int (nI th), .int (nI n), .ref hk, .ref ht, .int (nI n1), .ref hk1, .ref ht1, .int (zb pb), .int (nI rn), .ref hfg, .ref hle, .ref hmo, .ref hwy, .int (nI tn), .ref htf, .long cm, .ref hod, .ref hwk, .ref hot, .int (nI ru), .ref hen])), (hk, .inl (ck, 150, .inl k))]) [0, 1] rfl
    have hKc := hK.sub (tys' := [(ck, .int)]) [0] rfl
    refine vp_callSi (W.runV (As := []) (rest := []) ⟨hx, hb, hml, hown, hg⟩ (c_Mo_different l DD am th n hk ck k ht n1 hk1 ht1 pb rn hfg hle hmo hwy tn htf cm hod hwk hot ru hen (by omega)) (cwV 0 hg (gi_V mw_791 mw_793 ms_Mo_different mw_11 mw_794) rfl rfl rfl (by decide +kernel) ⟨Nat.le_of_ble_eq_true rfl, Nat.le_of_ble_eq_true rfl⟩) ⟨z_blind, va_recv hKc hPc (ci := 9) (q0 := 0) rfl rfl, z_pre hPc hKc⟩ rfl rfl hl.1 rfl (lv_room (Nat.le_of_ble_eq_true rfl)) d_Mo_figureOf_100 ⟨Nat.zero_le _, Nat.zero_le _⟩) (fun r_100 hr_100 => ?_)
    subst hr_100
    refine lv_i2l hx hb d_Mo_figureOf_103 rfl ?_
    exact W.lret (v := (nI (cnt (firstB k) n)).toInt64) hx hb hr (fun t9 ht9 hW9 => ⟨_, rfl, (by exact congrArg Int32.toInt64 (fig_7 h7)), ht9⟩) (fun _ h => nomatch h) d_Mo_figureOf_104
theorem d_Mo_isWay_0 : decode b_Mo_isWay 0 = .ok (.iload_n 0, 1) := by decide +kernel
theorem d_Mo_isWay_1 : decode b_Mo_isWay 1 = .ok (.ifCond .lt 12, 3) := by decide +kernel
theorem d_Mo_isWay_4 : decode b_Mo_isWay 4 = .ok (.iload_n 0, 1) := by decide +kernel
theorem d_Mo_isWay_5 : decode b_Mo_isWay 5 = .ok (.iconst 4, 1) := by decide +kernel
theorem d_Mo_isWay_6 : decode b_Mo_isWay 6 = .ok (.if_icmp .gt 7, 3) := by decide +kernel
theorem d_Mo_isWay_9 : decode b_Mo_isWay 9 = .ok (.iconst 1, 1) := by decide +kernel
theorem d_Mo_isWay_10 : decode b_Mo_isWay 10 = .ok (.goto 4, 3) := by decide +kernel
theorem d_Mo_isWay_13 : decode b_Mo_isWay 13 = .ok (.iconst 0, 1) := by decide +kernel
theorem d_Mo_isWay_14 : decode b_Mo_isWay 14 = .ok (.ireturn, 1) := by decide +kernel
abbrev ws_Mo_isWay : List Cond := .code y_Mo_isWay b_Mo_isWay 1 (some .boolean) :: ALLG
abbrev rm_Mo_isWay : Room := { frames := 0, cells := 0, slots := 0, locals := 0 }
set_option maxHeartbeats 4000000 in
set_option maxRecDepth 100000 in
theorem c_Mo_isWay (l : Launch) (DD : va_G) (x : Int32) : Met l y_Mo_isWay ws_Mo_isWay rm_Mo_isWay (va_Pc [.int x] (fun U => va_P DD vwCl [] U.heap ∧ va_K DD vwCl [] U)) (vp_Si (fun r9 => r9 = zb (hasB x 5))) 0 0 (fun _ => False) := by
  refine Met.ofW (cc := b_Mo_isWay) (maxL := 1) (ret := (some .boolean)) (by decide) rfl ?_
  intro p e s m args below meth c s₁ B hml hv
  obtain ⟨ha, hP, hK⟩ := hv
  have hx := B.exec
  have hb := B.bytes
  have hr := B.returns
  have hts := atoms_spec (ws := ws_Mo_isWay) B.pre
  have hg : ∀ w ∈ ALLG, w.before args s = true := fun w h => hts w (List.mem_cons_of_mem _ h)
  have hown : s.vm.findClass R_Mo = some m.cls := findClass_of_methodNamed B.named
  have hlocks := B.notSynchronized
  have hP : va_P DD vwCl [] s.heap := hP
  have hl := lv_entry ([.int x]) (n := 1) (Nat.le_of_ble_eq_true rfl)
  rw [ha, lg_entry_eq, ← ha]
  generalize (lg_sl ([.int x]) ++ List.replicate (1 - (lg_sl ([.int x])).length) Slot.unset).toArray = ls at hl ⊢
  have hl : lv_has ls 1 [(0, .int x)] := hl
  refine lv_iload_n hx hb d_Mo_isWay_0 rfl (lv_at hl 0 rfl) ?_
  refine lv_if_lt (tgt := 13) hx hb d_Mo_isWay_1 (by decide) (fun c_1 => ?_) (fun c_1 => ?_)
  · refine lv_iconst (v := nI 0) hx hb d_Mo_isWay_13 (by decide) ?_
    exact W.zret (v := nI 0) hx hb hr (by rfl) (fun t9 ht9 hW9 => ⟨_, rfl, (by first | exact hasB_t (n := 5) (by decide) c_1 (fun h => absurd (Int32.le_iff_toInt_le.mp h) (by have h9 := Int32.le_iff_toInt_le.mp (Int32.not_lt.mp c_6); rw [nI_toInt (by decide)] at *; omega)) | exact hasB_f2 (n := 5) (by decide) (Int32.le_iff_toInt_le.mpr (by have h9 := Int32.lt_iff_toInt_lt.mp c_6; rw [nI_toInt (by decide)] at *; omega)) | exact hasB_f1 c_1), ht9⟩) (fun _ h => nomatch h) d_Mo_isWay_14
  · refine lv_iload_n hx hb d_Mo_isWay_4 rfl (lv_at hl 0 rfl) ?_
    refine lv_iconst (v := nI 4) hx hb d_Mo_isWay_5 (by decide) ?_
    refine lv_icmp_gt (tgt := 13) hx hb d_Mo_isWay_6 (by decide) (fun c_6 => ?_) (fun c_6 => ?_)
    · refine lv_iconst (v := nI 0) hx hb d_Mo_isWay_13 (by decide) ?_
      exact W.zret (v := nI 0) hx hb hr (by rfl) (fun t9 ht9 hW9 => ⟨_, rfl, (by first | exact hasB_t (n := 5) (by decide) c_1 (fun h => absurd (Int32.le_iff_toInt_le.mp h) (by have h9 := Int32.le_iff_toInt_le.mp (Int32.not_lt.mp c_6); rw [nI_toInt (by decide)] at *; omega)) | exact hasB_f2 (n := 5) (by decide) (Int32.le_iff_toInt_le.mpr (by have h9 := Int32.lt_iff_toInt_lt.mp c_6; rw [nI_toInt (by decide)] at *; omega)) | exact hasB_f1 c_1), ht9⟩) (fun _ h => nomatch h) d_Mo_isWay_14
    · refine lv_iconst (v := nI 1) hx hb d_Mo_isWay_9 (by decide) ?_
      refine lv_goto (tgt := 14) hx hb d_Mo_isWay_10 (by decide) ?_
      exact W.zret (v := nI 1) hx hb hr (by rfl) (fun t9 ht9 hW9 => ⟨_, rfl, (by first | exact hasB_t (n := 5) (by decide) c_1 (fun h => absurd (Int32.le_iff_toInt_le.mp h) (by have h9 := Int32.le_iff_toInt_le.mp (Int32.not_lt.mp c_6); rw [nI_toInt (by decide)] at *; omega)) | exact hasB_f2 (n := 5) (by decide) (Int32.le_iff_toInt_le.mpr (by have h9 := Int32.lt_iff_toInt_lt.mp c_6; rw [nI_toInt (by decide)] at *; omega)) | exact hasB_f1 c_1), ht9⟩) (fun _ h => nomatch h) d_Mo_isWay_14
theorem d_Mo_fits_0 : decode b_Mo_fits 0 = .ok (.iload_n 1, 1) := by decide +kernel
theorem d_Mo_fits_1 : decode b_Mo_fits 1 = .ok (.ifCond .ne 31, 3) := by decide +kernel
theorem d_Mo_fits_4 : decode b_Mo_fits 4 = .ok (.aload_n 0, 1) := by decide +kernel
theorem d_Mo_fits_5 : decode b_Mo_fits 5 = .ok (.getfield 54, 3) := by decide +kernel
theorem d_Mo_fits_8 : decode b_Mo_fits 8 = .ok (.ifCond .eq 16, 3) := by decide +kernel
theorem d_Mo_fits_11 : decode b_Mo_fits 11 = .ok (.aload_n 0, 1) := by decide +kernel
theorem d_Mo_fits_12 : decode b_Mo_fits 12 = .ok (.invokevirtual 65, 3) := by decide +kernel
theorem d_Mo_fits_15 : decode b_Mo_fits 15 = .ok (.aload_n 0, 1) := by decide +kernel
theorem d_Mo_fits_16 : decode b_Mo_fits 16 = .ok (.getfield 54, 3) := by decide +kernel
theorem d_Mo_fits_19 : decode b_Mo_fits 19 = .ok (.iconst 1, 1) := by decide +kernel
theorem d_Mo_fits_20 : decode b_Mo_fits 20 = .ok (.isub, 1) := by decide +kernel
theorem d_Mo_fits_21 : decode b_Mo_fits 21 = .ok (.if_icmp .ne 7, 3) := by decide +kernel
theorem d_Mo_fits_24 : decode b_Mo_fits 24 = .ok (.iconst 1, 1) := by decide +kernel
theorem d_Mo_fits_25 : decode b_Mo_fits 25 = .ok (.goto 57, 3) := by decide +kernel
theorem d_Mo_fits_28 : decode b_Mo_fits 28 = .ok (.iconst 0, 1) := by decide +kernel
theorem d_Mo_fits_29 : decode b_Mo_fits 29 = .ok (.goto 53, 3) := by decide +kernel
theorem d_Mo_fits_32 : decode b_Mo_fits 32 = .ok (.iload_n 1, 1) := by decide +kernel
theorem d_Mo_fits_33 : decode b_Mo_fits 33 = .ok (.iconst 1, 1) := by decide +kernel
theorem d_Mo_fits_34 : decode b_Mo_fits 34 = .ok (.if_icmp .ne 20, 3) := by decide +kernel
theorem d_Mo_fits_37 : decode b_Mo_fits 37 = .ok (.aload_n 0, 1) := by decide +kernel
theorem d_Mo_fits_38 : decode b_Mo_fits 38 = .ok (.getfield 54, 3) := by decide +kernel
theorem d_Mo_fits_41 : decode b_Mo_fits 41 = .ok (.bipush 60, 2) := by decide +kernel
theorem d_Mo_fits_43 : decode b_Mo_fits 43 = .ok (.if_icmp .gt 7, 3) := by decide +kernel
theorem d_Mo_fits_46 : decode b_Mo_fits 46 = .ok (.iconst 1, 1) := by decide +kernel
theorem d_Mo_fits_47 : decode b_Mo_fits 47 = .ok (.goto 35, 3) := by decide +kernel
theorem d_Mo_fits_50 : decode b_Mo_fits 50 = .ok (.iconst 0, 1) := by decide +kernel
theorem d_Mo_fits_51 : decode b_Mo_fits 51 = .ok (.goto 31, 3) := by decide +kernel
theorem d_Mo_fits_54 : decode b_Mo_fits 54 = .ok (.iload_n 1, 1) := by decide +kernel
theorem d_Mo_fits_55 : decode b_Mo_fits 55 = .ok (.iconst 3, 1) := by decide +kernel
theorem d_Mo_fits_56 : decode b_Mo_fits 56 = .ok (.if_icmp .ne 21, 3) := by decide +kernel
theorem d_Mo_fits_59 : decode b_Mo_fits 59 = .ok (.aload_n 0, 1) := by decide +kernel
theorem d_Mo_fits_60 : decode b_Mo_fits 60 = .ok (.iconst 0, 1) := by decide +kernel
theorem d_Mo_fits_61 : decode b_Mo_fits 61 = .ok (.invokevirtual 72, 3) := by decide +kernel
theorem d_Mo_fits_64 : decode b_Mo_fits 64 = .ok (.aload_n 0, 1) := by decide +kernel
theorem d_Mo_fits_65 : decode b_Mo_fits 65 = .ok (.iconst 1, 1) := by decide +kernel
theorem d_Mo_fits_66 : decode b_Mo_fits 66 = .ok (.invokevirtual 72, 3) := by decide +kernel
theorem d_Mo_fits_69 : decode b_Mo_fits 69 = .ok (.lsub, 1) := by decide +kernel
theorem d_Mo_fits_70 : decode b_Mo_fits 70 = .ok (.ldc2_w 93, 3) := by decide +kernel
theorem d_Mo_fits_73 : decode b_Mo_fits 73 = .ok (.lcmp, 1) := by decide +kernel
theorem d_Mo_fits_74 : decode b_Mo_fits 74 = .ok (.ifCond .gt 7, 3) := by decide +kernel
theorem d_Mo_fits_77 : decode b_Mo_fits 77 = .ok (.iconst 1, 1) := by decide +kernel
theorem d_Mo_fits_78 : decode b_Mo_fits 78 = .ok (.goto 4, 3) := by decide +kernel
theorem d_Mo_fits_81 : decode b_Mo_fits 81 = .ok (.iconst 0, 1) := by decide +kernel
theorem d_Mo_fits_82 : decode b_Mo_fits 82 = .ok (.ireturn, 1) := by decide +kernel
abbrev ws_Mo_fits : List Cond := .code y_Mo_fits b_Mo_fits 2 (some .boolean) :: ALLG
abbrev rm_Mo_fits : Room := { frames := 1, cells := 0, slots := 0, locals := 25 }
set_option maxHeartbeats 4000000 in
set_option maxRecDepth 100000 in
theorem c_Mo_fits (l : Launch) (DD : va_G) (am : Nat) (th : Nat) (n : Nat) (hk : Nat) (ck : ClassId) (k : Nat → Int32) (ht : Nat) (n1 : Nat) (hk1 : Nat) (ht1 : Nat) (pb : Bool) (rn : Nat) (hfg : Nat) (hle : Nat) (hmo : Nat) (hwy : Nat) (tn : Nat) (htf : Nat) (cm : Int64) (hod : Nat) (hwk : Nat) (hot : Nat) (ru : Nat) (hen : Nat) (w : Nat) (hn : n ≤ 150) (hw5 : w < 5) : Met l y_Mo_fits ws_Mo_fits rm_Mo_fits (va_Pc [.ref am, .int (nI w)] (fun U => va_P DD vwCl [(am, .inr (9, [.int (nI th), .int (nI n), .ref hk, .ref ht, .int (nI n1), .ref hk1, .ref ht1, .int (zb pb), .int (nI rn), .ref hfg, .ref hle, .ref hmo, .ref hwy, .int (nI tn), .ref htf, .long cm, .ref hod, .ref hwk, .ref hot, .int (nI ru), .ref hen])), (hk, .inl (ck, 150, .inl k))] U.heap ∧ va_K DD vwCl [(ck, .int)] U)) (vp_Si (fun r9 => r9 = zb (suB k n w))) 0 0 (fun _ => False) := by
  refine Met.ofW (cc := b_Mo_fits) (maxL := 2) (ret := (some .boolean)) (by decide) rfl ?_
  intro p e s m args below meth c s₁ B hml hv
  obtain ⟨ha, hP, hK⟩ := hv
  have hx := B.exec
  have hb := B.bytes
  have hr := B.returns
  have hts := atoms_spec (ws := ws_Mo_fits) B.pre
  have hg : ∀ w ∈ ALLG, w.before args s = true := fun w h => hts w (List.mem_cons_of_mem _ h)
  have hown : s.vm.findClass R_Mo = some m.cls := findClass_of_methodNamed B.named
  have hlocks := B.notSynchronized
  have hP : va_P DD vwCl [(am, .inr (9, [.int (nI th), .int (nI n), .ref hk, .ref ht, .int (nI n1), .ref hk1, .ref ht1, .int (zb pb), .int (nI rn), .ref hfg, .ref hle, .ref hmo, .ref hwy, .int (nI tn), .ref htf, .long cm, .ref hod, .ref hwk, .ref hot, .int (nI ru), .ref hen])), (hk, .inl (ck, 150, .inl k))] s.heap := hP
  have hl := lv_entry ([.ref am, .int (nI w)]) (n := 2) (Nat.le_of_ble_eq_true rfl)
  rw [ha, lg_entry_eq, ← ha]
  generalize (lg_sl ([.ref am, .int (nI w)]) ++ List.replicate (2 - (lg_sl ([.ref am, .int (nI w)])).length) Slot.unset).toArray = ls at hl ⊢
  have hl : lv_has ls 2 [(0, .ref am), (1, .int (nI w))] := hl
  refine lv_iload_n hx hb d_Mo_fits_0 rfl (lv_at hl 1 rfl) ?_
  refine z_if_ne (tgt := 32) hx hb d_Mo_fits_1 (by decide) (by omega) (fun c_1 => ?_) (fun c_1 => ?_)
  · refine lv_iload_n hx hb d_Mo_fits_32 rfl (lv_at hl 1 rfl) ?_
    refine lv_iconst (v := nI 1) hx hb d_Mo_fits_33 (by decide) ?_
    refine z_icmp_ne (tgt := 54) hx hb d_Mo_fits_34 (by decide) (by omega) (by omega) (fun c_34 => ?_) (fun c_34 => ?_)
    · refine lv_iload_n hx hb d_Mo_fits_54 rfl (lv_at hl 1 rfl) ?_
      refine lv_iconst (v := nI 3) hx hb d_Mo_fits_55 (by decide) ?_
      refine z_icmp_ne (tgt := 77) hx hb d_Mo_fits_56 (by decide) (by omega) (by omega) (fun c_56 => ?_) (fun c_56 => ?_)
      · refine lv_iconst (v := nI 1) hx hb d_Mo_fits_77 (by decide) ?_
        refine lv_goto (tgt := 82) hx hb d_Mo_fits_78 (by decide) ?_
        exact W.zret (v := nI 1) hx hb hr (by rfl) (fun t9 ht9 hW9 => ⟨_, rfl, (by first | exact su_00 c_1 c_8 | exact su_01 c_1 c_8 c_21 | exact su_02 c_1 c_8 c_21 | exact su_11 c_34 c_43 | exact su_12 c_34 c_43 | exact su_31 c_56 c_73 | exact su_32 c_56 c_73 | exact su_o c_1 c_34 c_56), ht9⟩) (fun _ h => nomatch h) d_Mo_fits_82
      · refine lv_aload_n hx hb d_Mo_fits_59 rfl (lv_at hl 0 rfl) ?_
        refine lv_iconst (v := nI 0) hx hb d_Mo_fits_60 (by decide) ?_
        have hPc := hP.sub (ws' := [(am, .inr (9, [.int (nI th), .int (nI n), .ref hk, .ref ht, .int (nI n1), .ref hk1, .ref ht1, .int (zb pb), .int (nI rn), .ref hfg, .ref hle, .ref hmo, .ref hwy, .int (nI tn), .ref htf, .long cm, .ref hod, .ref hwk, .ref hot, .int (nI ru), .ref hen])), (hk, .inl (ck, 150, .inl k))]) [0, 1] rfl
        have hKc := hK.sub (tys' := [(ck, .int)]) [0] rfl
        refine vp_callSl (W.runV (As := [.int (nI 0)]) (rest := []) ⟨hx, hb, hml, hown, hg⟩ (c_Mo_extreme l DD am th n hk ck k ht n1 hk1 ht1 pb rn hfg hle hmo hwy tn htf cm hod hwk hot ru hen 0 (by omega) (by omega)) (cwV 1 hg (gi_V mw_783 mw_785 ms_Mo_extreme mw_11 mw_786) rfl rfl rfl (by decide +kernel) ⟨Nat.le_of_ble_eq_true rfl, Nat.le_of_ble_eq_true rfl⟩) ⟨z_blind, va_recv hKc hPc (ci := 9) (q0 := 0) rfl rfl, z_pre hPc hKc⟩ rfl rfl hl.1 rfl (lv_room (Nat.le_of_ble_eq_true rfl)) d_Mo_fits_61 ⟨Nat.zero_le _, Nat.zero_le _⟩) (fun r_61 hr_61 => ?_)
        subst hr_61
        refine lv_aload_n hx hb d_Mo_fits_64 rfl (lv_at hl 0 rfl) ?_
        refine lv_iconst (v := nI 1) hx hb d_Mo_fits_65 (by decide) ?_
        have hPc := hP.sub (ws' := [(am, .inr (9, [.int (nI th), .int (nI n), .ref hk, .ref ht, .int (nI n1), .ref hk1, .ref ht1, .int (zb pb), .int (nI rn), .ref hfg, .ref hle, .ref hmo, .ref hwy, .int (nI tn), .ref htf, .long cm, .ref hod, .ref hwk, .ref hot, .int (nI ru), .ref hen])), (hk, .inl (ck, 150, .inl k))]) [0, 1] rfl
        have hKc := hK.sub (tys' := [(ck, .int)]) [0] rfl
        refine vp_callSl (W.runV (As := [.int (nI 1)]) (rest := [.long ((if 0 = 0 then greatF k n else leastF k n).toInt64)]) ⟨hx, hb, hml, hown, hg⟩ (c_Mo_extreme l DD am th n hk ck k ht n1 hk1 ht1 pb rn hfg hle hmo hwy tn htf cm hod hwk hot ru hen 1 (by omega) (by omega)) (cwV 1 hg (gi_V mw_783 mw_785 ms_Mo_extreme mw_11 mw_786) rfl rfl rfl (by decide +kernel) ⟨Nat.le_of_ble_eq_true rfl, Nat.le_of_ble_eq_true rfl⟩) ⟨z_blind, va_recv hKc hPc (ci := 9) (q0 := 0) rfl rfl, z_pre hPc hKc⟩ rfl rfl hl.1 rfl (lv_room (Nat.le_of_ble_eq_true rfl)) d_Mo_fits_66 ⟨Nat.zero_le _, Nat.zero_le _⟩) (fun r_66 hr_66 => ?_)
        subst hr_66
        refine lv_lsub hx hb d_Mo_fits_69 ?_
        refine lv_ldc2 (v := 500) hx hb hown (hg _ mw_818) d_Mo_fits_70 ?_
        refine z_lcmp_gt (tgt := 81) hx hb d_Mo_fits_73 d_Mo_fits_74 (by decide) (fun c_73 => ?_) (fun c_73 => ?_)
        · refine lv_iconst (v := nI 0) hx hb d_Mo_fits_81 (by decide) ?_
          exact W.zret (v := nI 0) hx hb hr (by rfl) (fun t9 ht9 hW9 => ⟨_, rfl, (by first | exact su_00 c_1 c_8 | exact su_01 c_1 c_8 c_21 | exact su_02 c_1 c_8 c_21 | exact su_11 c_34 c_43 | exact su_12 c_34 c_43 | exact su_31 c_56 c_73 | exact su_32 c_56 c_73 | exact su_o c_1 c_34 c_56), ht9⟩) (fun _ h => nomatch h) d_Mo_fits_82
        · refine lv_iconst (v := nI 1) hx hb d_Mo_fits_77 (by decide) ?_
          refine lv_goto (tgt := 82) hx hb d_Mo_fits_78 (by decide) ?_
          exact W.zret (v := nI 1) hx hb hr (by rfl) (fun t9 ht9 hW9 => ⟨_, rfl, (by first | exact su_00 c_1 c_8 | exact su_01 c_1 c_8 c_21 | exact su_02 c_1 c_8 c_21 | exact su_11 c_34 c_43 | exact su_12 c_34 c_43 | exact su_31 c_56 c_73 | exact su_32 c_56 c_73 | exact su_o c_1 c_34 c_56), ht9⟩) (fun _ h => nomatch h) d_Mo_fits_82
    · refine lv_aload_n hx hb d_Mo_fits_37 rfl (lv_at hl 0 rfl) ?_
      refine va_get (D := DD) (ci := 9) (v := .int (nI n)) (C := R_Mo) (T := T_Mo) (N := 21) hx hb hg in_Mo hown hK hP 0 rfl rfl 1 (by decide) (hg _ mw_680) (fun _ h9 => h9) rfl d_Mo_fits_38 ?_
      refine lv_bipush (v := nI 60) hx hb d_Mo_fits_41 (by decide) ?_
      refine z_icmp_gt (tgt := 50) hx hb d_Mo_fits_43 (by decide) (by omega) (by omega) (fun c_43 => ?_) (fun c_43 => ?_)
      · refine lv_iconst (v := nI 0) hx hb d_Mo_fits_50 (by decide) ?_
        refine lv_goto (tgt := 82) hx hb d_Mo_fits_51 (by decide) ?_
        exact W.zret (v := nI 0) hx hb hr (by rfl) (fun t9 ht9 hW9 => ⟨_, rfl, (by first | exact su_00 c_1 c_8 | exact su_01 c_1 c_8 c_21 | exact su_02 c_1 c_8 c_21 | exact su_11 c_34 c_43 | exact su_12 c_34 c_43 | exact su_31 c_56 c_73 | exact su_32 c_56 c_73 | exact su_o c_1 c_34 c_56), ht9⟩) (fun _ h => nomatch h) d_Mo_fits_82
      · refine lv_iconst (v := nI 1) hx hb d_Mo_fits_46 (by decide) ?_
        refine lv_goto (tgt := 82) hx hb d_Mo_fits_47 (by decide) ?_
        exact W.zret (v := nI 1) hx hb hr (by rfl) (fun t9 ht9 hW9 => ⟨_, rfl, (by first | exact su_00 c_1 c_8 | exact su_01 c_1 c_8 c_21 | exact su_02 c_1 c_8 c_21 | exact su_11 c_34 c_43 | exact su_12 c_34 c_43 | exact su_31 c_56 c_73 | exact su_32 c_56 c_73 | exact su_o c_1 c_34 c_56), ht9⟩) (fun _ h => nomatch h) d_Mo_fits_82
  · refine lv_aload_n hx hb d_Mo_fits_4 rfl (lv_at hl 0 rfl) ?_
    refine va_get (D := DD) (ci := 9) (v := .int (nI n)) (C := R_Mo) (T := T_Mo) (N := 21) hx hb hg in_Mo hown hK hP 0 rfl rfl 1 (by decide) (hg _ mw_680) (fun _ h9 => h9) rfl d_Mo_fits_5 ?_
    refine z_if_eq (tgt := 24) hx hb d_Mo_fits_8 (by decide) (by omega) (fun c_8 => ?_) (fun c_8 => ?_)
    · refine lv_iconst (v := nI 1) hx hb d_Mo_fits_24 (by decide) ?_
      refine lv_goto (tgt := 82) hx hb d_Mo_fits_25 (by decide) ?_
      exact W.zret (v := nI 1) hx hb hr (by rfl) (fun t9 ht9 hW9 => ⟨_, rfl, (by first | exact su_00 c_1 c_8 | exact su_01 c_1 c_8 c_21 | exact su_02 c_1 c_8 c_21 | exact su_11 c_34 c_43 | exact su_12 c_34 c_43 | exact su_31 c_56 c_73 | exact su_32 c_56 c_73 | exact su_o c_1 c_34 c_56), ht9⟩) (fun _ h => nomatch h) d_Mo_fits_82
    · refine lv_aload_n hx hb d_Mo_fits_11 rfl (lv_at hl 0 rfl) ?_
      have hPc := hP.sub (ws' := [(am, .inr (9, [.int (nI th), .int (nI n), .ref hk, .ref ht, .int (nI n1), .ref hk1, .ref ht1, .int (zb pb), .int (nI rn), .ref hfg, .ref hle, .ref hmo, .ref hwy, .int (nI tn), .ref htf, .long cm, .ref hod, .ref hwk, .ref hot, .int (nI ru), .ref hen])), (hk, .inl (ck, 150, .inl k))]) [0, 1] rfl
      have hKc := hK.sub (tys' := [(ck, .int)]) [0] rfl
      refine vp_callSi (W.runV (As := []) (rest := []) ⟨hx, hb, hml, hown, hg⟩ (c_Mo_descents l DD am th n hk ck k ht n1 hk1 ht1 pb rn hfg hle hmo hwy tn htf cm hod hwk hot ru hen (by omega)) (cwV 0 hg (gi_V mw_775 mw_777 ms_Mo_descents mw_11 mw_778) rfl rfl rfl (by decide +kernel) ⟨Nat.le_of_ble_eq_true rfl, Nat.le_of_ble_eq_true rfl⟩) ⟨z_blind, va_recv hKc hPc (ci := 9) (q0 := 0) rfl rfl, z_pre hPc hKc⟩ rfl rfl hl.1 rfl (lv_room (Nat.le_of_ble_eq_true rfl)) d_Mo_fits_12 ⟨Nat.zero_le _, Nat.zero_le _⟩) (fun r_12 hr_12 => ?_)
      subst hr_12
      refine lv_aload_n hx hb d_Mo_fits_15 rfl (lv_at hl 0 rfl) ?_
      refine va_get (D := DD) (ci := 9) (v := .int (nI n)) (C := R_Mo) (T := T_Mo) (N := 21) hx hb hg in_Mo hown hK hP 0 rfl rfl 1 (by decide) (hg _ mw_680) (fun _ h9 => h9) rfl d_Mo_fits_16 ?_
      refine lv_iconst (v := nI 1) hx hb d_Mo_fits_19 (by decide) ?_
      refine z_isub hx hb d_Mo_fits_20 (by omega) ?_
      have hcl := cnt_le (dropB k) n
      refine z_icmp_ne (tgt := 28) hx hb d_Mo_fits_21 (by decide) (by omega) (by omega) (fun c_21 => ?_) (fun c_21 => ?_)
      · refine lv_iconst (v := nI 0) hx hb d_Mo_fits_28 (by decide) ?_
        refine lv_goto (tgt := 82) hx hb d_Mo_fits_29 (by decide) ?_
        exact W.zret (v := nI 0) hx hb hr (by rfl) (fun t9 ht9 hW9 => ⟨_, rfl, (by first | exact su_00 c_1 c_8 | exact su_01 c_1 c_8 c_21 | exact su_02 c_1 c_8 c_21 | exact su_11 c_34 c_43 | exact su_12 c_34 c_43 | exact su_31 c_56 c_73 | exact su_32 c_56 c_73 | exact su_o c_1 c_34 c_56), ht9⟩) (fun _ h => nomatch h) d_Mo_fits_82
      · refine lv_iconst (v := nI 1) hx hb d_Mo_fits_24 (by decide) ?_
        refine lv_goto (tgt := 82) hx hb d_Mo_fits_25 (by decide) ?_
        exact W.zret (v := nI 1) hx hb hr (by rfl) (fun t9 ht9 hW9 => ⟨_, rfl, (by first | exact su_00 c_1 c_8 | exact su_01 c_1 c_8 c_21 | exact su_02 c_1 c_8 c_21 | exact su_11 c_34 c_43 | exact su_12 c_34 c_43 | exact su_31 c_56 c_73 | exact su_32 c_56 c_73 | exact su_o c_1 c_34 c_56), ht9⟩) (fun _ h => nomatch h) d_Mo_fits_82
theorem d_Mo_planned_0 : decode b_Mo_planned 0 = .ok (.iconst 0, 1) := by decide +kernel
theorem d_Mo_planned_1 : decode b_Mo_planned 1 = .ok (.istore_n 1, 1) := by decide +kernel
theorem d_Mo_planned_2 : decode b_Mo_planned 2 = .ok (.iload_n 1, 1) := by decide +kernel
theorem d_Mo_planned_3 : decode b_Mo_planned 3 = .ok (.aload_n 0, 1) := by decide +kernel
theorem d_Mo_planned_4 : decode b_Mo_planned 4 = .ok (.getfield 90, 3) := by decide +kernel
theorem d_Mo_planned_7 : decode b_Mo_planned 7 = .ok (.if_icmp .ge 62, 3) := by decide +kernel
theorem d_Mo_planned_10 : decode b_Mo_planned 10 = .ok (.aload_n 0, 1) := by decide +kernel
theorem d_Mo_planned_11 : decode b_Mo_planned 11 = .ok (.aload_n 0, 1) := by decide +kernel
theorem d_Mo_planned_12 : decode b_Mo_planned 12 = .ok (.getfield 22, 3) := by decide +kernel
theorem d_Mo_planned_15 : decode b_Mo_planned 15 = .ok (.iload_n 1, 1) := by decide +kernel
theorem d_Mo_planned_16 : decode b_Mo_planned 16 = .ok (.iaload, 1) := by decide +kernel
theorem d_Mo_planned_17 : decode b_Mo_planned 17 = .ok (.invokevirtual 82, 3) := by decide +kernel
theorem d_Mo_planned_20 : decode b_Mo_planned 20 = .ok (.lstore_n 2, 1) := by decide +kernel
theorem d_Mo_planned_21 : decode b_Mo_planned 21 = .ok (.lload_n 2, 1) := by decide +kernel
theorem d_Mo_planned_22 : decode b_Mo_planned 22 = .ok (.aload_n 0, 1) := by decide +kernel
theorem d_Mo_planned_23 : decode b_Mo_planned 23 = .ok (.getfield 25, 3) := by decide +kernel
theorem d_Mo_planned_26 : decode b_Mo_planned 26 = .ok (.iload_n 1, 1) := by decide +kernel
theorem d_Mo_planned_27 : decode b_Mo_planned 27 = .ok (.laload, 1) := by decide +kernel
theorem d_Mo_planned_28 : decode b_Mo_planned 28 = .ok (.lcmp, 1) := by decide +kernel
theorem d_Mo_planned_29 : decode b_Mo_planned 29 = .ok (.ifCond .lt 34, 3) := by decide +kernel
theorem d_Mo_planned_32 : decode b_Mo_planned 32 = .ok (.lload_n 2, 1) := by decide +kernel
theorem d_Mo_planned_33 : decode b_Mo_planned 33 = .ok (.aload_n 0, 1) := by decide +kernel
theorem d_Mo_planned_34 : decode b_Mo_planned 34 = .ok (.getfield 29, 3) := by decide +kernel
theorem d_Mo_planned_37 : decode b_Mo_planned 37 = .ok (.iload_n 1, 1) := by decide +kernel
theorem d_Mo_planned_38 : decode b_Mo_planned 38 = .ok (.laload, 1) := by decide +kernel
theorem d_Mo_planned_39 : decode b_Mo_planned 39 = .ok (.lcmp, 1) := by decide +kernel
theorem d_Mo_planned_40 : decode b_Mo_planned 40 = .ok (.ifCond .gt 23, 3) := by decide +kernel
theorem d_Mo_planned_43 : decode b_Mo_planned 43 = .ok (.aload_n 0, 1) := by decide +kernel
theorem d_Mo_planned_44 : decode b_Mo_planned 44 = .ok (.aload_n 0, 1) := by decide +kernel
theorem d_Mo_planned_45 : decode b_Mo_planned 45 = .ok (.getfield 32, 3) := by decide +kernel
theorem d_Mo_planned_48 : decode b_Mo_planned 48 = .ok (.iload_n 1, 1) := by decide +kernel
theorem d_Mo_planned_49 : decode b_Mo_planned 49 = .ok (.iaload, 1) := by decide +kernel
theorem d_Mo_planned_50 : decode b_Mo_planned 50 = .ok (.invokevirtual 95, 3) := by decide +kernel
theorem d_Mo_planned_53 : decode b_Mo_planned 53 = .ok (.ifCond .eq 10, 3) := by decide +kernel
theorem d_Mo_planned_56 : decode b_Mo_planned 56 = .ok (.aload_n 0, 1) := by decide +kernel
theorem d_Mo_planned_57 : decode b_Mo_planned 57 = .ok (.getfield 32, 3) := by decide +kernel
theorem d_Mo_planned_60 : decode b_Mo_planned 60 = .ok (.iload_n 1, 1) := by decide +kernel
theorem d_Mo_planned_61 : decode b_Mo_planned 61 = .ok (.iaload, 1) := by decide +kernel
theorem d_Mo_planned_62 : decode b_Mo_planned 62 = .ok (.ireturn, 1) := by decide +kernel
theorem d_Mo_planned_63 : decode b_Mo_planned 63 = .ok (.iinc 1 1, 3) := by decide +kernel
theorem d_Mo_planned_66 : decode b_Mo_planned 66 = .ok (.goto (-64), 3) := by decide +kernel
theorem d_Mo_planned_69 : decode b_Mo_planned 69 = .ok (.iconst 2, 1) := by decide +kernel
theorem d_Mo_planned_70 : decode b_Mo_planned 70 = .ok (.ireturn, 1) := by decide +kernel
abbrev ws_Mo_planned : List Cond := .code y_Mo_planned b_Mo_planned 4 (some .int) :: ALLG
abbrev rm_Mo_planned : Room := { frames := 2, cells := 0, slots := 0, locals := 46 }
set_option maxHeartbeats 4000000 in
set_option maxRecDepth 100000 in
theorem c_Mo_planned (l : Launch) (DD : va_G) (am : Nat) (th : Nat) (n : Nat) (hk : Nat) (ck : ClassId) (k : Nat → Int32) (ht : Nat) (n1 : Nat) (hk1 : Nat) (ht1 : Nat) (pb : Bool) (rn : Nat) (hfg : Nat) (cfg : ClassId) (fg : Nat → Nat) (hle : Nat) (cle : ClassId) (le : Nat → Int64) (hmo : Nat) (cmo : ClassId) (mo : Nat → Int64) (hwy : Nat) (cwy : ClassId) (wy : Nat → Nat) (tn : Nat) (htf : Nat) (cm : Int64) (hod : Nat) (hwk : Nat) (hot : Nat) (ru : Nat) (hen : Nat) (hn : n ≤ 150) (hrn : rn ≤ 12) (hf8 : ∀ i, i < rn → fg i < 8) (hw5 : ∀ i, i < rn → wy i < 5) : Met l y_Mo_planned ws_Mo_planned rm_Mo_planned (va_Pc [.ref am] (fun U => va_P DD vwCl [(am, .inr (9, [.int (nI th), .int (nI n), .ref hk, .ref ht, .int (nI n1), .ref hk1, .ref ht1, .int (zb pb), .int (nI rn), .ref hfg, .ref hle, .ref hmo, .ref hwy, .int (nI tn), .ref htf, .long cm, .ref hod, .ref hwk, .ref hot, .int (nI ru), .ref hen])), (hk, .inl (ck, 150, .inl k)), (hfg, .inl (cfg, 12, .inl (nF fg))), (hle, .inl (cle, 12, .inr (.inl le))), (hmo, .inl (cmo, 12, .inr (.inl mo))), (hwy, .inl (cwy, 12, .inl (nF wy)))] U.heap ∧ va_K DD vwCl [(ck, .int), (cfg, .int), (cle, .long), (cmo, .long), (cwy, .int)] U)) (vp_Si (fun r9 => r9 = nI (planF k n fg le mo wy rn rn))) 0 0 (fun _ => False) := by
  refine Met.ofW (cc := b_Mo_planned) (maxL := 4) (ret := (some .int)) (by decide) rfl ?_
  intro p e s m args below meth c s₁ B hml hv
  obtain ⟨ha, hP, hK⟩ := hv
  have hx := B.exec
  have hb := B.bytes
  have hr := B.returns
  have hts := atoms_spec (ws := ws_Mo_planned) B.pre
  have hg : ∀ w ∈ ALLG, w.before args s = true := fun w h => hts w (List.mem_cons_of_mem _ h)
  have hown : s.vm.findClass R_Mo = some m.cls := findClass_of_methodNamed B.named
  have hlocks := B.notSynchronized
  have hP : va_P DD vwCl [(am, .inr (9, [.int (nI th), .int (nI n), .ref hk, .ref ht, .int (nI n1), .ref hk1, .ref ht1, .int (zb pb), .int (nI rn), .ref hfg, .ref hle, .ref hmo, .ref hwy, .int (nI tn), .ref htf, .long cm, .ref hod, .ref hwk, .ref hot, .int (nI ru), .ref hen])), (hk, .inl (ck, 150, .inl k)), (hfg, .inl (cfg, 12, .inl (nF fg))), (hle, .inl (cle, 12, .inr (.inl le))), (hmo, .inl (cmo, 12, .inr (.inl mo))), (hwy, .inl (cwy, 12, .inl (nF wy)))] s.heap := hP
  have hl := lv_entry ([.ref am]) (n := 4) (Nat.le_of_ble_eq_true rfl)
  rw [ha, lg_entry_eq, ← ha]
  generalize (lg_sl ([.ref am]) ++ List.replicate (4 - (lg_sl ([.ref am])).length) Slot.unset).toArray = ls at hl ⊢
  have hl : lv_has ls 4 [(0, .ref am)] := hl
  have K2 : ∀ (kk : Nat) (i : Nat), (hi : i ≤ rn) → (hv : planF k n fg le mo wy rn rn = planF k n fg le mo wy rn (rn - i)) → rn - i < kk → ∀ (ls : Array Slot), lv_has ls 4 [(0, .ref am), (1, .int (nI i))] → W p l e (headSpec ws_Mo_planned rm_Mo_planned).room s m args below meth c s.heap [] 0 0 (MQ below (vp_Si (fun r9 => r9 = nI (planF k n fg le mo wy rn rn))) args s 0 0 (fun _ => False)) (F0 m 2 ls []) := by
    intro kk
    induction kk with
    | zero => intros; omega
    | succ kk ih2 =>
      intro i hi hv hkk ls hl
      refine lv_iload_n hx hb d_Mo_planned_2 rfl (lv_at hl 1 rfl) ?_
      refine lv_aload_n hx hb d_Mo_planned_3 rfl (lv_at hl 0 rfl) ?_
      refine va_get (D := DD) (ci := 9) (v := .int (nI rn)) (C := R_Mo) (T := T_Mo) (N := 21) hx hb hg in_Mo hown hK hP 0 rfl rfl 8 (by decide) (hg _ mw_687) (fun _ h9 => h9) rfl d_Mo_planned_4 ?_
      refine z_icmp_ge (tgt := 69) hx hb d_Mo_planned_7 (by decide) (by omega) (by omega) (fun c_7 => ?_) (fun c_7 => ?_)
      · refine lv_iconst (v := nI 2) hx hb d_Mo_planned_69 (by decide) ?_
        exact W.iret (v := nI 2) hx hb hr (fun t9 ht9 hW9 => ⟨_, rfl, (by exact congrArg nI (planF_x hv c_7)), ht9⟩) (fun _ h => nomatch h) d_Mo_planned_70
      · refine lv_aload_n hx hb d_Mo_planned_10 rfl (lv_at hl 0 rfl) ?_
        refine lv_aload_n hx hb d_Mo_planned_11 rfl (lv_at hl 0 rfl) ?_
        refine va_get (D := DD) (ci := 9) (v := .ref hfg) (C := R_Mo) (T := T_Mo) (N := 21) hx hb hg in_Mo hown hK hP 0 rfl rfl 9 (by decide) (hg _ mw_688) (fun _ h9 => h9) rfl d_Mo_planned_12 ?_
        refine lv_iload_n hx hb d_Mo_planned_15 rfl (lv_at hl 1 rfl) ?_
        refine z_ialdN hx hb hK hP 2 1 rfl rfl (by omega) (by decide) d_Mo_planned_16 ?_
        have hPc := hP.sub (ws' := [(am, .inr (9, [.int (nI th), .int (nI n), .ref hk, .ref ht, .int (nI n1), .ref hk1, .ref ht1, .int (zb pb), .int (nI rn), .ref hfg, .ref hle, .ref hmo, .ref hwy, .int (nI tn), .ref htf, .long cm, .ref hod, .ref hwk, .ref hot, .int (nI ru), .ref hen])), (hk, .inl (ck, 150, .inl k))]) [0, 1] rfl
        have hKc := hK.sub (tys' := [(ck, .int)]) [0] rfl
        refine vp_callSl (W.runV (As := [.int (nI (fg i))]) (rest := []) ⟨hx, hb, hml, hown, hg⟩ (c_Mo_figureOf l DD am th n hk ck k ht n1 hk1 ht1 pb rn hfg hle hmo hwy tn htf cm hod hwk hot ru hen (fg i) (by omega) (by exact hf8 i c_7)) (cwV 1 hg (gi_V mw_771 mw_773 ms_Mo_figureOf mw_11 mw_774) rfl rfl rfl (by decide +kernel) ⟨Nat.le_of_ble_eq_true rfl, Nat.le_of_ble_eq_true rfl⟩) ⟨z_blind, va_recv hKc hPc (ci := 9) (q0 := 0) rfl rfl, z_pre hPc hKc⟩ rfl rfl hl.1 rfl (lv_room (Nat.le_of_ble_eq_true rfl)) d_Mo_planned_17 ⟨Nat.zero_le _, Nat.zero_le _⟩) (fun r_17 hr_17 => ?_)
        subst hr_17
        refine lv_lstore_n (lv' := [(2, .long ((figN k n (fg i)).toInt64)), (0, .ref am), (1, .int (nI i))]) hx hb d_Mo_planned_20 rfl hl (by decide) rfl (fun ls hl => ?_)
        refine lv_lload_n hx hb d_Mo_planned_21 rfl (lv_at hl 0 rfl) ?_
        refine lv_aload_n hx hb d_Mo_planned_22 rfl (lv_at hl 1 rfl) ?_
        refine va_get (D := DD) (ci := 9) (v := .ref hle) (C := R_Mo) (T := T_Mo) (N := 21) hx hb hg in_Mo hown hK hP 0 rfl rfl 10 (by decide) (hg _ mw_689) (fun _ h9 => h9) rfl d_Mo_planned_23 ?_
        refine lv_iload_n hx hb d_Mo_planned_26 rfl (lv_at hl 2 rfl) ?_
        refine z_lald hx hb hK hP 3 2 rfl rfl (by omega) (by decide) d_Mo_planned_27 ?_
        refine z_lcmp_lt (tgt := 63) hx hb d_Mo_planned_28 d_Mo_planned_29 (by decide) (fun c_28 => ?_) (fun c_28 => ?_)
        · refine lv_iinc (v := nI (i + 1)) (lv' := [(1, .int (nI (i + 1))), (2, .long ((figN k n (fg i)).toInt64)), (0, .ref am)]) hx hb d_Mo_planned_63 hl (k := 2) rfl (by exact nI_add i 1) (by decide) rfl (fun ls hl => ?_)
          refine lv_goto (tgt := 2) hx hb d_Mo_planned_66 (by decide) ?_
          exact ih2 (i + 1) (by omega) (by first | exact planF_f hv c_7 (Or.inl c_53) | exact planF_f' hv c_7 (Or.inr c_39) | exact planF_f' hv c_7 (Or.inl c_28)) (by omega) ls (lv_sub hl [2, 0] rfl)
        · refine lv_lload_n hx hb d_Mo_planned_32 rfl (lv_at hl 0 rfl) ?_
          refine lv_aload_n hx hb d_Mo_planned_33 rfl (lv_at hl 1 rfl) ?_
          refine va_get (D := DD) (ci := 9) (v := .ref hmo) (C := R_Mo) (T := T_Mo) (N := 21) hx hb hg in_Mo hown hK hP 0 rfl rfl 11 (by decide) (hg _ mw_690) (fun _ h9 => h9) rfl d_Mo_planned_34 ?_
          refine lv_iload_n hx hb d_Mo_planned_37 rfl (lv_at hl 2 rfl) ?_
          refine z_lald hx hb hK hP 4 3 rfl rfl (by omega) (by decide) d_Mo_planned_38 ?_
          refine z_lcmp_gt (tgt := 63) hx hb d_Mo_planned_39 d_Mo_planned_40 (by decide) (fun c_39 => ?_) (fun c_39 => ?_)
          · refine lv_iinc (v := nI (i + 1)) (lv' := [(1, .int (nI (i + 1))), (2, .long ((figN k n (fg i)).toInt64)), (0, .ref am)]) hx hb d_Mo_planned_63 hl (k := 2) rfl (by exact nI_add i 1) (by decide) rfl (fun ls hl => ?_)
            refine lv_goto (tgt := 2) hx hb d_Mo_planned_66 (by decide) ?_
            exact ih2 (i + 1) (by omega) (by first | exact planF_f hv c_7 (Or.inl c_53) | exact planF_f' hv c_7 (Or.inr c_39) | exact planF_f' hv c_7 (Or.inl c_28)) (by omega) ls (lv_sub hl [2, 0] rfl)
          · refine lv_aload_n hx hb d_Mo_planned_43 rfl (lv_at hl 1 rfl) ?_
            refine lv_aload_n hx hb d_Mo_planned_44 rfl (lv_at hl 1 rfl) ?_
            refine va_get (D := DD) (ci := 9) (v := .ref hwy) (C := R_Mo) (T := T_Mo) (N := 21) hx hb hg in_Mo hown hK hP 0 rfl rfl 12 (by decide) (hg _ mw_691) (fun _ h9 => h9) rfl d_Mo_planned_45 ?_
            refine lv_iload_n hx hb d_Mo_planned_48 rfl (lv_at hl 2 rfl) ?_
            refine z_ialdN hx hb hK hP 5 4 rfl rfl (by omega) (by decide) d_Mo_planned_49 ?_
            have hPc := hP.sub (ws' := [(am, .inr (9, [.int (nI th), .int (nI n), .ref hk, .ref ht, .int (nI n1), .ref hk1, .ref ht1, .int (zb pb), .int (nI rn), .ref hfg, .ref hle, .ref hmo, .ref hwy, .int (nI tn), .ref htf, .long cm, .ref hod, .ref hwk, .ref hot, .int (nI ru), .ref hen])), (hk, .inl (ck, 150, .inl k))]) [0, 1] rfl
            have hKc := hK.sub (tys' := [(ck, .int)]) [0] rfl
            refine vp_callSi (W.runV (As := [.int (nI (wy i))]) (rest := []) ⟨hx, hb, hml, hown, hg⟩ (c_Mo_fits l DD am th n hk ck k ht n1 hk1 ht1 pb rn hfg hle hmo hwy tn htf cm hod hwk hot ru hen (wy i) (by omega) (by exact hw5 i c_7)) (cwV 1 hg (gi_V mw_814 mw_816 ms_Mo_fits mw_11 mw_817) rfl rfl rfl (by decide +kernel) ⟨Nat.le_of_ble_eq_true rfl, Nat.le_of_ble_eq_true rfl⟩) ⟨z_blind, va_recv hKc hPc (ci := 9) (q0 := 0) rfl rfl, z_pre hPc hKc⟩ rfl rfl hl.1 rfl (lv_room (Nat.le_of_ble_eq_true rfl)) d_Mo_planned_50 ⟨Nat.zero_le _, Nat.zero_le _⟩) (fun r_50 hr_50 => ?_)
            subst hr_50
            refine z_ifb_eq (tgt := 63) hx hb d_Mo_planned_53 (by decide) (fun c_53 => ?_) (fun c_53 => ?_)
            · refine lv_iinc (v := nI (i + 1)) (lv' := [(1, .int (nI (i + 1))), (2, .long ((figN k n (fg i)).toInt64)), (0, .ref am)]) hx hb d_Mo_planned_63 hl (k := 2) rfl (by exact nI_add i 1) (by decide) rfl (fun ls hl => ?_)
              refine lv_goto (tgt := 2) hx hb d_Mo_planned_66 (by decide) ?_
              exact ih2 (i + 1) (by omega) (by first | exact planF_f hv c_7 (Or.inl c_53) | exact planF_f' hv c_7 (Or.inr c_39) | exact planF_f' hv c_7 (Or.inl c_28)) (by omega) ls (lv_sub hl [2, 0] rfl)
            · refine lv_aload_n hx hb d_Mo_planned_56 rfl (lv_at hl 1 rfl) ?_
              refine va_get (D := DD) (ci := 9) (v := .ref hwy) (C := R_Mo) (T := T_Mo) (N := 21) hx hb hg in_Mo hown hK hP 0 rfl rfl 12 (by decide) (hg _ mw_691) (fun _ h9 => h9) rfl d_Mo_planned_57 ?_
              refine lv_iload_n hx hb d_Mo_planned_60 rfl (lv_at hl 2 rfl) ?_
              refine z_ialdN hx hb hK hP 5 4 rfl rfl (by omega) (by decide) d_Mo_planned_61 ?_
              exact W.iret (v := nI (wy i)) hx hb hr (fun t9 ht9 hW9 => ⟨_, rfl, (by exact congrArg nI (planF_t hv c_7 c_53 (adm_of c_28 c_39))), ht9⟩) (fun _ h => nomatch h) d_Mo_planned_62
  refine lv_iconst (v := nI 0) hx hb d_Mo_planned_0 (by decide) ?_
  refine lv_istore_n (lv' := [(1, .int (nI 0)), (0, .ref am)]) hx hb d_Mo_planned_1 rfl hl (by decide) rfl (fun ls hl => ?_)
  exact K2 _ 0 (by omega) (by rfl) (Nat.lt_succ_self _) ls (lv_sub hl [1, 0] rfl)
