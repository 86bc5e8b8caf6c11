theorem d_De_plan_0 : decode b_De_plan 0 = .ok (.iconst 0, 1) := by decide +kernel
theorem d_De_plan_1 : decode b_De_plan 1 = .ok (.istore_n 1, 1) := by decide +kernel
theorem d_De_plan_2 : decode b_De_plan 2 = .ok (.iload_n 1, 1) := by decide +kernel
theorem d_De_plan_3 : decode b_De_plan 3 = .ok (.aload_n 0, 1) := by decide +kernel
theorem d_De_plan_4 : decode b_De_plan 4 = .ok (.getfield 22, 3) := by decide +kernel
theorem d_De_plan_7 : decode b_De_plan 7 = .ok (.invokevirtual 134, 3) := by decide +kernel
theorem d_De_plan_10 : decode b_De_plan 10 = .ok (.if_icmp .ge 51, 3) := by decide +kernel
theorem d_De_plan_13 : decode b_De_plan 13 = .ok (.aload_n 0, 1) := by decide +kernel
theorem d_De_plan_14 : decode b_De_plan 14 = .ok (.getfield 22, 3) := by decide +kernel
theorem d_De_plan_17 : decode b_De_plan 17 = .ok (.iload_n 1, 1) := by decide +kernel
theorem d_De_plan_18 : decode b_De_plan 18 = .ok (.invokevirtual 135, 3) := by decide +kernel
theorem d_De_plan_21 : decode b_De_plan 21 = .ok (.istore_n 2, 1) := by decide +kernel
theorem d_De_plan_22 : decode b_De_plan 22 = .ok (.aload_n 0, 1) := by decide +kernel
theorem d_De_plan_23 : decode b_De_plan 23 = .ok (.getfield 35, 3) := by decide +kernel
theorem d_De_plan_26 : decode b_De_plan 26 = .ok (.iload_n 2, 1) := by decide +kernel
theorem d_De_plan_27 : decode b_De_plan 27 = .ok (.aaload, 1) := by decide +kernel
theorem d_De_plan_28 : decode b_De_plan 28 = .ok (.aload_n 0, 1) := by decide +kernel
theorem d_De_plan_29 : decode b_De_plan 29 = .ok (.getfield 12, 3) := by decide +kernel
theorem d_De_plan_32 : decode b_De_plan 32 = .ok (.invokevirtual 138, 3) := by decide +kernel
theorem d_De_plan_35 : decode b_De_plan 35 = .ok (.ifCond .eq 20, 3) := by decide +kernel
theorem d_De_plan_38 : decode b_De_plan 38 = .ok (.aload_n 0, 1) := by decide +kernel
theorem d_De_plan_39 : decode b_De_plan 39 = .ok (.getfield 22, 3) := by decide +kernel
theorem d_De_plan_42 : decode b_De_plan 42 = .ok (.iload_n 1, 1) := by decide +kernel
theorem d_De_plan_43 : decode b_De_plan 43 = .ok (.aload_n 0, 1) := by decide +kernel
theorem d_De_plan_44 : decode b_De_plan 44 = .ok (.getfield 12, 3) := by decide +kernel
theorem d_De_plan_47 : decode b_De_plan 47 = .ok (.invokevirtual 142, 3) := by decide +kernel
theorem d_De_plan_50 : decode b_De_plan 50 = .ok (.ifCond .eq 5, 3) := by decide +kernel
theorem d_De_plan_53 : decode b_De_plan 53 = .ok (.iload_n 2, 1) := by decide +kernel
theorem d_De_plan_54 : decode b_De_plan 54 = .ok (.ireturn, 1) := by decide +kernel
theorem d_De_plan_55 : decode b_De_plan 55 = .ok (.iinc 1 1, 3) := by decide +kernel
theorem d_De_plan_58 : decode b_De_plan 58 = .ok (.goto (-56), 3) := by decide +kernel
theorem d_De_plan_61 : decode b_De_plan 61 = .ok (.iconst 2, 1) := by decide +kernel
theorem d_De_plan_62 : decode b_De_plan 62 = .ok (.ireturn, 1) := by decide +kernel
abbrev ws_De_plan : List Cond := .code y_De_plan b_De_plan 3 (some .int) :: ALLG
abbrev rm_De_plan : Room := { frames := 5, cells := 0, slots := 0, locals := 108 }
set_option maxHeartbeats 4000000 in
set_option maxRecDepth 100000 in
theorem c_De_plan (l : Launch) (DD : va_G) (ad : Nat) (h : Nat) (hk : Nat) (ck : ClassId) (k : Nat → Int32) (ht : Nat) (n : Nat) (h1 : Nat) (ar : Nat) (hfg : Nat) (cfg : ClassId) (fg : Nat → Nat) (hle : Nat) (cle : ClassId) (le : Nat → Int64) (hmo : Nat) (cmo : ClassId) (mo : Nat → Int64) (hwy : Nat) (cwy : ClassId) (wy : Nat → Nat) (rn : Nat) (aq : Nat) (hwv : Nat) (cwv : ClassId) (aw0 : Nat) (aw1 : Nat) (aw2 : Nat) (hjs2 : Nat) (cjs2 : ClassId) (js2 : Nat → Nat) (hjj2 : Nat) (cjj2 : ClassId) (jj2 : Nat → Nat) (aw3 : Nat) (hcc3 : Nat) (ccc3 : ClassId) (cc3 : Nat → Nat) (hcn3 : Nat) (ccn3 : ClassId) (cn3 : Nat → Nat) (aw4 : Nat) (hbn4 : Nat) (cbn4 : ClassId) (bn4 : Nat → Nat) (hbd4 : Nat) (cbd4 : ClassId) (bd4 : Nat → Nat) (hpn : Nat) (hod : Nat) (cm : Int64) (pb : Bool) (wa : Bool) (hn : n ≤ 150) (hrn : rn ≤ 12) (hf8 : ∀ i, i < rn → fg i < 8) (hw5 : ∀ i, i < rn → wy i < 5) : Met l y_De_plan ws_De_plan rm_De_plan (va_Pc [.ref ad] (fun U => va_P DD vwCl [(ad, .inr (8, [.ref h, .ref h1, .ref ar, .ref aq, .ref hwv, .ref hpn, .ref hod, .long cm, .int (zb pb), .int (zb wa)])), (h, .inr (4, [.ref hk, .ref ht, .int (nI n)])), (hk, .inl (ck, 150, .inl k)), (ar, .inr (5, [.ref hfg, .ref hle, .ref hmo, .ref hwy, .int (nI rn)])), (hfg, .inl (cfg, 12, .inl (nF fg))), (hle, .inl (cle, 12, .inr (.inl le))), (hmo, .inl (cmo, 12, .inr (.inl mo))), (hwy, .inl (cwy, 12, .inl (nF wy))), (hwv, .inl (cwv, 5, .inr (.inr (.inr (.inr (wayF aw0 aw1 aw2 aw3 aw4)))))), (aw0, .inr (7, [])), (aw1, .inr (3, [])), (aw2, .inr (2, [.ref hjs2, .ref hjj2])), (hjs2, .inl (cjs2, 151, .inl (nF js2))), (hjj2, .inl (cjj2, 150, .inl (nF jj2))), (aw3, .inr (1, [.ref hcc3, .ref hcn3])), (hcc3, .inl (ccc3, 501, .inl (nF cc3))), (hcn3, .inl (ccn3, 501, .inl (nF cn3))), (aw4, .inr (0, [.ref hbn4, .ref hbd4])), (hbn4, .inl (cbn4, 256, .inl (nF bn4))), (hbd4, .inl (cbd4, 150, .inl (nF bd4)))] U.heap ∧ va_K DD vwCl [(ck, .int), (cfg, .int), (cle, .long), (cmo, .long), (cwy, .int), (cwv, .object "SortDesk$Way"), (cjs2, .int), (cjj2, .int), (ccc3, .int), (ccn3, .int), (cbn4, .int), (cbd4, .int)] U ∧ XK U)) (vp_Si (fun r9 => r9 = nI (planF k n fg le mo wy rn rn))) 0 0 (fun _ => False) := by
  refine Met.ofW (cc := b_De_plan) (maxL := 3) (ret := (some .int)) (by decide) rfl ?_
  intro p e s m args below meth c s₁ B hml hv
  obtain ⟨ha, hP, hK, hXK⟩ := hv
  have hx := B.exec
  have hb := B.bytes
  have hr := B.returns
  have hts := atoms_spec (ws := ws_De_plan) B.pre
  have hg : ∀ w ∈ ALLG, w.before args s = true := fun w h => hts w (List.mem_cons_of_mem _ h)
  have hown : s.vm.findClass R_De = some m.cls := findClass_of_methodNamed B.named
  have hlocks := B.notSynchronized
  have hP : va_P DD vwCl [(ad, .inr (8, [.ref h, .ref h1, .ref ar, .ref aq, .ref hwv, .ref hpn, .ref hod, .long cm, .int (zb pb), .int (zb wa)])), (h, .inr (4, [.ref hk, .ref ht, .int (nI n)])), (hk, .inl (ck, 150, .inl k)), (ar, .inr (5, [.ref hfg, .ref hle, .ref hmo, .ref hwy, .int (nI rn)])), (hfg, .inl (cfg, 12, .inl (nF fg))), (hle, .inl (cle, 12, .inr (.inl le))), (hmo, .inl (cmo, 12, .inr (.inl mo))), (hwy, .inl (cwy, 12, .inl (nF wy))), (hwv, .inl (cwv, 5, .inr (.inr (.inr (.inr (wayF aw0 aw1 aw2 aw3 aw4)))))), (aw0, .inr (7, [])), (aw1, .inr (3, [])), (aw2, .inr (2, [.ref hjs2, .ref hjj2])), (hjs2, .inl (cjs2, 151, .inl (nF js2))), (hjj2, .inl (cjj2, 150, .inl (nF jj2))), (aw3, .inr (1, [.ref hcc3, .ref hcn3])), (hcc3, .inl (ccc3, 501, .inl (nF cc3))), (hcn3, .inl (ccn3, 501, .inl (nF cn3))), (aw4, .inr (0, [.ref hbn4, .ref hbd4])), (hbn4, .inl (cbn4, 256, .inl (nF bn4))), (hbd4, .inl (cbd4, 150, .inl (nF bd4)))] s.heap := hP
  have hl := lv_entry ([.ref ad]) (n := 3) (Nat.le_of_ble_eq_true rfl)
  rw [ha, lg_entry_eq, ← ha]
  generalize (lg_sl ([.ref ad]) ++ List.replicate (3 - (lg_sl ([.ref ad])).length) Slot.unset).toArray = ls at hl ⊢
  have hl : lv_has ls 3 [(0, .ref ad)] := hl
  have K2 : ∀ (kk : Nat) (i : Nat), (hi : i ≤ rn) → (hv : planF k n fg le mo wy rn rn = planF k n fg le mo wy rn (rn - i)) → rn - i < kk → ∀ (ls : Array Slot), lv_has ls 3 [(0, .ref ad), (1, .int (nI i))] → W p l e (headSpec ws_De_plan rm_De_plan).room s m args below meth c s.heap [] 0 0 (MQ below (vp_Si (fun r9 => r9 = nI (planF k n fg le mo wy rn rn))) args s 0 0 (fun _ => False)) (F0 m 2 ls []) := by
    intro kk
    induction kk with
    | zero => intros; omega
    | succ kk ih2 =>
      intro i hi hv hkk ls hl
      have K35 : ∀ (w : Nat), (hwi : w = wy i) → (hlt : i < rn) → ∀ (ls : Array Slot), lv_has ls 3 [(0, .ref ad), (1, .int (nI i)), (2, .int (nI w))] → W p l e (headSpec ws_De_plan rm_De_plan).room s m args below meth c s.heap [] 0 0 (MQ below (vp_Si (fun r9 => r9 = nI (planF k n fg le mo wy rn rn))) args s 0 0 (fun _ => False)) (F0 m 35 ls [.int (zb (suB k n w))]) := by
        intro w hwi hlt ls hl
        refine z_ifb_eq (tgt := 55) hx hb d_De_plan_35 (by decide) (fun c_35 => ?_) (fun c_35 => ?_)
        · refine lv_iinc (v := nI (i + 1)) (lv' := [(1, .int (nI (i + 1))), (0, .ref ad), (2, .int (nI w))]) hx hb d_De_plan_55 hl (k := 1) rfl (by exact nI_add i 1) (by decide) rfl (fun ls hl => ?_)
          refine lv_goto (tgt := 2) hx hb d_De_plan_58 (by decide) ?_
          exact ih2 (i + 1) (by omega) (by first | exact planF_f hv hlt (Or.inl (by rw [← hwi]; exact c_35)) | exact planF_f hv hlt (Or.inr c_50)) (by omega) ls (lv_sub hl [1, 0] rfl)
        · refine lv_aload_n hx hb d_De_plan_38 rfl (lv_at hl 0 rfl) ?_
          refine va_get (D := DD) (ci := 8) (v := .ref ar) (C := R_De) (T := T_De) (N := 10) hx hb hg in_De hown hK hP 0 rfl rfl 2 (by decide) (hg _ mw_142) (fun _ h9 => h9) rfl d_De_plan_39 ?_
          refine lv_iload_n hx hb d_De_plan_42 rfl (lv_at hl 1 rfl) ?_
          refine lv_aload_n hx hb d_De_plan_43 rfl (lv_at hl 0 rfl) ?_
          refine va_get (D := DD) (ci := 8) (v := .ref h) (C := R_De) (T := T_De) (N := 10) hx hb hg in_De hown hK hP 0 rfl rfl 0 (by decide) (hg _ mw_140) (fun _ h9 => h9) rfl d_De_plan_44 ?_
          have hPc := hP.sub (ws' := [(ar, .inr (5, [.ref hfg, .ref hle, .ref hmo, .ref hwy, .int (nI rn)])), (hfg, .inl (cfg, 12, .inl (nF fg))), (hle, .inl (cle, 12, .inr (.inl le))), (hmo, .inl (cmo, 12, .inr (.inl mo))), (h, .inr (4, [.ref hk, .ref ht, .int (nI n)])), (hk, .inl (ck, 150, .inl k))]) [3, 4, 5, 6, 1, 2] rfl
          have hKc := hK.sub (tys' := [(cfg, .int), (cle, .long), (cmo, .long), (ck, .int)]) [1, 2, 3, 0] rfl
          refine vp_callSi (W.runV (As := [.int (nI i), .ref h]) (rest := []) ⟨hx, hb, hml, hown, hg⟩ (c_Ru_admits l DD ar hfg cfg fg hle cle le hmo cmo mo hwy rn i h hk ck k ht n (by omega) (by omega) (by exact hf8 i hlt)) (cwV 2 hg (gi_V mw_229 mw_230 mw_231 mw_3 mw_232) rfl rfl rfl (by decide +kernel) ⟨Nat.le_of_ble_eq_true rfl, Nat.le_of_ble_eq_true rfl⟩) ⟨z_blind, va_recv hKc hPc (ci := 5) (q0 := 0) rfl rfl, z_pre hPc hKc⟩ rfl rfl hl.1 rfl (lv_room (Nat.le_of_ble_eq_true rfl)) d_De_plan_47 ⟨Nat.zero_le _, Nat.zero_le _⟩) (fun r_47 hr_47 => ?_)
          subst hr_47
          refine z_ifb_eq (tgt := 55) hx hb d_De_plan_50 (by decide) (fun c_50 => ?_) (fun c_50 => ?_)
          · refine lv_iinc (v := nI (i + 1)) (lv' := [(1, .int (nI (i + 1))), (0, .ref ad), (2, .int (nI w))]) hx hb d_De_plan_55 hl (k := 1) rfl (by exact nI_add i 1) (by decide) rfl (fun ls hl => ?_)
            refine lv_goto (tgt := 2) hx hb d_De_plan_58 (by decide) ?_
            exact ih2 (i + 1) (by omega) (by first | exact planF_f hv hlt (Or.inl (by rw [← hwi]; exact c_35)) | exact planF_f hv hlt (Or.inr c_50)) (by omega) ls (lv_sub hl [1, 0] rfl)
          · refine lv_iload_n hx hb d_De_plan_53 rfl (lv_at hl 2 rfl) ?_
            exact W.iret (v := nI w) hx hb hr (fun t9 ht9 hW9 => ⟨_, rfl, (by exact congrArg nI (hwi.trans (planF_t hv hlt (by rw [← hwi]; exact c_35) c_50))), ht9⟩) (fun _ h => nomatch h) d_De_plan_54
      refine lv_iload_n hx hb d_De_plan_2 rfl (lv_at hl 1 rfl) ?_
      refine lv_aload_n hx hb d_De_plan_3 rfl (lv_at hl 0 rfl) ?_
      refine va_get (D := DD) (ci := 8) (v := .ref ar) (C := R_De) (T := T_De) (N := 10) hx hb hg in_De hown hK hP 0 rfl rfl 2 (by decide) (hg _ mw_142) (fun _ h9 => h9) rfl d_De_plan_4 ?_
      have hPc := hP.sub (ws' := [(ar, .inr (5, [.ref hfg, .ref hle, .ref hmo, .ref hwy, .int (nI rn)]))]) [3] rfl
      have hKc := hK.sub (tys' := []) [] rfl
      refine vp_callSi (W.runV (As := []) (rest := [.int (nI i)]) ⟨hx, hb, hml, hown, hg⟩ (c_Ru_size l DD ar hfg hle hmo hwy rn) (cwV 0 hg (gi_V mw_175 mw_176 mw_177 mw_3 mw_178) rfl rfl rfl (by decide +kernel) ⟨Nat.le_of_ble_eq_true rfl, Nat.le_of_ble_eq_true rfl⟩) ⟨z_blind, va_recv hKc hPc (ci := 5) (q0 := 0) rfl rfl, z_pre hPc hKc⟩ rfl rfl hl.1 rfl (lv_room (Nat.le_of_ble_eq_true rfl)) d_De_plan_7 ⟨Nat.zero_le _, Nat.zero_le _⟩) (fun r_7 hr_7 => ?_)
      subst hr_7
      refine z_icmp_ge (tgt := 61) hx hb d_De_plan_10 (by decide) (by omega) (by omega) (fun c_10 => ?_) (fun c_10 => ?_)
      · refine lv_iconst (v := nI 2) hx hb d_De_plan_61 (by decide) ?_
        exact W.iret (v := nI 2) hx hb hr (fun t9 ht9 hW9 => ⟨_, rfl, (by exact congrArg nI (planF_x hv c_10)), ht9⟩) (fun _ h => nomatch h) d_De_plan_62
      · refine lv_aload_n hx hb d_De_plan_13 rfl (lv_at hl 0 rfl) ?_
        refine va_get (D := DD) (ci := 8) (v := .ref ar) (C := R_De) (T := T_De) (N := 10) hx hb hg in_De hown hK hP 0 rfl rfl 2 (by decide) (hg _ mw_142) (fun _ h9 => h9) rfl d_De_plan_14 ?_
        refine lv_iload_n hx hb d_De_plan_17 rfl (lv_at hl 1 rfl) ?_
        have hPc := hP.sub (ws' := [(ar, .inr (5, [.ref hfg, .ref hle, .ref hmo, .ref hwy, .int (nI rn)])), (hwy, .inl (cwy, 12, .inl (nF wy)))]) [3, 7] rfl
        have hKc := hK.sub (tys' := [(cwy, .int)]) [4] rfl
        refine vp_callSi (W.runV (As := [.int (nI i)]) (rest := []) ⟨hx, hb, hml, hown, hg⟩ (c_Ru_way l DD ar hfg hle hmo hwy cwy wy rn i (by omega)) (cwV 1 hg (gi_V mw_179 mw_180 mw_181 mw_3 mw_182) rfl rfl rfl (by decide +kernel) ⟨Nat.le_of_ble_eq_true rfl, Nat.le_of_ble_eq_true rfl⟩) ⟨z_blind, va_recv hKc hPc (ci := 5) (q0 := 0) rfl rfl, z_pre hPc hKc⟩ rfl rfl hl.1 rfl (lv_room (Nat.le_of_ble_eq_true rfl)) d_De_plan_18 ⟨Nat.zero_le _, Nat.zero_le _⟩) (fun r_18 hr_18 => ?_)
        subst hr_18
        obtain ⟨w, hw⟩ : ∃ w, w = wy i := ⟨_, rfl⟩
        rw [show nI (wy i) = nI w from congrArg nI hw.symm]
        have hw9 : w < 5 := by rw [hw]; exact hw5 i c_10
        refine lv_istore_n (lv' := [(2, .int (nI w)), (0, .ref ad), (1, .int (nI i))]) hx hb d_De_plan_21 rfl hl (by decide) rfl (fun ls hl => ?_)
        rcases (show w = 0 ∨ w = 1 ∨ w = 2 ∨ w = 3 ∨ w = 4 by omega) with rfl | rfl | rfl | rfl | rfl
        · refine lv_aload_n hx hb d_De_plan_22 rfl (lv_at hl 1 rfl) ?_
          refine va_get (D := DD) (ci := 8) (v := .ref hwv) (C := R_De) (T := T_De) (N := 10) hx hb hg in_De hown hK hP 0 rfl rfl 4 (by decide) (hg _ mw_144) (fun _ h9 => h9) rfl d_De_plan_23 ?_
          refine lv_iload_n hx hb d_De_plan_26 rfl (lv_at hl 0 rfl) ?_
          refine z_aald hx hb hK hP 8 5 rfl rfl (by omega) (by decide) d_De_plan_27 ?_
          refine W.eq (g2 := F0 m 28 ls [.ref aw0]) rfl ?_
          refine lv_aload_n hx hb d_De_plan_28 rfl (lv_at hl 1 rfl) ?_
          refine va_get (D := DD) (ci := 8) (v := .ref h) (C := R_De) (T := T_De) (N := 10) hx hb hg in_De hown hK hP 0 rfl rfl 0 (by decide) (hg _ mw_140) (fun _ h9 => h9) rfl d_De_plan_29 ?_
          have hPc := hP.sub (ws' := [(aw0, .inr (7, [])), (h, .inr (4, [.ref hk, .ref ht, .int (nI n)])), (hk, .inl (ck, 150, .inl k))]) [9, 1, 2] rfl
          have hKc := hK.sub (tys' := [(ck, .int)]) [0] rfl
          refine vp_callSi (va_Run.run (va_runU (As := [.ref h]) (rest := []) ⟨hx, hb, hml, hown, hg⟩ (c_Tu_suits l DD aw0 h hk ck k ht n (by omega)) (va_cwA 1 hg (gi_U (owner := "SortDesk$Way") mw_183 mw_185 mw_217 mw_218 mw_6 mw_219) rfl rfl rfl (hXK.1 _ (by decide)) (by decide +kernel) ⟨Nat.le_of_ble_eq_true rfl, Nat.le_of_ble_eq_true rfl⟩) ⟨z_blind, va_recv hKc hPc (ci := 7) (q0 := 0) rfl rfl, z_pre hPc hKc⟩ rfl rfl hl.1 rfl (lv_room (Nat.le_of_ble_eq_true rfl)) d_De_plan_32 ⟨Nat.zero_le _, Nat.zero_le _⟩)) (fun r_32 hr_32 => ?_)
          subst hr_32
          exact K35 0 (by exact hw) (by exact c_10) ls (lv_sub hl [1, 2, 0] rfl)
        · refine lv_aload_n hx hb d_De_plan_22 rfl (lv_at hl 1 rfl) ?_
          refine va_get (D := DD) (ci := 8) (v := .ref hwv) (C := R_De) (T := T_De) (N := 10) hx hb hg in_De hown hK hP 0 rfl rfl 4 (by decide) (hg _ mw_144) (fun _ h9 => h9) rfl d_De_plan_23 ?_
          refine lv_iload_n hx hb d_De_plan_26 rfl (lv_at hl 0 rfl) ?_
          refine z_aald hx hb hK hP 8 5 rfl rfl (by omega) (by decide) d_De_plan_27 ?_
          refine W.eq (g2 := F0 m 28 ls [.ref aw1]) rfl ?_
          refine lv_aload_n hx hb d_De_plan_28 rfl (lv_at hl 1 rfl) ?_
          refine va_get (D := DD) (ci := 8) (v := .ref h) (C := R_De) (T := T_De) (N := 10) hx hb hg in_De hown hK hP 0 rfl rfl 0 (by decide) (hg _ mw_140) (fun _ h9 => h9) rfl d_De_plan_29 ?_
          have hPc := hP.sub (ws' := [(aw1, .inr (3, [])), (h, .inr (4, [.ref hk, .ref ht, .int (nI n)])), (hk, .inl (ck, 150, .inl k))]) [10, 1, 2] rfl
          have hKc := hK.sub (tys' := [(ck, .int)]) [0] rfl
          refine vp_callSi (va_Run.run (va_runU (As := [.ref h]) (rest := []) ⟨hx, hb, hml, hown, hg⟩ (c_Pu_suits l DD aw1 h hk ck k ht n (by omega)) (va_cwA 1 hg (gi_U (owner := "SortDesk$Way") mw_183 mw_185 mw_210 mw_211 mw_7 mw_212) rfl rfl rfl (hXK.1 _ (by decide)) (by decide +kernel) ⟨Nat.le_of_ble_eq_true rfl, Nat.le_of_ble_eq_true rfl⟩) ⟨z_blind, va_recv hKc hPc (ci := 3) (q0 := 0) rfl rfl, z_pre hPc hKc⟩ rfl rfl hl.1 rfl (lv_room (Nat.le_of_ble_eq_true rfl)) d_De_plan_32 ⟨Nat.zero_le _, Nat.zero_le _⟩)) (fun r_32 hr_32 => ?_)
          subst hr_32
          exact K35 1 (by exact hw) (by exact c_10) ls (lv_sub hl [1, 2, 0] rfl)
        · refine lv_aload_n hx hb d_De_plan_22 rfl (lv_at hl 1 rfl) ?_
          refine va_get (D := DD) (ci := 8) (v := .ref hwv) (C := R_De) (T := T_De) (N := 10) hx hb hg in_De hown hK hP 0 rfl rfl 4 (by decide) (hg _ mw_144) (fun _ h9 => h9) rfl d_De_plan_23 ?_
          refine lv_iload_n hx hb d_De_plan_26 rfl (lv_at hl 0 rfl) ?_
          refine z_aald hx hb hK hP 8 5 rfl rfl (by omega) (by decide) d_De_plan_27 ?_
          refine W.eq (g2 := F0 m 28 ls [.ref aw2]) rfl ?_
          refine lv_aload_n hx hb d_De_plan_28 rfl (lv_at hl 1 rfl) ?_
          refine va_get (D := DD) (ci := 8) (v := .ref h) (C := R_De) (T := T_De) (N := 10) hx hb hg in_De hown hK hP 0 rfl rfl 0 (by decide) (hg _ mw_140) (fun _ h9 => h9) rfl d_De_plan_29 ?_
          have hPc := hP.sub (ws' := [(aw2, .inr (2, [.ref hjs2, .ref hjj2])), (h, .inr (4, [.ref hk, .ref ht, .int (nI n)])), (hk, .inl (ck, 150, .inl k))]) [11, 1, 2] rfl
          have hKc := hK.sub (tys' := [(ck, .int)]) [0] rfl
          refine vp_callSi (va_Run.run (va_runU (As := [.ref h]) (rest := []) ⟨hx, hb, hml, hown, hg⟩ (c_Jo_suits l DD aw2 hjs2 hjj2 h hk ck k ht n) (va_cwA 1 hg (gi_U (owner := "SortDesk$Way") mw_183 mw_185 mw_207 mw_208 mw_8 mw_209) rfl rfl rfl (hXK.1 _ (by decide)) (by decide +kernel) ⟨Nat.le_of_ble_eq_true rfl, Nat.le_of_ble_eq_true rfl⟩) ⟨z_blind, va_recv hKc hPc (ci := 2) (q0 := 0) rfl rfl, z_pre hPc hKc⟩ rfl rfl hl.1 rfl (lv_room (Nat.le_of_ble_eq_true rfl)) d_De_plan_32 ⟨Nat.zero_le _, Nat.zero_le _⟩)) (fun r_32 hr_32 => ?_)
          subst hr_32
          exact K35 2 (by exact hw) (by exact c_10) ls (lv_sub hl [1, 2, 0] rfl)
        · refine lv_aload_n hx hb d_De_plan_22 rfl (lv_at hl 1 rfl) ?_
          refine va_get (D := DD) (ci := 8) (v := .ref hwv) (C := R_De) (T := T_De) (N := 10) hx hb hg in_De hown hK hP 0 rfl rfl 4 (by decide) (hg _ mw_144) (fun _ h9 => h9) rfl d_De_plan_23 ?_
          refine lv_iload_n hx hb d_De_plan_26 rfl (lv_at hl 0 rfl) ?_
          refine z_aald hx hb hK hP 8 5 rfl rfl (by omega) (by decide) d_De_plan_27 ?_
          refine W.eq (g2 := F0 m 28 ls [.ref aw3]) rfl ?_
          refine lv_aload_n hx hb d_De_plan_28 rfl (lv_at hl 1 rfl) ?_
          refine va_get (D := DD) (ci := 8) (v := .ref h) (C := R_De) (T := T_De) (N := 10) hx hb hg in_De hown hK hP 0 rfl rfl 0 (by decide) (hg _ mw_140) (fun _ h9 => h9) rfl d_De_plan_29 ?_
          have hPc := hP.sub (ws' := [(aw3, .inr (1, [.ref hcc3, .ref hcn3])), (h, .inr (4, [.ref hk, .ref ht, .int (nI n)])), (hk, .inl (ck, 150, .inl k))]) [14, 1, 2] rfl
          have hKc := hK.sub (tys' := [(ck, .int)]) [0] rfl
          refine vp_callSi (va_Run.run (va_runU (As := [.ref h]) (rest := []) ⟨hx, hb, hml, hown, hg⟩ (c_Co_suits l DD aw3 hcc3 hcn3 h hk ck k ht n (by omega)) (va_cwA 1 hg (gi_U (owner := "SortDesk$Way") mw_183 mw_185 mw_189 mw_190 mw_9 mw_191) rfl rfl rfl (hXK.1 _ (by decide)) (by decide +kernel) ⟨Nat.le_of_ble_eq_true rfl, Nat.le_of_ble_eq_true rfl⟩) ⟨z_blind, va_recv hKc hPc (ci := 1) (q0 := 0) rfl rfl, z_pre hPc hKc⟩ rfl rfl hl.1 rfl (lv_room (Nat.le_of_ble_eq_true rfl)) d_De_plan_32 ⟨Nat.zero_le _, Nat.zero_le _⟩)) (fun r_32 hr_32 => ?_)
          subst hr_32
          exact K35 3 (by exact hw) (by exact c_10) ls (lv_sub hl [1, 2, 0] rfl)
        · refine lv_aload_n hx hb d_De_plan_22 rfl (lv_at hl 1 rfl) ?_
          refine va_get (D := DD) (ci := 8) (v := .ref hwv) (C := R_De) (T := T_De) (N := 10) hx hb hg in_De hown hK hP 0 rfl rfl 4 (by decide) (hg _ mw_144) (fun _ h9 => h9) rfl d_De_plan_23 ?_
          refine lv_iload_n hx hb d_De_plan_26 rfl (lv_at hl 0 rfl) ?_
          refine z_aald hx hb hK hP 8 5 rfl rfl (by omega) (by decide) d_De_plan_27 ?_
          refine W.eq (g2 := F0 m 28 ls [.ref aw4]) rfl ?_
          refine lv_aload_n hx hb d_De_plan_28 rfl (lv_at hl 1 rfl) ?_
          refine va_get (D := DD) (ci := 8) (v := .ref h) (C := R_De) (T := T_De) (N := 10) hx hb hg in_De hown hK hP 0 rfl rfl 0 (by decide) (hg _ mw_140) (fun _ h9 => h9) rfl d_De_plan_29 ?_
          have hPc := hP.sub (ws' := [(aw4, .inr (0, [.ref hbn4, .ref hbd4])), (h, .inr (4, [.ref hk, .ref ht, .int (nI n)])), (hk, .inl (ck, 150, .inl k))]) [17, 1, 2] rfl
          have hKc := hK.sub (tys' := [(ck, .int)]) [0] rfl
          refine vp_callSi (va_Run.run (va_runU (As := [.ref h]) (rest := []) ⟨hx, hb, hml, hown, hg⟩ (c_By_suits l DD aw4 hbn4 hbd4 h hk ck k ht n) (va_cwA 1 hg (gi_U (owner := "SortDesk$Way") mw_183 mw_185 mw_186 mw_187 mw_10 mw_188) rfl rfl rfl (hXK.1 _ (by decide)) (by decide +kernel) ⟨Nat.le_of_ble_eq_true rfl, Nat.le_of_ble_eq_true rfl⟩) ⟨z_blind, va_recv hKc hPc (ci := 0) (q0 := 0) rfl rfl, z_pre hPc hKc⟩ rfl rfl hl.1 rfl (lv_room (Nat.le_of_ble_eq_true rfl)) d_De_plan_32 ⟨Nat.zero_le _, Nat.zero_le _⟩)) (fun r_32 hr_32 => ?_)
          subst hr_32
          exact K35 4 (by exact hw) (by exact c_10) ls (lv_sub hl [1, 2, 0] rfl)
  refine lv_iconst (v := nI 0) hx hb d_De_plan_0 (by decide) ?_
  refine lv_istore_n (lv' := [(1, .int (nI 0)), (0, .ref ad)]) hx hb d_De_plan_1 rfl hl (by decide) rfl (fun ls hl => ?_)
  exact K2 _ 0 (by omega) (by rfl) (Nat.lt_succ_self _) ls (lv_sub hl [1, 0] rfl)
abbrev rm_De_isFit : Room := { frames := 3, cells := 0, slots := 0, locals := 64 }
set_option maxHeartbeats 4000000 in
set_option maxRecDepth 100000 in
theorem c_De_isFit (l : Launch) (DD : va_G) (ad : Nat) (h : Nat) (hk : Nat) (ck : ClassId) (k : Nat → Int32) (ht : Nat) (n : Nat) (h1 : Nat) (ar : Nat) (aq : Nat) (hwv : Nat) (cwv : ClassId) (aw0 : Nat) (aw1 : Nat) (aw2 : Nat) (hjs2 : Nat) (cjs2 : ClassId) (js2 : Nat → Nat) (hjj2 : Nat) (cjj2 : ClassId) (jj2 : Nat → Nat) (aw3 : Nat) (hcc3 : Nat) (ccc3 : ClassId) (cc3 : Nat → Nat) (hcn3 : Nat) (ccn3 : ClassId) (cn3 : Nat → Nat) (aw4 : Nat) (hbn4 : Nat) (cbn4 : ClassId) (bn4 : Nat → Nat) (hbd4 : Nat) (cbd4 : ClassId) (bd4 : Nat → Nat) (hpn : Nat) (hod : Nat) (cm : Int64) (pb : Bool) (wa : Bool) (w : Nat) (hn : n ≤ 150) (hw5 : w < 5) : Met l y_De_isFit ws_De_isFit rm_De_isFit (va_Pc [.ref ad, .int (nI w)] (fun U => va_P DD vwCl [(ad, .inr (8, [.ref h, .ref h1, .ref ar, .ref aq, .ref hwv, .ref hpn, .ref hod, .long cm, .int (zb pb), .int (zb wa)])), (h, .inr (4, [.ref hk, .ref ht, .int (nI n)])), (hk, .inl (ck, 150, .inl k)), (hwv, .inl (cwv, 5, .inr (.inr (.inr (.inr (wayF aw0 aw1 aw2 aw3 aw4)))))), (aw0, .inr (7, [])), (aw1, .inr (3, [])), (aw2, .inr (2, [.ref hjs2, .ref hjj2])), (hjs2, .inl (cjs2, 151, .inl (nF js2))), (hjj2, .inl (cjj2, 150, .inl (nF jj2))), (aw3, .inr (1, [.ref hcc3, .ref hcn3])), (hcc3, .inl (ccc3, 501, .inl (nF cc3))), (hcn3, .inl (ccn3, 501, .inl (nF cn3))), (aw4, .inr (0, [.ref hbn4, .ref hbd4])), (hbn4, .inl (cbn4, 256, .inl (nF bn4))), (hbd4, .inl (cbd4, 150, .inl (nF bd4)))] U.heap ∧ va_K DD vwCl [(ck, .int), (cwv, .object "SortDesk$Way"), (cjs2, .int), (cjj2, .int), (ccc3, .int), (ccn3, .int), (cbn4, .int), (cbd4, .int)] U ∧ XK U)) (vp_Si (fun r9 => r9 = zb (suB k n w))) 0 0 (fun _ => False) := by
  refine Met.ofW (cc := b_De_isFit) (maxL := 2) (ret := (some .boolean)) (by decide) rfl ?_
  intro p e s m args below meth c s₁ B hml hv
  obtain ⟨ha, hP, hK, hXK⟩ := hv
  have hx := B.exec
  have hb := B.bytes
  have hr := B.returns
  have hts := atoms_spec (ws := ws_De_isFit) B.pre
  have hg : ∀ w ∈ ALLG, w.before args s = true := fun w h => hts w (List.mem_cons_of_mem _ h)
  have hown : s.vm.findClass R_De = some m.cls := findClass_of_methodNamed B.named
  have hlocks := B.notSynchronized
  have hP : va_P DD vwCl [(ad, .inr (8, [.ref h, .ref h1, .ref ar, .ref aq, .ref hwv, .ref hpn, .ref hod, .long cm, .int (zb pb), .int (zb wa)])), (h, .inr (4, [.ref hk, .ref ht, .int (nI n)])), (hk, .inl (ck, 150, .inl k)), (hwv, .inl (cwv, 5, .inr (.inr (.inr (.inr (wayF aw0 aw1 aw2 aw3 aw4)))))), (aw0, .inr (7, [])), (aw1, .inr (3, [])), (aw2, .inr (2, [.ref hjs2, .ref hjj2])), (hjs2, .inl (cjs2, 151, .inl (nF js2))), (hjj2, .inl (cjj2, 150, .inl (nF jj2))), (aw3, .inr (1, [.ref hcc3, .ref hcn3])), (hcc3, .inl (ccc3, 501, .inl (nF cc3))), (hcn3, .inl (ccn3, 501, .inl (nF cn3))), (aw4, .inr (0, [.ref hbn4, .ref hbd4])), (hbn4, .inl (cbn4, 256, .inl (nF bn4))), (hbd4, .inl (cbd4, 150, .inl (nF bd4)))] s.heap := hP
  have hl := lv_entry ([.ref ad, .int (nI w)]) (n := 2) (Nat.le_of_ble_eq_true rfl)
  rw [ha, lg_entry_eq, ← ha]
  generalize (lg_sl ([.ref ad, .int (nI w)]) ++ List.replicate (2 - (lg_sl ([.ref ad, .int (nI w)])).length) Slot.unset).toArray = ls at hl ⊢
  have hl : lv_has ls 2 [(0, .ref ad), (1, .int (nI w))] := hl
  refine lv_iload_n hx hb d_De_isFit_0 rfl (lv_at hl 1 rfl) ?_
  have hPc := hP.sub (ws' := []) [] rfl
  have hKc := hK.sub (tys' := []) [] rfl
  refine vp_callSi (W.runS (As := [.int (nI w)]) (rest := []) ⟨hx, hb, hml, hown, hg⟩ (c_De_isWay l DD (nI w)) (cwS 1 hg (gi_S mw_463 mw_464 mw_1 mw_465) rfl rfl rfl (by decide +kernel) ⟨Nat.le_of_ble_eq_true rfl, Nat.le_of_ble_eq_true rfl⟩) ⟨z_blind, z_pre hPc hKc⟩ rfl rfl hl.1 rfl (lv_room (Nat.le_of_ble_eq_true rfl)) d_De_isFit_1 ⟨Nat.zero_le _, Nat.zero_le _⟩) (fun r_1 hr_1 => ?_)
  subst hr_1
  refine z_ifb_ne (tgt := 17) hx hb d_De_isFit_4 (by decide) (fun c_4 => ?_) (fun c_4 => ?_)
  · rcases (show w = 0 ∨ w = 1 ∨ w = 2 ∨ w = 3 ∨ w = 4 by omega) with rfl | rfl | rfl | rfl | rfl
    · refine lv_aload_n hx hb d_De_isFit_17 rfl (lv_at hl 0 rfl) ?_
      refine va_get (D := DD) (ci := 8) (v := .ref hwv) (C := R_De) (T := T_De) (N := 10) hx hb hg in_De hown hK hP 0 rfl rfl 4 (by decide) (hg _ mw_144) (fun _ h9 => h9) rfl d_De_isFit_18 ?_
      refine lv_iload_n hx hb d_De_isFit_21 rfl (lv_at hl 1 rfl) ?_
      refine z_aald hx hb hK hP 3 1 rfl rfl (by omega) (by decide) d_De_isFit_22 ?_
      refine W.eq (g2 := F0 m 23 ls [.ref aw0]) rfl ?_
      refine lv_aload_n hx hb d_De_isFit_23 rfl (lv_at hl 0 rfl) ?_
      refine va_get (D := DD) (ci := 8) (v := .ref h) (C := R_De) (T := T_De) (N := 10) hx hb hg in_De hown hK hP 0 rfl rfl 0 (by decide) (hg _ mw_140) (fun _ h9 => h9) rfl d_De_isFit_24 ?_
      have hPc := hP.sub (ws' := [(aw0, .inr (7, [])), (h, .inr (4, [.ref hk, .ref ht, .int (nI n)])), (hk, .inl (ck, 150, .inl k))]) [4, 1, 2] rfl
      have hKc := hK.sub (tys' := [(ck, .int)]) [0] rfl
      refine vp_callSi (va_Run.run (va_runU (As := [.ref h]) (rest := []) ⟨hx, hb, hml, hown, hg⟩ (c_Tu_suits l DD aw0 h hk ck k ht n (by omega)) (va_cwA 1 hg (gi_U (owner := "SortDesk$Way") mw_183 mw_185 mw_217 mw_218 mw_6 mw_219) rfl rfl rfl (hXK.1 _ (by decide)) (by decide +kernel) ⟨Nat.le_of_ble_eq_true rfl, Nat.le_of_ble_eq_true rfl⟩) ⟨z_blind, va_recv hKc hPc (ci := 7) (q0 := 0) rfl rfl, z_pre hPc hKc⟩ rfl rfl hl.1 rfl (lv_room (Nat.le_of_ble_eq_true rfl)) d_De_isFit_27 ⟨Nat.zero_le _, Nat.zero_le _⟩)) (fun r_27 hr_27 => ?_)
      subst hr_27
      exact W.zret (v := zb (turnB k n)) hx hb hr (zb_nar _) (fun t9 ht9 hW9 => ⟨_, rfl, rfl, ht9⟩) (fun _ h => nomatch h) d_De_isFit_30
    · refine lv_aload_n hx hb d_De_isFit_17 rfl (lv_at hl 0 rfl) ?_
      refine va_get (D := DD) (ci := 8) (v := .ref hwv) (C := R_De) (T := T_De) (N := 10) hx hb hg in_De hown hK hP 0 rfl rfl 4 (by decide) (hg _ mw_144) (fun _ h9 => h9) rfl d_De_isFit_18 ?_
      refine lv_iload_n hx hb d_De_isFit_21 rfl (lv_at hl 1 rfl) ?_
      refine z_aald hx hb hK hP 3 1 rfl rfl (by omega) (by decide) d_De_isFit_22 ?_
      refine W.eq (g2 := F0 m 23 ls [.ref aw1]) rfl ?_
      refine lv_aload_n hx hb d_De_isFit_23 rfl (lv_at hl 0 rfl) ?_
      refine va_get (D := DD) (ci := 8) (v := .ref h) (C := R_De) (T := T_De) (N := 10) hx hb hg in_De hown hK hP 0 rfl rfl 0 (by decide) (hg _ mw_140) (fun _ h9 => h9) rfl d_De_isFit_24 ?_
      have hPc := hP.sub (ws' := [(aw1, .inr (3, [])), (h, .inr (4, [.ref hk, .ref ht, .int (nI n)])), (hk, .inl (ck, 150, .inl k))]) [5, 1, 2] rfl
      have hKc := hK.sub (tys' := [(ck, .int)]) [0] rfl
      refine vp_callSi (va_Run.run (va_runU (As := [.ref h]) (rest := []) ⟨hx, hb, hml, hown, hg⟩ (c_Pu_suits l DD aw1 h hk ck k ht n (by omega)) (va_cwA 1 hg (gi_U (owner := "SortDesk$Way") mw_183 mw_185 mw_210 mw_211 mw_7 mw_212) rfl rfl rfl (hXK.1 _ (by decide)) (by decide +kernel) ⟨Nat.le_of_ble_eq_true rfl, Nat.le_of_ble_eq_true rfl⟩) ⟨z_blind, va_recv hKc hPc (ci := 3) (q0 := 0) rfl rfl, z_pre hPc hKc⟩ rfl rfl hl.1 rfl (lv_room (Nat.le_of_ble_eq_true rfl)) d_De_isFit_27 ⟨Nat.zero_le _, Nat.zero_le _⟩)) (fun r_27 hr_27 => ?_)
      subst hr_27
      exact W.zret (v := zb (decide (n ≤ 60))) hx hb hr (zb_nar _) (fun t9 ht9 hW9 => ⟨_, rfl, rfl, ht9⟩) (fun _ h => nomatch h) d_De_isFit_30
    · refine lv_aload_n hx hb d_De_isFit_17 rfl (lv_at hl 0 rfl) ?_
      refine va_get (D := DD) (ci := 8) (v := .ref hwv) (C := R_De) (T := T_De) (N := 10) hx hb hg in_De hown hK hP 0 rfl rfl 4 (by decide) (hg _ mw_144) (fun _ h9 => h9) rfl d_De_isFit_18 ?_
      refine lv_iload_n hx hb d_De_isFit_21 rfl (lv_at hl 1 rfl) ?_
      refine z_aald hx hb hK hP 3 1 rfl rfl (by omega) (by decide) d_De_isFit_22 ?_
      refine W.eq (g2 := F0 m 23 ls [.ref aw2]) rfl ?_
      refine lv_aload_n hx hb d_De_isFit_23 rfl (lv_at hl 0 rfl) ?_
      refine va_get (D := DD) (ci := 8) (v := .ref h) (C := R_De) (T := T_De) (N := 10) hx hb hg in_De hown hK hP 0 rfl rfl 0 (by decide) (hg _ mw_140) (fun _ h9 => h9) rfl d_De_isFit_24 ?_
      have hPc := hP.sub (ws' := [(aw2, .inr (2, [.ref hjs2, .ref hjj2])), (h, .inr (4, [.ref hk, .ref ht, .int (nI n)])), (hk, .inl (ck, 150, .inl k))]) [6, 1, 2] rfl
      have hKc := hK.sub (tys' := [(ck, .int)]) [0] rfl
      refine vp_callSi (va_Run.run (va_runU (As := [.ref h]) (rest := []) ⟨hx, hb, hml, hown, hg⟩ (c_Jo_suits l DD aw2 hjs2 hjj2 h hk ck k ht n) (va_cwA 1 hg (gi_U (owner := "SortDesk$Way") mw_183 mw_185 mw_207 mw_208 mw_8 mw_209) rfl rfl rfl (hXK.1 _ (by decide)) (by decide +kernel) ⟨Nat.le_of_ble_eq_true rfl, Nat.le_of_ble_eq_true rfl⟩) ⟨z_blind, va_recv hKc hPc (ci := 2) (q0 := 0) rfl rfl, z_pre hPc hKc⟩ rfl rfl hl.1 rfl (lv_room (Nat.le_of_ble_eq_true rfl)) d_De_isFit_27 ⟨Nat.zero_le _, Nat.zero_le _⟩)) (fun r_27 hr_27 => ?_)
      subst hr_27
      exact W.zret (v := zb true) hx hb hr (zb_nar _) (fun t9 ht9 hW9 => ⟨_, rfl, rfl, ht9⟩) (fun _ h => nomatch h) d_De_isFit_30
    · refine lv_aload_n hx hb d_De_isFit_17 rfl (lv_at hl 0 rfl) ?_
      refine va_get (D := DD) (ci := 8) (v := .ref hwv) (C := R_De) (T := T_De) (N := 10) hx hb hg in_De hown hK hP 0 rfl rfl 4 (by decide) (hg _ mw_144) (fun _ h9 => h9) rfl d_De_isFit_18 ?_
      refine lv_iload_n hx hb d_De_isFit_21 rfl (lv_at hl 1 rfl) ?_
      refine z_aald hx hb hK hP 3 1 rfl rfl (by omega) (by decide) d_De_isFit_22 ?_
      refine W.eq (g2 := F0 m 23 ls [.ref aw3]) rfl ?_
      refine lv_aload_n hx hb d_De_isFit_23 rfl (lv_at hl 0 rfl) ?_
      refine va_get (D := DD) (ci := 8) (v := .ref h) (C := R_De) (T := T_De) (N := 10) hx hb hg in_De hown hK hP 0 rfl rfl 0 (by decide) (hg _ mw_140) (fun _ h9 => h9) rfl d_De_isFit_24 ?_
      have hPc := hP.sub (ws' := [(aw3, .inr (1, [.ref hcc3, .ref hcn3])), (h, .inr (4, [.ref hk, .ref ht, .int (nI n)])), (hk, .inl (ck, 150, .inl k))]) [9, 1, 2] rfl
      have hKc := hK.sub (tys' := [(ck, .int)]) [0] rfl
      refine vp_callSi (va_Run.run (va_runU (As := [.ref h]) (rest := []) ⟨hx, hb, hml, hown, hg⟩ (c_Co_suits l DD aw3 hcc3 hcn3 h hk ck k ht n (by omega)) (va_cwA 1 hg (gi_U (owner := "SortDesk$Way") mw_183 mw_185 mw_189 mw_190 mw_9 mw_191) rfl rfl rfl (hXK.1 _ (by decide)) (by decide +kernel) ⟨Nat.le_of_ble_eq_true rfl, Nat.le_of_ble_eq_true rfl⟩) ⟨z_blind, va_recv hKc hPc (ci := 1) (q0 := 0) rfl rfl, z_pre hPc hKc⟩ rfl rfl hl.1 rfl (lv_room (Nat.le_of_ble_eq_true rfl)) d_De_isFit_27 ⟨Nat.zero_le _, Nat.zero_le _⟩)) (fun r_27 hr_27 => ?_)
      subst hr_27
      exact W.zret (v := zb (cntB k n)) hx hb hr (zb_nar _) (fun t9 ht9 hW9 => ⟨_, rfl, rfl, ht9⟩) (fun _ h => nomatch h) d_De_isFit_30
    · refine lv_aload_n hx hb d_De_isFit_17 rfl (lv_at hl 0 rfl) ?_
      refine va_get (D := DD) (ci := 8) (v := .ref hwv) (C := R_De) (T := T_De) (N := 10) hx hb hg in_De hown hK hP 0 rfl rfl 4 (by decide) (hg _ mw_144) (fun _ h9 => h9) rfl d_De_isFit_18 ?_
      refine lv_iload_n hx hb d_De_isFit_21 rfl (lv_at hl 1 rfl) ?_
      refine z_aald hx hb hK hP 3 1 rfl rfl (by omega) (by decide) d_De_isFit_22 ?_
      refine W.eq (g2 := F0 m 23 ls [.ref aw4]) rfl ?_
      refine lv_aload_n hx hb d_De_isFit_23 rfl (lv_at hl 0 rfl) ?_
      refine va_get (D := DD) (ci := 8) (v := .ref h) (C := R_De) (T := T_De) (N := 10) hx hb hg in_De hown hK hP 0 rfl rfl 0 (by decide) (hg _ mw_140) (fun _ h9 => h9) rfl d_De_isFit_24 ?_
      have hPc := hP.sub (ws' := [(aw4, .inr (0, [.ref hbn4, .ref hbd4])), (h, .inr (4, [.ref hk, .ref ht, .int (nI n)])), (hk, .inl (ck, 150, .inl k))]) [12, 1, 2] rfl
      have hKc := hK.sub (tys' := [(ck, .int)]) [0] rfl
      refine vp_callSi (va_Run.run (va_runU (As := [.ref h]) (rest := []) ⟨hx, hb, hml, hown, hg⟩ (c_By_suits l DD aw4 hbn4 hbd4 h hk ck k ht n) (va_cwA 1 hg (gi_U (owner := "SortDesk$Way") mw_183 mw_185 mw_186 mw_187 mw_10 mw_188) rfl rfl rfl (hXK.1 _ (by decide)) (by decide +kernel) ⟨Nat.le_of_ble_eq_true rfl, Nat.le_of_ble_eq_true rfl⟩) ⟨z_blind, va_recv hKc hPc (ci := 0) (q0 := 0) rfl rfl, z_pre hPc hKc⟩ rfl rfl hl.1 rfl (lv_room (Nat.le_of_ble_eq_true rfl)) d_De_isFit_27 ⟨Nat.zero_le _, Nat.zero_le _⟩)) (fun r_27 hr_27 => ?_)
      subst hr_27
      exact W.zret (v := zb true) hx hb hr (zb_nar _) (fun t9 ht9 hW9 => ⟨_, rfl, rfl, ht9⟩) (fun _ h => nomatch h) d_De_isFit_30
  · exact absurd c_4 (by rw [hasB_nI (by omega) (by omega)]; decide)
theorem d_De_isInOrder_0 : decode b_De_isInOrder 0 = .ok (.iconst 1, 1) := by decide +kernel
theorem d_De_isInOrder_1 : decode b_De_isInOrder 1 = .ok (.istore_n 2, 1) := by decide +kernel
theorem d_De_isInOrder_2 : decode b_De_isInOrder 2 = .ok (.iload_n 2, 1) := by decide +kernel
theorem d_De_isInOrder_3 : decode b_De_isInOrder 3 = .ok (.aload_n 0, 1) := by decide +kernel
theorem d_De_isInOrder_4 : decode b_De_isInOrder 4 = .ok (.invokevirtual 72, 3) := by decide +kernel
theorem d_De_isInOrder_7 : decode b_De_isInOrder 7 = .ok (.if_icmp .ge 26, 3) := by decide +kernel
theorem d_De_isInOrder_10 : decode b_De_isInOrder 10 = .ok (.aload_n 0, 1) := by decide +kernel
theorem d_De_isInOrder_11 : decode b_De_isInOrder 11 = .ok (.aload_n 1, 1) := by decide +kernel
theorem d_De_isInOrder_12 : decode b_De_isInOrder 12 = .ok (.iload_n 2, 1) := by decide +kernel
theorem d_De_isInOrder_13 : decode b_De_isInOrder 13 = .ok (.iconst 1, 1) := by decide +kernel
theorem d_De_isInOrder_14 : decode b_De_isInOrder 14 = .ok (.isub, 1) := by decide +kernel
theorem d_De_isInOrder_15 : decode b_De_isInOrder 15 = .ok (.iaload, 1) := by decide +kernel
theorem d_De_isInOrder_16 : decode b_De_isInOrder 16 = .ok (.aload_n 1, 1) := by decide +kernel
theorem d_De_isInOrder_17 : decode b_De_isInOrder 17 = .ok (.iload_n 2, 1) := by decide +kernel
theorem d_De_isInOrder_18 : decode b_De_isInOrder 18 = .ok (.iaload, 1) := by decide +kernel
theorem d_De_isInOrder_19 : decode b_De_isInOrder 19 = .ok (.invokevirtual 204, 3) := by decide +kernel
theorem d_De_isInOrder_22 : decode b_De_isInOrder 22 = .ok (.ifCond .ne 5, 3) := by decide +kernel
theorem d_De_isInOrder_25 : decode b_De_isInOrder 25 = .ok (.iconst 0, 1) := by decide +kernel
theorem d_De_isInOrder_26 : decode b_De_isInOrder 26 = .ok (.ireturn, 1) := by decide +kernel
theorem d_De_isInOrder_27 : decode b_De_isInOrder 27 = .ok (.iinc 2 1, 3) := by decide +kernel
theorem d_De_isInOrder_30 : decode b_De_isInOrder 30 = .ok (.goto (-28), 3) := by decide +kernel
theorem d_De_isInOrder_33 : decode b_De_isInOrder 33 = .ok (.iconst 1, 1) := by decide +kernel
theorem d_De_isInOrder_34 : decode b_De_isInOrder 34 = .ok (.ireturn, 1) := by decide +kernel
abbrev ws_De_isInOrder : List Cond := .code y_De_isInOrder b_De_isInOrder 3 (some .boolean) :: ALLG
abbrev rm_De_isInOrder : Room := { frames := 1, cells := 0, slots := 0, locals := 22 }
set_option maxHeartbeats 4000000 in
set_option maxRecDepth 100000 in
theorem c_De_isInOrder (l : Launch) (DD : va_G) (h : Nat) (hk : Nat) (ck : ClassId) (k : Nat → Int32) (ht : Nat) (n : Nat) (hpn : Nat) (cpn : ClassId) (pn : Nat → Nat) (hn : n ≤ 150) (hp : ∀ x, pn x < 150) (hso : ∀ i, i + 1 < n → goesB k (pn i) (pn (i + 1)) = true) : Met l y_De_isInOrder ws_De_isInOrder rm_De_isInOrder (va_Pc [.ref h, .ref hpn] (fun U => va_P DD vwCl [(h, .inr (4, [.ref hk, .ref ht, .int (nI n)])), (hk, .inl (ck, 150, .inl k)), (hpn, .inl (cpn, 150, .inl (nF pn)))] U.heap ∧ va_K DD vwCl [(ck, .int), (cpn, .int)] U)) (vp_Si (fun r9 => r9 = zb true)) 0 0 (fun _ => False) := by
  refine Met.ofW (cc := b_De_isInOrder) (maxL := 3) (ret := (some .boolean)) (by decide) rfl ?_
  intro p e s m args below meth c s₁ B hml hv
  obtain ⟨ha, hP, hK⟩ := hv
  have hx := B.exec
  have hb := B.bytes
  have hr := B.returns
  have hts := atoms_spec (ws := ws_De_isInOrder) B.pre
  have hg : ∀ w ∈ ALLG, w.before args s = true := fun w h => hts w (List.mem_cons_of_mem _ h)
  have hown : s.vm.findClass R_De = some m.cls := findClass_of_methodNamed B.named
  have hlocks := B.notSynchronized
  have hP : va_P DD vwCl [(h, .inr (4, [.ref hk, .ref ht, .int (nI n)])), (hk, .inl (ck, 150, .inl k)), (hpn, .inl (cpn, 150, .inl (nF pn)))] s.heap := hP
  have hl := lv_entry ([.ref h, .ref hpn]) (n := 3) (Nat.le_of_ble_eq_true rfl)
  rw [ha, lg_entry_eq, ← ha]
  generalize (lg_sl ([.ref h, .ref hpn]) ++ List.replicate (3 - (lg_sl ([.ref h, .ref hpn])).length) Slot.unset).toArray = ls at hl ⊢
  have hl : lv_has ls 3 [(0, .ref h), (1, .ref hpn)] := hl
  have K2 : ∀ (kk : Nat) (i : Nat), (hi : 1 ≤ i) → (hi2 : i ≤ n ∨ i = 1) → n - i < kk → ∀ (ls : Array Slot), lv_has ls 3 [(0, .ref h), (1, .ref hpn), (2, .int (nI i))] → W p l e (headSpec ws_De_isInOrder rm_De_isInOrder).room s m args below meth c s.heap [] 0 0 (MQ below (vp_Si (fun r9 => r9 = zb true)) args s 0 0 (fun _ => False)) (F0 m 2 ls []) := by
    intro kk
    induction kk with
    | zero => intros; omega
    | succ kk ih2 =>
      intro i hi hi2 hkk ls hl
      refine lv_iload_n hx hb d_De_isInOrder_2 rfl (lv_at hl 2 rfl) ?_
      refine lv_aload_n hx hb d_De_isInOrder_3 rfl (lv_at hl 0 rfl) ?_
      have hPc := hP.sub (ws' := [(h, .inr (4, [.ref hk, .ref ht, .int (nI n)])), (hk, .inl (ck, 150, .inl k))]) [0, 1] rfl
      have hKc := hK.sub (tys' := [(ck, .int)]) [0] rfl
      refine vp_callSi (W.runV (As := []) (rest := [.int (nI i)]) ⟨hx, hb, hml, hown, hg⟩ (c_Ro_size l DD h hk ht ck n k) (cwV 0 hg (gi_V mw_366 mw_214 mw_215 mw_2 mw_216) rfl rfl rfl (by decide +kernel) ⟨Nat.le_of_ble_eq_true rfl, Nat.le_of_ble_eq_true rfl⟩) ⟨z_blind, va_recv hKc hPc (ci := 4) (q0 := 0) rfl rfl, z_pre hPc hKc⟩ rfl rfl hl.1 rfl (lv_room (Nat.le_of_ble_eq_true rfl)) d_De_isInOrder_4 ⟨Nat.zero_le _, Nat.zero_le _⟩) (fun r_4 hr_4 => ?_)
      subst hr_4
      refine z_icmp_ge (tgt := 33) hx hb d_De_isInOrder_7 (by decide) (by omega) (by omega) (fun c_7 => ?_) (fun c_7 => ?_)
      · refine lv_iconst (v := nI 1) hx hb d_De_isInOrder_33 (by decide) ?_
        exact W.zret (v := nI 1) hx hb hr (by rfl) (fun t9 ht9 hW9 => ⟨_, rfl, rfl, ht9⟩) (fun _ h => nomatch h) d_De_isInOrder_34
      · refine lv_aload_n hx hb d_De_isInOrder_10 rfl (lv_at hl 0 rfl) ?_
        refine lv_aload_n hx hb d_De_isInOrder_11 rfl (lv_at hl 1 rfl) ?_
        refine lv_iload_n hx hb d_De_isInOrder_12 rfl (lv_at hl 2 rfl) ?_
        refine lv_iconst (v := nI 1) hx hb d_De_isInOrder_13 (by decide) ?_
        refine z_isub hx hb d_De_isInOrder_14 (by omega) ?_
        refine z_ialdN hx hb hK hP 2 1 rfl rfl (by omega) (by decide) d_De_isInOrder_15 ?_
        refine lv_aload_n hx hb d_De_isInOrder_16 rfl (lv_at hl 1 rfl) ?_
        refine lv_iload_n hx hb d_De_isInOrder_17 rfl (lv_at hl 2 rfl) ?_
        refine z_ialdN hx hb hK hP 2 1 rfl rfl (by omega) (by decide) d_De_isInOrder_18 ?_
        have hPc := hP.sub (ws' := [(h, .inr (4, [.ref hk, .ref ht, .int (nI n)])), (hk, .inl (ck, 150, .inl k))]) [0, 1] rfl
        have hKc := hK.sub (tys' := [(ck, .int)]) [0] rfl
        refine vp_callSi (W.runV (As := [.int (nI (pn (i - 1))), .int (nI (pn i))]) (rest := []) ⟨hx, hb, hml, hown, hg⟩ (c_Ro_goesBefore l DD h hk ht ck n k (pn (i - 1)) (pn i) (by exact hp _) (by exact hp _)) (cwV 2 hg (gi_V mw_622 mw_623 mw_624 mw_2 mw_625) rfl rfl rfl (by decide +kernel) ⟨Nat.le_of_ble_eq_true rfl, Nat.le_of_ble_eq_true rfl⟩) ⟨z_blind, va_recv hKc hPc (ci := 4) (q0 := 0) rfl rfl, z_pre hPc hKc⟩ rfl rfl hl.1 rfl (lv_room (Nat.le_of_ble_eq_true rfl)) d_De_isInOrder_19 ⟨Nat.zero_le _, Nat.zero_le _⟩) (fun r_19 hr_19 => ?_)
        subst hr_19
        refine z_ifb_ne (tgt := 27) hx hb d_De_isInOrder_22 (by decide) (fun c_22 => ?_) (fun c_22 => ?_)
        · refine lv_iinc (v := nI (i + 1)) (lv' := [(2, .int (nI (i + 1))), (0, .ref h), (1, .ref hpn)]) hx hb d_De_isInOrder_27 hl (k := 2) rfl (by exact nI_add i 1) (by decide) rfl (fun ls hl => ?_)
          refine lv_goto (tgt := 2) hx hb d_De_isInOrder_30 (by decide) ?_
          exact ih2 (i + 1) (by omega) (by omega) (by omega) ls (lv_sub hl [1, 2, 0] rfl)
        · exact absurd c_22 (by have h9 := hso (i - 1) (by omega); rw [show i - 1 + 1 = i by omega] at h9; rw [h9]; decide)
  refine lv_iconst (v := nI 1) hx hb d_De_isInOrder_0 (by decide) ?_
  refine lv_istore_n (lv' := [(2, .int (nI 1)), (0, .ref h), (1, .ref hpn)]) hx hb d_De_isInOrder_1 rfl hl (by decide) rfl (fun ls hl => ?_)
  exact K2 _ 1 (by omega) (by omega) (Nat.lt_succ_self _) ls (lv_sub hl [1, 2, 0] rfl)
abbrev rm_De_step : Room := { frames := 1, cells := 0, slots := 0, locals := 22 }
set_option maxHeartbeats 4000000 in
set_option maxRecDepth 100000 in
theorem c_De_step (l : Launch) (DD : va_G) (ad : Nat) (h : Nat) (h1 : Nat) (ar : Nat) (aq : Nat) (htf : Nat) (ctf : ClassId) (tf : Nat → Int32) (tn : Nat) (hwv : Nat) (hpn : Nat) (hod : Nat) (cm : Int64) (pb : Bool) (wa : Bool) (i : Nat) (w : Nat) (htn : tn ≤ 150) (hi : i < tn) (hw3 : w < 3) : Met l y_De_step ws_De_step rm_De_step (va_Pc [.ref ad, .int (nI i), .int (nI w)] (fun U => va_P DD vwCl [(ad, .inr (8, [.ref h, .ref h1, .ref ar, .ref aq, .ref hwv, .ref hpn, .ref hod, .long cm, .int (zb pb), .int (zb wa)])), (aq, .inr (6, [.ref htf, .int (nI tn)])), (htf, .inl (ctf, 450, .inl tf))] U.heap ∧ va_K DD vwCl [(ctf, .int)] U)) (vp_Si (fun r9 => r9 = tf (i * 3 + w))) 0 0 (fun _ => False) := by
  refine Met.ofW (cc := b_De_step) (maxL := 3) (ret := (some .int)) (by decide) rfl ?_
  intro p e s m args below meth c s₁ B hml hv
  obtain ⟨ha, hP, hK⟩ := hv
  have hx := B.exec
  have hb := B.bytes
  have hr := B.returns
  have hts := atoms_spec (ws := ws_De_step) B.pre
  have hg : ∀ w ∈ ALLG, w.before args s = true := fun w h => hts w (List.mem_cons_of_mem _ h)
  have hown : s.vm.findClass R_De = some m.cls := findClass_of_methodNamed B.named
  have hlocks := B.notSynchronized
  have hP : va_P DD vwCl [(ad, .inr (8, [.ref h, .ref h1, .ref ar, .ref aq, .ref hwv, .ref hpn, .ref hod, .long cm, .int (zb pb), .int (zb wa)])), (aq, .inr (6, [.ref htf, .int (nI tn)])), (htf, .inl (ctf, 450, .inl tf))] s.heap := hP
  have hl := lv_entry ([.ref ad, .int (nI i), .int (nI w)]) (n := 3) (Nat.le_of_ble_eq_true rfl)
  rw [ha, lg_entry_eq, ← ha]
  generalize (lg_sl ([.ref ad, .int (nI i), .int (nI w)]) ++ List.replicate (3 - (lg_sl ([.ref ad, .int (nI i), .int (nI w)])).length) Slot.unset).toArray = ls at hl ⊢
  have hl : lv_has ls 3 [(0, .ref ad), (1, .int (nI i)), (2, .int (nI w))] := hl
  refine lv_aload_n hx hb d_De_step_0 rfl (lv_at hl 0 rfl) ?_
  refine va_get (D := DD) (ci := 8) (v := .ref aq) (C := R_De) (T := T_De) (N := 10) hx hb hg in_De hown hK hP 0 rfl rfl 3 (by decide) (hg _ mw_143) (fun _ h9 => h9) rfl d_De_step_1 ?_
  refine lv_iload_n hx hb d_De_step_4 rfl (lv_at hl 1 rfl) ?_
  have hPc := hP.sub (ws' := [(aq, .inr (6, [.ref htf, .int (nI tn)]))]) [1] rfl
  have hKc := hK.sub (tys' := []) [] rfl
  refine vp_callSi (W.runV (As := [.int (nI i)]) (rest := []) ⟨hx, hb, hml, hown, hg⟩ (c_Tr_has l DD aq htf tn (nI i) (by omega)) (cwV 1 hg (gi_V mw_641 mw_642 mw_643 mw_4 mw_644) rfl rfl rfl (by decide +kernel) ⟨Nat.le_of_ble_eq_true rfl, Nat.le_of_ble_eq_true rfl⟩) ⟨z_blind, va_recv hKc hPc (ci := 6) (q0 := 0) rfl rfl, z_pre hPc hKc⟩ rfl rfl hl.1 rfl (lv_room (Nat.le_of_ble_eq_true rfl)) d_De_step_5 ⟨Nat.zero_le _, Nat.zero_le _⟩) (fun r_5 hr_5 => ?_)
  subst hr_5
  refine z_ifb_eq (tgt := 20) hx hb d_De_step_8 (by decide) (fun c_8 => ?_) (fun c_8 => ?_)
  · exact absurd c_8 (by rw [hasB_nI (by omega) (by omega)]; decide)
  · refine lv_iload_n hx hb d_De_step_11 rfl (lv_at hl 2 rfl) ?_
    refine z_if_lt (tgt := 20) hx hb d_De_step_12 (by decide) (by omega) (fun c_12 => ?_) (fun c_12 => ?_)
    · exact c_12.elim
    · refine lv_iload_n hx hb d_De_step_15 rfl (lv_at hl 2 rfl) ?_
      refine lv_iconst (v := nI 3) hx hb d_De_step_16 (by decide) ?_
      refine z_icmp_lt (tgt := 30) hx hb d_De_step_17 (by decide) (by omega) (by omega) (fun c_17 => ?_) (fun c_17 => ?_)
      · refine lv_aload_n hx hb d_De_step_30 rfl (lv_at hl 0 rfl) ?_
        refine va_get (D := DD) (ci := 8) (v := .ref aq) (C := R_De) (T := T_De) (N := 10) hx hb hg in_De hown hK hP 0 rfl rfl 3 (by decide) (hg _ mw_143) (fun _ h9 => h9) rfl d_De_step_31 ?_
        refine lv_iload_n hx hb d_De_step_34 rfl (lv_at hl 1 rfl) ?_
        refine lv_iload_n hx hb d_De_step_35 rfl (lv_at hl 2 rfl) ?_
        have hPc := hP.sub (ws' := [(aq, .inr (6, [.ref htf, .int (nI tn)])), (htf, .inl (ctf, 450, .inl tf))]) [1, 2] rfl
        have hKc := hK.sub (tys' := [(ctf, .int)]) [0] rfl
        refine vp_callSi (W.runV (As := [.int (nI i), .int (nI w)]) (rest := []) ⟨hx, hb, hml, hown, hg⟩ (c_Tr_number l DD aq htf ctf tf tn i w (by omega) (by omega)) (cwV 2 hg (gi_V mw_646 mw_647 mw_648 mw_4 mw_649) rfl rfl rfl (by decide +kernel) ⟨Nat.le_of_ble_eq_true rfl, Nat.le_of_ble_eq_true rfl⟩) ⟨z_blind, va_recv hKc hPc (ci := 6) (q0 := 0) rfl rfl, z_pre hPc hKc⟩ rfl rfl hl.1 rfl (lv_room (Nat.le_of_ble_eq_true rfl)) d_De_step_36 ⟨Nat.zero_le _, Nat.zero_le _⟩) (fun r_36 hr_36 => ?_)
        subst hr_36
        exact W.iret (v := tf (i * 3 + w)) hx hb hr (fun t9 ht9 hW9 => ⟨_, rfl, rfl, ht9⟩) (fun _ h => nomatch h) d_De_step_39
      · exact absurd c_17 (by omega)
abbrev rm_De_putBack : Room := { frames := 2, cells := 0, slots := 0, locals := 39 }
set_option maxHeartbeats 4000000 in
set_option maxRecDepth 100000 in
theorem c_De_putBack (l : Launch) (DD : va_G) (sz : Nat) (ad : Nat) (h : Nat) (hk : Nat) (ck : ClassId) (k : Nat → Int32) (ht : Nat) (ct : ClassId) (t : Nat → Int32) (n : Nat) (h1 : Nat) (hk1 : Nat) (ck1 : ClassId) (k1 : Nat → Int32) (ht1 : Nat) (ct1 : ClassId) (t1 : Nat → Int32) (n1 : Nat) (ar : Nat) (aq : Nat) (htf : Nat) (ctf : ClassId) (tf : Nat → Int32) (tn : Nat) (hwv : Nat) (hpn : Nat) (hod : Nat) (cm : Int64) (pb : Bool) (wa : Bool) (hn1 : n1 ≤ 150) (hpb : pb = true) : Met l y_De_putBack ws_De_putBack rm_De_putBack (va_Pc [.ref ad] (fun U => U.heap.size = sz ∧ va_P DD vwCl [(ad, .inr (8, [.ref h, .ref h1, .ref ar, .ref aq, .ref hwv, .ref hpn, .ref hod, .long cm, .int (zb pb), .int (zb wa)])), (h, .inr (4, [.ref hk, .ref ht, .int (nI n)])), (hk, .inl (ck, 150, .inl k)), (ht, .inl (ct, 150, .inl t)), (h1, .inr (4, [.ref hk1, .ref ht1, .int (nI n1)])), (hk1, .inl (ck1, 150, .inl k1)), (ht1, .inl (ct1, 150, .inl t1)), (aq, .inr (6, [.ref htf, .int (nI tn)])), (htf, .inl (ctf, 450, .inl tf))] U.heap ∧ va_K DD vwCl [(ck, .int), (ct, .int), (ck1, .int), (ct1, .int), (ctf, .int)] U ∧ va_D (fun _ => True) [(ad, .inr (8, [.ref h, .ref h1, .ref ar, .ref aq, .ref hwv, .ref hpn, .ref hod, .long cm, .int (zb pb), .int (zb wa)])), (h, .inr (4, [.ref hk, .ref ht, .int (nI n)])), (hk, .inl (ck, 150, .inl k)), (ht, .inl (ct, 150, .inl t)), (h1, .inr (4, [.ref hk1, .ref ht1, .int (nI n1)])), (hk1, .inl (ck1, 150, .inl k1)), (ht1, .inl (ct1, 150, .inl t1)), (aq, .inr (6, [.ref htf, .int (nI tn)])), (htf, .inl (ctf, 450, .inl tf))])) (va_Qi (fun (r9 : Int32) (u9 : Unit) => match u9 with | _ => r9 = nI n1) (fun (u9 : Unit) (t9 : State) => match u9 with | _ => va_P DD vwCl [(ad, .inr (8, [.ref h, .ref h1, .ref ar, .ref aq, .ref hwv, .ref hpn, .ref hod, .long cm, .int (zb false), .int (zb wa)])), (h, .inr (4, [.ref hk, .ref ht, .int (nI n1)])), (hk, .inl (ck, 150, .inl (va_cpy k1 k 0 0 n1))), (ht, .inl (ct, 150, .inl (va_cpy t1 t 0 0 n1))), (h1, .inr (4, [.ref hk1, .ref ht1, .int (nI n1)])), (hk1, .inl (ck1, 150, .inl k1)), (ht1, .inl (ct1, 150, .inl t1)), (aq, .inr (6, [.ref htf, .int (nI 0)])), (htf, .inl (ctf, 450, .inl tf))] t9.heap ∧ va_K DD vwCl [(ck, .int), (ct, .int), (ck1, .int), (ct1, .int), (ctf, .int)] t9 ∧ va_D (va_A [(ad, .inr (8, [.ref h, .ref h1, .ref ar, .ref aq, .ref hwv, .ref hpn, .ref hod, .long cm, .int (zb pb), .int (zb wa)])), (h, .inr (4, [.ref hk, .ref ht, .int (nI n)])), (hk, .inl (ck, 150, .inl k)), (ht, .inl (ct, 150, .inl t)), (h1, .inr (4, [.ref hk1, .ref ht1, .int (nI n1)])), (hk1, .inl (ck1, 150, .inl k1)), (ht1, .inl (ct1, 150, .inl t1)), (aq, .inr (6, [.ref htf, .int (nI tn)])), (htf, .inl (ctf, 450, .inl tf))] sz) [(ad, .inr (8, [.ref h, .ref h1, .ref ar, .ref aq, .ref hwv, .ref hpn, .ref hod, .long cm, .int (zb false), .int (zb wa)])), (h, .inr (4, [.ref hk, .ref ht, .int (nI n1)])), (hk, .inl (ck, 150, .inl (va_cpy k1 k 0 0 n1))), (ht, .inl (ct, 150, .inl (va_cpy t1 t 0 0 n1))), (h1, .inr (4, [.ref hk1, .ref ht1, .int (nI n1)])), (hk1, .inl (ck1, 150, .inl k1)), (ht1, .inl (ct1, 150, .inl t1)), (aq, .inr (6, [.ref htf, .int (nI 0)])), (htf, .inl (ctf, 450, .inl tf))]) (va_A [(ad, .inr (8, [.ref h, .ref h1, .ref ar, .ref aq, .ref hwv, .ref hpn, .ref hod, .long cm, .int (zb pb), .int (zb wa)])), (h, .inr (4, [.ref hk, .ref ht, .int (nI n)])), (hk, .inl (ck, 150, .inl k)), (ht, .inl (ct, 150, .inl t)), (h1, .inr (4, [.ref hk1, .ref ht1, .int (nI n1)])), (hk1, .inl (ck1, 150, .inl k1)), (ht1, .inl (ct1, 150, .inl t1)), (aq, .inr (6, [.ref htf, .int (nI tn)])), (htf, .inl (ctf, 450, .inl tf))] sz)) 0 0 (va_A [(ad, .inr (8, [.ref h, .ref h1, .ref ar, .ref aq, .ref hwv, .ref hpn, .ref hod, .long cm, .int (zb pb), .int (zb wa)])), (h, .inr (4, [.ref hk, .ref ht, .int (nI n)])), (hk, .inl (ck, 150, .inl k)), (ht, .inl (ct, 150, .inl t)), (h1, .inr (4, [.ref hk1, .ref ht1, .int (nI n1)])), (hk1, .inl (ck1, 150, .inl k1)), (ht1, .inl (ct1, 150, .inl t1)), (aq, .inr (6, [.ref htf, .int (nI tn)])), (htf, .inl (ctf, 450, .inl tf))] sz) := by
  refine Met.ofW (cc := b_De_putBack) (maxL := 1) (ret := (some .int)) (by decide) rfl ?_
  intro p e s m args below meth c s₁ B hml hv
  obtain ⟨ha, hsz, hP, hK, hD0⟩ := hv
  have hx := B.exec
  have hb := B.bytes
  have hr := B.returns
  have hts := atoms_spec (ws := ws_De_putBack) B.pre
  have hg : ∀ w ∈ ALLG, w.before args s = true := fun w h => hts w (List.mem_cons_of_mem _ h)
  have hown : s.vm.findClass R_De = some m.cls := findClass_of_methodNamed B.named
  have hlocks := B.notSynchronized
  subst hsz
  have hD := hD0.self (sz := s.heap.size)
  generalize hAe : va_A [(ad, .inr (8, [.ref h, .ref h1, .ref ar, .ref aq, .ref hwv, .ref hpn, .ref hod, .long cm, .int (zb pb), .int (zb wa)])), (h, .inr (4, [.ref hk, .ref ht, .int (nI n)])), (hk, .inl (ck, 150, .inl k)), (ht, .inl (ct, 150, .inl t)), (h1, .inr (4, [.ref hk1, .ref ht1, .int (nI n1)])), (hk1, .inl (ck1, 150, .inl k1)), (ht1, .inl (ct1, 150, .inl t1)), (aq, .inr (6, [.ref htf, .int (nI tn)])), (htf, .inl (ctf, 450, .inl tf))] s.heap.size = A at hD ⊢
  have hA : ∀ q : Nat, s.heap.size ≤ q → A q := fun q h => by rw [← hAe]; exact Or.inr h
  have hS : va_S A s.heap s.heap [] := va_S.rf
  have hP : va_P DD vwCl [(ad, .inr (8, [.ref h, .ref h1, .ref ar, .ref aq, .ref hwv, .ref hpn, .ref hod, .long cm, .int (zb pb), .int (zb wa)])), (h, .inr (4, [.ref hk, .ref ht, .int (nI n)])), (hk, .inl (ck, 150, .inl k)), (ht, .inl (ct, 150, .inl t)), (h1, .inr (4, [.ref hk1, .ref ht1, .int (nI n1)])), (hk1, .inl (ck1, 150, .inl k1)), (ht1, .inl (ct1, 150, .inl t1)), (aq, .inr (6, [.ref htf, .int (nI tn)])), (htf, .inl (ctf, 450, .inl tf))] s.heap := hP
  have hl := lv_entry ([.ref ad]) (n := 1) (Nat.le_of_ble_eq_true rfl)
  rw [ha, lg_entry_eq, ← ha]
  generalize (lg_sl ([.ref ad]) ++ List.replicate (1 - (lg_sl ([.ref ad])).length) Slot.unset).toArray = ls at hl ⊢
  have hl : lv_has ls 1 [(0, .ref ad)] := hl
  refine lv_aload_n hx hb d_De_putBack_0 rfl (lv_at hl 0 rfl) ?_
  refine va_get (D := DD) (ci := 8) (v := .int (zb pb)) (C := R_De) (T := T_De) (N := 10) hx hb hg in_De hown hK hP 0 rfl rfl 8 (by decide) (hg _ mw_148) (fun _ h9 => h9) rfl d_De_putBack_1 ?_
  refine z_ifb_ne (tgt := 17) hx hb d_De_putBack_4 (by decide) (fun c_4 => ?_) (fun c_4 => ?_)
  · refine lv_aload_n hx hb d_De_putBack_17 rfl (lv_at hl 0 rfl) ?_
    refine va_get (D := DD) (ci := 8) (v := .ref h) (C := R_De) (T := T_De) (N := 10) hx hb hg in_De hown hK hP 0 rfl rfl 0 (by decide) (hg _ mw_140) (fun _ h9 => h9) rfl d_De_putBack_18 ?_
    refine lv_aload_n hx hb d_De_putBack_21 rfl (lv_at hl 0 rfl) ?_
    refine va_get (D := DD) (ci := 8) (v := .ref h1) (C := R_De) (T := T_De) (N := 10) hx hb hg in_De hown hK hP 0 rfl rfl 1 (by decide) (hg _ mw_141) (fun _ h9 => h9) rfl d_De_putBack_22 ?_
    have hPc := hP.sub (ws' := [(h, .inr (4, [.ref hk, .ref ht, .int (nI n)])), (hk, .inl (ck, 150, .inl k)), (ht, .inl (ct, 150, .inl t)), (h1, .inr (4, [.ref hk1, .ref ht1, .int (nI n1)])), (hk1, .inl (ck1, 150, .inl k1)), (ht1, .inl (ct1, 150, .inl t1))]) [1, 2, 3, 4, 5, 6] rfl
    have hKc := hK.sub (tys' := [(ck, .int), (ct, .int), (ck1, .int), (ct1, .int)]) [0, 1, 2, 3] rfl
    have hDc := hD.sub (ws' := [(h, .inr (4, [.ref hk, .ref ht, .int (nI n)])), (hk, .inl (ck, 150, .inl k)), (ht, .inl (ct, 150, .inl t)), (h1, .inr (4, [.ref hk1, .ref ht1, .int (nI n1)])), (hk1, .inl (ck1, 150, .inl k1)), (ht1, .inl (ct1, 150, .inl t1))]) [1, 2, 3, 4, 5, 6] (by decide) rfl
    have hFc := va_free (wc := [(h, .inr (4, [.ref hk, .ref ht, .int (nI n)])), (hk, .inl (ck, 150, .inl k)), (ht, .inl (ct, 150, .inl t)), (h1, .inr (4, [.ref hk1, .ref ht1, .int (nI n1)])), (hk1, .inl (ck1, 150, .inl k1)), (ht1, .inl (ct1, 150, .inl t1))]) hD hS hA [1, 2, 3, 4, 5, 6] rfl
    refine va_callv (va_runV (As := [.ref h1]) (rest := []) ⟨hx, hb, hml, hown, hg⟩ (c_Ro_copyFrom l DD s.heap.size h hk ht ck n k ct t h1 hk1 ht1 ck1 n1 k1 ct1 t1 (by omega)) (cwV 1 hg (gi_V mw_529 mw_530 mw_531 mw_2 mw_532) rfl rfl rfl (by decide +kernel) ⟨Nat.le_of_ble_eq_true rfl, Nat.le_of_ble_eq_true rfl⟩) ⟨z_blindQ, va_recv hKc hPc (ci := 4) (q0 := 0) rfl rfl, z_preQ hPc hKc hDc⟩ rfl rfl hl.1 rfl (lv_room (Nat.le_of_ble_eq_true rfl)) d_De_putBack_25 ⟨Nat.zero_le _, Nat.zero_le _⟩) hS (fun q _ h => hFc q h) hFc (fun u9 t9 H9 locs ht9 hvm9 hw9 hB9 hz9 hk9 hS => ?_)
    obtain ⟨hP1, hK1, hD1⟩ := hB9
    rw [ht9] at hP1
    try dsimp only at hw9
    obtain ⟨hP, hD⟩ := va_join (wr := [(ad, .inr (8, [.ref h, .ref h1, .ref ar, .ref aq, .ref hwv, .ref hpn, .ref hod, .long cm, .int (zb pb), .int (zb wa)])), (aq, .inr (6, [.ref htf, .int (nI tn)])), (htf, .inl (ctf, 450, .inl tf))]) (w1 := [(h, .inr (4, [.ref hk, .ref ht, .int (nI n1)])), (hk, .inl (ck, 150, .inl (va_cpy k1 k 0 0 n1))), (ht, .inl (ct, 150, .inl (va_cpy t1 t 0 0 n1))), (h1, .inr (4, [.ref hk1, .ref ht1, .int (nI n1)])), (hk1, .inl (ck1, 150, .inl k1)), (ht1, .inl (ct1, 150, .inl t1))]) hP hD [1, 2, 3, 4, 5, 6] [0, 7, 8] rfl rfl (by decide) (by decide) hk9 hFc hP1 hD1
    generalize H9 = H at hP hS ⊢
    have hP : va_P DD vwCl [(ad, .inr (8, [.ref h, .ref h1, .ref ar, .ref aq, .ref hwv, .ref hpn, .ref hod, .long cm, .int (zb pb), .int (zb wa)])), (aq, .inr (6, [.ref htf, .int (nI tn)])), (htf, .inl (ctf, 450, .inl tf)), (h, .inr (4, [.ref hk, .ref ht, .int (nI n1)])), (hk, .inl (ck, 150, .inl (va_cpy k1 k 0 0 n1))), (ht, .inl (ct, 150, .inl (va_cpy t1 t 0 0 n1))), (h1, .inr (4, [.ref hk1, .ref ht1, .int (nI n1)])), (hk1, .inl (ck1, 150, .inl k1)), (ht1, .inl (ct1, 150, .inl t1))] H := hP
    have hD : va_D A [(ad, .inr (8, [.ref h, .ref h1, .ref ar, .ref aq, .ref hwv, .ref hpn, .ref hod, .long cm, .int (zb pb), .int (zb wa)])), (aq, .inr (6, [.ref htf, .int (nI tn)])), (htf, .inl (ctf, 450, .inl tf)), (h, .inr (4, [.ref hk, .ref ht, .int (nI n1)])), (hk, .inl (ck, 150, .inl (va_cpy k1 k 0 0 n1))), (ht, .inl (ct, 150, .inl (va_cpy t1 t 0 0 n1))), (h1, .inr (4, [.ref hk1, .ref ht1, .int (nI n1)])), (hk1, .inl (ck1, 150, .inl k1)), (ht1, .inl (ct1, 150, .inl t1))] := hD
    refine lv_aload_n hx hb d_De_putBack_28 rfl (lv_at hl 0 rfl) ?_
    refine va_get (D := DD) (ci := 8) (v := .ref aq) (C := R_De) (T := T_De) (N := 10) hx hb hg in_De hown hK hP 0 rfl rfl 3 (by decide) (hg _ mw_143) (fun _ h9 => h9) rfl d_De_putBack_29 ?_
    have hPc := hP.sub (ws' := [(aq, .inr (6, [.ref htf, .int (nI tn)]))]) [1] rfl
    have hKc := hK.sub (tys' := []) [] rfl
    have hDc := hD.sub (ws' := [(aq, .inr (6, [.ref htf, .int (nI tn)]))]) [1] (by decide) rfl
    have hFc := va_free (wc := [(aq, .inr (6, [.ref htf, .int (nI tn)]))]) hD hS hA [1] rfl
    refine va_callv (va_runV (As := []) (rest := []) ⟨hx, hb, hml, hown, hg⟩ (c_Tr_clear l DD H.size aq htf tn) (cwV 0 hg (gi_V mw_533 mw_534 mw_535 mw_4 mw_536) rfl rfl rfl (by decide +kernel) ⟨Nat.le_of_ble_eq_true rfl, Nat.le_of_ble_eq_true rfl⟩) ⟨z_blindQ, va_recv hKc hPc (ci := 6) (q0 := 0) rfl rfl, z_preQ hPc hKc hDc⟩ rfl rfl hl.1 rfl (lv_room (Nat.le_of_ble_eq_true rfl)) d_De_putBack_32 ⟨Nat.zero_le _, Nat.zero_le _⟩) hS (fun q _ h => hFc q h) hFc (fun u9 t9 H9 locs ht9 hvm9 hw9 hB9 hz9 hk9 hS => ?_)
    obtain ⟨hP1, hK1, hD1⟩ := hB9
    rw [ht9] at hP1
    try dsimp only at hw9
    obtain ⟨hP, hD⟩ := va_join (wr := [(ad, .inr (8, [.ref h, .ref h1, .ref ar, .ref aq, .ref hwv, .ref hpn, .ref hod, .long cm, .int (zb pb), .int (zb wa)])), (htf, .inl (ctf, 450, .inl tf)), (h, .inr (4, [.ref hk, .ref ht, .int (nI n1)])), (hk, .inl (ck, 150, .inl (va_cpy k1 k 0 0 n1))), (ht, .inl (ct, 150, .inl (va_cpy t1 t 0 0 n1))), (h1, .inr (4, [.ref hk1, .ref ht1, .int (nI n1)])), (hk1, .inl (ck1, 150, .inl k1)), (ht1, .inl (ct1, 150, .inl t1))]) (w1 := [(aq, .inr (6, [.ref htf, .int (nI 0)]))]) hP hD [1] [0, 2, 3, 4, 5, 6, 7, 8] rfl rfl (by decide) (by decide) hk9 hFc hP1 hD1
    generalize H9 = H at hP hS ⊢
    have hP : va_P DD vwCl [(ad, .inr (8, [.ref h, .ref h1, .ref ar, .ref aq, .ref hwv, .ref hpn, .ref hod, .long cm, .int (zb pb), .int (zb wa)])), (htf, .inl (ctf, 450, .inl tf)), (h, .inr (4, [.ref hk, .ref ht, .int (nI n1)])), (hk, .inl (ck, 150, .inl (va_cpy k1 k 0 0 n1))), (ht, .inl (ct, 150, .inl (va_cpy t1 t 0 0 n1))), (h1, .inr (4, [.ref hk1, .ref ht1, .int (nI n1)])), (hk1, .inl (ck1, 150, .inl k1)), (ht1, .inl (ct1, 150, .inl t1)), (aq, .inr (6, [.ref htf, .int (nI 0)]))] H := hP
    have hD : va_D A [(ad, .inr (8, [.ref h, .ref h1, .ref ar, .ref aq, .ref hwv, .ref hpn, .ref hod, .long cm, .int (zb pb), .int (zb wa)])), (htf, .inl (ctf, 450, .inl tf)), (h, .inr (4, [.ref hk, .ref ht, .int (nI n1)])), (hk, .inl (ck, 150, .inl (va_cpy k1 k 0 0 n1))), (ht, .inl (ct, 150, .inl (va_cpy t1 t 0 0 n1))), (h1, .inr (4, [.ref hk1, .ref ht1, .int (nI n1)])), (hk1, .inl (ck1, 150, .inl k1)), (ht1, .inl (ct1, 150, .inl t1)), (aq, .inr (6, [.ref htf, .int (nI 0)]))] := hD
    refine lv_aload_n hx hb d_De_putBack_35 rfl (lv_at hl 0 rfl) ?_
    refine lv_iconst (v := nI 0) hx hb d_De_putBack_36 (by decide) ?_
    refine va_put (D := DD) (ci := 8) (v := .int (zb false)) (ty := .boolean) (C := R_De) (T := T_De) (N := 10) hx hb hg in_De t_De to_De n_De hown hK hP hD hS 0 rfl rfl 8 (by decide) (hg _ mw_148) (fun _ h9 => h9) rfl (by decide +kernel) rfl rfl (Nat.le_of_ble_eq_true rfl) d_De_putBack_37 (fun H locs hP hD hS => ?_)
    have hP : va_P DD vwCl [(ad, .inr (8, [.ref h, .ref h1, .ref ar, .ref aq, .ref hwv, .ref hpn, .ref hod, .long cm, .int (zb false), .int (zb wa)])), (htf, .inl (ctf, 450, .inl tf)), (h, .inr (4, [.ref hk, .ref ht, .int (nI n1)])), (hk, .inl (ck, 150, .inl (va_cpy k1 k 0 0 n1))), (ht, .inl (ct, 150, .inl (va_cpy t1 t 0 0 n1))), (h1, .inr (4, [.ref hk1, .ref ht1, .int (nI n1)])), (hk1, .inl (ck1, 150, .inl k1)), (ht1, .inl (ct1, 150, .inl t1)), (aq, .inr (6, [.ref htf, .int (nI 0)]))] H := hP
    have hD : va_D A [(ad, .inr (8, [.ref h, .ref h1, .ref ar, .ref aq, .ref hwv, .ref hpn, .ref hod, .long cm, .int (zb false), .int (zb wa)])), (htf, .inl (ctf, 450, .inl tf)), (h, .inr (4, [.ref hk, .ref ht, .int (nI n1)])), (hk, .inl (ck, 150, .inl (va_cpy k1 k 0 0 n1))), (ht, .inl (ct, 150, .inl (va_cpy t1 t 0 0 n1))), (h1, .inr (4, [.ref hk1, .ref ht1, .int (nI n1)])), (hk1, .inl (ck1, 150, .inl k1)), (ht1, .inl (ct1, 150, .inl t1)), (aq, .inr (6, [.ref htf, .int (nI 0)]))] := hD
    refine lv_aload_n hx hb d_De_putBack_40 rfl (lv_at hl 0 rfl) ?_
    refine va_get (D := DD) (ci := 8) (v := .ref h) (C := R_De) (T := T_De) (N := 10) hx hb hg in_De hown hK hP 0 rfl rfl 0 (by decide) (hg _ mw_140) (fun _ h9 => h9) rfl d_De_putBack_41 ?_
    have hPc := hP.sub (ws' := [(h, .inr (4, [.ref hk, .ref ht, .int (nI n1)])), (hk, .inl (ck, 150, .inl (va_cpy k1 k 0 0 n1)))]) [2, 3] rfl
    have hKc := hK.sub (tys' := [(ck, .int)]) [0] rfl
    refine vp_callSi (W.runV (As := []) (rest := []) ⟨hx, hb, hml, hown, hg⟩ (c_Ro_size l DD h hk ht ck n1 (va_cpy k1 k 0 0 n1)) (cwV 0 hg (gi_V mw_366 mw_214 mw_215 mw_2 mw_216) rfl rfl rfl (by decide +kernel) ⟨Nat.le_of_ble_eq_true rfl, Nat.le_of_ble_eq_true rfl⟩) ⟨z_blind, va_recv hKc hPc (ci := 4) (q0 := 0) rfl rfl, z_pre hPc hKc⟩ rfl rfl hl.1 rfl (lv_room (Nat.le_of_ble_eq_true rfl)) d_De_putBack_44 ⟨Nat.zero_le _, Nat.zero_le _⟩) (fun r_44 hr_44 => ?_)
    subst hr_44
    have hP9 := hP.sub (ws' := [(ad, .inr (8, [.ref h, .ref h1, .ref ar, .ref aq, .ref hwv, .ref hpn, .ref hod, .long cm, .int (zb false), .int (zb wa)])), (h, .inr (4, [.ref hk, .ref ht, .int (nI n1)])), (hk, .inl (ck, 150, .inl (va_cpy k1 k 0 0 n1))), (ht, .inl (ct, 150, .inl (va_cpy t1 t 0 0 n1))), (h1, .inr (4, [.ref hk1, .ref ht1, .int (nI n1)])), (hk1, .inl (ck1, 150, .inl k1)), (ht1, .inl (ct1, 150, .inl t1)), (aq, .inr (6, [.ref htf, .int (nI 0)])), (htf, .inl (ctf, 450, .inl tf))]) [0, 2, 3, 4, 5, 6, 7, 8, 1] rfl
    have hD9 := hD.sub (ws' := [(ad, .inr (8, [.ref h, .ref h1, .ref ar, .ref aq, .ref hwv, .ref hpn, .ref hod, .long cm, .int (zb false), .int (zb wa)])), (h, .inr (4, [.ref hk, .ref ht, .int (nI n1)])), (hk, .inl (ck, 150, .inl (va_cpy k1 k 0 0 n1))), (ht, .inl (ct, 150, .inl (va_cpy t1 t 0 0 n1))), (h1, .inr (4, [.ref hk1, .ref ht1, .int (nI n1)])), (hk1, .inl (ck1, 150, .inl k1)), (ht1, .inl (ct1, 150, .inl t1)), (aq, .inr (6, [.ref htf, .int (nI 0)])), (htf, .inl (ctf, 450, .inl tf))]) [0, 2, 3, 4, 5, 6, 7, 8, 1] (by decide) rfl
    exact W.iret (v := nI n1) hx hb hr (fun t9 ht9 hW9 => ⟨⟨_, (), rfl, rfl, by rw [ht9]; exact hP9, va_K.moved hW9.alike hK, hD9⟩, hS.F ht9⟩) hS.2.2 d_De_putBack_47
  · exact absurd c_4 (by rw [hpb]; decide)
