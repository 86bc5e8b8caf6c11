theorem d_Mo_putBack_0 : decode b_Mo_putBack 0 = .ok (.aload_n 0, 1) := by decide +kernel
theorem d_Mo_putBack_1 : decode b_Mo_putBack 1 = .ok (.aload_n 0, 1) := by decide +kernel
theorem d_Mo_putBack_2 : decode b_Mo_putBack 2 = .ok (.getfield 57, 3) := by decide +kernel
theorem d_Mo_putBack_5 : decode b_Mo_putBack 5 = .ok (.ifCond .eq 7, 3) := by decide +kernel
theorem d_Mo_putBack_8 : decode b_Mo_putBack 8 = .ok (.iconst 0, 1) := by decide +kernel
theorem d_Mo_putBack_9 : decode b_Mo_putBack 9 = .ok (.goto 4, 3) := by decide +kernel
theorem d_Mo_putBack_12 : decode b_Mo_putBack 12 = .ok (.iconst 1, 1) := by decide +kernel
theorem d_Mo_putBack_13 : decode b_Mo_putBack 13 = .ok (.putfield 50, 3) := by decide +kernel
theorem d_Mo_putBack_16 : decode b_Mo_putBack 16 = .ok (.aload_n 0, 1) := by decide +kernel
theorem d_Mo_putBack_17 : decode b_Mo_putBack 17 = .ok (.getfield 50, 3) := by decide +kernel
theorem d_Mo_putBack_20 : decode b_Mo_putBack 20 = .ok (.ifCond .le 5, 3) := by decide +kernel
theorem d_Mo_putBack_23 : decode b_Mo_putBack 23 = .ok (.iconst 0, 1) := by decide +kernel
theorem d_Mo_putBack_24 : decode b_Mo_putBack 24 = .ok (.ireturn, 1) := by decide +kernel
theorem d_Mo_putBack_25 : decode b_Mo_putBack 25 = .ok (.iconst 0, 1) := by decide +kernel
theorem d_Mo_putBack_26 : decode b_Mo_putBack 26 = .ok (.istore_n 1, 1) := by decide +kernel
theorem d_Mo_putBack_27 : decode b_Mo_putBack 27 = .ok (.iload_n 1, 1) := by decide +kernel
theorem d_Mo_putBack_28 : decode b_Mo_putBack 28 = .ok (.aload_n 0, 1) := by decide +kernel
theorem d_Mo_putBack_29 : decode b_Mo_putBack 29 = .ok (.getfield 132, 3) := by decide +kernel
theorem d_Mo_putBack_32 : decode b_Mo_putBack 32 = .ok (.if_icmp .ge 33, 3) := by decide +kernel
theorem d_Mo_putBack_35 : decode b_Mo_putBack 35 = .ok (.aload_n 0, 1) := by decide +kernel
theorem d_Mo_putBack_36 : decode b_Mo_putBack 36 = .ok (.getfield 7, 3) := by decide +kernel
theorem d_Mo_putBack_39 : decode b_Mo_putBack 39 = .ok (.iload_n 1, 1) := by decide +kernel
theorem d_Mo_putBack_40 : decode b_Mo_putBack 40 = .ok (.aload_n 0, 1) := by decide +kernel
theorem d_Mo_putBack_41 : decode b_Mo_putBack 41 = .ok (.getfield 16, 3) := by decide +kernel
theorem d_Mo_putBack_44 : decode b_Mo_putBack 44 = .ok (.iload_n 1, 1) := by decide +kernel
theorem d_Mo_putBack_45 : decode b_Mo_putBack 45 = .ok (.iaload, 1) := by decide +kernel
theorem d_Mo_putBack_46 : decode b_Mo_putBack 46 = .ok (.iastore, 1) := by decide +kernel
theorem d_Mo_putBack_47 : decode b_Mo_putBack 47 = .ok (.aload_n 0, 1) := by decide +kernel
theorem d_Mo_putBack_48 : decode b_Mo_putBack 48 = .ok (.getfield 13, 3) := by decide +kernel
theorem d_Mo_putBack_51 : decode b_Mo_putBack 51 = .ok (.iload_n 1, 1) := by decide +kernel
theorem d_Mo_putBack_52 : decode b_Mo_putBack 52 = .ok (.aload_n 0, 1) := by decide +kernel
theorem d_Mo_putBack_53 : decode b_Mo_putBack 53 = .ok (.getfield 19, 3) := by decide +kernel
theorem d_Mo_putBack_56 : decode b_Mo_putBack 56 = .ok (.iload_n 1, 1) := by decide +kernel
theorem d_Mo_putBack_57 : decode b_Mo_putBack 57 = .ok (.iaload, 1) := by decide +kernel
theorem d_Mo_putBack_58 : decode b_Mo_putBack 58 = .ok (.iastore, 1) := by decide +kernel
theorem d_Mo_putBack_59 : decode b_Mo_putBack 59 = .ok (.iinc 1 1, 3) := by decide +kernel
theorem d_Mo_putBack_62 : decode b_Mo_putBack 62 = .ok (.goto (-35), 3) := by decide +kernel
theorem d_Mo_putBack_65 : decode b_Mo_putBack 65 = .ok (.aload_n 0, 1) := by decide +kernel
theorem d_Mo_putBack_66 : decode b_Mo_putBack 66 = .ok (.iconst 0, 1) := by decide +kernel
theorem d_Mo_putBack_67 : decode b_Mo_putBack 67 = .ok (.putfield 57, 3) := by decide +kernel
theorem d_Mo_putBack_70 : decode b_Mo_putBack 70 = .ok (.aload_n 0, 1) := by decide +kernel
theorem d_Mo_putBack_71 : decode b_Mo_putBack 71 = .ok (.iconst 0, 1) := by decide +kernel
theorem d_Mo_putBack_72 : decode b_Mo_putBack 72 = .ok (.putfield 101, 3) := by decide +kernel
theorem d_Mo_putBack_75 : decode b_Mo_putBack 75 = .ok (.aload_n 0, 1) := by decide +kernel
theorem d_Mo_putBack_76 : decode b_Mo_putBack 76 = .ok (.getfield 54, 3) := by decide +kernel
theorem d_Mo_putBack_79 : decode b_Mo_putBack 79 = .ok (.ireturn, 1) := by decide +kernel
abbrev ws_Mo_putBack : List Cond := .code y_Mo_putBack b_Mo_putBack 2 (some .int) :: ALLG
abbrev rm_Mo_putBack : Room := { frames := 0, cells := 0, slots := 0, locals := 0 }
set_option maxHeartbeats 4000000 in
set_option maxRecDepth 100000 in
theorem c_Mo_putBack (l : Launch) (DD : va_G) (sz : Nat) (am : Nat) (th : Nat) (n : Nat) (hk : Nat) (ck : ClassId) (k : Nat → Int32) (ht : Nat) (ct : ClassId) (t : Nat → Int32) (n1 : Nat) (hk1 : Nat) (ck1 : ClassId) (k1 : Nat → Int32) (ht1 : Nat) (ct1 : ClassId) (t1 : Nat → Int32) (pb : Bool) (rn : Nat) (hfg : Nat) (hle : Nat) (hmo : Nat) (hwy : Nat) (tn : Nat) (htf : Nat) (cm : Int64) (hod : Nat) (hwk : Nat) (hot : Nat) (ru : Nat) (hen : Nat) (hn1 : n1 ≤ 150) (hpb : pb = true) : Met l y_Mo_putBack ws_Mo_putBack rm_Mo_putBack (va_Pc [.ref am] (fun U => U.heap.size = sz ∧ va_P DD vwCl [(am, .inr (9, [.int (nI th), .int (nI n), .ref hk, .ref ht, .int (nI n1), .ref hk1, .ref ht1, .int (zb pb), .int (nI rn), .ref hfg, .ref hle, .ref hmo, .ref hwy, .int (nI tn), .ref htf, .long cm, .ref hod, .ref hwk, .ref hot, .int (nI ru), .ref hen])), (hk, .inl (ck, 150, .inl k)), (ht, .inl (ct, 150, .inl t)), (hk1, .inl (ck1, 150, .inl k1)), (ht1, .inl (ct1, 150, .inl t1))] U.heap ∧ va_K DD vwCl [(ck, .int), (ct, .int), (ck1, .int), (ct1, .int)] U ∧ va_D (fun _ => True) [(am, .inr (9, [.int (nI th), .int (nI n), .ref hk, .ref ht, .int (nI n1), .ref hk1, .ref ht1, .int (zb pb), .int (nI rn), .ref hfg, .ref hle, .ref hmo, .ref hwy, .int (nI tn), .ref htf, .long cm, .ref hod, .ref hwk, .ref hot, .int (nI ru), .ref hen])), (hk, .inl (ck, 150, .inl k)), (ht, .inl (ct, 150, .inl t)), (hk1, .inl (ck1, 150, .inl k1)), (ht1, .inl (ct1, 150, .inl t1))])) (va_Qi (fun (r9 : Int32) (u9 : Unit) => match u9 with | _ => r9 = nI n) (fun (u9 : Unit) (t9 : State) => match u9 with | _ => va_P DD vwCl [(am, .inr (9, [.int (nI 0), .int (nI n), .ref hk, .ref ht, .int (nI n1), .ref hk1, .ref ht1, .int (zb false), .int (nI rn), .ref hfg, .ref hle, .ref hmo, .ref hwy, .int (nI 0), .ref htf, .long cm, .ref hod, .ref hwk, .ref hot, .int (nI ru), .ref hen])), (hk, .inl (ck, 150, .inl (va_cpy k1 k 0 0 n1))), (ht, .inl (ct, 150, .inl (va_cpy t1 t 0 0 n1))), (hk1, .inl (ck1, 150, .inl k1)), (ht1, .inl (ct1, 150, .inl t1))] t9.heap ∧ va_K DD vwCl [(ck, .int), (ct, .int), (ck1, .int), (ct1, .int)] t9 ∧ va_D (va_A [(am, .inr (9, [.int (nI th), .int (nI n), .ref hk, .ref ht, .int (nI n1), .ref hk1, .ref ht1, .int (zb pb), .int (nI rn), .ref hfg, .ref hle, .ref hmo, .ref hwy, .int (nI tn), .ref htf, .long cm, .ref hod, .ref hwk, .ref hot, .int (nI ru), .ref hen])), (hk, .inl (ck, 150, .inl k)), (ht, .inl (ct, 150, .inl t)), (hk1, .inl (ck1, 150, .inl k1)), (ht1, .inl (ct1, 150, .inl t1))] sz) [(am, .inr (9, [.int (nI 0), .int (nI n), .ref hk, .ref ht, .int (nI n1), .ref hk1, .ref ht1, .int (zb false), .int (nI rn), .ref hfg, .ref hle, .ref hmo, .ref hwy, .int (nI 0), .ref htf, .long cm, .ref hod, .ref hwk, .ref hot, .int (nI ru), .ref hen])), (hk, .inl (ck, 150, .inl (va_cpy k1 k 0 0 n1))), (ht, .inl (ct, 150, .inl (va_cpy t1 t 0 0 n1))), (hk1, .inl (ck1, 150, .inl k1)), (ht1, .inl (ct1, 150, .inl t1))]) (va_A [(am, .inr (9, [.int (nI th), .int (nI n), .ref hk, .ref ht, .int (nI n1), .ref hk1, .ref ht1, .int (zb pb), .int (nI rn), .ref hfg, .ref hle, .ref hmo, .ref hwy, .int (nI tn), .ref htf, .long cm, .ref hod, .ref hwk, .ref hot, .int (nI ru), .ref hen])), (hk, .inl (ck, 150, .inl k)), (ht, .inl (ct, 150, .inl t)), (hk1, .inl (ck1, 150, .inl k1)), (ht1, .inl (ct1, 150, .inl t1))] sz)) 0 0 (va_A [(am, .inr (9, [.int (nI th), .int (nI n), .ref hk, .ref ht, .int (nI n1), .ref hk1, .ref ht1, .int (zb pb), .int (nI rn), .ref hfg, .ref hle, .ref hmo, .ref hwy, .int (nI tn), .ref htf, .long cm, .ref hod, .ref hwk, .ref hot, .int (nI ru), .ref hen])), (hk, .inl (ck, 150, .inl k)), (ht, .inl (ct, 150, .inl t)), (hk1, .inl (ck1, 150, .inl k1)), (ht1, .inl (ct1, 150, .inl t1))] sz) := by
  refine Met.ofW (cc := b_Mo_putBack) (maxL := 2) (ret := (some .int)) (by decide) rfl ?_
  intro p e s m args below meth c s₁ B hml hv
  obtain ⟨ha, hsz, hP, hK, hD0⟩ := hv
  have hx := B.exec
  have hb := B.bytes
  have hr := B.returns
  have hts := atoms_spec (ws := ws_Mo_putBack) B.pre
  have hg : ∀ w ∈ ALLG, w.before args s = true := fun w h => hts w (List.mem_cons_of_mem _ h)
  have hown : s.vm.findClass R_Mo = some m.cls := findClass_of_methodNamed B.named
  have hlocks := B.notSynchronized
  subst hsz
  have hD := hD0.self (sz := s.heap.size)
  generalize hAe : va_A [(am, .inr (9, [.int (nI th), .int (nI n), .ref hk, .ref ht, .int (nI n1), .ref hk1, .ref ht1, .int (zb pb), .int (nI rn), .ref hfg, .ref hle, .ref hmo, .ref hwy, .int (nI tn), .ref htf, .long cm, .ref hod, .ref hwk, .ref hot, .int (nI ru), .ref hen])), (hk, .inl (ck, 150, .inl k)), (ht, .inl (ct, 150, .inl t)), (hk1, .inl (ck1, 150, .inl k1)), (ht1, .inl (ct1, 150, .inl t1))] s.heap.size = A at hD ⊢
  have hA : ∀ q : Nat, s.heap.size ≤ q → A q := fun q h => by rw [← hAe]; exact Or.inr h
  have hS : va_S A s.heap s.heap [] := va_S.rf
  have hP : va_P DD vwCl [(am, .inr (9, [.int (nI th), .int (nI n), .ref hk, .ref ht, .int (nI n1), .ref hk1, .ref ht1, .int (zb pb), .int (nI rn), .ref hfg, .ref hle, .ref hmo, .ref hwy, .int (nI tn), .ref htf, .long cm, .ref hod, .ref hwk, .ref hot, .int (nI ru), .ref hen])), (hk, .inl (ck, 150, .inl k)), (ht, .inl (ct, 150, .inl t)), (hk1, .inl (ck1, 150, .inl k1)), (ht1, .inl (ct1, 150, .inl t1))] s.heap := hP
  have hl := lv_entry ([.ref am]) (n := 2) (Nat.le_of_ble_eq_true rfl)
  rw [ha, lg_entry_eq, ← ha]
  generalize (lg_sl ([.ref am]) ++ List.replicate (2 - (lg_sl ([.ref am])).length) Slot.unset).toArray = ls at hl ⊢
  have hl : lv_has ls 2 [(0, .ref am)] := hl
  have K27 : ∀ (kk : Nat) (i : Nat), (hi : i ≤ n1) → n1 - i < kk → ∀ (H : Heap) (locs : List Loc), va_P DD vwCl [(am, .inr (9, [.int (nI 0), .int (nI n), .ref hk, .ref ht, .int (nI n1), .ref hk1, .ref ht1, .int (zb pb), .int (nI rn), .ref hfg, .ref hle, .ref hmo, .ref hwy, .int (nI tn), .ref htf, .long cm, .ref hod, .ref hwk, .ref hot, .int (nI ru), .ref hen])), (hk, .inl (ck, 150, .inl (cpF k1 k i))), (ht, .inl (ct, 150, .inl (cpF t1 t i))), (hk1, .inl (ck1, 150, .inl k1)), (ht1, .inl (ct1, 150, .inl t1))] H → va_D A [(am, .inr (9, [.int (nI 0), .int (nI n), .ref hk, .ref ht, .int (nI n1), .ref hk1, .ref ht1, .int (zb pb), .int (nI rn), .ref hfg, .ref hle, .ref hmo, .ref hwy, .int (nI tn), .ref htf, .long cm, .ref hod, .ref hwk, .ref hot, .int (nI ru), .ref hen])), (hk, .inl (ck, 150, .inl (cpF k1 k i))), (ht, .inl (ct, 150, .inl (cpF t1 t i))), (hk1, .inl (ck1, 150, .inl k1)), (ht1, .inl (ct1, 150, .inl t1))] → va_S A s.heap H locs → ∀ (ls : Array Slot), lv_has ls 2 [(0, .ref am), (1, .int (nI i))] → W p l e (headSpec ws_Mo_putBack rm_Mo_putBack).room s m args below meth c H locs 0 0 (MQ below (va_Qi (fun (r9 : Int32) (u9 : Unit) => match u9 with | _ => r9 = nI n) (fun (u9 : Unit) (t9 : State) => match u9 with | _ => va_P DD vwCl [(am, .inr (9, [.int (nI 0), .int (nI n), .ref hk, .ref ht, .int (nI n1), .ref hk1, .ref ht1, .int (zb false), .int (nI rn), .ref hfg, .ref hle, .ref hmo, .ref hwy, .int (nI 0), .ref htf, .long cm, .ref hod, .ref hwk, .ref hot, .int (nI ru), .ref hen])), (hk, .inl (ck, 150, .inl (va_cpy k1 k 0 0 n1))), (ht, .inl (ct, 150, .inl (va_cpy t1 t 0 0 n1))), (hk1, .inl (ck1, 150, .inl k1)), (ht1, .inl (ct1, 150, .inl t1))] t9.heap ∧ va_K DD vwCl [(ck, .int), (ct, .int), (ck1, .int), (ct1, .int)] t9 ∧ va_D A [(am, .inr (9, [.int (nI 0), .int (nI n), .ref hk, .ref ht, .int (nI n1), .ref hk1, .ref ht1, .int (zb false), .int (nI rn), .ref hfg, .ref hle, .ref hmo, .ref hwy, .int (nI 0), .ref htf, .long cm, .ref hod, .ref hwk, .ref hot, .int (nI ru), .ref hen])), (hk, .inl (ck, 150, .inl (va_cpy k1 k 0 0 n1))), (ht, .inl (ct, 150, .inl (va_cpy t1 t 0 0 n1))), (hk1, .inl (ck1, 150, .inl k1)), (ht1, .inl (ct1, 150, .inl t1))]) A) args s 0 0 A) (F0 m 27 ls []) := by
    intro kk
    induction kk with
    | zero => intros; omega
    | succ kk ih27 =>
      intro i hi hkk H locs hP hD hS ls hl
      refine lv_iload_n hx hb d_Mo_putBack_27 rfl (lv_at hl 1 rfl) ?_
      refine lv_aload_n hx hb d_Mo_putBack_28 rfl (lv_at hl 0 rfl) ?_
      refine va_get (D := DD) (ci := 9) (v := .int (nI n1)) (C := R_Mo) (T := T_Mo) (N := 21) hx hb hg in_Mo hown hK hP 0 rfl rfl 4 (by decide) (hg _ mw_683) (fun _ h9 => h9) rfl d_Mo_putBack_29 ?_
      refine z_icmp_ge (tgt := 65) hx hb d_Mo_putBack_32 (by decide) (by omega) (by omega) (fun c_32 => ?_) (fun c_32 => ?_)
      · rw [show cpF k1 k i = va_cpy k1 k 0 0 n1 from by rw [Nat.le_antisymm hi c_32]; exact cpF_c k1 k n1] at hP hD
        rw [show cpF t1 t i = va_cpy t1 t 0 0 n1 from by rw [Nat.le_antisymm hi c_32]; exact cpF_c t1 t n1] at hP hD
        refine lv_aload_n hx hb d_Mo_putBack_65 rfl (lv_at hl 0 rfl) ?_
        refine lv_iconst (v := nI 0) hx hb d_Mo_putBack_66 (by decide) ?_
        refine va_put (D := DD) (ci := 9) (v := .int (zb false)) (ty := .boolean) (C := R_Mo) (T := T_Mo) (N := 21) hx hb hg in_Mo t_Mo to_Mo n_Mo hown hK hP hD hS 0 rfl rfl 7 (by decide) (hg _ mw_686) (fun _ h9 => h9) rfl (by decide +kernel) rfl rfl (Nat.le_of_ble_eq_true rfl) d_Mo_putBack_67 (fun H locs hP hD hS => ?_)
        have hP : va_P DD vwCl [(am, .inr (9, [.int (nI 0), .int (nI n), .ref hk, .ref ht, .int (nI n1), .ref hk1, .ref ht1, .int (zb false), .int (nI rn), .ref hfg, .ref hle, .ref hmo, .ref hwy, .int (nI tn), .ref htf, .long cm, .ref hod, .ref hwk, .ref hot, .int (nI ru), .ref hen])), (hk, .inl (ck, 150, .inl (va_cpy k1 k 0 0 n1))), (ht, .inl (ct, 150, .inl (va_cpy t1 t 0 0 n1))), (hk1, .inl (ck1, 150, .inl k1)), (ht1, .inl (ct1, 150, .inl t1))] H := hP
        have hD : va_D A [(am, .inr (9, [.int (nI 0), .int (nI n), .ref hk, .ref ht, .int (nI n1), .ref hk1, .ref ht1, .int (zb false), .int (nI rn), .ref hfg, .ref hle, .ref hmo, .ref hwy, .int (nI tn), .ref htf, .long cm, .ref hod, .ref hwk, .ref hot, .int (nI ru), .ref hen])), (hk, .inl (ck, 150, .inl (va_cpy k1 k 0 0 n1))), (ht, .inl (ct, 150, .inl (va_cpy t1 t 0 0 n1))), (hk1, .inl (ck1, 150, .inl k1)), (ht1, .inl (ct1, 150, .inl t1))] := hD
        refine lv_aload_n hx hb d_Mo_putBack_70 rfl (lv_at hl 0 rfl) ?_
        refine lv_iconst (v := nI 0) hx hb d_Mo_putBack_71 (by decide) ?_
        refine va_put (D := DD) (ci := 9) (v := .int (nI 0)) (ty := .int) (C := R_Mo) (T := T_Mo) (N := 21) hx hb hg in_Mo t_Mo to_Mo n_Mo hown hK hP hD hS 0 rfl rfl 13 (by decide) (hg _ mw_692) (fun _ h9 => h9) rfl (by decide +kernel) rfl rfl (Nat.le_of_ble_eq_true rfl) d_Mo_putBack_72 (fun H locs hP hD hS => ?_)
        have hP : va_P DD vwCl [(am, .inr (9, [.int (nI 0), .int (nI n), .ref hk, .ref ht, .int (nI n1), .ref hk1, .ref ht1, .int (zb false), .int (nI rn), .ref hfg, .ref hle, .ref hmo, .ref hwy, .int (nI 0), .ref htf, .long cm, .ref hod, .ref hwk, .ref hot, .int (nI ru), .ref hen])), (hk, .inl (ck, 150, .inl (va_cpy k1 k 0 0 n1))), (ht, .inl (ct, 150, .inl (va_cpy t1 t 0 0 n1))), (hk1, .inl (ck1, 150, .inl k1)), (ht1, .inl (ct1, 150, .inl t1))] H := hP
        have hD : va_D A [(am, .inr (9, [.int (nI 0), .int (nI n), .ref hk, .ref ht, .int (nI n1), .ref hk1, .ref ht1, .int (zb false), .int (nI rn), .ref hfg, .ref hle, .ref hmo, .ref hwy, .int (nI 0), .ref htf, .long cm, .ref hod, .ref hwk, .ref hot, .int (nI ru), .ref hen])), (hk, .inl (ck, 150, .inl (va_cpy k1 k 0 0 n1))), (ht, .inl (ct, 150, .inl (va_cpy t1 t 0 0 n1))), (hk1, .inl (ck1, 150, .inl k1)), (ht1, .inl (ct1, 150, .inl t1))] := hD
        refine lv_aload_n hx hb d_Mo_putBack_75 rfl (lv_at hl 0 rfl) ?_
        refine va_get (D := DD) (ci := 9) (v := .int (nI n)) (C := R_Mo) (T := T_Mo) (N := 21) hx hb hg in_Mo hown hK hP 0 rfl rfl 1 (by decide) (hg _ mw_680) (fun _ h9 => h9) rfl d_Mo_putBack_76 ?_
        have hP9 := hP.sub (ws' := [(am, .inr (9, [.int (nI 0), .int (nI n), .ref hk, .ref ht, .int (nI n1), .ref hk1, .ref ht1, .int (zb false), .int (nI rn), .ref hfg, .ref hle, .ref hmo, .ref hwy, .int (nI 0), .ref htf, .long cm, .ref hod, .ref hwk, .ref hot, .int (nI ru), .ref hen])), (hk, .inl (ck, 150, .inl (va_cpy k1 k 0 0 n1))), (ht, .inl (ct, 150, .inl (va_cpy t1 t 0 0 n1))), (hk1, .inl (ck1, 150, .inl k1)), (ht1, .inl (ct1, 150, .inl t1))]) [0, 1, 2, 3, 4] rfl
        have hD9 := hD.sub (ws' := [(am, .inr (9, [.int (nI 0), .int (nI n), .ref hk, .ref ht, .int (nI n1), .ref hk1, .ref ht1, .int (zb false), .int (nI rn), .ref hfg, .ref hle, .ref hmo, .ref hwy, .int (nI 0), .ref htf, .long cm, .ref hod, .ref hwk, .ref hot, .int (nI ru), .ref hen])), (hk, .inl (ck, 150, .inl (va_cpy k1 k 0 0 n1))), (ht, .inl (ct, 150, .inl (va_cpy t1 t 0 0 n1))), (hk1, .inl (ck1, 150, .inl k1)), (ht1, .inl (ct1, 150, .inl t1))]) [0, 1, 2, 3, 4] (by decide) rfl
        exact W.iret (v := nI n) hx hb hr (fun t9 ht9 hW9 => ⟨⟨_, (), rfl, rfl, by rw [ht9]; exact hP9, va_K.moved hW9.alike hK, hD9⟩, hS.F ht9⟩) hS.2.2 d_Mo_putBack_79
      · refine lv_aload_n hx hb d_Mo_putBack_35 rfl (lv_at hl 0 rfl) ?_
        refine va_get (D := DD) (ci := 9) (v := .ref hk) (C := R_Mo) (T := T_Mo) (N := 21) hx hb hg in_Mo hown hK hP 0 rfl rfl 2 (by decide) (hg _ mw_681) (fun _ h9 => h9) rfl d_Mo_putBack_36 ?_
        refine lv_iload_n hx hb d_Mo_putBack_39 rfl (lv_at hl 1 rfl) ?_
        refine lv_aload_n hx hb d_Mo_putBack_40 rfl (lv_at hl 0 rfl) ?_
        refine va_get (D := DD) (ci := 9) (v := .ref hk1) (C := R_Mo) (T := T_Mo) (N := 21) hx hb hg in_Mo hown hK hP 0 rfl rfl 5 (by decide) (hg _ mw_684) (fun _ h9 => h9) rfl d_Mo_putBack_41 ?_
        refine lv_iload_n hx hb d_Mo_putBack_44 rfl (lv_at hl 1 rfl) ?_
        refine z_iald hx hb hK hP 3 2 rfl rfl (by omega) (by decide) d_Mo_putBack_45 ?_
        refine z_iast hx hb hK hP hD hS 1 0 rfl rfl (by omega) (by decide) d_Mo_putBack_46 (fun H locs hP hD hS => ?_)
        have hP : va_P DD vwCl [(am, .inr (9, [.int (nI 0), .int (nI n), .ref hk, .ref ht, .int (nI n1), .ref hk1, .ref ht1, .int (zb pb), .int (nI rn), .ref hfg, .ref hle, .ref hmo, .ref hwy, .int (nI tn), .ref htf, .long cm, .ref hod, .ref hwk, .ref hot, .int (nI ru), .ref hen])), (hk, .inl (ck, 150, .inl (upd (cpF k1 k i) i (k1 i)))), (ht, .inl (ct, 150, .inl (cpF t1 t i))), (hk1, .inl (ck1, 150, .inl k1)), (ht1, .inl (ct1, 150, .inl t1))] H := hP
        have hD : va_D A [(am, .inr (9, [.int (nI 0), .int (nI n), .ref hk, .ref ht, .int (nI n1), .ref hk1, .ref ht1, .int (zb pb), .int (nI rn), .ref hfg, .ref hle, .ref hmo, .ref hwy, .int (nI tn), .ref htf, .long cm, .ref hod, .ref hwk, .ref hot, .int (nI ru), .ref hen])), (hk, .inl (ck, 150, .inl (upd (cpF k1 k i) i (k1 i)))), (ht, .inl (ct, 150, .inl (cpF t1 t i))), (hk1, .inl (ck1, 150, .inl k1)), (ht1, .inl (ct1, 150, .inl t1))] := hD
        refine lv_aload_n hx hb d_Mo_putBack_47 rfl (lv_at hl 0 rfl) ?_
        refine va_get (D := DD) (ci := 9) (v := .ref ht) (C := R_Mo) (T := T_Mo) (N := 21) hx hb hg in_Mo hown hK hP 0 rfl rfl 3 (by decide) (hg _ mw_682) (fun _ h9 => h9) rfl d_Mo_putBack_48 ?_
        refine lv_iload_n hx hb d_Mo_putBack_51 rfl (lv_at hl 1 rfl) ?_
        refine lv_aload_n hx hb d_Mo_putBack_52 rfl (lv_at hl 0 rfl) ?_
        refine va_get (D := DD) (ci := 9) (v := .ref ht1) (C := R_Mo) (T := T_Mo) (N := 21) hx hb hg in_Mo hown hK hP 0 rfl rfl 6 (by decide) (hg _ mw_685) (fun _ h9 => h9) rfl d_Mo_putBack_53 ?_
        refine lv_iload_n hx hb d_Mo_putBack_56 rfl (lv_at hl 1 rfl) ?_
        refine z_iald hx hb hK hP 4 3 rfl rfl (by omega) (by decide) d_Mo_putBack_57 ?_
        refine z_iast hx hb hK hP hD hS 2 1 rfl rfl (by omega) (by decide) d_Mo_putBack_58 (fun H locs hP hD hS => ?_)
        have hP : va_P DD vwCl [(am, .inr (9, [.int (nI 0), .int (nI n), .ref hk, .ref ht, .int (nI n1), .ref hk1, .ref ht1, .int (zb pb), .int (nI rn), .ref hfg, .ref hle, .ref hmo, .ref hwy, .int (nI tn), .ref htf, .long cm, .ref hod, .ref hwk, .ref hot, .int (nI ru), .ref hen])), (hk, .inl (ck, 150, .inl (upd (cpF k1 k i) i (k1 i)))), (ht, .inl (ct, 150, .inl (upd (cpF t1 t i) i (t1 i)))), (hk1, .inl (ck1, 150, .inl k1)), (ht1, .inl (ct1, 150, .inl t1))] H := hP
        have hD : va_D A [(am, .inr (9, [.int (nI 0), .int (nI n), .ref hk, .ref ht, .int (nI n1), .ref hk1, .ref ht1, .int (zb pb), .int (nI rn), .ref hfg, .ref hle, .ref hmo, .ref hwy, .int (nI tn), .ref htf, .long cm, .ref hod, .ref hwk, .ref hot, .int (nI ru), .ref hen])), (hk, .inl (ck, 150, .inl (upd (cpF k1 k i) i (k1 i)))), (ht, .inl (ct, 150, .inl (upd (cpF t1 t i) i (t1 i)))), (hk1, .inl (ck1, 150, .inl k1)), (ht1, .inl (ct1, 150, .inl t1))] := hD
        rw [show upd (cpF k1 k i) i (k1 i) = cpF k1 k (i + 1) from cpF_s k1 k i] at hP hD
        rw [show upd (cpF t1 t i) i (t1 i) = cpF t1 t (i + 1) from cpF_s t1 t i] at hP hD
        refine lv_iinc (v := nI (i + 1)) (lv' := [(1, .int (nI (i + 1))), (0, .ref am)]) hx hb d_Mo_putBack_59 hl (k := 1) rfl (by exact nI_add i 1) (by decide) rfl (fun ls hl => ?_)
        refine lv_goto (tgt := 27) hx hb d_Mo_putBack_62 (by decide) ?_
        exact ih27 (i + 1) (by omega) (by omega) _ _ hP hD hS ls (lv_sub hl [1, 0] rfl)
  refine lv_aload_n hx hb d_Mo_putBack_0 rfl (lv_at hl 0 rfl) ?_
  refine lv_aload_n hx hb d_Mo_putBack_1 rfl (lv_at hl 0 rfl) ?_
  refine va_get (D := DD) (ci := 9) (v := .int (zb pb)) (C := R_Mo) (T := T_Mo) (N := 21) hx hb hg in_Mo hown hK hP 0 rfl rfl 7 (by decide) (hg _ mw_686) (fun _ h9 => h9) rfl d_Mo_putBack_2 ?_
  refine z_ifb_eq (tgt := 12) hx hb d_Mo_putBack_5 (by decide) (fun c_5 => ?_) (fun c_5 => ?_)
  · exact absurd c_5 (by rw [hpb]; decide)
  · refine lv_iconst (v := nI 0) hx hb d_Mo_putBack_8 (by decide) ?_
    refine lv_goto (tgt := 13) hx hb d_Mo_putBack_9 (by decide) ?_
    refine va_put (D := DD) (ci := 9) (v := .int (nI 0)) (ty := .int) (C := R_Mo) (T := T_Mo) (N := 21) hx hb hg in_Mo t_Mo to_Mo n_Mo hown hK hP hD hS 0 rfl rfl 0 (by decide) (hg _ mw_679) (fun _ h9 => h9) rfl (by decide +kernel) rfl rfl (Nat.le_of_ble_eq_true rfl) d_Mo_putBack_13 (fun H locs hP hD hS => ?_)
    have hP : va_P DD vwCl [(am, .inr (9, [.int (nI 0), .int (nI n), .ref hk, .ref ht, .int (nI n1), .ref hk1, .ref ht1, .int (zb pb), .int (nI rn), .ref hfg, .ref hle, .ref hmo, .ref hwy, .int (nI tn), .ref htf, .long cm, .ref hod, .ref hwk, .ref hot, .int (nI ru), .ref hen])), (hk, .inl (ck, 150, .inl k)), (ht, .inl (ct, 150, .inl t)), (hk1, .inl (ck1, 150, .inl k1)), (ht1, .inl (ct1, 150, .inl t1))] H := hP
    have hD : va_D A [(am, .inr (9, [.int (nI 0), .int (nI n), .ref hk, .ref ht, .int (nI n1), .ref hk1, .ref ht1, .int (zb pb), .int (nI rn), .ref hfg, .ref hle, .ref hmo, .ref hwy, .int (nI tn), .ref htf, .long cm, .ref hod, .ref hwk, .ref hot, .int (nI ru), .ref hen])), (hk, .inl (ck, 150, .inl k)), (ht, .inl (ct, 150, .inl t)), (hk1, .inl (ck1, 150, .inl k1)), (ht1, .inl (ct1, 150, .inl t1))] := hD
    refine lv_aload_n hx hb d_Mo_putBack_16 rfl (lv_at hl 0 rfl) ?_
    refine va_get (D := DD) (ci := 9) (v := .int (nI 0)) (C := R_Mo) (T := T_Mo) (N := 21) hx hb hg in_Mo hown hK hP 0 rfl rfl 0 (by decide) (hg _ mw_679) (fun _ h9 => h9) rfl d_Mo_putBack_17 ?_
    refine z_if_le (tgt := 25) hx hb d_Mo_putBack_20 (by decide) (by omega) (fun c_20 => ?_) (fun c_20 => ?_)
    · rw [show k = cpF k1 k 0 from cpF_0 k1 k] at hP hD
      rw [show t = cpF t1 t 0 from cpF_0 t1 t] at hP hD
      refine lv_iconst (v := nI 0) hx hb d_Mo_putBack_25 (by decide) ?_
      refine lv_istore_n (lv' := [(1, .int (nI 0)), (0, .ref am)]) hx hb d_Mo_putBack_26 rfl hl (by decide) rfl (fun ls hl => ?_)
      exact K27 _ 0 (by omega) (Nat.lt_succ_self _) _ _ hP hD hS ls (lv_sub hl [1, 0] rfl)
    · exact absurd c_20 (by decide)
abbrev rm_Mo_putBack_T : Room := { frames := 0, cells := 0, slots := 0, locals := 0 }
set_option maxHeartbeats 4000000 in
set_option maxRecDepth 100000 in
theorem c_Mo_putBack_T (l : Launch) (DD : va_G) (sz : Nat) (am : Nat) (th : Nat) (n : Nat) (hk : Nat) (ht : Nat) (n1 : Nat) (hk1 : Nat) (ht1 : Nat) (pb : Bool) (rn : Nat) (hfg : Nat) (hle : Nat) (hmo : Nat) (hwy : Nat) (tn : Nat) (htf : Nat) (cm : Int64) (hod : Nat) (hwk : Nat) (hot : Nat) (ru : Nat) (hen : Nat) (hf : pb = false) : Met l y_Mo_putBack ws_Mo_putBack rm_Mo_putBack_T (va_Pc [.ref am] (fun U => U.heap.size = sz ∧ va_P DD vwCl [(am, .inr (9, [.int (nI th), .int (nI n), .ref hk, .ref ht, .int (nI n1), .ref hk1, .ref ht1, .int (zb pb), .int (nI rn), .ref hfg, .ref hle, .ref hmo, .ref hwy, .int (nI tn), .ref htf, .long cm, .ref hod, .ref hwk, .ref hot, .int (nI ru), .ref hen]))] U.heap ∧ va_K DD vwCl [] U ∧ va_D (fun _ => True) [(am, .inr (9, [.int (nI th), .int (nI n), .ref hk, .ref ht, .int (nI n1), .ref hk1, .ref ht1, .int (zb pb), .int (nI rn), .ref hfg, .ref hle, .ref hmo, .ref hwy, .int (nI tn), .ref htf, .long cm, .ref hod, .ref hwk, .ref hot, .int (nI ru), .ref hen]))])) (va_Qi (fun (r9 : Int32) (u9 : Unit) => match u9 with | _ => r9 = nI 0) (fun (u9 : Unit) (t9 : State) => match u9 with | _ => va_P DD vwCl [(am, .inr (9, [.int (nI 1), .int (nI n), .ref hk, .ref ht, .int (nI n1), .ref hk1, .ref ht1, .int (zb pb), .int (nI rn), .ref hfg, .ref hle, .ref hmo, .ref hwy, .int (nI tn), .ref htf, .long cm, .ref hod, .ref hwk, .ref hot, .int (nI ru), .ref hen]))] t9.heap ∧ va_K DD vwCl [] t9 ∧ va_D (va_A [(am, .inr (9, [.int (nI th), .int (nI n), .ref hk, .ref ht, .int (nI n1), .ref hk1, .ref ht1, .int (zb pb), .int (nI rn), .ref hfg, .ref hle, .ref hmo, .ref hwy, .int (nI tn), .ref htf, .long cm, .ref hod, .ref hwk, .ref hot, .int (nI ru), .ref hen]))] sz) [(am, .inr (9, [.int (nI 1), .int (nI n), .ref hk, .ref ht, .int (nI n1), .ref hk1, .ref ht1, .int (zb pb), .int (nI rn), .ref hfg, .ref hle, .ref hmo, .ref hwy, .int (nI tn), .ref htf, .long cm, .ref hod, .ref hwk, .ref hot, .int (nI ru), .ref hen]))]) (va_A [(am, .inr (9, [.int (nI th), .int (nI n), .ref hk, .ref ht, .int (nI n1), .ref hk1, .ref ht1, .int (zb pb), .int (nI rn), .ref hfg, .ref hle, .ref hmo, .ref hwy, .int (nI tn), .ref htf, .long cm, .ref hod, .ref hwk, .ref hot, .int (nI ru), .ref hen]))] sz)) 0 0 (va_A [(am, .inr (9, [.int (nI th), .int (nI n), .ref hk, .ref ht, .int (nI n1), .ref hk1, .ref ht1, .int (zb pb), .int (nI rn), .ref hfg, .ref hle, .ref hmo, .ref hwy, .int (nI tn), .ref htf, .long cm, .ref hod, .ref hwk, .ref hot, .int (nI ru), .ref hen]))] sz) := by
  refine Met.ofW (cc := b_Mo_putBack) (maxL := 2) (ret := (some .int)) (by decide) rfl ?_
  intro p e s m args below meth c s₁ B hml hv
  obtain ⟨ha, hsz, hP, hK, hD0⟩ := hv
  have hx := B.exec
  have hb := B.bytes
  have hr := B.returns
  have hts := atoms_spec (ws := ws_Mo_putBack) B.pre
  have hg : ∀ w ∈ ALLG, w.before args s = true := fun w h => hts w (List.mem_cons_of_mem _ h)
  have hown : s.vm.findClass R_Mo = some m.cls := findClass_of_methodNamed B.named
  have hlocks := B.notSynchronized
  subst hsz
  have hD := hD0.self (sz := s.heap.size)
  generalize hAe : va_A [(am, .inr (9, [.int (nI th), .int (nI n), .ref hk, .ref ht, .int (nI n1), .ref hk1, .ref ht1, .int (zb pb), .int (nI rn), .ref hfg, .ref hle, .ref hmo, .ref hwy, .int (nI tn), .ref htf, .long cm, .ref hod, .ref hwk, .ref hot, .int (nI ru), .ref hen]))] s.heap.size = A at hD ⊢
  have hA : ∀ q : Nat, s.heap.size ≤ q → A q := fun q h => by rw [← hAe]; exact Or.inr h
  have hS : va_S A s.heap s.heap [] := va_S.rf
  have hP : va_P DD vwCl [(am, .inr (9, [.int (nI th), .int (nI n), .ref hk, .ref ht, .int (nI n1), .ref hk1, .ref ht1, .int (zb pb), .int (nI rn), .ref hfg, .ref hle, .ref hmo, .ref hwy, .int (nI tn), .ref htf, .long cm, .ref hod, .ref hwk, .ref hot, .int (nI ru), .ref hen]))] s.heap := hP
  have hl := lv_entry ([.ref am]) (n := 2) (Nat.le_of_ble_eq_true rfl)
  rw [ha, lg_entry_eq, ← ha]
  generalize (lg_sl ([.ref am]) ++ List.replicate (2 - (lg_sl ([.ref am])).length) Slot.unset).toArray = ls at hl ⊢
  have hl : lv_has ls 2 [(0, .ref am)] := hl
  refine lv_aload_n hx hb d_Mo_putBack_0 rfl (lv_at hl 0 rfl) ?_
  refine lv_aload_n hx hb d_Mo_putBack_1 rfl (lv_at hl 0 rfl) ?_
  refine va_get (D := DD) (ci := 9) (v := .int (zb pb)) (C := R_Mo) (T := T_Mo) (N := 21) hx hb hg in_Mo hown hK hP 0 rfl rfl 7 (by decide) (hg _ mw_686) (fun _ h9 => h9) rfl d_Mo_putBack_2 ?_
  refine z_ifb_eq (tgt := 12) hx hb d_Mo_putBack_5 (by decide) (fun c_5 => ?_) (fun c_5 => ?_)
  · refine lv_iconst (v := nI 1) hx hb d_Mo_putBack_12 (by decide) ?_
    refine va_put (D := DD) (ci := 9) (v := .int (nI 1)) (ty := .int) (C := R_Mo) (T := T_Mo) (N := 21) hx hb hg in_Mo t_Mo to_Mo n_Mo hown hK hP hD hS 0 rfl rfl 0 (by decide) (hg _ mw_679) (fun _ h9 => h9) rfl (by decide +kernel) rfl rfl (Nat.le_of_ble_eq_true rfl) d_Mo_putBack_13 (fun H locs hP hD hS => ?_)
    have hP : va_P DD vwCl [(am, .inr (9, [.int (nI 1), .int (nI n), .ref hk, .ref ht, .int (nI n1), .ref hk1, .ref ht1, .int (zb pb), .int (nI rn), .ref hfg, .ref hle, .ref hmo, .ref hwy, .int (nI tn), .ref htf, .long cm, .ref hod, .ref hwk, .ref hot, .int (nI ru), .ref hen]))] H := hP
    have hD : va_D A [(am, .inr (9, [.int (nI 1), .int (nI n), .ref hk, .ref ht, .int (nI n1), .ref hk1, .ref ht1, .int (zb pb), .int (nI rn), .ref hfg, .ref hle, .ref hmo, .ref hwy, .int (nI tn), .ref htf, .long cm, .ref hod, .ref hwk, .ref hot, .int (nI ru), .ref hen]))] := hD
    refine lv_aload_n hx hb d_Mo_putBack_16 rfl (lv_at hl 0 rfl) ?_
    refine va_get (D := DD) (ci := 9) (v := .int (nI 1)) (C := R_Mo) (T := T_Mo) (N := 21) hx hb hg in_Mo hown hK hP 0 rfl rfl 0 (by decide) (hg _ mw_679) (fun _ h9 => h9) rfl d_Mo_putBack_17 ?_
    refine z_if_le (tgt := 25) hx hb d_Mo_putBack_20 (by decide) (by omega) (fun c_20 => ?_) (fun c_20 => ?_)
    · exact absurd c_20 (by decide)
    · refine lv_iconst (v := nI 0) hx hb d_Mo_putBack_23 (by decide) ?_
      have hP9 := hP.sub (ws' := [(am, .inr (9, [.int (nI 1), .int (nI n), .ref hk, .ref ht, .int (nI n1), .ref hk1, .ref ht1, .int (zb pb), .int (nI rn), .ref hfg, .ref hle, .ref hmo, .ref hwy, .int (nI tn), .ref htf, .long cm, .ref hod, .ref hwk, .ref hot, .int (nI ru), .ref hen]))]) [0] rfl
      have hD9 := hD.sub (ws' := [(am, .inr (9, [.int (nI 1), .int (nI n), .ref hk, .ref ht, .int (nI n1), .ref hk1, .ref ht1, .int (zb pb), .int (nI rn), .ref hfg, .ref hle, .ref hmo, .ref hwy, .int (nI tn), .ref htf, .long cm, .ref hod, .ref hwk, .ref hot, .int (nI ru), .ref hen]))]) [0] (by decide) rfl
      exact W.iret (v := nI 0) hx hb hr (fun t9 ht9 hW9 => ⟨⟨_, (), rfl, rfl, by rw [ht9]; exact hP9, va_K.moved hW9.alike hK, hD9⟩, hS.F ht9⟩) hS.2.2 d_Mo_putBack_24
  · exact absurd c_5 (by rw [hf]; decide)
theorem d_Mo_steps_0 : decode b_Mo_steps 0 = .ok (.aload_n 0, 1) := by decide +kernel
theorem d_Mo_steps_1 : decode b_Mo_steps 1 = .ok (.iconst 0, 1) := by decide +kernel
theorem d_Mo_steps_2 : decode b_Mo_steps 2 = .ok (.putfield 50, 3) := by decide +kernel
theorem d_Mo_steps_5 : decode b_Mo_steps 5 = .ok (.aload_n 0, 1) := by decide +kernel
theorem d_Mo_steps_6 : decode b_Mo_steps 6 = .ok (.getfield 101, 3) := by decide +kernel
theorem d_Mo_steps_9 : decode b_Mo_steps 9 = .ok (.ireturn, 1) := by decide +kernel
abbrev ws_Mo_steps : List Cond := .code y_Mo_steps b_Mo_steps 1 (some .int) :: ALLG
abbrev rm_Mo_steps : Room := { frames := 0, cells := 0, slots := 0, locals := 0 }
set_option maxHeartbeats 4000000 in
set_option maxRecDepth 100000 in
theorem c_Mo_steps (l : Launch) (DD : va_G) (sz : Nat) (am : Nat) (th : Nat) (n : Nat) (hk : Nat) (ht : Nat) (n1 : Nat) (hk1 : Nat) (ht1 : Nat) (pb : Bool) (rn : Nat) (hfg : Nat) (hle : Nat) (hmo : Nat) (hwy : Nat) (tn : Nat) (htf : Nat) (cm : Int64) (hod : Nat) (hwk : Nat) (hot : Nat) (ru : Nat) (hen : Nat) : Met l y_Mo_steps ws_Mo_steps rm_Mo_steps (va_Pc [.ref am] (fun U => U.heap.size = sz ∧ va_P DD vwCl [(am, .inr (9, [.int (nI th), .int (nI n), .ref hk, .ref ht, .int (nI n1), .ref hk1, .ref ht1, .int (zb pb), .int (nI rn), .ref hfg, .ref hle, .ref hmo, .ref hwy, .int (nI tn), .ref htf, .long cm, .ref hod, .ref hwk, .ref hot, .int (nI ru), .ref hen]))] U.heap ∧ va_K DD vwCl [] U ∧ va_D (fun _ => True) [(am, .inr (9, [.int (nI th), .int (nI n), .ref hk, .ref ht, .int (nI n1), .ref hk1, .ref ht1, .int (zb pb), .int (nI rn), .ref hfg, .ref hle, .ref hmo, .ref hwy, .int (nI tn), .ref htf, .long cm, .ref hod, .ref hwk, .ref hot, .int (nI ru), .ref hen]))])) (va_Qi (fun (r9 : Int32) (u9 : Unit) => match u9 with | _ => r9 = nI tn) (fun (u9 : Unit) (t9 : State) => match u9 with | _ => va_P DD vwCl [(am, .inr (9, [.int (nI 0), .int (nI n), .ref hk, .ref ht, .int (nI n1), .ref hk1, .ref ht1, .int (zb pb), .int (nI rn), .ref hfg, .ref hle, .ref hmo, .ref hwy, .int (nI tn), .ref htf, .long cm, .ref hod, .ref hwk, .ref hot, .int (nI ru), .ref hen]))] t9.heap ∧ va_K DD vwCl [] t9 ∧ va_D (va_A [(am, .inr (9, [.int (nI th), .int (nI n), .ref hk, .ref ht, .int (nI n1), .ref hk1, .ref ht1, .int (zb pb), .int (nI rn), .ref hfg, .ref hle, .ref hmo, .ref hwy, .int (nI tn), .ref htf, .long cm, .ref hod, .ref hwk, .ref hot, .int (nI ru), .ref hen]))] sz) [(am, .inr (9, [.int (nI 0), .int (nI n), .ref hk, .ref ht, .int (nI n1), .ref hk1, .ref ht1, .int (zb pb), .int (nI rn), .ref hfg, .ref hle, .ref hmo, .ref hwy, .int (nI tn), .ref htf, .long cm, .ref hod, .ref hwk, .ref hot, .int (nI ru), .ref hen]))]) (va_A [(am, .inr (9, [.int (nI th), .int (nI n), .ref hk, .ref ht, .int (nI n1), .ref hk1, .ref ht1, .int (zb pb), .int (nI rn), .ref hfg, .ref hle, .ref hmo, .ref hwy, .int (nI tn), .ref htf, .long cm, .ref hod, .ref hwk, .ref hot, .int (nI ru), .ref hen]))] sz)) 0 0 (va_A [(am, .inr (9, [.int (nI th), .int (nI n), .ref hk, .ref ht, .int (nI n1), .ref hk1, .ref ht1, .int (zb pb), .int (nI rn), .ref hfg, .ref hle, .ref hmo, .ref hwy, .int (nI tn), .ref htf, .long cm, .ref hod, .ref hwk, .ref hot, .int (nI ru), .ref hen]))] sz) := by
  refine Met.ofW (cc := b_Mo_steps) (maxL := 1) (ret := (some .int)) (by decide) rfl ?_
  intro p e s m args below meth c s₁ B hml hv
  obtain ⟨ha, hsz, hP, hK, hD0⟩ := hv
  have hx := B.exec
  have hb := B.bytes
  have hr := B.returns
  have hts := atoms_spec (ws := ws_Mo_steps) B.pre
  have hg : ∀ w ∈ ALLG, w.before args s = true := fun w h => hts w (List.mem_cons_of_mem _ h)
  have hown : s.vm.findClass R_Mo = some m.cls := findClass_of_methodNamed B.named
  have hlocks := B.notSynchronized
  subst hsz
  have hD := hD0.self (sz := s.heap.size)
  generalize hAe : va_A [(am, .inr (9, [.int (nI th), .int (nI n), .ref hk, .ref ht, .int (nI n1), .ref hk1, .ref ht1, .int (zb pb), .int (nI rn), .ref hfg, .ref hle, .ref hmo, .ref hwy, .int (nI tn), .ref htf, .long cm, .ref hod, .ref hwk, .ref hot, .int (nI ru), .ref hen]))] s.heap.size = A at hD ⊢
  have hA : ∀ q : Nat, s.heap.size ≤ q → A q := fun q h => by rw [← hAe]; exact Or.inr h
  have hS : va_S A s.heap s.heap [] := va_S.rf
  have hP : va_P DD vwCl [(am, .inr (9, [.int (nI th), .int (nI n), .ref hk, .ref ht, .int (nI n1), .ref hk1, .ref ht1, .int (zb pb), .int (nI rn), .ref hfg, .ref hle, .ref hmo, .ref hwy, .int (nI tn), .ref htf, .long cm, .ref hod, .ref hwk, .ref hot, .int (nI ru), .ref hen]))] s.heap := hP
  have hl := lv_entry ([.ref am]) (n := 1) (Nat.le_of_ble_eq_true rfl)
  rw [ha, lg_entry_eq, ← ha]
  generalize (lg_sl ([.ref am]) ++ List.replicate (1 - (lg_sl ([.ref am])).length) Slot.unset).toArray = ls at hl ⊢
  have hl : lv_has ls 1 [(0, .ref am)] := hl
  refine lv_aload_n hx hb d_Mo_steps_0 rfl (lv_at hl 0 rfl) ?_
  refine lv_iconst (v := nI 0) hx hb d_Mo_steps_1 (by decide) ?_
  refine va_put (D := DD) (ci := 9) (v := .int (nI 0)) (ty := .int) (C := R_Mo) (T := T_Mo) (N := 21) hx hb hg in_Mo t_Mo to_Mo n_Mo hown hK hP hD hS 0 rfl rfl 0 (by decide) (hg _ mw_679) (fun _ h9 => h9) rfl (by decide +kernel) rfl rfl (Nat.le_of_ble_eq_true rfl) d_Mo_steps_2 (fun H locs hP hD hS => ?_)
  have hP : va_P DD vwCl [(am, .inr (9, [.int (nI 0), .int (nI n), .ref hk, .ref ht, .int (nI n1), .ref hk1, .ref ht1, .int (zb pb), .int (nI rn), .ref hfg, .ref hle, .ref hmo, .ref hwy, .int (nI tn), .ref htf, .long cm, .ref hod, .ref hwk, .ref hot, .int (nI ru), .ref hen]))] H := hP
  have hD : va_D A [(am, .inr (9, [.int (nI 0), .int (nI n), .ref hk, .ref ht, .int (nI n1), .ref hk1, .ref ht1, .int (zb pb), .int (nI rn), .ref hfg, .ref hle, .ref hmo, .ref hwy, .int (nI tn), .ref htf, .long cm, .ref hod, .ref hwk, .ref hot, .int (nI ru), .ref hen]))] := hD
  refine lv_aload_n hx hb d_Mo_steps_5 rfl (lv_at hl 0 rfl) ?_
  refine va_get (D := DD) (ci := 9) (v := .int (nI tn)) (C := R_Mo) (T := T_Mo) (N := 21) hx hb hg in_Mo hown hK hP 0 rfl rfl 13 (by decide) (hg _ mw_692) (fun _ h9 => h9) rfl d_Mo_steps_6 ?_
  have hP9 := hP.sub (ws' := [(am, .inr (9, [.int (nI 0), .int (nI n), .ref hk, .ref ht, .int (nI n1), .ref hk1, .ref ht1, .int (zb pb), .int (nI rn), .ref hfg, .ref hle, .ref hmo, .ref hwy, .int (nI tn), .ref htf, .long cm, .ref hod, .ref hwk, .ref hot, .int (nI ru), .ref hen]))]) [0] rfl
  have hD9 := hD.sub (ws' := [(am, .inr (9, [.int (nI 0), .int (nI n), .ref hk, .ref ht, .int (nI n1), .ref hk1, .ref ht1, .int (zb pb), .int (nI rn), .ref hfg, .ref hle, .ref hmo, .ref hwy, .int (nI tn), .ref htf, .long cm, .ref hod, .ref hwk, .ref hot, .int (nI ru), .ref hen]))]) [0] (by decide) rfl
  exact W.iret (v := nI tn) hx hb hr (fun t9 ht9 hW9 => ⟨⟨_, (), rfl, rfl, by rw [ht9]; exact hP9, va_K.moved hW9.alike hK, hD9⟩, hS.F ht9⟩) hS.2.2 d_Mo_steps_9
theorem d_Mo_step_0 : decode b_Mo_step 0 = .ok (.aload_n 0, 1) := by decide +kernel
theorem d_Mo_step_1 : decode b_Mo_step 1 = .ok (.iload_n 1, 1) := by decide +kernel
theorem d_Mo_step_2 : decode b_Mo_step 2 = .ok (.ifCond .lt 20, 3) := by decide +kernel
theorem d_Mo_step_5 : decode b_Mo_step 5 = .ok (.iload_n 1, 1) := by decide +kernel
theorem d_Mo_step_6 : decode b_Mo_step 6 = .ok (.aload_n 0, 1) := by decide +kernel
theorem d_Mo_step_7 : decode b_Mo_step 7 = .ok (.getfield 101, 3) := by decide +kernel
theorem d_Mo_step_10 : decode b_Mo_step 10 = .ok (.if_icmp .ge 12, 3) := by decide +kernel
theorem d_Mo_step_13 : decode b_Mo_step 13 = .ok (.iload_n 2, 1) := by decide +kernel
theorem d_Mo_step_14 : decode b_Mo_step 14 = .ok (.ifCond .lt 8, 3) := by decide +kernel
theorem d_Mo_step_17 : decode b_Mo_step 17 = .ok (.iload_n 2, 1) := by decide +kernel
theorem d_Mo_step_18 : decode b_Mo_step 18 = .ok (.iconst 2, 1) := by decide +kernel
theorem d_Mo_step_19 : decode b_Mo_step 19 = .ok (.if_icmp .le 7, 3) := by decide +kernel
theorem d_Mo_step_22 : decode b_Mo_step 22 = .ok (.iconst 1, 1) := by decide +kernel
theorem d_Mo_step_23 : decode b_Mo_step 23 = .ok (.goto 4, 3) := by decide +kernel
theorem d_Mo_step_26 : decode b_Mo_step 26 = .ok (.iconst 0, 1) := by decide +kernel
theorem d_Mo_step_27 : decode b_Mo_step 27 = .ok (.putfield 50, 3) := by decide +kernel
theorem d_Mo_step_30 : decode b_Mo_step 30 = .ok (.aload_n 0, 1) := by decide +kernel
theorem d_Mo_step_31 : decode b_Mo_step 31 = .ok (.getfield 50, 3) := by decide +kernel
theorem d_Mo_step_34 : decode b_Mo_step 34 = .ok (.ifCond .le 7, 3) := by decide +kernel
theorem d_Mo_step_37 : decode b_Mo_step 37 = .ok (.iconst 0, 1) := by decide +kernel
theorem d_Mo_step_38 : decode b_Mo_step 38 = .ok (.goto 13, 3) := by decide +kernel
theorem d_Mo_step_41 : decode b_Mo_step 41 = .ok (.aload_n 0, 1) := by decide +kernel
theorem d_Mo_step_42 : decode b_Mo_step 42 = .ok (.getfield 35, 3) := by decide +kernel
theorem d_Mo_step_45 : decode b_Mo_step 45 = .ok (.iconst 3, 1) := by decide +kernel
theorem d_Mo_step_46 : decode b_Mo_step 46 = .ok (.iload_n 1, 1) := by decide +kernel
theorem d_Mo_step_47 : decode b_Mo_step 47 = .ok (.imul, 1) := by decide +kernel
theorem d_Mo_step_48 : decode b_Mo_step 48 = .ok (.iload_n 2, 1) := by decide +kernel
theorem d_Mo_step_49 : decode b_Mo_step 49 = .ok (.iadd, 1) := by decide +kernel
theorem d_Mo_step_50 : decode b_Mo_step 50 = .ok (.iaload, 1) := by decide +kernel
theorem d_Mo_step_51 : decode b_Mo_step 51 = .ok (.ireturn, 1) := by decide +kernel
abbrev ws_Mo_step : List Cond := .code y_Mo_step b_Mo_step 3 (some .int) :: ALLG
abbrev rm_Mo_step : Room := { frames := 0, cells := 0, slots := 0, locals := 0 }
set_option maxHeartbeats 4000000 in
set_option maxRecDepth 100000 in
theorem c_Mo_step (l : Launch) (DD : va_G) (sz : Nat) (am : Nat) (th : Nat) (n : Nat) (hk : Nat) (ht : Nat) (n1 : Nat) (hk1 : Nat) (ht1 : Nat) (pb : Bool) (rn : Nat) (hfg : Nat) (hle : Nat) (hmo : Nat) (hwy : Nat) (tn : Nat) (htf : Nat) (ctf : ClassId) (tf : Nat → Int32) (cm : Int64) (hod : Nat) (hwk : Nat) (hot : Nat) (ru : Nat) (hen : Nat) (i : Nat) (w : Nat) (htn : tn ≤ 150) (hi : i < tn) (hw3 : w < 3) : Met l y_Mo_step ws_Mo_step rm_Mo_step (va_Pc [.ref am, .int (nI i), .int (nI w)] (fun U => U.heap.size = sz ∧ va_P DD vwCl [(am, .inr (9, [.int (nI th), .int (nI n), .ref hk, .ref ht, .int (nI n1), .ref hk1, .ref ht1, .int (zb pb), .int (nI rn), .ref hfg, .ref hle, .ref hmo, .ref hwy, .int (nI tn), .ref htf, .long cm, .ref hod, .ref hwk, .ref hot, .int (nI ru), .ref hen])), (htf, .inl (ctf, 900, .inl tf))] U.heap ∧ va_K DD vwCl [(ctf, .int)] U ∧ va_D (fun _ => True) [(am, .inr (9, [.int (nI th), .int (nI n), .ref hk, .ref ht, .int (nI n1), .ref hk1, .ref ht1, .int (zb pb), .int (nI rn), .ref hfg, .ref hle, .ref hmo, .ref hwy, .int (nI tn), .ref htf, .long cm, .ref hod, .ref hwk, .ref hot, .int (nI ru), .ref hen])), (htf, .inl (ctf, 900, .inl tf))])) (va_Qi (fun (r9 : Int32) (u9 : Unit) => match u9 with | _ => r9 = tf (i * 3 + w)) (fun (u9 : Unit) (t9 : State) => match u9 with | _ => va_P DD vwCl [(am, .inr (9, [.int (nI 0), .int (nI n), .ref hk, .ref ht, .int (nI n1), .ref hk1, .ref ht1, .int (zb pb), .int (nI rn), .ref hfg, .ref hle, .ref hmo, .ref hwy, .int (nI tn), .ref htf, .long cm, .ref hod, .ref hwk, .ref hot, .int (nI ru), .ref hen])), (htf, .inl (ctf, 900, .inl tf))] t9.heap ∧ va_K DD vwCl [(ctf, .int)] t9 ∧ va_D (va_A [(am, .inr (9, [.int (nI th), .int (nI n), .ref hk, .ref ht, .int (nI n1), .ref hk1, .ref ht1, .int (zb pb), .int (nI rn), .ref hfg, .ref hle, .ref hmo, .ref hwy, .int (nI tn), .ref htf, .long cm, .ref hod, .ref hwk, .ref hot, .int (nI ru), .ref hen])), (htf, .inl (ctf, 900, .inl tf))] sz) [(am, .inr (9, [.int (nI 0), .int (nI n), .ref hk, .ref ht, .int (nI n1), .ref hk1, .ref ht1, .int (zb pb), .int (nI rn), .ref hfg, .ref hle, .ref hmo, .ref hwy, .int (nI tn), .ref htf, .long cm, .ref hod, .ref hwk, .ref hot, .int (nI ru), .ref hen])), (htf, .inl (ctf, 900, .inl tf))]) (va_A [(am, .inr (9, [.int (nI th), .int (nI n), .ref hk, .ref ht, .int (nI n1), .ref hk1, .ref ht1, .int (zb pb), .int (nI rn), .ref hfg, .ref hle, .ref hmo, .ref hwy, .int (nI tn), .ref htf, .long cm, .ref hod, .ref hwk, .ref hot, .int (nI ru), .ref hen])), (htf, .inl (ctf, 900, .inl tf))] sz)) 0 0 (va_A [(am, .inr (9, [.int (nI th), .int (nI n), .ref hk, .ref ht, .int (nI n1), .ref hk1, .ref ht1, .int (zb pb), .int (nI rn), .ref hfg, .ref hle, .ref hmo, .ref hwy, .int (nI tn), .ref htf, .long cm, .ref hod, .ref hwk, .ref hot, .int (nI ru), .ref hen])), (htf, .inl (ctf, 900, .inl tf))] sz) := by
  refine Met.ofW (cc := b_Mo_step) (maxL := 3) (ret := (some .int)) (by decide) rfl ?_
  intro p e s m args below meth c s₁ B hml hv
  obtain ⟨ha, hsz, hP, hK, hD0⟩ := hv
  have hx := B.exec
  have hb := B.bytes
  have hr := B.returns
  have hts := atoms_spec (ws := ws_Mo_step) B.pre
  have hg : ∀ w ∈ ALLG, w.before args s = true := fun w h => hts w (List.mem_cons_of_mem _ h)
  have hown : s.vm.findClass R_Mo = some m.cls := findClass_of_methodNamed B.named
  have hlocks := B.notSynchronized
  subst hsz
  have hD := hD0.self (sz := s.heap.size)
  generalize hAe : va_A [(am, .inr (9, [.int (nI th), .int (nI n), .ref hk, .ref ht, .int (nI n1), .ref hk1, .ref ht1, .int (zb pb), .int (nI rn), .ref hfg, .ref hle, .ref hmo, .ref hwy, .int (nI tn), .ref htf, .long cm, .ref hod, .ref hwk, .ref hot, .int (nI ru), .ref hen])), (htf, .inl (ctf, 900, .inl tf))] s.heap.size = A at hD ⊢
  have hA : ∀ q : Nat, s.heap.size ≤ q → A q := fun q h => by rw [← hAe]; exact Or.inr h
  have hS : va_S A s.heap s.heap [] := va_S.rf
  have hP : va_P DD vwCl [(am, .inr (9, [.int (nI th), .int (nI n), .ref hk, .ref ht, .int (nI n1), .ref hk1, .ref ht1, .int (zb pb), .int (nI rn), .ref hfg, .ref hle, .ref hmo, .ref hwy, .int (nI tn), .ref htf, .long cm, .ref hod, .ref hwk, .ref hot, .int (nI ru), .ref hen])), (htf, .inl (ctf, 900, .inl tf))] s.heap := hP
  have hl := lv_entry ([.ref am, .int (nI i), .int (nI w)]) (n := 3) (Nat.le_of_ble_eq_true rfl)
  rw [ha, lg_entry_eq, ← ha]
  generalize (lg_sl ([.ref am, .int (nI i), .int (nI w)]) ++ List.replicate (3 - (lg_sl ([.ref am, .int (nI i), .int (nI w)])).length) Slot.unset).toArray = ls at hl ⊢
  have hl : lv_has ls 3 [(0, .ref am), (1, .int (nI i)), (2, .int (nI w))] := hl
  refine lv_aload_n hx hb d_Mo_step_0 rfl (lv_at hl 0 rfl) ?_
  refine lv_iload_n hx hb d_Mo_step_1 rfl (lv_at hl 1 rfl) ?_
  refine z_if_lt (tgt := 22) hx hb d_Mo_step_2 (by decide) (by omega) (fun c_2 => ?_) (fun c_2 => ?_)
  · exact c_2.elim
  · refine lv_iload_n hx hb d_Mo_step_5 rfl (lv_at hl 1 rfl) ?_
    refine lv_aload_n hx hb d_Mo_step_6 rfl (lv_at hl 0 rfl) ?_
    refine va_get (D := DD) (ci := 9) (v := .int (nI tn)) (C := R_Mo) (T := T_Mo) (N := 21) hx hb hg in_Mo hown hK hP 0 rfl rfl 13 (by decide) (hg _ mw_692) (fun _ h9 => h9) rfl d_Mo_step_7 ?_
    refine z_icmp_ge (tgt := 22) hx hb d_Mo_step_10 (by decide) (by omega) (by omega) (fun c_10 => ?_) (fun c_10 => ?_)
    · exact absurd c_10 (by omega)
    · refine lv_iload_n hx hb d_Mo_step_13 rfl (lv_at hl 2 rfl) ?_
      refine z_if_lt (tgt := 22) hx hb d_Mo_step_14 (by decide) (by omega) (fun c_14 => ?_) (fun c_14 => ?_)
      · exact c_14.elim
      · refine lv_iload_n hx hb d_Mo_step_17 rfl (lv_at hl 2 rfl) ?_
        refine lv_iconst (v := nI 2) hx hb d_Mo_step_18 (by decide) ?_
        refine z_icmp_le (tgt := 26) hx hb d_Mo_step_19 (by decide) (by omega) (by omega) (fun c_19 => ?_) (fun c_19 => ?_)
        · refine lv_iconst (v := nI 0) hx hb d_Mo_step_26 (by decide) ?_
          refine va_put (D := DD) (ci := 9) (v := .int (nI 0)) (ty := .int) (C := R_Mo) (T := T_Mo) (N := 21) hx hb hg in_Mo t_Mo to_Mo n_Mo hown hK hP hD hS 0 rfl rfl 0 (by decide) (hg _ mw_679) (fun _ h9 => h9) rfl (by decide +kernel) rfl rfl (Nat.le_of_ble_eq_true rfl) d_Mo_step_27 (fun H locs hP hD hS => ?_)
          have hP : va_P DD vwCl [(am, .inr (9, [.int (nI 0), .int (nI n), .ref hk, .ref ht, .int (nI n1), .ref hk1, .ref ht1, .int (zb pb), .int (nI rn), .ref hfg, .ref hle, .ref hmo, .ref hwy, .int (nI tn), .ref htf, .long cm, .ref hod, .ref hwk, .ref hot, .int (nI ru), .ref hen])), (htf, .inl (ctf, 900, .inl tf))] H := hP
          have hD : va_D A [(am, .inr (9, [.int (nI 0), .int (nI n), .ref hk, .ref ht, .int (nI n1), .ref hk1, .ref ht1, .int (zb pb), .int (nI rn), .ref hfg, .ref hle, .ref hmo, .ref hwy, .int (nI tn), .ref htf, .long cm, .ref hod, .ref hwk, .ref hot, .int (nI ru), .ref hen])), (htf, .inl (ctf, 900, .inl tf))] := hD
          refine lv_aload_n hx hb d_Mo_step_30 rfl (lv_at hl 0 rfl) ?_
          refine va_get (D := DD) (ci := 9) (v := .int (nI 0)) (C := R_Mo) (T := T_Mo) (N := 21) hx hb hg in_Mo hown hK hP 0 rfl rfl 0 (by decide) (hg _ mw_679) (fun _ h9 => h9) rfl d_Mo_step_31 ?_
          refine z_if_le (tgt := 41) hx hb d_Mo_step_34 (by decide) (by omega) (fun c_34 => ?_) (fun c_34 => ?_)
          · refine lv_aload_n hx hb d_Mo_step_41 rfl (lv_at hl 0 rfl) ?_
            refine va_get (D := DD) (ci := 9) (v := .ref htf) (C := R_Mo) (T := T_Mo) (N := 21) hx hb hg in_Mo hown hK hP 0 rfl rfl 14 (by decide) (hg _ mw_693) (fun _ h9 => h9) rfl d_Mo_step_42 ?_
            refine lv_iconst (v := nI 3) hx hb d_Mo_step_45 (by decide) ?_
            refine lv_iload_n hx hb d_Mo_step_46 rfl (lv_at hl 1 rfl) ?_
            refine z_imul hx hb d_Mo_step_47 ?_
            refine lv_iload_n hx hb d_Mo_step_48 rfl (lv_at hl 2 rfl) ?_
            refine z_iadd hx hb d_Mo_step_49 ?_
            refine z_iald hx hb hK hP 1 0 rfl rfl (by omega) (by decide) d_Mo_step_50 ?_
            have hP9 := hP.sub (ws' := [(am, .inr (9, [.int (nI 0), .int (nI n), .ref hk, .ref ht, .int (nI n1), .ref hk1, .ref ht1, .int (zb pb), .int (nI rn), .ref hfg, .ref hle, .ref hmo, .ref hwy, .int (nI tn), .ref htf, .long cm, .ref hod, .ref hwk, .ref hot, .int (nI ru), .ref hen])), (htf, .inl (ctf, 900, .inl tf))]) [0, 1] rfl
            have hD9 := hD.sub (ws' := [(am, .inr (9, [.int (nI 0), .int (nI n), .ref hk, .ref ht, .int (nI n1), .ref hk1, .ref ht1, .int (zb pb), .int (nI rn), .ref hfg, .ref hle, .ref hmo, .ref hwy, .int (nI tn), .ref htf, .long cm, .ref hod, .ref hwk, .ref hot, .int (nI ru), .ref hen])), (htf, .inl (ctf, 900, .inl tf))]) [0, 1] (by decide) rfl
            exact W.iret (v := tf ((3 * i) + w)) hx hb hr (fun t9 ht9 hW9 => ⟨⟨_, (), rfl, (by rw [Nat.mul_comm]), by rw [ht9]; exact hP9, va_K.moved hW9.alike hK, hD9⟩, hS.F ht9⟩) hS.2.2 d_Mo_step_51
          · exact absurd c_34 (by decide)
        · exact absurd c_19 (by omega)
abbrev rm_Mo_step_T : Room := { frames := 0, cells := 0, slots := 0, locals := 0 }
set_option maxHeartbeats 4000000 in
set_option maxRecDepth 100000 in
theorem c_Mo_step_T (l : Launch) (DD : va_G) (sz : Nat) (am : Nat) (th : Nat) (n : Nat) (hk : Nat) (ht : Nat) (n1 : Nat) (hk1 : Nat) (ht1 : Nat) (pb : Bool) (rn : Nat) (hfg : Nat) (hle : Nat) (hmo : Nat) (hwy : Nat) (tn : Nat) (htf : Nat) (cm : Int64) (hod : Nat) (hwk : Nat) (hot : Nat) (ru : Nat) (hen : Nat) (v : Int32) (w : Int32) (htn : tn ≤ 150) (hf : (hasB v tn && hasB w 3) = false) : Met l y_Mo_step ws_Mo_step rm_Mo_step_T (va_Pc [.ref am, .int v, .int w] (fun U => U.heap.size = sz ∧ va_P DD vwCl [(am, .inr (9, [.int (nI th), .int (nI n), .ref hk, .ref ht, .int (nI n1), .ref hk1, .ref ht1, .int (zb pb), .int (nI rn), .ref hfg, .ref hle, .ref hmo, .ref hwy, .int (nI tn), .ref htf, .long cm, .ref hod, .ref hwk, .ref hot, .int (nI ru), .ref hen]))] U.heap ∧ va_K DD vwCl [] U ∧ va_D (fun _ => True) [(am, .inr (9, [.int (nI th), .int (nI n), .ref hk, .ref ht, .int (nI n1), .ref hk1, .ref ht1, .int (zb pb), .int (nI rn), .ref hfg, .ref hle, .ref hmo, .ref hwy, .int (nI tn), .ref htf, .long cm, .ref hod, .ref hwk, .ref hot, .int (nI ru), .ref hen]))])) (va_Qi (fun (r9 : Int32) (u9 : Unit) => match u9 with | _ => r9 = nI 0) (fun (u9 : Unit) (t9 : State) => match u9 with | _ => va_P DD vwCl [(am, .inr (9, [.int (nI 1), .int (nI n), .ref hk, .ref ht, .int (nI n1), .ref hk1, .ref ht1, .int (zb pb), .int (nI rn), .ref hfg, .ref hle, .ref hmo, .ref hwy, .int (nI tn), .ref htf, .long cm, .ref hod, .ref hwk, .ref hot, .int (nI ru), .ref hen]))] t9.heap ∧ va_K DD vwCl [] t9 ∧ va_D (va_A [(am, .inr (9, [.int (nI th), .int (nI n), .ref hk, .ref ht, .int (nI n1), .ref hk1, .ref ht1, .int (zb pb), .int (nI rn), .ref hfg, .ref hle, .ref hmo, .ref hwy, .int (nI tn), .ref htf, .long cm, .ref hod, .ref hwk, .ref hot, .int (nI ru), .ref hen]))] sz) [(am, .inr (9, [.int (nI 1), .int (nI n), .ref hk, .ref ht, .int (nI n1), .ref hk1, .ref ht1, .int (zb pb), .int (nI rn), .ref hfg, .ref hle, .ref hmo, .ref hwy, .int (nI tn), .ref htf, .long cm, .ref hod, .ref hwk, .ref hot, .int (nI ru), .ref hen]))]) (va_A [(am, .inr (9, [.int (nI th), .int (nI n), .ref hk, .ref ht, .int (nI n1), .ref hk1, .ref ht1, .int (zb pb), .int (nI rn), .ref hfg, .ref hle, .ref hmo, .ref hwy, .int (nI tn), .ref htf, .long cm, .ref hod, .ref hwk, .ref hot, .int (nI ru), .ref hen]))] sz)) 0 0 (va_A [(am, .inr (9, [.int (nI th), .int (nI n), .ref hk, .ref ht, .int (nI n1), .ref hk1, .ref ht1, .int (zb pb), .int (nI rn), .ref hfg, .ref hle, .ref hmo, .ref hwy, .int (nI tn), .ref htf, .long cm, .ref hod, .ref hwk, .ref hot, .int (nI ru), .ref hen]))] sz) := by
  refine Met.ofW (cc := b_Mo_step) (maxL := 3) (ret := (some .int)) (by decide) rfl ?_
  intro p e s m args below meth c s₁ B hml hv
  obtain ⟨ha, hsz, hP, hK, hD0⟩ := hv
  have hx := B.exec
  have hb := B.bytes
  have hr := B.returns
  have hts := atoms_spec (ws := ws_Mo_step) B.pre
  have hg : ∀ w ∈ ALLG, w.before args s = true := fun w h => hts w (List.mem_cons_of_mem _ h)
  have hown : s.vm.findClass R_Mo = some m.cls := findClass_of_methodNamed B.named
  have hlocks := B.notSynchronized
  subst hsz
  have hD := hD0.self (sz := s.heap.size)
  generalize hAe : va_A [(am, .inr (9, [.int (nI th), .int (nI n), .ref hk, .ref ht, .int (nI n1), .ref hk1, .ref ht1, .int (zb pb), .int (nI rn), .ref hfg, .ref hle, .ref hmo, .ref hwy, .int (nI tn), .ref htf, .long cm, .ref hod, .ref hwk, .ref hot, .int (nI ru), .ref hen]))] s.heap.size = A at hD ⊢
  have hA : ∀ q : Nat, s.heap.size ≤ q → A q := fun q h => by rw [← hAe]; exact Or.inr h
  have hS : va_S A s.heap s.heap [] := va_S.rf
  have hP : va_P DD vwCl [(am, .inr (9, [.int (nI th), .int (nI n), .ref hk, .ref ht, .int (nI n1), .ref hk1, .ref ht1, .int (zb pb), .int (nI rn), .ref hfg, .ref hle, .ref hmo, .ref hwy, .int (nI tn), .ref htf, .long cm, .ref hod, .ref hwk, .ref hot, .int (nI ru), .ref hen]))] s.heap := hP
  have hl := lv_entry ([.ref am, .int v, .int w]) (n := 3) (Nat.le_of_ble_eq_true rfl)
  rw [ha, lg_entry_eq, ← ha]
  generalize (lg_sl ([.ref am, .int v, .int w]) ++ List.replicate (3 - (lg_sl ([.ref am, .int v, .int w])).length) Slot.unset).toArray = ls at hl ⊢
  have hl : lv_has ls 3 [(0, .ref am), (1, .int v), (2, .int w)] := hl
  refine lv_aload_n hx hb d_Mo_step_0 rfl (lv_at hl 0 rfl) ?_
  refine lv_iload_n hx hb d_Mo_step_1 rfl (lv_at hl 1 rfl) ?_
  refine lv_if_lt (tgt := 22) hx hb d_Mo_step_2 (by decide) (fun c_2 => ?_) (fun c_2 => ?_)
  · refine lv_iconst (v := nI 1) hx hb d_Mo_step_22 (by decide) ?_
    refine lv_goto (tgt := 27) hx hb d_Mo_step_23 (by decide) ?_
    refine va_put (D := DD) (ci := 9) (v := .int (nI 1)) (ty := .int) (C := R_Mo) (T := T_Mo) (N := 21) hx hb hg in_Mo t_Mo to_Mo n_Mo hown hK hP hD hS 0 rfl rfl 0 (by decide) (hg _ mw_679) (fun _ h9 => h9) rfl (by decide +kernel) rfl rfl (Nat.le_of_ble_eq_true rfl) d_Mo_step_27 (fun H locs hP hD hS => ?_)
    have hP : va_P DD vwCl [(am, .inr (9, [.int (nI 1), .int (nI n), .ref hk, .ref ht, .int (nI n1), .ref hk1, .ref ht1, .int (zb pb), .int (nI rn), .ref hfg, .ref hle, .ref hmo, .ref hwy, .int (nI tn), .ref htf, .long cm, .ref hod, .ref hwk, .ref hot, .int (nI ru), .ref hen]))] H := hP
    have hD : va_D A [(am, .inr (9, [.int (nI 1), .int (nI n), .ref hk, .ref ht, .int (nI n1), .ref hk1, .ref ht1, .int (zb pb), .int (nI rn), .ref hfg, .ref hle, .ref hmo, .ref hwy, .int (nI tn), .ref htf, .long cm, .ref hod, .ref hwk, .ref hot, .int (nI ru), .ref hen]))] := hD
    refine lv_aload_n hx hb d_Mo_step_30 rfl (lv_at hl 0 rfl) ?_
    refine va_get (D := DD) (ci := 9) (v := .int (nI 1)) (C := R_Mo) (T := T_Mo) (N := 21) hx hb hg in_Mo hown hK hP 0 rfl rfl 0 (by decide) (hg _ mw_679) (fun _ h9 => h9) rfl d_Mo_step_31 ?_
    refine z_if_le (tgt := 41) hx hb d_Mo_step_34 (by decide) (by omega) (fun c_34 => ?_) (fun c_34 => ?_)
    · exact absurd c_34 (by decide)
    · refine lv_iconst (v := nI 0) hx hb d_Mo_step_37 (by decide) ?_
      refine lv_goto (tgt := 51) hx hb d_Mo_step_38 (by decide) ?_
      have hP9 := hP.sub (ws' := [(am, .inr (9, [.int (nI 1), .int (nI n), .ref hk, .ref ht, .int (nI n1), .ref hk1, .ref ht1, .int (zb pb), .int (nI rn), .ref hfg, .ref hle, .ref hmo, .ref hwy, .int (nI tn), .ref htf, .long cm, .ref hod, .ref hwk, .ref hot, .int (nI ru), .ref hen]))]) [0] rfl
      have hD9 := hD.sub (ws' := [(am, .inr (9, [.int (nI 1), .int (nI n), .ref hk, .ref ht, .int (nI n1), .ref hk1, .ref ht1, .int (zb pb), .int (nI rn), .ref hfg, .ref hle, .ref hmo, .ref hwy, .int (nI tn), .ref htf, .long cm, .ref hod, .ref hwk, .ref hot, .int (nI ru), .ref hen]))]) [0] (by decide) rfl
      exact W.iret (v := nI 0) hx hb hr (fun t9 ht9 hW9 => ⟨⟨_, (), rfl, rfl, by rw [ht9]; exact hP9, va_K.moved hW9.alike hK, hD9⟩, hS.F ht9⟩) hS.2.2 d_Mo_step_51
  · refine lv_iload_n hx hb d_Mo_step_5 rfl (lv_at hl 1 rfl) ?_
    refine lv_aload_n hx hb d_Mo_step_6 rfl (lv_at hl 0 rfl) ?_
    refine va_get (D := DD) (ci := 9) (v := .int (nI tn)) (C := R_Mo) (T := T_Mo) (N := 21) hx hb hg in_Mo hown hK hP 0 rfl rfl 13 (by decide) (hg _ mw_692) (fun _ h9 => h9) rfl d_Mo_step_7 ?_
    refine lv_icmp_ge (tgt := 22) hx hb d_Mo_step_10 (by decide) (fun c_10 => ?_) (fun c_10 => ?_)
    · refine lv_iconst (v := nI 1) hx hb d_Mo_step_22 (by decide) ?_
      refine lv_goto (tgt := 27) hx hb d_Mo_step_23 (by decide) ?_
      refine va_put (D := DD) (ci := 9) (v := .int (nI 1)) (ty := .int) (C := R_Mo) (T := T_Mo) (N := 21) hx hb hg in_Mo t_Mo to_Mo n_Mo hown hK hP hD hS 0 rfl rfl 0 (by decide) (hg _ mw_679) (fun _ h9 => h9) rfl (by decide +kernel) rfl rfl (Nat.le_of_ble_eq_true rfl) d_Mo_step_27 (fun H locs hP hD hS => ?_)
      have hP : va_P DD vwCl [(am, .inr (9, [.int (nI 1), .int (nI n), .ref hk, .ref ht, .int (nI n1), .ref hk1, .ref ht1, .int (zb pb), .int (nI rn), .ref hfg, .ref hle, .ref hmo, .ref hwy, .int (nI tn), .ref htf, .long cm, .ref hod, .ref hwk, .ref hot, .int (nI ru), .ref hen]))] H := hP
      have hD : va_D A [(am, .inr (9, [.int (nI 1), .int (nI n), .ref hk, .ref ht, .int (nI n1), .ref hk1, .ref ht1, .int (zb pb), .int (nI rn), .ref hfg, .ref hle, .ref hmo, .ref hwy, .int (nI tn), .ref htf, .long cm, .ref hod, .ref hwk, .ref hot, .int (nI ru), .ref hen]))] := hD
      refine lv_aload_n hx hb d_Mo_step_30 rfl (lv_at hl 0 rfl) ?_
      refine va_get (D := DD) (ci := 9) (v := .int (nI 1)) (C := R_Mo) (T := T_Mo) (N := 21) hx hb hg in_Mo hown hK hP 0 rfl rfl 0 (by decide) (hg _ mw_679) (fun _ h9 => h9) rfl d_Mo_step_31 ?_
      refine z_if_le (tgt := 41) hx hb d_Mo_step_34 (by decide) (by omega) (fun c_34 => ?_) (fun c_34 => ?_)
      · exact absurd c_34 (by decide)
      · refine lv_iconst (v := nI 0) hx hb d_Mo_step_37 (by decide) ?_
        refine lv_goto (tgt := 51) hx hb d_Mo_step_38 (by decide) ?_
        have hP9 := hP.sub (ws' := [(am, .inr (9, [.int (nI 1), .int (nI n), .ref hk, .ref ht, .int (nI n1), .ref hk1, .ref ht1, .int (zb pb), .int (nI rn), .ref hfg, .ref hle, .ref hmo, .ref hwy, .int (nI tn), .ref htf, .long cm, .ref hod, .ref hwk, .ref hot, .int (nI ru), .ref hen]))]) [0] rfl
        have hD9 := hD.sub (ws' := [(am, .inr (9, [.int (nI 1), .int (nI n), .ref hk, .ref ht, .int (nI n1), .ref hk1, .ref ht1, .int (zb pb), .int (nI rn), .ref hfg, .ref hle, .ref hmo, .ref hwy, .int (nI tn), .ref htf, .long cm, .ref hod, .ref hwk, .ref hot, .int (nI ru), .ref hen]))]) [0] (by decide) rfl
        exact W.iret (v := nI 0) hx hb hr (fun t9 ht9 hW9 => ⟨⟨_, (), rfl, rfl, by rw [ht9]; exact hP9, va_K.moved hW9.alike hK, hD9⟩, hS.F ht9⟩) hS.2.2 d_Mo_step_51
    · refine lv_iload_n hx hb d_Mo_step_13 rfl (lv_at hl 2 rfl) ?_
      refine lv_if_lt (tgt := 22) hx hb d_Mo_step_14 (by decide) (fun c_14 => ?_) (fun c_14 => ?_)
      · refine lv_iconst (v := nI 1) hx hb d_Mo_step_22 (by decide) ?_
        refine lv_goto (tgt := 27) hx hb d_Mo_step_23 (by decide) ?_
        refine va_put (D := DD) (ci := 9) (v := .int (nI 1)) (ty := .int) (C := R_Mo) (T := T_Mo) (N := 21) hx hb hg in_Mo t_Mo to_Mo n_Mo hown hK hP hD hS 0 rfl rfl 0 (by decide) (hg _ mw_679) (fun _ h9 => h9) rfl (by decide +kernel) rfl rfl (Nat.le_of_ble_eq_true rfl) d_Mo_step_27 (fun H locs hP hD hS => ?_)
        have hP : va_P DD vwCl [(am, .inr (9, [.int (nI 1), .int (nI n), .ref hk, .ref ht, .int (nI n1), .ref hk1, .ref ht1, .int (zb pb), .int (nI rn), .ref hfg, .ref hle, .ref hmo, .ref hwy, .int (nI tn), .ref htf, .long cm, .ref hod, .ref hwk, .ref hot, .int (nI ru), .ref hen]))] H := hP
        have hD : va_D A [(am, .inr (9, [.int (nI 1), .int (nI n), .ref hk, .ref ht, .int (nI n1), .ref hk1, .ref ht1, .int (zb pb), .int (nI rn), .ref hfg, .ref hle, .ref hmo, .ref hwy, .int (nI tn), .ref htf, .long cm, .ref hod, .ref hwk, .ref hot, .int (nI ru), .ref hen]))] := hD
        refine lv_aload_n hx hb d_Mo_step_30 rfl (lv_at hl 0 rfl) ?_
        refine va_get (D := DD) (ci := 9) (v := .int (nI 1)) (C := R_Mo) (T := T_Mo) (N := 21) hx hb hg in_Mo hown hK hP 0 rfl rfl 0 (by decide) (hg _ mw_679) (fun _ h9 => h9) rfl d_Mo_step_31 ?_
        refine z_if_le (tgt := 41) hx hb d_Mo_step_34 (by decide) (by omega) (fun c_34 => ?_) (fun c_34 => ?_)
        · exact absurd c_34 (by decide)
        · refine lv_iconst (v := nI 0) hx hb d_Mo_step_37 (by decide) ?_
          refine lv_goto (tgt := 51) hx hb d_Mo_step_38 (by decide) ?_
          have hP9 := hP.sub (ws' := [(am, .inr (9, [.int (nI 1), .int (nI n), .ref hk, .ref ht, .int (nI n1), .ref hk1, .ref ht1, .int (zb pb), .int (nI rn), .ref hfg, .ref hle, .ref hmo, .ref hwy, .int (nI tn), .ref htf, .long cm, .ref hod, .ref hwk, .ref hot, .int (nI ru), .ref hen]))]) [0] rfl
          have hD9 := hD.sub (ws' := [(am, .inr (9, [.int (nI 1), .int (nI n), .ref hk, .ref ht, .int (nI n1), .ref hk1, .ref ht1, .int (zb pb), .int (nI rn), .ref hfg, .ref hle, .ref hmo, .ref hwy, .int (nI tn), .ref htf, .long cm, .ref hod, .ref hwk, .ref hot, .int (nI ru), .ref hen]))]) [0] (by decide) rfl
          exact W.iret (v := nI 0) hx hb hr (fun t9 ht9 hW9 => ⟨⟨_, (), rfl, rfl, by rw [ht9]; exact hP9, va_K.moved hW9.alike hK, hD9⟩, hS.F ht9⟩) hS.2.2 d_Mo_step_51
      · refine lv_iload_n hx hb d_Mo_step_17 rfl (lv_at hl 2 rfl) ?_
        refine lv_iconst (v := nI 2) hx hb d_Mo_step_18 (by decide) ?_
        refine lv_icmp_le (tgt := 26) hx hb d_Mo_step_19 (by decide) (fun c_19 => ?_) (fun c_19 => ?_)
        · exact absurd hf (by rw [hasB_nle (by omega) c_2 c_10, hasB_2 c_14 c_19]; decide)
        · refine lv_iconst (v := nI 1) hx hb d_Mo_step_22 (by decide) ?_
          refine lv_goto (tgt := 27) hx hb d_Mo_step_23 (by decide) ?_
          refine va_put (D := DD) (ci := 9) (v := .int (nI 1)) (ty := .int) (C := R_Mo) (T := T_Mo) (N := 21) hx hb hg in_Mo t_Mo to_Mo n_Mo hown hK hP hD hS 0 rfl rfl 0 (by decide) (hg _ mw_679) (fun _ h9 => h9) rfl (by decide +kernel) rfl rfl (Nat.le_of_ble_eq_true rfl) d_Mo_step_27 (fun H locs hP hD hS => ?_)
          have hP : va_P DD vwCl [(am, .inr (9, [.int (nI 1), .int (nI n), .ref hk, .ref ht, .int (nI n1), .ref hk1, .ref ht1, .int (zb pb), .int (nI rn), .ref hfg, .ref hle, .ref hmo, .ref hwy, .int (nI tn), .ref htf, .long cm, .ref hod, .ref hwk, .ref hot, .int (nI ru), .ref hen]))] H := hP
          have hD : va_D A [(am, .inr (9, [.int (nI 1), .int (nI n), .ref hk, .ref ht, .int (nI n1), .ref hk1, .ref ht1, .int (zb pb), .int (nI rn), .ref hfg, .ref hle, .ref hmo, .ref hwy, .int (nI tn), .ref htf, .long cm, .ref hod, .ref hwk, .ref hot, .int (nI ru), .ref hen]))] := hD
          refine lv_aload_n hx hb d_Mo_step_30 rfl (lv_at hl 0 rfl) ?_
          refine va_get (D := DD) (ci := 9) (v := .int (nI 1)) (C := R_Mo) (T := T_Mo) (N := 21) hx hb hg in_Mo hown hK hP 0 rfl rfl 0 (by decide) (hg _ mw_679) (fun _ h9 => h9) rfl d_Mo_step_31 ?_
          refine z_if_le (tgt := 41) hx hb d_Mo_step_34 (by decide) (by omega) (fun c_34 => ?_) (fun c_34 => ?_)
          · exact absurd c_34 (by decide)
          · refine lv_iconst (v := nI 0) hx hb d_Mo_step_37 (by decide) ?_
            refine lv_goto (tgt := 51) hx hb d_Mo_step_38 (by decide) ?_
            have hP9 := hP.sub (ws' := [(am, .inr (9, [.int (nI 1), .int (nI n), .ref hk, .ref ht, .int (nI n1), .ref hk1, .ref ht1, .int (zb pb), .int (nI rn), .ref hfg, .ref hle, .ref hmo, .ref hwy, .int (nI tn), .ref htf, .long cm, .ref hod, .ref hwk, .ref hot, .int (nI ru), .ref hen]))]) [0] rfl
            have hD9 := hD.sub (ws' := [(am, .inr (9, [.int (nI 1), .int (nI n), .ref hk, .ref ht, .int (nI n1), .ref hk1, .ref ht1, .int (zb pb), .int (nI rn), .ref hfg, .ref hle, .ref hmo, .ref hwy, .int (nI tn), .ref htf, .long cm, .ref hod, .ref hwk, .ref hot, .int (nI ru), .ref hen]))]) [0] (by decide) rfl
            exact W.iret (v := nI 0) hx hb hr (fun t9 ht9 hW9 => ⟨⟨_, (), rfl, rfl, by rw [ht9]; exact hP9, va_K.moved hW9.alike hK, hD9⟩, hS.F ht9⟩) hS.2.2 d_Mo_step_51
theorem d_Mo_origin_0 : decode b_Mo_origin 0 = .ok (.aload_n 0, 1) := by decide +kernel
theorem d_Mo_origin_1 : decode b_Mo_origin 1 = .ok (.iload_n 1, 1) := by decide +kernel
theorem d_Mo_origin_2 : decode b_Mo_origin 2 = .ok (.ifCond .lt 11, 3) := by decide +kernel
theorem d_Mo_origin_5 : decode b_Mo_origin 5 = .ok (.iload_n 1, 1) := by decide +kernel
theorem d_Mo_origin_6 : decode b_Mo_origin 6 = .ok (.aload_n 0, 1) := by decide +kernel
theorem d_Mo_origin_7 : decode b_Mo_origin 7 = .ok (.getfield 54, 3) := by decide +kernel
theorem d_Mo_origin_10 : decode b_Mo_origin 10 = .ok (.if_icmp .lt 7, 3) := by decide +kernel
theorem d_Mo_origin_13 : decode b_Mo_origin 13 = .ok (.iconst 1, 1) := by decide +kernel
theorem d_Mo_origin_14 : decode b_Mo_origin 14 = .ok (.goto 4, 3) := by decide +kernel
theorem d_Mo_origin_17 : decode b_Mo_origin 17 = .ok (.iconst 0, 1) := by decide +kernel
theorem d_Mo_origin_18 : decode b_Mo_origin 18 = .ok (.putfield 50, 3) := by decide +kernel
theorem d_Mo_origin_21 : decode b_Mo_origin 21 = .ok (.aload_n 0, 1) := by decide +kernel
theorem d_Mo_origin_22 : decode b_Mo_origin 22 = .ok (.getfield 50, 3) := by decide +kernel
theorem d_Mo_origin_25 : decode b_Mo_origin 25 = .ok (.ifCond .le 5, 3) := by decide +kernel
theorem d_Mo_origin_28 : decode b_Mo_origin 28 = .ok (.iconst 0, 1) := by decide +kernel
theorem d_Mo_origin_29 : decode b_Mo_origin 29 = .ok (.ireturn, 1) := by decide +kernel
theorem d_Mo_origin_30 : decode b_Mo_origin 30 = .ok (.aload_n 0, 1) := by decide +kernel
theorem d_Mo_origin_31 : decode b_Mo_origin 31 = .ok (.invokevirtual 114, 3) := by decide +kernel
theorem d_Mo_origin_34 : decode b_Mo_origin 34 = .ok (.aload_n 0, 1) := by decide +kernel
theorem d_Mo_origin_35 : decode b_Mo_origin 35 = .ok (.getfield 44, 3) := by decide +kernel
theorem d_Mo_origin_38 : decode b_Mo_origin 38 = .ok (.iload_n 1, 1) := by decide +kernel
theorem d_Mo_origin_39 : decode b_Mo_origin 39 = .ok (.iaload, 1) := by decide +kernel
theorem d_Mo_origin_40 : decode b_Mo_origin 40 = .ok (.ireturn, 1) := by decide +kernel
abbrev ws_Mo_origin : List Cond := .code y_Mo_origin b_Mo_origin 2 (some .int) :: ALLG
abbrev rm_Mo_origin : Room := { frames := 1, cells := 0, slots := 0, locals := 23 }
set_option maxHeartbeats 4000000 in
set_option maxRecDepth 100000 in
theorem c_Mo_origin (l : Launch) (DD : va_G) (sz : Nat) (am : Nat) (th : Nat) (n : Nat) (hk : Nat) (ck : ClassId) (k : Nat → Int32) (ht : Nat) (n1 : Nat) (hk1 : Nat) (ht1 : Nat) (pb : Bool) (rn : Nat) (hfg : Nat) (hle : Nat) (hmo : Nat) (hwy : Nat) (tn : Nat) (htf : Nat) (cm : Int64) (hod : Nat) (hwk : Nat) (hot : Nat) (cot : ClassId) (ot : Nat → Int32) (ru : Nat) (hen : Nat) (j : Nat) (hn : n ≤ 150) (hj : j < n) : Met l y_Mo_origin ws_Mo_origin rm_Mo_origin (va_Pc [.ref am, .int (nI j)] (fun U => U.heap.size = sz ∧ va_P DD vwCl [(am, .inr (9, [.int (nI th), .int (nI n), .ref hk, .ref ht, .int (nI n1), .ref hk1, .ref ht1, .int (zb pb), .int (nI rn), .ref hfg, .ref hle, .ref hmo, .ref hwy, .int (nI tn), .ref htf, .long cm, .ref hod, .ref hwk, .ref hot, .int (nI ru), .ref hen])), (hk, .inl (ck, 150, .inl k)), (hot, .inl (cot, 150, .inl ot))] U.heap ∧ va_K DD vwCl [(ck, .int), (cot, .int)] U ∧ va_D (fun _ => True) [(am, .inr (9, [.int (nI th), .int (nI n), .ref hk, .ref ht, .int (nI n1), .ref hk1, .ref ht1, .int (zb pb), .int (nI rn), .ref hfg, .ref hle, .ref hmo, .ref hwy, .int (nI tn), .ref htf, .long cm, .ref hod, .ref hwk, .ref hot, .int (nI ru), .ref hen])), (hk, .inl (ck, 150, .inl k)), (hot, .inl (cot, 150, .inl ot))])) (va_Qi (fun (r9 : Int32) (u9 : Unit) => match u9 with | _ => r9 = foF k n ot n j) (fun (u9 : Unit) (t9 : State) => match u9 with | _ => va_P DD vwCl [(am, .inr (9, [.int (nI 0), .int (nI n), .ref hk, .ref ht, .int (nI n1), .ref hk1, .ref ht1, .int (zb pb), .int (nI rn), .ref hfg, .ref hle, .ref hmo, .ref hwy, .int (nI tn), .ref htf, .long cm, .ref hod, .ref hwk, .ref hot, .int (nI ru), .ref hen])), (hk, .inl (ck, 150, .inl k)), (hot, .inl (cot, 150, .inl (foF k n ot n)))] t9.heap ∧ va_K DD vwCl [(ck, .int), (cot, .int)] t9 ∧ va_D (va_A [(am, .inr (9, [.int (nI th), .int (nI n), .ref hk, .ref ht, .int (nI n1), .ref hk1, .ref ht1, .int (zb pb), .int (nI rn), .ref hfg, .ref hle, .ref hmo, .ref hwy, .int (nI tn), .ref htf, .long cm, .ref hod, .ref hwk, .ref hot, .int (nI ru), .ref hen])), (hk, .inl (ck, 150, .inl k)), (hot, .inl (cot, 150, .inl ot))] sz) [(am, .inr (9, [.int (nI 0), .int (nI n), .ref hk, .ref ht, .int (nI n1), .ref hk1, .ref ht1, .int (zb pb), .int (nI rn), .ref hfg, .ref hle, .ref hmo, .ref hwy, .int (nI tn), .ref htf, .long cm, .ref hod, .ref hwk, .ref hot, .int (nI ru), .ref hen])), (hk, .inl (ck, 150, .inl k)), (hot, .inl (cot, 150, .inl (foF k n ot n)))]) (va_A [(am, .inr (9, [.int (nI th), .int (nI n), .ref hk, .ref ht, .int (nI n1), .ref hk1, .ref ht1, .int (zb pb), .int (nI rn), .ref hfg, .ref hle, .ref hmo, .ref hwy, .int (nI tn), .ref htf, .long cm, .ref hod, .ref hwk, .ref hot, .int (nI ru), .ref hen])), (hk, .inl (ck, 150, .inl k)), (hot, .inl (cot, 150, .inl ot))] sz)) 0 0 (va_A [(am, .inr (9, [.int (nI th), .int (nI n), .ref hk, .ref ht, .int (nI n1), .ref hk1, .ref ht1, .int (zb pb), .int (nI rn), .ref hfg, .ref hle, .ref hmo, .ref hwy, .int (nI tn), .ref htf, .long cm, .ref hod, .ref hwk, .ref hot, .int (nI ru), .ref hen])), (hk, .inl (ck, 150, .inl k)), (hot, .inl (cot, 150, .inl ot))] sz) := by
  refine Met.ofW (cc := b_Mo_origin) (maxL := 2) (ret := (some .int)) (by decide) rfl ?_
  intro p e s m args below meth c s₁ B hml hv
  obtain ⟨ha, hsz, hP, hK, hD0⟩ := hv
  have hx := B.exec
  have hb := B.bytes
  have hr := B.returns
  have hts := atoms_spec (ws := ws_Mo_origin) B.pre
  have hg : ∀ w ∈ ALLG, w.before args s = true := fun w h => hts w (List.mem_cons_of_mem _ h)
  have hown : s.vm.findClass R_Mo = some m.cls := findClass_of_methodNamed B.named
  have hlocks := B.notSynchronized
  subst hsz
  have hD := hD0.self (sz := s.heap.size)
  generalize hAe : va_A [(am, .inr (9, [.int (nI th), .int (nI n), .ref hk, .ref ht, .int (nI n1), .ref hk1, .ref ht1, .int (zb pb), .int (nI rn), .ref hfg, .ref hle, .ref hmo, .ref hwy, .int (nI tn), .ref htf, .long cm, .ref hod, .ref hwk, .ref hot, .int (nI ru), .ref hen])), (hk, .inl (ck, 150, .inl k)), (hot, .inl (cot, 150, .inl ot))] s.heap.size = A at hD ⊢
  have hA : ∀ q : Nat, s.heap.size ≤ q → A q := fun q h => by rw [← hAe]; exact Or.inr h
  have hS : va_S A s.heap s.heap [] := va_S.rf
  have hP : va_P DD vwCl [(am, .inr (9, [.int (nI th), .int (nI n), .ref hk, .ref ht, .int (nI n1), .ref hk1, .ref ht1, .int (zb pb), .int (nI rn), .ref hfg, .ref hle, .ref hmo, .ref hwy, .int (nI tn), .ref htf, .long cm, .ref hod, .ref hwk, .ref hot, .int (nI ru), .ref hen])), (hk, .inl (ck, 150, .inl k)), (hot, .inl (cot, 150, .inl ot))] s.heap := hP
  have hl := lv_entry ([.ref am, .int (nI j)]) (n := 2) (Nat.le_of_ble_eq_true rfl)
  rw [ha, lg_entry_eq, ← ha]
  generalize (lg_sl ([.ref am, .int (nI j)]) ++ List.replicate (2 - (lg_sl ([.ref am, .int (nI j)])).length) Slot.unset).toArray = ls at hl ⊢
  have hl : lv_has ls 2 [(0, .ref am), (1, .int (nI j))] := hl
  refine lv_aload_n hx hb d_Mo_origin_0 rfl (lv_at hl 0 rfl) ?_
  refine lv_iload_n hx hb d_Mo_origin_1 rfl (lv_at hl 1 rfl) ?_
  refine z_if_lt (tgt := 13) hx hb d_Mo_origin_2 (by decide) (by omega) (fun c_2 => ?_) (fun c_2 => ?_)
  · exact c_2.elim
  · refine lv_iload_n hx hb d_Mo_origin_5 rfl (lv_at hl 1 rfl) ?_
    refine lv_aload_n hx hb d_Mo_origin_6 rfl (lv_at hl 0 rfl) ?_
    refine va_get (D := DD) (ci := 9) (v := .int (nI n)) (C := R_Mo) (T := T_Mo) (N := 21) hx hb hg in_Mo hown hK hP 0 rfl rfl 1 (by decide) (hg _ mw_680) (fun _ h9 => h9) rfl d_Mo_origin_7 ?_
    refine z_icmp_lt (tgt := 17) hx hb d_Mo_origin_10 (by decide) (by omega) (by omega) (fun c_10 => ?_) (fun c_10 => ?_)
    · refine lv_iconst (v := nI 0) hx hb d_Mo_origin_17 (by decide) ?_
      refine va_put (D := DD) (ci := 9) (v := .int (nI 0)) (ty := .int) (C := R_Mo) (T := T_Mo) (N := 21) hx hb hg in_Mo t_Mo to_Mo n_Mo hown hK hP hD hS 0 rfl rfl 0 (by decide) (hg _ mw_679) (fun _ h9 => h9) rfl (by decide +kernel) rfl rfl (Nat.le_of_ble_eq_true rfl) d_Mo_origin_18 (fun H locs hP hD hS => ?_)
      have hP : va_P DD vwCl [(am, .inr (9, [.int (nI 0), .int (nI n), .ref hk, .ref ht, .int (nI n1), .ref hk1, .ref ht1, .int (zb pb), .int (nI rn), .ref hfg, .ref hle, .ref hmo, .ref hwy, .int (nI tn), .ref htf, .long cm, .ref hod, .ref hwk, .ref hot, .int (nI ru), .ref hen])), (hk, .inl (ck, 150, .inl k)), (hot, .inl (cot, 150, .inl ot))] H := hP
      have hD : va_D A [(am, .inr (9, [.int (nI 0), .int (nI n), .ref hk, .ref ht, .int (nI n1), .ref hk1, .ref ht1, .int (zb pb), .int (nI rn), .ref hfg, .ref hle, .ref hmo, .ref hwy, .int (nI tn), .ref htf, .long cm, .ref hod, .ref hwk, .ref hot, .int (nI ru), .ref hen])), (hk, .inl (ck, 150, .inl k)), (hot, .inl (cot, 150, .inl ot))] := hD
      refine lv_aload_n hx hb d_Mo_origin_21 rfl (lv_at hl 0 rfl) ?_
      refine va_get (D := DD) (ci := 9) (v := .int (nI 0)) (C := R_Mo) (T := T_Mo) (N := 21) hx hb hg in_Mo hown hK hP 0 rfl rfl 0 (by decide) (hg _ mw_679) (fun _ h9 => h9) rfl d_Mo_origin_22 ?_
      refine z_if_le (tgt := 30) hx hb d_Mo_origin_25 (by decide) (by omega) (fun c_25 => ?_) (fun c_25 => ?_)
      · refine lv_aload_n hx hb d_Mo_origin_30 rfl (lv_at hl 0 rfl) ?_
        have hPc := hP.sub (ws' := [(am, .inr (9, [.int (nI 0), .int (nI n), .ref hk, .ref ht, .int (nI n1), .ref hk1, .ref ht1, .int (zb pb), .int (nI rn), .ref hfg, .ref hle, .ref hmo, .ref hwy, .int (nI tn), .ref htf, .long cm, .ref hod, .ref hwk, .ref hot, .int (nI ru), .ref hen])), (hk, .inl (ck, 150, .inl k)), (hot, .inl (cot, 150, .inl ot))]) [0, 1, 2] rfl
        have hKc := hK.sub (tys' := [(ck, .int), (cot, .int)]) [0, 1] rfl
        have hDc := hD.sub (ws' := [(am, .inr (9, [.int (nI 0), .int (nI n), .ref hk, .ref ht, .int (nI n1), .ref hk1, .ref ht1, .int (zb pb), .int (nI rn), .ref hfg, .ref hle, .ref hmo, .ref hwy, .int (nI tn), .ref htf, .long cm, .ref hod, .ref hwk, .ref hot, .int (nI ru), .ref hen])), (hk, .inl (ck, 150, .inl k)), (hot, .inl (cot, 150, .inl ot))]) [0, 1, 2] (by decide) rfl
        have hFc := va_free (wc := [(am, .inr (9, [.int (nI 0), .int (nI n), .ref hk, .ref ht, .int (nI n1), .ref hk1, .ref ht1, .int (zb pb), .int (nI rn), .ref hfg, .ref hle, .ref hmo, .ref hwy, .int (nI tn), .ref htf, .long cm, .ref hod, .ref hwk, .ref hot, .int (nI ru), .ref hen])), (hk, .inl (ck, 150, .inl k)), (hot, .inl (cot, 150, .inl ot))]) hD hS hA [0, 1, 2] rfl
        refine va_callv (va_runV (As := []) (rest := []) ⟨hx, hb, hml, hown, hg⟩ (c_Mo_findOrder l DD H.size am 0 n hk ck k ht n1 hk1 ht1 pb rn hfg hle hmo hwy tn htf cm hod hwk hot cot ot ru hen (by omega)) (cwV 0 hg (gi_V mw_851 mw_853 ms_Mo_findOrder mw_11 mw_854) rfl rfl rfl (by decide +kernel) ⟨Nat.le_of_ble_eq_true rfl, Nat.le_of_ble_eq_true rfl⟩) ⟨z_blindQ, va_recv hKc hPc (ci := 9) (q0 := 0) rfl rfl, z_preQ hPc hKc hDc⟩ rfl rfl hl.1 rfl (lv_room (Nat.le_of_ble_eq_true rfl)) d_Mo_origin_31 ⟨Nat.zero_le _, Nat.zero_le _⟩) hS (fun q _ h => hFc q h) hFc (fun u9 t9 H9 locs ht9 hvm9 hw9 hB9 hz9 hk9 hS => ?_)
        obtain ⟨hP1, hK1, hD1⟩ := hB9
        rw [ht9] at hP1
        try dsimp only at hw9
        obtain ⟨hP, hD⟩ := va_join (wr := []) (w1 := [(am, .inr (9, [.int (nI 0), .int (nI n), .ref hk, .ref ht, .int (nI n1), .ref hk1, .ref ht1, .int (zb pb), .int (nI rn), .ref hfg, .ref hle, .ref hmo, .ref hwy, .int (nI tn), .ref htf, .long cm, .ref hod, .ref hwk, .ref hot, .int (nI ru), .ref hen])), (hk, .inl (ck, 150, .inl k)), (hot, .inl (cot, 150, .inl (foF k n ot n)))]) hP hD [0, 1, 2] [] rfl rfl (by decide) (by decide) hk9 hFc hP1 hD1
        generalize H9 = H at hP hS ⊢
        have hP : va_P DD vwCl [(am, .inr (9, [.int (nI 0), .int (nI n), .ref hk, .ref ht, .int (nI n1), .ref hk1, .ref ht1, .int (zb pb), .int (nI rn), .ref hfg, .ref hle, .ref hmo, .ref hwy, .int (nI tn), .ref htf, .long cm, .ref hod, .ref hwk, .ref hot, .int (nI ru), .ref hen])), (hk, .inl (ck, 150, .inl k)), (hot, .inl (cot, 150, .inl (foF k n ot n)))] H := hP
        have hD : va_D A [(am, .inr (9, [.int (nI 0), .int (nI n), .ref hk, .ref ht, .int (nI n1), .ref hk1, .ref ht1, .int (zb pb), .int (nI rn), .ref hfg, .ref hle, .ref hmo, .ref hwy, .int (nI tn), .ref htf, .long cm, .ref hod, .ref hwk, .ref hot, .int (nI ru), .ref hen])), (hk, .inl (ck, 150, .inl k)), (hot, .inl (cot, 150, .inl (foF k n ot n)))] := hD
        refine lv_aload_n hx hb d_Mo_origin_34 rfl (lv_at hl 0 rfl) ?_
        refine va_get (D := DD) (ci := 9) (v := .ref hot) (C := R_Mo) (T := T_Mo) (N := 21) hx hb hg in_Mo hown hK hP 0 rfl rfl 18 (by decide) (hg _ mw_697) (fun _ h9 => h9) rfl d_Mo_origin_35 ?_
        refine lv_iload_n hx hb d_Mo_origin_38 rfl (lv_at hl 1 rfl) ?_
        refine z_iald hx hb hK hP 2 1 rfl rfl (by omega) (by decide) d_Mo_origin_39 ?_
        have hP9 := hP.sub (ws' := [(am, .inr (9, [.int (nI 0), .int (nI n), .ref hk, .ref ht, .int (nI n1), .ref hk1, .ref ht1, .int (zb pb), .int (nI rn), .ref hfg, .ref hle, .ref hmo, .ref hwy, .int (nI tn), .ref htf, .long cm, .ref hod, .ref hwk, .ref hot, .int (nI ru), .ref hen])), (hk, .inl (ck, 150, .inl k)), (hot, .inl (cot, 150, .inl (foF k n ot n)))]) [0, 1, 2] rfl
        have hD9 := hD.sub (ws' := [(am, .inr (9, [.int (nI 0), .int (nI n), .ref hk, .ref ht, .int (nI n1), .ref hk1, .ref ht1, .int (zb pb), .int (nI rn), .ref hfg, .ref hle, .ref hmo, .ref hwy, .int (nI tn), .ref htf, .long cm, .ref hod, .ref hwk, .ref hot, .int (nI ru), .ref hen])), (hk, .inl (ck, 150, .inl k)), (hot, .inl (cot, 150, .inl (foF k n ot n)))]) [0, 1, 2] (by decide) rfl
        exact W.iret (v := (foF k n ot n) j) hx hb hr (fun t9 ht9 hW9 => ⟨⟨_, (), rfl, rfl, by rw [ht9]; exact hP9, va_K.moved hW9.alike hK, hD9⟩, hS.F ht9⟩) hS.2.2 d_Mo_origin_40
      · exact absurd c_25 (by decide)
    · exact absurd c_10 (by omega)
abbrev rm_Mo_origin_T : Room := { frames := 0, cells := 0, slots := 0, locals := 0 }
set_option maxHeartbeats 4000000 in
set_option maxRecDepth 100000 in
theorem c_Mo_origin_T (l : Launch) (DD : va_G) (sz : Nat) (am : Nat) (th : Nat) (n : Nat) (hk : Nat) (ht : Nat) (n1 : Nat) (hk1 : Nat) (ht1 : Nat) (pb : Bool) (rn : Nat) (hfg : Nat) (hle : Nat) (hmo : Nat) (hwy : Nat) (tn : Nat) (htf : Nat) (cm : Int64) (hod : Nat) (hwk : Nat) (hot : Nat) (ru : Nat) (hen : Nat) (v : Int32) (hn : n ≤ 150) (hf : hasB v n = false) : Met l y_Mo_origin ws_Mo_origin rm_Mo_origin_T (va_Pc [.ref am, .int v] (fun U => U.heap.size = sz ∧ va_P DD vwCl [(am, .inr (9, [.int (nI th), .int (nI n), .ref hk, .ref ht, .int (nI n1), .ref hk1, .ref ht1, .int (zb pb), .int (nI rn), .ref hfg, .ref hle, .ref hmo, .ref hwy, .int (nI tn), .ref htf, .long cm, .ref hod, .ref hwk, .ref hot, .int (nI ru), .ref hen]))] U.heap ∧ va_K DD vwCl [] U ∧ va_D (fun _ => True) [(am, .inr (9, [.int (nI th), .int (nI n), .ref hk, .ref ht, .int (nI n1), .ref hk1, .ref ht1, .int (zb pb), .int (nI rn), .ref hfg, .ref hle, .ref hmo, .ref hwy, .int (nI tn), .ref htf, .long cm, .ref hod, .ref hwk, .ref hot, .int (nI ru), .ref hen]))])) (va_Qi (fun (r9 : Int32) (u9 : Unit) => match u9 with | _ => r9 = nI 0) (fun (u9 : Unit) (t9 : State) => match u9 with | _ => va_P DD vwCl [(am, .inr (9, [.int (nI 1), .int (nI n), .ref hk, .ref ht, .int (nI n1), .ref hk1, .ref ht1, .int (zb pb), .int (nI rn), .ref hfg, .ref hle, .ref hmo, .ref hwy, .int (nI tn), .ref htf, .long cm, .ref hod, .ref hwk, .ref hot, .int (nI ru), .ref hen]))] t9.heap ∧ va_K DD vwCl [] t9 ∧ va_D (va_A [(am, .inr (9, [.int (nI th), .int (nI n), .ref hk, .ref ht, .int (nI n1), .ref hk1, .ref ht1, .int (zb pb), .int (nI rn), .ref hfg, .ref hle, .ref hmo, .ref hwy, .int (nI tn), .ref htf, .long cm, .ref hod, .ref hwk, .ref hot, .int (nI ru), .ref hen]))] sz) [(am, .inr (9, [.int (nI 1), .int (nI n), .ref hk, .ref ht, .int (nI n1), .ref hk1, .ref ht1, .int (zb pb), .int (nI rn), .ref hfg, .ref hle, .ref hmo, .ref hwy, .int (nI tn), .ref htf, .long cm, .ref hod, .ref hwk, .ref hot, .int (nI ru), .ref hen]))]) (va_A [(am, .inr (9, [.int (nI th), .int (nI n), .ref hk, .ref ht, .int (nI n1), .ref hk1, .ref ht1, .int (zb pb), .int (nI rn), .ref hfg, .ref hle, .ref hmo, .ref hwy, .int (nI tn), .ref htf, .long cm, .ref hod, .ref hwk, .ref hot, .int (nI ru), .ref hen]))] sz)) 0 0 (va_A [(am, .inr (9, [.int (nI th), .int (nI n), .ref hk, .ref ht, .int (nI n1), .ref hk1, .ref ht1, .int (zb pb), .int (nI rn), .ref hfg, .ref hle, .ref hmo, .ref hwy, .int (nI tn), .ref htf, .long cm, .ref hod, .ref hwk, .ref hot, .int (nI ru), .ref hen]))] sz) := by
  refine Met.ofW (cc := b_Mo_origin) (maxL := 2) (ret := (some .int)) (by decide) rfl ?_
  intro p e s m args below meth c s₁ B hml hv
  obtain ⟨ha, hsz, hP, hK, hD0⟩ := hv
  have hx := B.exec
  have hb := B.bytes
  have hr := B.returns
  have hts := atoms_spec (ws := ws_Mo_origin) B.pre
  have hg : ∀ w ∈ ALLG, w.before args s = true := fun w h => hts w (List.mem_cons_of_mem _ h)
  have hown : s.vm.findClass R_Mo = some m.cls := findClass_of_methodNamed B.named
  have hlocks := B.notSynchronized
  subst hsz
  have hD := hD0.self (sz := s.heap.size)
  generalize hAe : va_A [(am, .inr (9, [.int (nI th), .int (nI n), .ref hk, .ref ht, .int (nI n1), .ref hk1, .ref ht1, .int (zb pb), .int (nI rn), .ref hfg, .ref hle, .ref hmo, .ref hwy, .int (nI tn), .ref htf, .long cm, .ref hod, .ref hwk, .ref hot, .int (nI ru), .ref hen]))] s.heap.size = A at hD ⊢
  have hA : ∀ q : Nat, s.heap.size ≤ q → A q := fun q h => by rw [← hAe]; exact Or.inr h
  have hS : va_S A s.heap s.heap [] := va_S.rf
  have hP : va_P DD vwCl [(am, .inr (9, [.int (nI th), .int (nI n), .ref hk, .ref ht, .int (nI n1), .ref hk1, .ref ht1, .int (zb pb), .int (nI rn), .ref hfg, .ref hle, .ref hmo, .ref hwy, .int (nI tn), .ref htf, .long cm, .ref hod, .ref hwk, .ref hot, .int (nI ru), .ref hen]))] s.heap := hP
  have hl := lv_entry ([.ref am, .int v]) (n := 2) (Nat.le_of_ble_eq_true rfl)
  rw [ha, lg_entry_eq, ← ha]
  generalize (lg_sl ([.ref am, .int v]) ++ List.replicate (2 - (lg_sl ([.ref am, .int v])).length) Slot.unset).toArray = ls at hl ⊢
  have hl : lv_has ls 2 [(0, .ref am), (1, .int v)] := hl
  refine lv_aload_n hx hb d_Mo_origin_0 rfl (lv_at hl 0 rfl) ?_
  refine lv_iload_n hx hb d_Mo_origin_1 rfl (lv_at hl 1 rfl) ?_
  refine lv_if_lt (tgt := 13) hx hb d_Mo_origin_2 (by decide) (fun c_2 => ?_) (fun c_2 => ?_)
  · refine lv_iconst (v := nI 1) hx hb d_Mo_origin_13 (by decide) ?_
    refine lv_goto (tgt := 18) hx hb d_Mo_origin_14 (by decide) ?_
    refine va_put (D := DD) (ci := 9) (v := .int (nI 1)) (ty := .int) (C := R_Mo) (T := T_Mo) (N := 21) hx hb hg in_Mo t_Mo to_Mo n_Mo hown hK hP hD hS 0 rfl rfl 0 (by decide) (hg _ mw_679) (fun _ h9 => h9) rfl (by decide +kernel) rfl rfl (Nat.le_of_ble_eq_true rfl) d_Mo_origin_18 (fun H locs hP hD hS => ?_)
    have hP : va_P DD vwCl [(am, .inr (9, [.int (nI 1), .int (nI n), .ref hk, .ref ht, .int (nI n1), .ref hk1, .ref ht1, .int (zb pb), .int (nI rn), .ref hfg, .ref hle, .ref hmo, .ref hwy, .int (nI tn), .ref htf, .long cm, .ref hod, .ref hwk, .ref hot, .int (nI ru), .ref hen]))] H := hP
    have hD : va_D A [(am, .inr (9, [.int (nI 1), .int (nI n), .ref hk, .ref ht, .int (nI n1), .ref hk1, .ref ht1, .int (zb pb), .int (nI rn), .ref hfg, .ref hle, .ref hmo, .ref hwy, .int (nI tn), .ref htf, .long cm, .ref hod, .ref hwk, .ref hot, .int (nI ru), .ref hen]))] := hD
    refine lv_aload_n hx hb d_Mo_origin_21 rfl (lv_at hl 0 rfl) ?_
    refine va_get (D := DD) (ci := 9) (v := .int (nI 1)) (C := R_Mo) (T := T_Mo) (N := 21) hx hb hg in_Mo hown hK hP 0 rfl rfl 0 (by decide) (hg _ mw_679) (fun _ h9 => h9) rfl d_Mo_origin_22 ?_
    refine z_if_le (tgt := 30) hx hb d_Mo_origin_25 (by decide) (by omega) (fun c_25 => ?_) (fun c_25 => ?_)
    · exact absurd c_25 (by decide)
    · refine lv_iconst (v := nI 0) hx hb d_Mo_origin_28 (by decide) ?_
      have hP9 := hP.sub (ws' := [(am, .inr (9, [.int (nI 1), .int (nI n), .ref hk, .ref ht, .int (nI n1), .ref hk1, .ref ht1, .int (zb pb), .int (nI rn), .ref hfg, .ref hle, .ref hmo, .ref hwy, .int (nI tn), .ref htf, .long cm, .ref hod, .ref hwk, .ref hot, .int (nI ru), .ref hen]))]) [0] rfl
      have hD9 := hD.sub (ws' := [(am, .inr (9, [.int (nI 1), .int (nI n), .ref hk, .ref ht, .int (nI n1), .ref hk1, .ref ht1, .int (zb pb), .int (nI rn), .ref hfg, .ref hle, .ref hmo, .ref hwy, .int (nI tn), .ref htf, .long cm, .ref hod, .ref hwk, .ref hot, .int (nI ru), .ref hen]))]) [0] (by decide) rfl
      exact W.iret (v := nI 0) hx hb hr (fun t9 ht9 hW9 => ⟨⟨_, (), rfl, rfl, by rw [ht9]; exact hP9, va_K.moved hW9.alike hK, hD9⟩, hS.F ht9⟩) hS.2.2 d_Mo_origin_29
  · refine lv_iload_n hx hb d_Mo_origin_5 rfl (lv_at hl 1 rfl) ?_
    refine lv_aload_n hx hb d_Mo_origin_6 rfl (lv_at hl 0 rfl) ?_
    refine va_get (D := DD) (ci := 9) (v := .int (nI n)) (C := R_Mo) (T := T_Mo) (N := 21) hx hb hg in_Mo hown hK hP 0 rfl rfl 1 (by decide) (hg _ mw_680) (fun _ h9 => h9) rfl d_Mo_origin_7 ?_
    refine lv_icmp_lt (tgt := 17) hx hb d_Mo_origin_10 (by decide) (fun c_10 => ?_) (fun c_10 => ?_)
    · exact absurd hf (by rw [hasB_lt (by omega) c_2 c_10]; decide)
    · refine lv_iconst (v := nI 1) hx hb d_Mo_origin_13 (by decide) ?_
      refine lv_goto (tgt := 18) hx hb d_Mo_origin_14 (by decide) ?_
      refine va_put (D := DD) (ci := 9) (v := .int (nI 1)) (ty := .int) (C := R_Mo) (T := T_Mo) (N := 21) hx hb hg in_Mo t_Mo to_Mo n_Mo hown hK hP hD hS 0 rfl rfl 0 (by decide) (hg _ mw_679) (fun _ h9 => h9) rfl (by decide +kernel) rfl rfl (Nat.le_of_ble_eq_true rfl) d_Mo_origin_18 (fun H locs hP hD hS => ?_)
      have hP : va_P DD vwCl [(am, .inr (9, [.int (nI 1), .int (nI n), .ref hk, .ref ht, .int (nI n1), .ref hk1, .ref ht1, .int (zb pb), .int (nI rn), .ref hfg, .ref hle, .ref hmo, .ref hwy, .int (nI tn), .ref htf, .long cm, .ref hod, .ref hwk, .ref hot, .int (nI ru), .ref hen]))] H := hP
      have hD : va_D A [(am, .inr (9, [.int (nI 1), .int (nI n), .ref hk, .ref ht, .int (nI n1), .ref hk1, .ref ht1, .int (zb pb), .int (nI rn), .ref hfg, .ref hle, .ref hmo, .ref hwy, .int (nI tn), .ref htf, .long cm, .ref hod, .ref hwk, .ref hot, .int (nI ru), .ref hen]))] := hD
      refine lv_aload_n hx hb d_Mo_origin_21 rfl (lv_at hl 0 rfl) ?_
      refine va_get (D := DD) (ci := 9) (v := .int (nI 1)) (C := R_Mo) (T := T_Mo) (N := 21) hx hb hg in_Mo hown hK hP 0 rfl rfl 0 (by decide) (hg _ mw_679) (fun _ h9 => h9) rfl d_Mo_origin_22 ?_
      refine z_if_le (tgt := 30) hx hb d_Mo_origin_25 (by decide) (by omega) (fun c_25 => ?_) (fun c_25 => ?_)
      · exact absurd c_25 (by decide)
      · refine lv_iconst (v := nI 0) hx hb d_Mo_origin_28 (by decide) ?_
        have hP9 := hP.sub (ws' := [(am, .inr (9, [.int (nI 1), .int (nI n), .ref hk, .ref ht, .int (nI n1), .ref hk1, .ref ht1, .int (zb pb), .int (nI rn), .ref hfg, .ref hle, .ref hmo, .ref hwy, .int (nI tn), .ref htf, .long cm, .ref hod, .ref hwk, .ref hot, .int (nI ru), .ref hen]))]) [0] rfl
        have hD9 := hD.sub (ws' := [(am, .inr (9, [.int (nI 1), .int (nI n), .ref hk, .ref ht, .int (nI n1), .ref hk1, .ref ht1, .int (zb pb), .int (nI rn), .ref hfg, .ref hle, .ref hmo, .ref hwy, .int (nI tn), .ref htf, .long cm, .ref hod, .ref hwk, .ref hot, .int (nI ru), .ref hen]))]) [0] (by decide) rfl
        exact W.iret (v := nI 0) hx hb hr (fun t9 ht9 hW9 => ⟨⟨_, (), rfl, rfl, by rw [ht9]; exact hP9, va_K.moved hW9.alike hK, hD9⟩, hS.F ht9⟩) hS.2.2 d_Mo_origin_29
theorem d_Mo_below_0 : decode b_Mo_below 0 = .ok (.aload_n 0, 1) := by decide +kernel
theorem d_Mo_below_1 : decode b_Mo_below 1 = .ok (.iconst 0, 1) := by decide +kernel
theorem d_Mo_below_2 : decode b_Mo_below 2 = .ok (.putfield 50, 3) := by decide +kernel
theorem d_Mo_below_5 : decode b_Mo_below 5 = .ok (.aload_n 0, 1) := by decide +kernel
theorem d_Mo_below_6 : decode b_Mo_below 6 = .ok (.invokevirtual 65, 3) := by decide +kernel
theorem d_Mo_below_9 : decode b_Mo_below 9 = .ok (.ifCond .le 5, 3) := by decide +kernel
theorem d_Mo_below_12 : decode b_Mo_below 12 = .ok (.iconst (-1), 1) := by decide +kernel
theorem d_Mo_below_13 : decode b_Mo_below 13 = .ok (.ireturn, 1) := by decide +kernel
theorem d_Mo_below_14 : decode b_Mo_below 14 = .ok (.iconst 0, 1) := by decide +kernel
theorem d_Mo_below_15 : decode b_Mo_below 15 = .ok (.istore_n 2, 1) := by decide +kernel
theorem d_Mo_below_16 : decode b_Mo_below 16 = .ok (.iconst 0, 1) := by decide +kernel
theorem d_Mo_below_17 : decode b_Mo_below 17 = .ok (.istore_n 3, 1) := by decide +kernel
theorem d_Mo_below_18 : decode b_Mo_below 18 = .ok (.iload_n 3, 1) := by decide +kernel
theorem d_Mo_below_19 : decode b_Mo_below 19 = .ok (.aload_n 0, 1) := by decide +kernel
theorem d_Mo_below_20 : decode b_Mo_below 20 = .ok (.getfield 54, 3) := by decide +kernel
theorem d_Mo_below_23 : decode b_Mo_below 23 = .ok (.if_icmp .ge 27, 3) := by decide +kernel
theorem d_Mo_below_26 : decode b_Mo_below 26 = .ok (.aload_n 0, 1) := by decide +kernel
theorem d_Mo_below_27 : decode b_Mo_below 27 = .ok (.getfield 7, 3) := by decide +kernel
theorem d_Mo_below_30 : decode b_Mo_below 30 = .ok (.iload_n 3, 1) := by decide +kernel
theorem d_Mo_below_31 : decode b_Mo_below 31 = .ok (.iaload, 1) := by decide +kernel
theorem d_Mo_below_32 : decode b_Mo_below 32 = .ok (.iload_n 1, 1) := by decide +kernel
theorem d_Mo_below_33 : decode b_Mo_below 33 = .ok (.if_icmp .ge 9, 3) := by decide +kernel
theorem d_Mo_below_36 : decode b_Mo_below 36 = .ok (.iload_n 2, 1) := by decide +kernel
theorem d_Mo_below_37 : decode b_Mo_below 37 = .ok (.iconst 1, 1) := by decide +kernel
theorem d_Mo_below_38 : decode b_Mo_below 38 = .ok (.iadd, 1) := by decide +kernel
theorem d_Mo_below_39 : decode b_Mo_below 39 = .ok (.goto 4, 3) := by decide +kernel
theorem d_Mo_below_42 : decode b_Mo_below 42 = .ok (.iload_n 2, 1) := by decide +kernel
theorem d_Mo_below_43 : decode b_Mo_below 43 = .ok (.istore_n 2, 1) := by decide +kernel
theorem d_Mo_below_44 : decode b_Mo_below 44 = .ok (.iinc 3 1, 3) := by decide +kernel
theorem d_Mo_below_47 : decode b_Mo_below 47 = .ok (.goto (-29), 3) := by decide +kernel
theorem d_Mo_below_50 : decode b_Mo_below 50 = .ok (.iload_n 2, 1) := by decide +kernel
theorem d_Mo_below_51 : decode b_Mo_below 51 = .ok (.ireturn, 1) := by decide +kernel
abbrev ws_Mo_below : List Cond := .code y_Mo_below b_Mo_below 4 (some .int) :: ALLG
abbrev rm_Mo_below : Room := { frames := 1, cells := 0, slots := 0, locals := 22 }
set_option maxHeartbeats 4000000 in
set_option maxRecDepth 100000 in
theorem c_Mo_below (l : Launch) (DD : va_G) (sz : Nat) (am : Nat) (th : Nat) (n : Nat) (hk : Nat) (ck : ClassId) (k : Nat → Int32) (ht : Nat) (n1 : Nat) (hk1 : Nat) (ht1 : Nat) (pb : Bool) (rn : Nat) (hfg : Nat) (hle : Nat) (hmo : Nat) (hwy : Nat) (tn : Nat) (htf : Nat) (cm : Int64) (hod : Nat) (hwk : Nat) (hot : Nat) (ru : Nat) (hen : Nat) (x : Int32) (hn : n ≤ 150) : Met l y_Mo_below ws_Mo_below rm_Mo_below (va_Pc [.ref am, .int x] (fun U => U.heap.size = sz ∧ va_P DD vwCl [(am, .inr (9, [.int (nI th), .int (nI n), .ref hk, .ref ht, .int (nI n1), .ref hk1, .ref ht1, .int (zb pb), .int (nI rn), .ref hfg, .ref hle, .ref hmo, .ref hwy, .int (nI tn), .ref htf, .long cm, .ref hod, .ref hwk, .ref hot, .int (nI ru), .ref hen])), (hk, .inl (ck, 150, .inl k))] U.heap ∧ va_K DD vwCl [(ck, .int)] U ∧ va_D (fun _ => True) [(am, .inr (9, [.int (nI th), .int (nI n), .ref hk, .ref ht, .int (nI n1), .ref hk1, .ref ht1, .int (zb pb), .int (nI rn), .ref hfg, .ref hle, .ref hmo, .ref hwy, .int (nI tn), .ref htf, .long cm, .ref hod, .ref hwk, .ref hot, .int (nI ru), .ref hen])), (hk, .inl (ck, 150, .inl k))])) (va_Qi (fun (r9 : Int32) (u9 : Unit) => match u9 with | _ => r9 = if cnt (dropB k) n = 0 then nI (cnt (ltB k x) n) else -1) (fun (u9 : Unit) (t9 : State) => match u9 with | _ => va_P DD vwCl [(am, .inr (9, [.int (nI 0), .int (nI n), .ref hk, .ref ht, .int (nI n1), .ref hk1, .ref ht1, .int (zb pb), .int (nI rn), .ref hfg, .ref hle, .ref hmo, .ref hwy, .int (nI tn), .ref htf, .long cm, .ref hod, .ref hwk, .ref hot, .int (nI ru), .ref hen])), (hk, .inl (ck, 150, .inl k))] t9.heap ∧ va_K DD vwCl [(ck, .int)] t9 ∧ va_D (va_A [(am, .inr (9, [.int (nI th), .int (nI n), .ref hk, .ref ht, .int (nI n1), .ref hk1, .ref ht1, .int (zb pb), .int (nI rn), .ref hfg, .ref hle, .ref hmo, .ref hwy, .int (nI tn), .ref htf, .long cm, .ref hod, .ref hwk, .ref hot, .int (nI ru), .ref hen])), (hk, .inl (ck, 150, .inl k))] sz) [(am, .inr (9, [.int (nI 0), .int (nI n), .ref hk, .ref ht, .int (nI n1), .ref hk1, .ref ht1, .int (zb pb), .int (nI rn), .ref hfg, .ref hle, .ref hmo, .ref hwy, .int (nI tn), .ref htf, .long cm, .ref hod, .ref hwk, .ref hot, .int (nI ru), .ref hen])), (hk, .inl (ck, 150, .inl k))]) (va_A [(am, .inr (9, [.int (nI th), .int (nI n), .ref hk, .ref ht, .int (nI n1), .ref hk1, .ref ht1, .int (zb pb), .int (nI rn), .ref hfg, .ref hle, .ref hmo, .ref hwy, .int (nI tn), .ref htf, .long cm, .ref hod, .ref hwk, .ref hot, .int (nI ru), .ref hen])), (hk, .inl (ck, 150, .inl k))] sz)) 0 0 (va_A [(am, .inr (9, [.int (nI th), .int (nI n), .ref hk, .ref ht, .int (nI n1), .ref hk1, .ref ht1, .int (zb pb), .int (nI rn), .ref hfg, .ref hle, .ref hmo, .ref hwy, .int (nI tn), .ref htf, .long cm, .ref hod, .ref hwk, .ref hot, .int (nI ru), .ref hen])), (hk, .inl (ck, 150, .inl k))] sz) := by
  refine Met.ofW (cc := b_Mo_below) (maxL := 4) (ret := (some .int)) (by decide) rfl ?_
  intro p e s m args below meth c s₁ B hml hv
  obtain ⟨ha, hsz, hP, hK, hD0⟩ := hv
  have hx := B.exec
  have hb := B.bytes
  have hr := B.returns
  have hts := atoms_spec (ws := ws_Mo_below) B.pre
  have hg : ∀ w ∈ ALLG, w.before args s = true := fun w h => hts w (List.mem_cons_of_mem _ h)
  have hown : s.vm.findClass R_Mo = some m.cls := findClass_of_methodNamed B.named
  have hlocks := B.notSynchronized
  subst hsz
  have hD := hD0.self (sz := s.heap.size)
  generalize hAe : va_A [(am, .inr (9, [.int (nI th), .int (nI n), .ref hk, .ref ht, .int (nI n1), .ref hk1, .ref ht1, .int (zb pb), .int (nI rn), .ref hfg, .ref hle, .ref hmo, .ref hwy, .int (nI tn), .ref htf, .long cm, .ref hod, .ref hwk, .ref hot, .int (nI ru), .ref hen])), (hk, .inl (ck, 150, .inl k))] s.heap.size = A at hD ⊢
  have hA : ∀ q : Nat, s.heap.size ≤ q → A q := fun q h => by rw [← hAe]; exact Or.inr h
  have hS : va_S A s.heap s.heap [] := va_S.rf
  have hP : va_P DD vwCl [(am, .inr (9, [.int (nI th), .int (nI n), .ref hk, .ref ht, .int (nI n1), .ref hk1, .ref ht1, .int (zb pb), .int (nI rn), .ref hfg, .ref hle, .ref hmo, .ref hwy, .int (nI tn), .ref htf, .long cm, .ref hod, .ref hwk, .ref hot, .int (nI ru), .ref hen])), (hk, .inl (ck, 150, .inl k))] s.heap := hP
  have hl := lv_entry ([.ref am, .int x]) (n := 4) (Nat.le_of_ble_eq_true rfl)
  rw [ha, lg_entry_eq, ← ha]
  generalize (lg_sl ([.ref am, .int x]) ++ List.replicate (4 - (lg_sl ([.ref am, .int x])).length) Slot.unset).toArray = ls at hl ⊢
  have hl : lv_has ls 4 [(0, .ref am), (1, .int x)] := hl
  have K18 : ∀ (kk : Nat) (i : Nat) (q : Nat), (hz : cnt (dropB k) n = 0) → (hi : i ≤ n) → (hc : q = cnt (ltB k x) i) → n - i < kk → ∀ (H : Heap) (locs : List Loc), va_P DD vwCl [(am, .inr (9, [.int (nI 0), .int (nI n), .ref hk, .ref ht, .int (nI n1), .ref hk1, .ref ht1, .int (zb pb), .int (nI rn), .ref hfg, .ref hle, .ref hmo, .ref hwy, .int (nI tn), .ref htf, .long cm, .ref hod, .ref hwk, .ref hot, .int (nI ru), .ref hen])), (hk, .inl (ck, 150, .inl k))] H → va_D A [(am, .inr (9, [.int (nI 0), .int (nI n), .ref hk, .ref ht, .int (nI n1), .ref hk1, .ref ht1, .int (zb pb), .int (nI rn), .ref hfg, .ref hle, .ref hmo, .ref hwy, .int (nI tn), .ref htf, .long cm, .ref hod, .ref hwk, .ref hot, .int (nI ru), .ref hen])), (hk, .inl (ck, 150, .inl k))] → va_S A s.heap H locs → ∀ (ls : Array Slot), lv_has ls 4 [(0, .ref am), (1, .int x), (2, .int (nI q)), (3, .int (nI i))] → W p l e (headSpec ws_Mo_below rm_Mo_below).room s m args below meth c H locs 0 0 (MQ below (va_Qi (fun (r9 : Int32) (u9 : Unit) => match u9 with | _ => r9 = if cnt (dropB k) n = 0 then nI (cnt (ltB k x) n) else -1) (fun (u9 : Unit) (t9 : State) => match u9 with | _ => va_P DD vwCl [(am, .inr (9, [.int (nI 0), .int (nI n), .ref hk, .ref ht, .int (nI n1), .ref hk1, .ref ht1, .int (zb pb), .int (nI rn), .ref hfg, .ref hle, .ref hmo, .ref hwy, .int (nI tn), .ref htf, .long cm, .ref hod, .ref hwk, .ref hot, .int (nI ru), .ref hen])), (hk, .inl (ck, 150, .inl k))] t9.heap ∧ va_K DD vwCl [(ck, .int)] t9 ∧ va_D A [(am, .inr (9, [.int (nI 0), .int (nI n), .ref hk, .ref ht, .int (nI n1), .ref hk1, .ref ht1, .int (zb pb), .int (nI rn), .ref hfg, .ref hle, .ref hmo, .ref hwy, .int (nI tn), .ref htf, .long cm, .ref hod, .ref hwk, .ref hot, .int (nI ru), .ref hen])), (hk, .inl (ck, 150, .inl k))]) A) args s 0 0 A) (F0 m 18 ls []) := by
    intro kk
    induction kk with
    | zero => intros; omega
    | succ kk ih18 =>
      intro i q hz hi hc hkk H locs hP hD hS ls hl
      refine lv_iload_n hx hb d_Mo_below_18 rfl (lv_at hl 3 rfl) ?_
      refine lv_aload_n hx hb d_Mo_below_19 rfl (lv_at hl 0 rfl) ?_
      refine va_get (D := DD) (ci := 9) (v := .int (nI n)) (C := R_Mo) (T := T_Mo) (N := 21) hx hb hg in_Mo hown hK hP 0 rfl rfl 1 (by decide) (hg _ mw_680) (fun _ h9 => h9) rfl d_Mo_below_20 ?_
      refine z_icmp_ge (tgt := 50) hx hb d_Mo_below_23 (by decide) (by omega) (by omega) (fun c_23 => ?_) (fun c_23 => ?_)
      · refine lv_iload_n hx hb d_Mo_below_50 rfl (lv_at hl 2 rfl) ?_
        have hP9 := hP.sub (ws' := [(am, .inr (9, [.int (nI 0), .int (nI n), .ref hk, .ref ht, .int (nI n1), .ref hk1, .ref ht1, .int (zb pb), .int (nI rn), .ref hfg, .ref hle, .ref hmo, .ref hwy, .int (nI tn), .ref htf, .long cm, .ref hod, .ref hwk, .ref hot, .int (nI ru), .ref hen])), (hk, .inl (ck, 150, .inl k))]) [0, 1] rfl
        have hD9 := hD.sub (ws' := [(am, .inr (9, [.int (nI 0), .int (nI n), .ref hk, .ref ht, .int (nI n1), .ref hk1, .ref ht1, .int (zb pb), .int (nI rn), .ref hfg, .ref hle, .ref hmo, .ref hwy, .int (nI tn), .ref htf, .long cm, .ref hod, .ref hwk, .ref hot, .int (nI ru), .ref hen])), (hk, .inl (ck, 150, .inl k))]) [0, 1] (by decide) rfl
        exact W.iret (v := nI q) hx hb hr (fun t9 ht9 hW9 => ⟨⟨_, (), rfl, (by rw [if_pos hz, hc, Nat.le_antisymm hi c_23]), by rw [ht9]; exact hP9, va_K.moved hW9.alike hK, hD9⟩, hS.F ht9⟩) hS.2.2 d_Mo_below_51
      · refine lv_aload_n hx hb d_Mo_below_26 rfl (lv_at hl 0 rfl) ?_
        refine va_get (D := DD) (ci := 9) (v := .ref hk) (C := R_Mo) (T := T_Mo) (N := 21) hx hb hg in_Mo hown hK hP 0 rfl rfl 2 (by decide) (hg _ mw_681) (fun _ h9 => h9) rfl d_Mo_below_27 ?_
        refine lv_iload_n hx hb d_Mo_below_30 rfl (lv_at hl 3 rfl) ?_
        refine z_iald hx hb hK hP 1 0 rfl rfl (by omega) (by decide) d_Mo_below_31 ?_
        refine lv_iload_n hx hb d_Mo_below_32 rfl (lv_at hl 1 rfl) ?_
        refine lv_icmp_ge (tgt := 42) hx hb d_Mo_below_33 (by decide) (fun c_33 => ?_) (fun c_33 => ?_)
        · refine lv_iload_n hx hb d_Mo_below_42 rfl (lv_at hl 2 rfl) ?_
          refine lv_istore_n (lv' := [(2, .int (nI q)), (0, .ref am), (1, .int x), (3, .int (nI i))]) hx hb d_Mo_below_43 rfl hl (by decide) rfl (fun ls hl => ?_)
          refine lv_iinc (v := nI (i + 1)) (lv' := [(3, .int (nI (i + 1))), (2, .int (nI q)), (0, .ref am), (1, .int x)]) hx hb d_Mo_below_44 hl (k := 3) rfl (by exact nI_add i 1) (by decide) rfl (fun ls hl => ?_)
          refine lv_goto (tgt := 18) hx hb d_Mo_below_47 (by decide) ?_
          exact ih18 (i + 1) q (by exact hz) (by omega) (by first | exact lt_t hc c_33 | exact lt_f hc c_33) (by omega) _ _ hP hD hS ls (lv_sub hl [2, 3, 1, 0] rfl)
        · refine lv_iload_n hx hb d_Mo_below_36 rfl (lv_at hl 2 rfl) ?_
          refine lv_iconst (v := nI 1) hx hb d_Mo_below_37 (by decide) ?_
          refine z_iadd hx hb d_Mo_below_38 ?_
          refine lv_goto (tgt := 43) hx hb d_Mo_below_39 (by decide) ?_
          refine lv_istore_n (lv' := [(2, .int (nI (q + 1))), (0, .ref am), (1, .int x), (3, .int (nI i))]) hx hb d_Mo_below_43 rfl hl (by decide) rfl (fun ls hl => ?_)
          refine lv_iinc (v := nI (i + 1)) (lv' := [(3, .int (nI (i + 1))), (2, .int (nI (q + 1))), (0, .ref am), (1, .int x)]) hx hb d_Mo_below_44 hl (k := 3) rfl (by exact nI_add i 1) (by decide) rfl (fun ls hl => ?_)
          refine lv_goto (tgt := 18) hx hb d_Mo_below_47 (by decide) ?_
          exact ih18 (i + 1) (q + 1) (by exact hz) (by omega) (by first | exact lt_t hc c_33 | exact lt_f hc c_33) (by omega) _ _ hP hD hS ls (lv_sub hl [2, 3, 1, 0] rfl)
  refine lv_aload_n hx hb d_Mo_below_0 rfl (lv_at hl 0 rfl) ?_
  refine lv_iconst (v := nI 0) hx hb d_Mo_below_1 (by decide) ?_
  refine va_put (D := DD) (ci := 9) (v := .int (nI 0)) (ty := .int) (C := R_Mo) (T := T_Mo) (N := 21) hx hb hg in_Mo t_Mo to_Mo n_Mo hown hK hP hD hS 0 rfl rfl 0 (by decide) (hg _ mw_679) (fun _ h9 => h9) rfl (by decide +kernel) rfl rfl (Nat.le_of_ble_eq_true rfl) d_Mo_below_2 (fun H locs hP hD hS => ?_)
  have hP : va_P DD vwCl [(am, .inr (9, [.int (nI 0), .int (nI n), .ref hk, .ref ht, .int (nI n1), .ref hk1, .ref ht1, .int (zb pb), .int (nI rn), .ref hfg, .ref hle, .ref hmo, .ref hwy, .int (nI tn), .ref htf, .long cm, .ref hod, .ref hwk, .ref hot, .int (nI ru), .ref hen])), (hk, .inl (ck, 150, .inl k))] H := hP
  have hD : va_D A [(am, .inr (9, [.int (nI 0), .int (nI n), .ref hk, .ref ht, .int (nI n1), .ref hk1, .ref ht1, .int (zb pb), .int (nI rn), .ref hfg, .ref hle, .ref hmo, .ref hwy, .int (nI tn), .ref htf, .long cm, .ref hod, .ref hwk, .ref hot, .int (nI ru), .ref hen])), (hk, .inl (ck, 150, .inl k))] := hD
  refine lv_aload_n hx hb d_Mo_below_5 rfl (lv_at hl 0 rfl) ?_
  have hPc := hP.sub (ws' := [(am, .inr (9, [.int (nI 0), .int (nI n), .ref hk, .ref ht, .int (nI n1), .ref hk1, .ref ht1, .int (zb pb), .int (nI rn), .ref hfg, .ref hle, .ref hmo, .ref hwy, .int (nI tn), .ref htf, .long cm, .ref hod, .ref hwk, .ref hot, .int (nI ru), .ref hen])), (hk, .inl (ck, 150, .inl k))]) [0, 1] rfl
  have hKc := hK.sub (tys' := [(ck, .int)]) [0] rfl
  refine vp_callSi (W.runV (As := []) (rest := []) ⟨hx, hb, hml, hown, hg⟩ (c_Mo_descents l DD am 0 n hk ck k ht n1 hk1 ht1 pb rn hfg hle hmo hwy tn htf cm hod hwk hot ru hen (by omega)) (cwV 0 hg (gi_V mw_775 mw_777 ms_Mo_descents mw_11 mw_778) rfl rfl rfl (by decide +kernel) ⟨Nat.le_of_ble_eq_true rfl, Nat.le_of_ble_eq_true rfl⟩) ⟨z_blind, va_recv hKc hPc (ci := 9) (q0 := 0) rfl rfl, z_pre hPc hKc⟩ rfl rfl hl.1 rfl (lv_room (Nat.le_of_ble_eq_true rfl)) d_Mo_below_6 ⟨Nat.zero_le _, Nat.zero_le _⟩) (fun r_6 hr_6 => ?_)
  subst hr_6
  have hcl := cnt_le (dropB k) n
  refine z_if_le (tgt := 14) hx hb d_Mo_below_9 (by decide) (by omega) (fun c_9 => ?_) (fun c_9 => ?_)
  · refine lv_iconst (v := nI 0) hx hb d_Mo_below_14 (by decide) ?_
    refine lv_istore_n (lv' := [(2, .int (nI 0)), (0, .ref am), (1, .int x)]) hx hb d_Mo_below_15 rfl hl (by decide) rfl (fun ls hl => ?_)
    refine lv_iconst (v := nI 0) hx hb d_Mo_below_16 (by decide) ?_
    refine lv_istore_n (lv' := [(3, .int (nI 0)), (2, .int (nI 0)), (0, .ref am), (1, .int x)]) hx hb d_Mo_below_17 rfl hl (by decide) rfl (fun ls hl => ?_)
    exact K18 _ 0 0 (by exact c_9) (by omega) (by rfl) (Nat.lt_succ_self _) _ _ hP hD hS ls (lv_sub hl [2, 3, 1, 0] rfl)
  · refine lv_iconst (v := -1) hx hb d_Mo_below_12 (by decide) ?_
    have hP9 := hP.sub (ws' := [(am, .inr (9, [.int (nI 0), .int (nI n), .ref hk, .ref ht, .int (nI n1), .ref hk1, .ref ht1, .int (zb pb), .int (nI rn), .ref hfg, .ref hle, .ref hmo, .ref hwy, .int (nI tn), .ref htf, .long cm, .ref hod, .ref hwk, .ref hot, .int (nI ru), .ref hen])), (hk, .inl (ck, 150, .inl k))]) [0, 1] rfl
    have hD9 := hD.sub (ws' := [(am, .inr (9, [.int (nI 0), .int (nI n), .ref hk, .ref ht, .int (nI n1), .ref hk1, .ref ht1, .int (zb pb), .int (nI rn), .ref hfg, .ref hle, .ref hmo, .ref hwy, .int (nI tn), .ref htf, .long cm, .ref hod, .ref hwk, .ref hot, .int (nI ru), .ref hen])), (hk, .inl (ck, 150, .inl k))]) [0, 1] (by decide) rfl
    exact W.iret (v := -1) hx hb hr (fun t9 ht9 hW9 => ⟨⟨_, (), rfl, (by first | exact (if_neg (by omega)).symm), by rw [ht9]; exact hP9, va_K.moved hW9.alike hK, hD9⟩, hS.F ht9⟩) hS.2.2 d_Mo_below_13
theorem d_Mo_compared_0 : decode b_Mo_compared 0 = .ok (.aload_n 0, 1) := by decide +kernel
theorem d_Mo_compared_1 : decode b_Mo_compared 1 = .ok (.iconst 0, 1) := by decide +kernel
theorem d_Mo_compared_2 : decode b_Mo_compared 2 = .ok (.putfield 50, 3) := by decide +kernel
theorem d_Mo_compared_5 : decode b_Mo_compared 5 = .ok (.aload_n 0, 1) := by decide +kernel
theorem d_Mo_compared_6 : decode b_Mo_compared 6 = .ok (.getfield 135, 3) := by decide +kernel
theorem d_Mo_compared_9 : decode b_Mo_compared 9 = .ok (.lreturn, 1) := by decide +kernel
abbrev ws_Mo_compared : List Cond := .code y_Mo_compared b_Mo_compared 1 (some .long) :: ALLG
abbrev rm_Mo_compared : Room := { frames := 0, cells := 0, slots := 0, locals := 0 }
set_option maxHeartbeats 4000000 in
set_option maxRecDepth 100000 in
theorem c_Mo_compared (l : Launch) (DD : va_G) (sz : Nat) (am : Nat) (th : Nat) (n : Nat) (hk : Nat) (ht : Nat) (n1 : Nat) (hk1 : Nat) (ht1 : Nat) (pb : Bool) (rn : Nat) (hfg : Nat) (hle : Nat) (hmo : Nat) (hwy : Nat) (tn : Nat) (htf : Nat) (cm : Int64) (hod : Nat) (hwk : Nat) (hot : Nat) (ru : Nat) (hen : Nat) : Met l y_Mo_compared ws_Mo_compared rm_Mo_compared (va_Pc [.ref am] (fun U => U.heap.size = sz ∧ va_P DD vwCl [(am, .inr (9, [.int (nI th), .int (nI n), .ref hk, .ref ht, .int (nI n1), .ref hk1, .ref ht1, .int (zb pb), .int (nI rn), .ref hfg, .ref hle, .ref hmo, .ref hwy, .int (nI tn), .ref htf, .long cm, .ref hod, .ref hwk, .ref hot, .int (nI ru), .ref hen]))] U.heap ∧ va_K DD vwCl [] U ∧ va_D (fun _ => True) [(am, .inr (9, [.int (nI th), .int (nI n), .ref hk, .ref ht, .int (nI n1), .ref hk1, .ref ht1, .int (zb pb), .int (nI rn), .ref hfg, .ref hle, .ref hmo, .ref hwy, .int (nI tn), .ref htf, .long cm, .ref hod, .ref hwk, .ref hot, .int (nI ru), .ref hen]))])) (va_Ql (fun (r9 : Int64) (u9 : Unit) => match u9 with | _ => r9 = cm) (fun (u9 : Unit) (t9 : State) => match u9 with | _ => va_P DD vwCl [(am, .inr (9, [.int (nI 0), .int (nI n), .ref hk, .ref ht, .int (nI n1), .ref hk1, .ref ht1, .int (zb pb), .int (nI rn), .ref hfg, .ref hle, .ref hmo, .ref hwy, .int (nI tn), .ref htf, .long cm, .ref hod, .ref hwk, .ref hot, .int (nI ru), .ref hen]))] t9.heap ∧ va_K DD vwCl [] t9 ∧ va_D (va_A [(am, .inr (9, [.int (nI th), .int (nI n), .ref hk, .ref ht, .int (nI n1), .ref hk1, .ref ht1, .int (zb pb), .int (nI rn), .ref hfg, .ref hle, .ref hmo, .ref hwy, .int (nI tn), .ref htf, .long cm, .ref hod, .ref hwk, .ref hot, .int (nI ru), .ref hen]))] sz) [(am, .inr (9, [.int (nI 0), .int (nI n), .ref hk, .ref ht, .int (nI n1), .ref hk1, .ref ht1, .int (zb pb), .int (nI rn), .ref hfg, .ref hle, .ref hmo, .ref hwy, .int (nI tn), .ref htf, .long cm, .ref hod, .ref hwk, .ref hot, .int (nI ru), .ref hen]))]) (va_A [(am, .inr (9, [.int (nI th), .int (nI n), .ref hk, .ref ht, .int (nI n1), .ref hk1, .ref ht1, .int (zb pb), .int (nI rn), .ref hfg, .ref hle, .ref hmo, .ref hwy, .int (nI tn), .ref htf, .long cm, .ref hod, .ref hwk, .ref hot, .int (nI ru), .ref hen]))] sz)) 0 0 (va_A [(am, .inr (9, [.int (nI th), .int (nI n), .ref hk, .ref ht, .int (nI n1), .ref hk1, .ref ht1, .int (zb pb), .int (nI rn), .ref hfg, .ref hle, .ref hmo, .ref hwy, .int (nI tn), .ref htf, .long cm, .ref hod, .ref hwk, .ref hot, .int (nI ru), .ref hen]))] sz) := by
  refine Met.ofW (cc := b_Mo_compared) (maxL := 1) (ret := (some .long)) (by decide) rfl ?_
  intro p e s m args below meth c s₁ B hml hv
  obtain ⟨ha, hsz, hP, hK, hD0⟩ := hv
  have hx := B.exec
  have hb := B.bytes
  have hr := B.returns
  have hts := atoms_spec (ws := ws_Mo_compared) B.pre
  have hg : ∀ w ∈ ALLG, w.before args s = true := fun w h => hts w (List.mem_cons_of_mem _ h)
  have hown : s.vm.findClass R_Mo = some m.cls := findClass_of_methodNamed B.named
  have hlocks := B.notSynchronized
  subst hsz
  have hD := hD0.self (sz := s.heap.size)
  generalize hAe : va_A [(am, .inr (9, [.int (nI th), .int (nI n), .ref hk, .ref ht, .int (nI n1), .ref hk1, .ref ht1, .int (zb pb), .int (nI rn), .ref hfg, .ref hle, .ref hmo, .ref hwy, .int (nI tn), .ref htf, .long cm, .ref hod, .ref hwk, .ref hot, .int (nI ru), .ref hen]))] s.heap.size = A at hD ⊢
  have hA : ∀ q : Nat, s.heap.size ≤ q → A q := fun q h => by rw [← hAe]; exact Or.inr h
  have hS : va_S A s.heap s.heap [] := va_S.rf
  have hP : va_P DD vwCl [(am, .inr (9, [.int (nI th), .int (nI n), .ref hk, .ref ht, .int (nI n1), .ref hk1, .ref ht1, .int (zb pb), .int (nI rn), .ref hfg, .ref hle, .ref hmo, .ref hwy, .int (nI tn), .ref htf, .long cm, .ref hod, .ref hwk, .ref hot, .int (nI ru), .ref hen]))] s.heap := hP
  have hl := lv_entry ([.ref am]) (n := 1) (Nat.le_of_ble_eq_true rfl)
  rw [ha, lg_entry_eq, ← ha]
  generalize (lg_sl ([.ref am]) ++ List.replicate (1 - (lg_sl ([.ref am])).length) Slot.unset).toArray = ls at hl ⊢
  have hl : lv_has ls 1 [(0, .ref am)] := hl
  refine lv_aload_n hx hb d_Mo_compared_0 rfl (lv_at hl 0 rfl) ?_
  refine lv_iconst (v := nI 0) hx hb d_Mo_compared_1 (by decide) ?_
  refine va_put (D := DD) (ci := 9) (v := .int (nI 0)) (ty := .int) (C := R_Mo) (T := T_Mo) (N := 21) hx hb hg in_Mo t_Mo to_Mo n_Mo hown hK hP hD hS 0 rfl rfl 0 (by decide) (hg _ mw_679) (fun _ h9 => h9) rfl (by decide +kernel) rfl rfl (Nat.le_of_ble_eq_true rfl) d_Mo_compared_2 (fun H locs hP hD hS => ?_)
  have hP : va_P DD vwCl [(am, .inr (9, [.int (nI 0), .int (nI n), .ref hk, .ref ht, .int (nI n1), .ref hk1, .ref ht1, .int (zb pb), .int (nI rn), .ref hfg, .ref hle, .ref hmo, .ref hwy, .int (nI tn), .ref htf, .long cm, .ref hod, .ref hwk, .ref hot, .int (nI ru), .ref hen]))] H := hP
  have hD : va_D A [(am, .inr (9, [.int (nI 0), .int (nI n), .ref hk, .ref ht, .int (nI n1), .ref hk1, .ref ht1, .int (zb pb), .int (nI rn), .ref hfg, .ref hle, .ref hmo, .ref hwy, .int (nI tn), .ref htf, .long cm, .ref hod, .ref hwk, .ref hot, .int (nI ru), .ref hen]))] := hD
  refine lv_aload_n hx hb d_Mo_compared_5 rfl (lv_at hl 0 rfl) ?_
  refine va_get (D := DD) (ci := 9) (v := .long cm) (C := R_Mo) (T := T_Mo) (N := 21) hx hb hg in_Mo hown hK hP 0 rfl rfl 15 (by decide) (hg _ mw_694) (fun _ h9 => h9) rfl d_Mo_compared_6 ?_
  have hP9 := hP.sub (ws' := [(am, .inr (9, [.int (nI 0), .int (nI n), .ref hk, .ref ht, .int (nI n1), .ref hk1, .ref ht1, .int (zb pb), .int (nI rn), .ref hfg, .ref hle, .ref hmo, .ref hwy, .int (nI tn), .ref htf, .long cm, .ref hod, .ref hwk, .ref hot, .int (nI ru), .ref hen]))]) [0] rfl
  have hD9 := hD.sub (ws' := [(am, .inr (9, [.int (nI 0), .int (nI n), .ref hk, .ref ht, .int (nI n1), .ref hk1, .ref ht1, .int (zb pb), .int (nI rn), .ref hfg, .ref hle, .ref hmo, .ref hwy, .int (nI tn), .ref htf, .long cm, .ref hod, .ref hwk, .ref hot, .int (nI ru), .ref hen]))]) [0] (by decide) rfl
  exact W.lret (v := cm) hx hb hr (fun t9 ht9 hW9 => ⟨⟨_, (), rfl, rfl, by rw [ht9]; exact hP9, va_K.moved hW9.alike hK, hD9⟩, hS.F ht9⟩) hS.2.2 d_Mo_compared_9
theorem d_Mo_times_0 : decode b_Mo_times 0 = .ok (.aload_n 0, 1) := by decide +kernel
theorem d_Mo_times_1 : decode b_Mo_times 1 = .ok (.iload_n 1, 1) := by decide +kernel
theorem d_Mo_times_2 : decode b_Mo_times 2 = .ok (.invokestatic 86, 3) := by decide +kernel
theorem d_Mo_times_5 : decode b_Mo_times 5 = .ok (.ifCond .eq 7, 3) := by decide +kernel
theorem d_Mo_times_8 : decode b_Mo_times 8 = .ok (.iconst 0, 1) := by decide +kernel
theorem d_Mo_times_9 : decode b_Mo_times 9 = .ok (.goto 4, 3) := by decide +kernel
theorem d_Mo_times_12 : decode b_Mo_times 12 = .ok (.iconst 1, 1) := by decide +kernel
theorem d_Mo_times_13 : decode b_Mo_times 13 = .ok (.putfield 50, 3) := by decide +kernel
theorem d_Mo_times_16 : decode b_Mo_times 16 = .ok (.aload_n 0, 1) := by decide +kernel
theorem d_Mo_times_17 : decode b_Mo_times 17 = .ok (.getfield 50, 3) := by decide +kernel
theorem d_Mo_times_20 : decode b_Mo_times 20 = .ok (.ifCond .le 7, 3) := by decide +kernel
theorem d_Mo_times_23 : decode b_Mo_times 23 = .ok (.iconst 0, 1) := by decide +kernel
theorem d_Mo_times_24 : decode b_Mo_times 24 = .ok (.goto 9, 3) := by decide +kernel
theorem d_Mo_times_27 : decode b_Mo_times 27 = .ok (.aload_n 0, 1) := by decide +kernel
theorem d_Mo_times_28 : decode b_Mo_times 28 = .ok (.getfield 38, 3) := by decide +kernel
theorem d_Mo_times_31 : decode b_Mo_times 31 = .ok (.iload_n 1, 1) := by decide +kernel
theorem d_Mo_times_32 : decode b_Mo_times 32 = .ok (.iaload, 1) := by decide +kernel
theorem d_Mo_times_33 : decode b_Mo_times 33 = .ok (.ireturn, 1) := by decide +kernel
abbrev ws_Mo_times : List Cond := .code y_Mo_times b_Mo_times 2 (some .int) :: ALLG
abbrev rm_Mo_times : Room := { frames := 1, cells := 0, slots := 0, locals := 20 }
set_option maxHeartbeats 4000000 in
set_option maxRecDepth 100000 in
theorem c_Mo_times (l : Launch) (DD : va_G) (sz : Nat) (am : Nat) (th : Nat) (n : Nat) (hk : Nat) (ht : Nat) (n1 : Nat) (hk1 : Nat) (ht1 : Nat) (pb : Bool) (rn : Nat) (hfg : Nat) (hle : Nat) (hmo : Nat) (hwy : Nat) (tn : Nat) (htf : Nat) (cm : Int64) (hod : Nat) (cod : ClassId) (od : Nat → Nat) (hwk : Nat) (hot : Nat) (ru : Nat) (hen : Nat) (w : Nat) (hw5 : w < 5) : Met l y_Mo_times ws_Mo_times rm_Mo_times (va_Pc [.ref am, .int (nI w)] (fun U => U.heap.size = sz ∧ va_P DD vwCl [(am, .inr (9, [.int (nI th), .int (nI n), .ref hk, .ref ht, .int (nI n1), .ref hk1, .ref ht1, .int (zb pb), .int (nI rn), .ref hfg, .ref hle, .ref hmo, .ref hwy, .int (nI tn), .ref htf, .long cm, .ref hod, .ref hwk, .ref hot, .int (nI ru), .ref hen])), (hod, .inl (cod, 5, .inl (nF od)))] U.heap ∧ va_K DD vwCl [(cod, .int)] U ∧ va_D (fun _ => True) [(am, .inr (9, [.int (nI th), .int (nI n), .ref hk, .ref ht, .int (nI n1), .ref hk1, .ref ht1, .int (zb pb), .int (nI rn), .ref hfg, .ref hle, .ref hmo, .ref hwy, .int (nI tn), .ref htf, .long cm, .ref hod, .ref hwk, .ref hot, .int (nI ru), .ref hen])), (hod, .inl (cod, 5, .inl (nF od)))])) (va_Qi (fun (r9 : Int32) (u9 : Unit) => match u9 with | _ => r9 = nI (od w)) (fun (u9 : Unit) (t9 : State) => match u9 with | _ => va_P DD vwCl [(am, .inr (9, [.int (nI 0), .int (nI n), .ref hk, .ref ht, .int (nI n1), .ref hk1, .ref ht1, .int (zb pb), .int (nI rn), .ref hfg, .ref hle, .ref hmo, .ref hwy, .int (nI tn), .ref htf, .long cm, .ref hod, .ref hwk, .ref hot, .int (nI ru), .ref hen])), (hod, .inl (cod, 5, .inl (nF od)))] t9.heap ∧ va_K DD vwCl [(cod, .int)] t9 ∧ va_D (va_A [(am, .inr (9, [.int (nI th), .int (nI n), .ref hk, .ref ht, .int (nI n1), .ref hk1, .ref ht1, .int (zb pb), .int (nI rn), .ref hfg, .ref hle, .ref hmo, .ref hwy, .int (nI tn), .ref htf, .long cm, .ref hod, .ref hwk, .ref hot, .int (nI ru), .ref hen])), (hod, .inl (cod, 5, .inl (nF od)))] sz) [(am, .inr (9, [.int (nI 0), .int (nI n), .ref hk, .ref ht, .int (nI n1), .ref hk1, .ref ht1, .int (zb pb), .int (nI rn), .ref hfg, .ref hle, .ref hmo, .ref hwy, .int (nI tn), .ref htf, .long cm, .ref hod, .ref hwk, .ref hot, .int (nI ru), .ref hen])), (hod, .inl (cod, 5, .inl (nF od)))]) (va_A [(am, .inr (9, [.int (nI th), .int (nI n), .ref hk, .ref ht, .int (nI n1), .ref hk1, .ref ht1, .int (zb pb), .int (nI rn), .ref hfg, .ref hle, .ref hmo, .ref hwy, .int (nI tn), .ref htf, .long cm, .ref hod, .ref hwk, .ref hot, .int (nI ru), .ref hen])), (hod, .inl (cod, 5, .inl (nF od)))] sz)) 0 0 (va_A [(am, .inr (9, [.int (nI th), .int (nI n), .ref hk, .ref ht, .int (nI n1), .ref hk1, .ref ht1, .int (zb pb), .int (nI rn), .ref hfg, .ref hle, .ref hmo, .ref hwy, .int (nI tn), .ref htf, .long cm, .ref hod, .ref hwk, .ref hot, .int (nI ru), .ref hen])), (hod, .inl (cod, 5, .inl (nF od)))] sz) := by
  refine Met.ofW (cc := b_Mo_times) (maxL := 2) (ret := (some .int)) (by decide) rfl ?_
  intro p e s m args below meth c s₁ B hml hv
  obtain ⟨ha, hsz, hP, hK, hD0⟩ := hv
  have hx := B.exec
  have hb := B.bytes
  have hr := B.returns
  have hts := atoms_spec (ws := ws_Mo_times) B.pre
  have hg : ∀ w ∈ ALLG, w.before args s = true := fun w h => hts w (List.mem_cons_of_mem _ h)
  have hown : s.vm.findClass R_Mo = some m.cls := findClass_of_methodNamed B.named
  have hlocks := B.notSynchronized
  subst hsz
  have hD := hD0.self (sz := s.heap.size)
  generalize hAe : va_A [(am, .inr (9, [.int (nI th), .int (nI n), .ref hk, .ref ht, .int (nI n1), .ref hk1, .ref ht1, .int (zb pb), .int (nI rn), .ref hfg, .ref hle, .ref hmo, .ref hwy, .int (nI tn), .ref htf, .long cm, .ref hod, .ref hwk, .ref hot, .int (nI ru), .ref hen])), (hod, .inl (cod, 5, .inl (nF od)))] s.heap.size = A at hD ⊢
  have hA : ∀ q : Nat, s.heap.size ≤ q → A q := fun q h => by rw [← hAe]; exact Or.inr h
  have hS : va_S A s.heap s.heap [] := va_S.rf
  have hP : va_P DD vwCl [(am, .inr (9, [.int (nI th), .int (nI n), .ref hk, .ref ht, .int (nI n1), .ref hk1, .ref ht1, .int (zb pb), .int (nI rn), .ref hfg, .ref hle, .ref hmo, .ref hwy, .int (nI tn), .ref htf, .long cm, .ref hod, .ref hwk, .ref hot, .int (nI ru), .ref hen])), (hod, .inl (cod, 5, .inl (nF od)))] s.heap := hP
  have hl := lv_entry ([.ref am, .int (nI w)]) (n := 2) (Nat.le_of_ble_eq_true rfl)
  rw [ha, lg_entry_eq, ← ha]
  generalize (lg_sl ([.ref am, .int (nI w)]) ++ List.replicate (2 - (lg_sl ([.ref am, .int (nI w)])).length) Slot.unset).toArray = ls at hl ⊢
  have hl : lv_has ls 2 [(0, .ref am), (1, .int (nI w))] := hl
  refine lv_aload_n hx hb d_Mo_times_0 rfl (lv_at hl 0 rfl) ?_
  refine lv_iload_n hx hb d_Mo_times_1 rfl (lv_at hl 1 rfl) ?_
  have hPc := hP.sub (ws' := []) [] rfl
  have hKc := hK.sub (tys' := []) [] rfl
  refine vp_callSi (W.runS (As := [.int (nI w)]) (rest := [.ref am]) ⟨hx, hb, hml, hown, hg⟩ (c_Mo_isWay l DD (nI w)) (cwS 1 hg (gi_S mw_799 mw_800 mw_11 mw_801) rfl rfl rfl (by decide +kernel) ⟨Nat.le_of_ble_eq_true rfl, Nat.le_of_ble_eq_true rfl⟩) ⟨z_blind, z_pre hPc hKc⟩ rfl rfl hl.1 rfl (lv_room (Nat.le_of_ble_eq_true rfl)) d_Mo_times_2 ⟨Nat.zero_le _, Nat.zero_le _⟩) (fun r_2 hr_2 => ?_)
  subst hr_2
  refine z_ifb_eq (tgt := 12) hx hb d_Mo_times_5 (by decide) (fun c_5 => ?_) (fun c_5 => ?_)
  · exact absurd c_5 (by rw [hasB_nI (by omega) (by omega)]; decide)
  · refine lv_iconst (v := nI 0) hx hb d_Mo_times_8 (by decide) ?_
    refine lv_goto (tgt := 13) hx hb d_Mo_times_9 (by decide) ?_
    refine va_put (D := DD) (ci := 9) (v := .int (nI 0)) (ty := .int) (C := R_Mo) (T := T_Mo) (N := 21) hx hb hg in_Mo t_Mo to_Mo n_Mo hown hK hP hD hS 0 rfl rfl 0 (by decide) (hg _ mw_679) (fun _ h9 => h9) rfl (by decide +kernel) rfl rfl (Nat.le_of_ble_eq_true rfl) d_Mo_times_13 (fun H locs hP hD hS => ?_)
    have hP : va_P DD vwCl [(am, .inr (9, [.int (nI 0), .int (nI n), .ref hk, .ref ht, .int (nI n1), .ref hk1, .ref ht1, .int (zb pb), .int (nI rn), .ref hfg, .ref hle, .ref hmo, .ref hwy, .int (nI tn), .ref htf, .long cm, .ref hod, .ref hwk, .ref hot, .int (nI ru), .ref hen])), (hod, .inl (cod, 5, .inl (nF od)))] H := hP
    have hD : va_D A [(am, .inr (9, [.int (nI 0), .int (nI n), .ref hk, .ref ht, .int (nI n1), .ref hk1, .ref ht1, .int (zb pb), .int (nI rn), .ref hfg, .ref hle, .ref hmo, .ref hwy, .int (nI tn), .ref htf, .long cm, .ref hod, .ref hwk, .ref hot, .int (nI ru), .ref hen])), (hod, .inl (cod, 5, .inl (nF od)))] := hD
    refine lv_aload_n hx hb d_Mo_times_16 rfl (lv_at hl 0 rfl) ?_
    refine va_get (D := DD) (ci := 9) (v := .int (nI 0)) (C := R_Mo) (T := T_Mo) (N := 21) hx hb hg in_Mo hown hK hP 0 rfl rfl 0 (by decide) (hg _ mw_679) (fun _ h9 => h9) rfl d_Mo_times_17 ?_
    refine z_if_le (tgt := 27) hx hb d_Mo_times_20 (by decide) (by omega) (fun c_20 => ?_) (fun c_20 => ?_)
    · refine lv_aload_n hx hb d_Mo_times_27 rfl (lv_at hl 0 rfl) ?_
      refine va_get (D := DD) (ci := 9) (v := .ref hod) (C := R_Mo) (T := T_Mo) (N := 21) hx hb hg in_Mo hown hK hP 0 rfl rfl 16 (by decide) (hg _ mw_695) (fun _ h9 => h9) rfl d_Mo_times_28 ?_
      refine lv_iload_n hx hb d_Mo_times_31 rfl (lv_at hl 1 rfl) ?_
      refine z_ialdN hx hb hK hP 1 0 rfl rfl (by omega) (by decide) d_Mo_times_32 ?_
      have hP9 := hP.sub (ws' := [(am, .inr (9, [.int (nI 0), .int (nI n), .ref hk, .ref ht, .int (nI n1), .ref hk1, .ref ht1, .int (zb pb), .int (nI rn), .ref hfg, .ref hle, .ref hmo, .ref hwy, .int (nI tn), .ref htf, .long cm, .ref hod, .ref hwk, .ref hot, .int (nI ru), .ref hen])), (hod, .inl (cod, 5, .inl (nF od)))]) [0, 1] rfl
      have hD9 := hD.sub (ws' := [(am, .inr (9, [.int (nI 0), .int (nI n), .ref hk, .ref ht, .int (nI n1), .ref hk1, .ref ht1, .int (zb pb), .int (nI rn), .ref hfg, .ref hle, .ref hmo, .ref hwy, .int (nI tn), .ref htf, .long cm, .ref hod, .ref hwk, .ref hot, .int (nI ru), .ref hen])), (hod, .inl (cod, 5, .inl (nF od)))]) [0, 1] (by decide) rfl
      exact W.iret (v := nI (od w)) hx hb hr (fun t9 ht9 hW9 => ⟨⟨_, (), rfl, rfl, by rw [ht9]; exact hP9, va_K.moved hW9.alike hK, hD9⟩, hS.F ht9⟩) hS.2.2 d_Mo_times_33
    · exact absurd c_20 (by decide)
abbrev rm_Mo_times_T : Room := { frames := 1, cells := 0, slots := 0, locals := 20 }
set_option maxHeartbeats 4000000 in
set_option maxRecDepth 100000 in
theorem c_Mo_times_T (l : Launch) (DD : va_G) (sz : Nat) (am : Nat) (th : Nat) (n : Nat) (hk : Nat) (ht : Nat) (n1 : Nat) (hk1 : Nat) (ht1 : Nat) (pb : Bool) (rn : Nat) (hfg : Nat) (hle : Nat) (hmo : Nat) (hwy : Nat) (tn : Nat) (htf : Nat) (cm : Int64) (hod : Nat) (hwk : Nat) (hot : Nat) (ru : Nat) (hen : Nat) (v : Int32) (hf : hasB v 5 = false) : Met l y_Mo_times ws_Mo_times rm_Mo_times_T (va_Pc [.ref am, .int v] (fun U => U.heap.size = sz ∧ va_P DD vwCl [(am, .inr (9, [.int (nI th), .int (nI n), .ref hk, .ref ht, .int (nI n1), .ref hk1, .ref ht1, .int (zb pb), .int (nI rn), .ref hfg, .ref hle, .ref hmo, .ref hwy, .int (nI tn), .ref htf, .long cm, .ref hod, .ref hwk, .ref hot, .int (nI ru), .ref hen]))] U.heap ∧ va_K DD vwCl [] U ∧ va_D (fun _ => True) [(am, .inr (9, [.int (nI th), .int (nI n), .ref hk, .ref ht, .int (nI n1), .ref hk1, .ref ht1, .int (zb pb), .int (nI rn), .ref hfg, .ref hle, .ref hmo, .ref hwy, .int (nI tn), .ref htf, .long cm, .ref hod, .ref hwk, .ref hot, .int (nI ru), .ref hen]))])) (va_Qi (fun (r9 : Int32) (u9 : Unit) => match u9 with | _ => r9 = nI 0) (fun (u9 : Unit) (t9 : State) => match u9 with | _ => va_P DD vwCl [(am, .inr (9, [.int (nI 1), .int (nI n), .ref hk, .ref ht, .int (nI n1), .ref hk1, .ref ht1, .int (zb pb), .int (nI rn), .ref hfg, .ref hle, .ref hmo, .ref hwy, .int (nI tn), .ref htf, .long cm, .ref hod, .ref hwk, .ref hot, .int (nI ru), .ref hen]))] t9.heap ∧ va_K DD vwCl [] t9 ∧ va_D (va_A [(am, .inr (9, [.int (nI th), .int (nI n), .ref hk, .ref ht, .int (nI n1), .ref hk1, .ref ht1, .int (zb pb), .int (nI rn), .ref hfg, .ref hle, .ref hmo, .ref hwy, .int (nI tn), .ref htf, .long cm, .ref hod, .ref hwk, .ref hot, .int (nI ru), .ref hen]))] sz) [(am, .inr (9, [.int (nI 1), .int (nI n), .ref hk, .ref ht, .int (nI n1), .ref hk1, .ref ht1, .int (zb pb), .int (nI rn), .ref hfg, .ref hle, .ref hmo, .ref hwy, .int (nI tn), .ref htf, .long cm, .ref hod, .ref hwk, .ref hot, .int (nI ru), .ref hen]))]) (va_A [(am, .inr (9, [.int (nI th), .int (nI n), .ref hk, .ref ht, .int (nI n1), .ref hk1, .ref ht1, .int (zb pb), .int (nI rn), .ref hfg, .ref hle, .ref hmo, .ref hwy, .int (nI tn), .ref htf, .long cm, .ref hod, .ref hwk, .ref hot, .int (nI ru), .ref hen]))] sz)) 0 0 (va_A [(am, .inr (9, [.int (nI th), .int (nI n), .ref hk, .ref ht, .int (nI n1), .ref hk1, .ref ht1, .int (zb pb), .int (nI rn), .ref hfg, .ref hle, .ref hmo, .ref hwy, .int (nI tn), .ref htf, .long cm, .ref hod, .ref hwk, .ref hot, .int (nI ru), .ref hen]))] sz) := by
  refine Met.ofW (cc := b_Mo_times) (maxL := 2) (ret := (some .int)) (by decide) rfl ?_
  intro p e s m args below meth c s₁ B hml hv
  obtain ⟨ha, hsz, hP, hK, hD0⟩ := hv
  have hx := B.exec
  have hb := B.bytes
  have hr := B.returns
  have hts := atoms_spec (ws := ws_Mo_times) B.pre
  have hg : ∀ w ∈ ALLG, w.before args s = true := fun w h => hts w (List.mem_cons_of_mem _ h)
  have hown : s.vm.findClass R_Mo = some m.cls := findClass_of_methodNamed B.named
  have hlocks := B.notSynchronized
  subst hsz
  have hD := hD0.self (sz := s.heap.size)
  generalize hAe : va_A [(am, .inr (9, [.int (nI th), .int (nI n), .ref hk, .ref ht, .int (nI n1), .ref hk1, .ref ht1, .int (zb pb), .int (nI rn), .ref hfg, .ref hle, .ref hmo, .ref hwy, .int (nI tn), .ref htf, .long cm, .ref hod, .ref hwk, .ref hot, .int (nI ru), .ref hen]))] s.heap.size = A at hD ⊢
  have hA : ∀ q : Nat, s.heap.size ≤ q → A q := fun q h => by rw [← hAe]; exact Or.inr h
  have hS : va_S A s.heap s.heap [] := va_S.rf
  have hP : va_P DD vwCl [(am, .inr (9, [.int (nI th), .int (nI n), .ref hk, .ref ht, .int (nI n1), .ref hk1, .ref ht1, .int (zb pb), .int (nI rn), .ref hfg, .ref hle, .ref hmo, .ref hwy, .int (nI tn), .ref htf, .long cm, .ref hod, .ref hwk, .ref hot, .int (nI ru), .ref hen]))] s.heap := hP
  have hl := lv_entry ([.ref am, .int v]) (n := 2) (Nat.le_of_ble_eq_true rfl)
  rw [ha, lg_entry_eq, ← ha]
  generalize (lg_sl ([.ref am, .int v]) ++ List.replicate (2 - (lg_sl ([.ref am, .int v])).length) Slot.unset).toArray = ls at hl ⊢
  have hl : lv_has ls 2 [(0, .ref am), (1, .int v)] := hl
  refine lv_aload_n hx hb d_Mo_times_0 rfl (lv_at hl 0 rfl) ?_
  refine lv_iload_n hx hb d_Mo_times_1 rfl (lv_at hl 1 rfl) ?_
  have hPc := hP.sub (ws' := []) [] rfl
  have hKc := hK.sub (tys' := []) [] rfl
  refine vp_callSi (W.runS (As := [.int v]) (rest := [.ref am]) ⟨hx, hb, hml, hown, hg⟩ (c_Mo_isWay l DD v) (cwS 1 hg (gi_S mw_799 mw_800 mw_11 mw_801) rfl rfl rfl (by decide +kernel) ⟨Nat.le_of_ble_eq_true rfl, Nat.le_of_ble_eq_true rfl⟩) ⟨z_blind, z_pre hPc hKc⟩ rfl rfl hl.1 rfl (lv_room (Nat.le_of_ble_eq_true rfl)) d_Mo_times_2 ⟨Nat.zero_le _, Nat.zero_le _⟩) (fun r_2 hr_2 => ?_)
  subst hr_2
  refine z_ifb_eq (tgt := 12) hx hb d_Mo_times_5 (by decide) (fun c_5 => ?_) (fun c_5 => ?_)
  · refine lv_iconst (v := nI 1) hx hb d_Mo_times_12 (by decide) ?_
    refine va_put (D := DD) (ci := 9) (v := .int (nI 1)) (ty := .int) (C := R_Mo) (T := T_Mo) (N := 21) hx hb hg in_Mo t_Mo to_Mo n_Mo hown hK hP hD hS 0 rfl rfl 0 (by decide) (hg _ mw_679) (fun _ h9 => h9) rfl (by decide +kernel) rfl rfl (Nat.le_of_ble_eq_true rfl) d_Mo_times_13 (fun H locs hP hD hS => ?_)
    have hP : va_P DD vwCl [(am, .inr (9, [.int (nI 1), .int (nI n), .ref hk, .ref ht, .int (nI n1), .ref hk1, .ref ht1, .int (zb pb), .int (nI rn), .ref hfg, .ref hle, .ref hmo, .ref hwy, .int (nI tn), .ref htf, .long cm, .ref hod, .ref hwk, .ref hot, .int (nI ru), .ref hen]))] H := hP
    have hD : va_D A [(am, .inr (9, [.int (nI 1), .int (nI n), .ref hk, .ref ht, .int (nI n1), .ref hk1, .ref ht1, .int (zb pb), .int (nI rn), .ref hfg, .ref hle, .ref hmo, .ref hwy, .int (nI tn), .ref htf, .long cm, .ref hod, .ref hwk, .ref hot, .int (nI ru), .ref hen]))] := hD
    refine lv_aload_n hx hb d_Mo_times_16 rfl (lv_at hl 0 rfl) ?_
    refine va_get (D := DD) (ci := 9) (v := .int (nI 1)) (C := R_Mo) (T := T_Mo) (N := 21) hx hb hg in_Mo hown hK hP 0 rfl rfl 0 (by decide) (hg _ mw_679) (fun _ h9 => h9) rfl d_Mo_times_17 ?_
    refine z_if_le (tgt := 27) hx hb d_Mo_times_20 (by decide) (by omega) (fun c_20 => ?_) (fun c_20 => ?_)
    · exact absurd c_20 (by decide)
    · refine lv_iconst (v := nI 0) hx hb d_Mo_times_23 (by decide) ?_
      refine lv_goto (tgt := 33) hx hb d_Mo_times_24 (by decide) ?_
      have hP9 := hP.sub (ws' := [(am, .inr (9, [.int (nI 1), .int (nI n), .ref hk, .ref ht, .int (nI n1), .ref hk1, .ref ht1, .int (zb pb), .int (nI rn), .ref hfg, .ref hle, .ref hmo, .ref hwy, .int (nI tn), .ref htf, .long cm, .ref hod, .ref hwk, .ref hot, .int (nI ru), .ref hen]))]) [0] rfl
      have hD9 := hD.sub (ws' := [(am, .inr (9, [.int (nI 1), .int (nI n), .ref hk, .ref ht, .int (nI n1), .ref hk1, .ref ht1, .int (zb pb), .int (nI rn), .ref hfg, .ref hle, .ref hmo, .ref hwy, .int (nI tn), .ref htf, .long cm, .ref hod, .ref hwk, .ref hot, .int (nI ru), .ref hen]))]) [0] (by decide) rfl
      exact W.iret (v := nI 0) hx hb hr (fun t9 ht9 hW9 => ⟨⟨_, (), rfl, rfl, by rw [ht9]; exact hP9, va_K.moved hW9.alike hK, hD9⟩, hS.F ht9⟩) hS.2.2 d_Mo_times_33
  · exact absurd c_5 (by rw [hf]; decide)
theorem d_Mo_astray_0 : decode b_Mo_astray 0 = .ok (.aload_n 0, 1) := by decide +kernel
theorem d_Mo_astray_1 : decode b_Mo_astray 1 = .ok (.iconst 0, 1) := by decide +kernel
theorem d_Mo_astray_2 : decode b_Mo_astray 2 = .ok (.putfield 50, 3) := by decide +kernel
theorem d_Mo_astray_5 : decode b_Mo_astray 5 = .ok (.iconst 0, 1) := by decide +kernel
theorem d_Mo_astray_6 : decode b_Mo_astray 6 = .ok (.ireturn, 1) := by decide +kernel
abbrev ws_Mo_astray : List Cond := .code y_Mo_astray b_Mo_astray 1 (some .int) :: ALLG
abbrev rm_Mo_astray : Room := { frames := 0, cells := 0, slots := 0, locals := 0 }
set_option maxHeartbeats 4000000 in
set_option maxRecDepth 100000 in
theorem c_Mo_astray (l : Launch) (DD : va_G) (sz : Nat) (am : Nat) (th : Nat) (n : Nat) (hk : Nat) (ht : Nat) (n1 : Nat) (hk1 : Nat) (ht1 : Nat) (pb : Bool) (rn : Nat) (hfg : Nat) (hle : Nat) (hmo : Nat) (hwy : Nat) (tn : Nat) (htf : Nat) (cm : Int64) (hod : Nat) (hwk : Nat) (hot : Nat) (ru : Nat) (hen : Nat) : Met l y_Mo_astray ws_Mo_astray rm_Mo_astray (va_Pc [.ref am] (fun U => U.heap.size = sz ∧ va_P DD vwCl [(am, .inr (9, [.int (nI th), .int (nI n), .ref hk, .ref ht, .int (nI n1), .ref hk1, .ref ht1, .int (zb pb), .int (nI rn), .ref hfg, .ref hle, .ref hmo, .ref hwy, .int (nI tn), .ref htf, .long cm, .ref hod, .ref hwk, .ref hot, .int (nI ru), .ref hen]))] U.heap ∧ va_K DD vwCl [] U ∧ va_D (fun _ => True) [(am, .inr (9, [.int (nI th), .int (nI n), .ref hk, .ref ht, .int (nI n1), .ref hk1, .ref ht1, .int (zb pb), .int (nI rn), .ref hfg, .ref hle, .ref hmo, .ref hwy, .int (nI tn), .ref htf, .long cm, .ref hod, .ref hwk, .ref hot, .int (nI ru), .ref hen]))])) (va_Qi (fun (r9 : Int32) (u9 : Unit) => match u9 with | _ => r9 = nI 0) (fun (u9 : Unit) (t9 : State) => match u9 with | _ => va_P DD vwCl [(am, .inr (9, [.int (nI 0), .int (nI n), .ref hk, .ref ht, .int (nI n1), .ref hk1, .ref ht1, .int (zb pb), .int (nI rn), .ref hfg, .ref hle, .ref hmo, .ref hwy, .int (nI tn), .ref htf, .long cm, .ref hod, .ref hwk, .ref hot, .int (nI ru), .ref hen]))] t9.heap ∧ va_K DD vwCl [] t9 ∧ va_D (va_A [(am, .inr (9, [.int (nI th), .int (nI n), .ref hk, .ref ht, .int (nI n1), .ref hk1, .ref ht1, .int (zb pb), .int (nI rn), .ref hfg, .ref hle, .ref hmo, .ref hwy, .int (nI tn), .ref htf, .long cm, .ref hod, .ref hwk, .ref hot, .int (nI ru), .ref hen]))] sz) [(am, .inr (9, [.int (nI 0), .int (nI n), .ref hk, .ref ht, .int (nI n1), .ref hk1, .ref ht1, .int (zb pb), .int (nI rn), .ref hfg, .ref hle, .ref hmo, .ref hwy, .int (nI tn), .ref htf, .long cm, .ref hod, .ref hwk, .ref hot, .int (nI ru), .ref hen]))]) (va_A [(am, .inr (9, [.int (nI th), .int (nI n), .ref hk, .ref ht, .int (nI n1), .ref hk1, .ref ht1, .int (zb pb), .int (nI rn), .ref hfg, .ref hle, .ref hmo, .ref hwy, .int (nI tn), .ref htf, .long cm, .ref hod, .ref hwk, .ref hot, .int (nI ru), .ref hen]))] sz)) 0 0 (va_A [(am, .inr (9, [.int (nI th), .int (nI n), .ref hk, .ref ht, .int (nI n1), .ref hk1, .ref ht1, .int (zb pb), .int (nI rn), .ref hfg, .ref hle, .ref hmo, .ref hwy, .int (nI tn), .ref htf, .long cm, .ref hod, .ref hwk, .ref hot, .int (nI ru), .ref hen]))] sz) := by
  refine Met.ofW (cc := b_Mo_astray) (maxL := 1) (ret := (some .int)) (by decide) rfl ?_
  intro p e s m args below meth c s₁ B hml hv
  obtain ⟨ha, hsz, hP, hK, hD0⟩ := hv
  have hx := B.exec
  have hb := B.bytes
  have hr := B.returns
  have hts := atoms_spec (ws := ws_Mo_astray) B.pre
  have hg : ∀ w ∈ ALLG, w.before args s = true := fun w h => hts w (List.mem_cons_of_mem _ h)
  have hown : s.vm.findClass R_Mo = some m.cls := findClass_of_methodNamed B.named
  have hlocks := B.notSynchronized
  subst hsz
  have hD := hD0.self (sz := s.heap.size)
  generalize hAe : va_A [(am, .inr (9, [.int (nI th), .int (nI n), .ref hk, .ref ht, .int (nI n1), .ref hk1, .ref ht1, .int (zb pb), .int (nI rn), .ref hfg, .ref hle, .ref hmo, .ref hwy, .int (nI tn), .ref htf, .long cm, .ref hod, .ref hwk, .ref hot, .int (nI ru), .ref hen]))] s.heap.size = A at hD ⊢
  have hA : ∀ q : Nat, s.heap.size ≤ q → A q := fun q h => by rw [← hAe]; exact Or.inr h
  have hS : va_S A s.heap s.heap [] := va_S.rf
  have hP : va_P DD vwCl [(am, .inr (9, [.int (nI th), .int (nI n), .ref hk, .ref ht, .int (nI n1), .ref hk1, .ref ht1, .int (zb pb), .int (nI rn), .ref hfg, .ref hle, .ref hmo, .ref hwy, .int (nI tn), .ref htf, .long cm, .ref hod, .ref hwk, .ref hot, .int (nI ru), .ref hen]))] s.heap := hP
  have hl := lv_entry ([.ref am]) (n := 1) (Nat.le_of_ble_eq_true rfl)
  rw [ha, lg_entry_eq, ← ha]
  generalize (lg_sl ([.ref am]) ++ List.replicate (1 - (lg_sl ([.ref am])).length) Slot.unset).toArray = ls at hl ⊢
  have hl : lv_has ls 1 [(0, .ref am)] := hl
  refine lv_aload_n hx hb d_Mo_astray_0 rfl (lv_at hl 0 rfl) ?_
  refine lv_iconst (v := nI 0) hx hb d_Mo_astray_1 (by decide) ?_
  refine va_put (D := DD) (ci := 9) (v := .int (nI 0)) (ty := .int) (C := R_Mo) (T := T_Mo) (N := 21) hx hb hg in_Mo t_Mo to_Mo n_Mo hown hK hP hD hS 0 rfl rfl 0 (by decide) (hg _ mw_679) (fun _ h9 => h9) rfl (by decide +kernel) rfl rfl (Nat.le_of_ble_eq_true rfl) d_Mo_astray_2 (fun H locs hP hD hS => ?_)
  have hP : va_P DD vwCl [(am, .inr (9, [.int (nI 0), .int (nI n), .ref hk, .ref ht, .int (nI n1), .ref hk1, .ref ht1, .int (zb pb), .int (nI rn), .ref hfg, .ref hle, .ref hmo, .ref hwy, .int (nI tn), .ref htf, .long cm, .ref hod, .ref hwk, .ref hot, .int (nI ru), .ref hen]))] H := hP
  have hD : va_D A [(am, .inr (9, [.int (nI 0), .int (nI n), .ref hk, .ref ht, .int (nI n1), .ref hk1, .ref ht1, .int (zb pb), .int (nI rn), .ref hfg, .ref hle, .ref hmo, .ref hwy, .int (nI tn), .ref htf, .long cm, .ref hod, .ref hwk, .ref hot, .int (nI ru), .ref hen]))] := hD
  refine lv_iconst (v := nI 0) hx hb d_Mo_astray_5 (by decide) ?_
  have hP9 := hP.sub (ws' := [(am, .inr (9, [.int (nI 0), .int (nI n), .ref hk, .ref ht, .int (nI n1), .ref hk1, .ref ht1, .int (zb pb), .int (nI rn), .ref hfg, .ref hle, .ref hmo, .ref hwy, .int (nI tn), .ref htf, .long cm, .ref hod, .ref hwk, .ref hot, .int (nI ru), .ref hen]))]) [0] rfl
  have hD9 := hD.sub (ws' := [(am, .inr (9, [.int (nI 0), .int (nI n), .ref hk, .ref ht, .int (nI n1), .ref hk1, .ref ht1, .int (zb pb), .int (nI rn), .ref hfg, .ref hle, .ref hmo, .ref hwy, .int (nI tn), .ref htf, .long cm, .ref hod, .ref hwk, .ref hot, .int (nI ru), .ref hen]))]) [0] (by decide) rfl
  exact W.iret (v := nI 0) hx hb hr (fun t9 ht9 hW9 => ⟨⟨_, (), rfl, rfl, by rw [ht9]; exact hP9, va_K.moved hW9.alike hK, hD9⟩, hS.F ht9⟩) hS.2.2 d_Mo_astray_6
