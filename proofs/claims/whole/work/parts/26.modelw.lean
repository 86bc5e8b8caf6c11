theorem d_Mo_open_0 : decode b_Mo_open 0 = .ok (.aload_n 0, 1) := by decide +kernel
theorem d_Mo_open_1 : decode b_Mo_open 1 = .ok (.getfield 54, 3) := by decide +kernel
theorem d_Mo_open_4 : decode b_Mo_open 4 = .ok (.istore 4, 2) := by decide +kernel
theorem d_Mo_open_6 : decode b_Mo_open 6 = .ok (.iload 4, 2) := by decide +kernel
theorem d_Mo_open_8 : decode b_Mo_open 8 = .ok (.iload_n 1, 1) := by decide +kernel
theorem d_Mo_open_9 : decode b_Mo_open 9 = .ok (.if_icmp .le 41, 3) := by decide +kernel
theorem d_Mo_open_12 : decode b_Mo_open 12 = .ok (.aload_n 0, 1) := by decide +kernel
theorem d_Mo_open_13 : decode b_Mo_open 13 = .ok (.getfield 7, 3) := by decide +kernel
theorem d_Mo_open_16 : decode b_Mo_open 16 = .ok (.iload 4, 2) := by decide +kernel
theorem d_Mo_open_18 : decode b_Mo_open 18 = .ok (.aload_n 0, 1) := by decide +kernel
theorem d_Mo_open_19 : decode b_Mo_open 19 = .ok (.getfield 7, 3) := by decide +kernel
theorem d_Mo_open_22 : decode b_Mo_open 22 = .ok (.iload 4, 2) := by decide +kernel
theorem d_Mo_open_24 : decode b_Mo_open 24 = .ok (.iconst 1, 1) := by decide +kernel
theorem d_Mo_open_25 : decode b_Mo_open 25 = .ok (.isub, 1) := by decide +kernel
theorem d_Mo_open_26 : decode b_Mo_open 26 = .ok (.iaload, 1) := by decide +kernel
theorem d_Mo_open_27 : decode b_Mo_open 27 = .ok (.iastore, 1) := by decide +kernel
theorem d_Mo_open_28 : decode b_Mo_open 28 = .ok (.aload_n 0, 1) := by decide +kernel
theorem d_Mo_open_29 : decode b_Mo_open 29 = .ok (.getfield 13, 3) := by decide +kernel
theorem d_Mo_open_32 : decode b_Mo_open 32 = .ok (.iload 4, 2) := by decide +kernel
theorem d_Mo_open_34 : decode b_Mo_open 34 = .ok (.aload_n 0, 1) := by decide +kernel
theorem d_Mo_open_35 : decode b_Mo_open 35 = .ok (.getfield 13, 3) := by decide +kernel
theorem d_Mo_open_38 : decode b_Mo_open 38 = .ok (.iload 4, 2) := by decide +kernel
theorem d_Mo_open_40 : decode b_Mo_open 40 = .ok (.iconst 1, 1) := by decide +kernel
theorem d_Mo_open_41 : decode b_Mo_open 41 = .ok (.isub, 1) := by decide +kernel
theorem d_Mo_open_42 : decode b_Mo_open 42 = .ok (.iaload, 1) := by decide +kernel
theorem d_Mo_open_43 : decode b_Mo_open 43 = .ok (.iastore, 1) := by decide +kernel
theorem d_Mo_open_44 : decode b_Mo_open 44 = .ok (.iinc 4 (-1), 3) := by decide +kernel
theorem d_Mo_open_47 : decode b_Mo_open 47 = .ok (.goto (-41), 3) := by decide +kernel
theorem d_Mo_open_50 : decode b_Mo_open 50 = .ok (.aload_n 0, 1) := by decide +kernel
theorem d_Mo_open_51 : decode b_Mo_open 51 = .ok (.getfield 7, 3) := by decide +kernel
theorem d_Mo_open_54 : decode b_Mo_open 54 = .ok (.iload_n 1, 1) := by decide +kernel
theorem d_Mo_open_55 : decode b_Mo_open 55 = .ok (.iload_n 2, 1) := by decide +kernel
theorem d_Mo_open_56 : decode b_Mo_open 56 = .ok (.iastore, 1) := by decide +kernel
theorem d_Mo_open_57 : decode b_Mo_open 57 = .ok (.aload_n 0, 1) := by decide +kernel
theorem d_Mo_open_58 : decode b_Mo_open 58 = .ok (.getfield 13, 3) := by decide +kernel
theorem d_Mo_open_61 : decode b_Mo_open 61 = .ok (.iload_n 1, 1) := by decide +kernel
theorem d_Mo_open_62 : decode b_Mo_open 62 = .ok (.iload_n 3, 1) := by decide +kernel
theorem d_Mo_open_63 : decode b_Mo_open 63 = .ok (.iastore, 1) := by decide +kernel
theorem d_Mo_open_64 : decode b_Mo_open 64 = .ok (.aload_n 0, 1) := by decide +kernel
theorem d_Mo_open_65 : decode b_Mo_open 65 = .ok (.dup, 1) := by decide +kernel
theorem d_Mo_open_66 : decode b_Mo_open 66 = .ok (.getfield 54, 3) := by decide +kernel
theorem d_Mo_open_69 : decode b_Mo_open 69 = .ok (.iconst 1, 1) := by decide +kernel
theorem d_Mo_open_70 : decode b_Mo_open 70 = .ok (.iadd, 1) := by decide +kernel
theorem d_Mo_open_71 : decode b_Mo_open 71 = .ok (.putfield 54, 3) := by decide +kernel
theorem d_Mo_open_74 : decode b_Mo_open 74 = .ok (.aload_n 0, 1) := by decide +kernel
theorem d_Mo_open_75 : decode b_Mo_open 75 = .ok (.iconst 0, 1) := by decide +kernel
theorem d_Mo_open_76 : decode b_Mo_open 76 = .ok (.putfield 57, 3) := by decide +kernel
theorem d_Mo_open_79 : decode b_Mo_open 79 = .ok (.return_, 1) := by decide +kernel
abbrev ws_Mo_open : List Cond := .code y_Mo_open b_Mo_open 5 none :: ALLG
abbrev rm_Mo_open : Room := { frames := 0, cells := 0, slots := 0, locals := 0 }
set_option maxHeartbeats 4000000 in
set_option maxRecDepth 100000 in
theorem c_Mo_open (l : Launch) (DD : va_G) (sz : Nat) (am : Nat) (th : Nat) (n : Nat) (hk : Nat) (ck : ClassId) (k : Nat → Int32) (ht : Nat) (ct : ClassId) (t : Nat → Int32) (n1 : Nat) (hk1 : Nat) (ht1 : Nat) (pb : Bool) (rn : Nat) (hfg : Nat) (hle : Nat) (hmo : Nat) (hwy : Nat) (tn : Nat) (htf : Nat) (cm : Int64) (hod : Nat) (hwk : Nat) (hot : Nat) (ru : Nat) (hen : Nat) (j : Nat) (x : Int32) (y : Int32) (hn : n < 150) (hj : j ≤ n) : Met l y_Mo_open ws_Mo_open rm_Mo_open (va_Pc [.ref am, .int (nI j), .int x, .int y] (fun U => U.heap.size = sz ∧ va_P DD vwCl [(am, .inr (9, [.int (nI th), .int (nI n), .ref hk, .ref ht, .int (nI n1), .ref hk1, .ref ht1, .int (zb pb), .int (nI rn), .ref hfg, .ref hle, .ref hmo, .ref hwy, .int (nI tn), .ref htf, .long cm, .ref hod, .ref hwk, .ref hot, .int (nI ru), .ref hen])), (hk, .inl (ck, 150, .inl k)), (ht, .inl (ct, 150, .inl t))] U.heap ∧ va_K DD vwCl [(ck, .int), (ct, .int)] U ∧ va_D (fun _ => True) [(am, .inr (9, [.int (nI th), .int (nI n), .ref hk, .ref ht, .int (nI n1), .ref hk1, .ref ht1, .int (zb pb), .int (nI rn), .ref hfg, .ref hle, .ref hmo, .ref hwy, .int (nI tn), .ref htf, .long cm, .ref hod, .ref hwk, .ref hot, .int (nI ru), .ref hen])), (hk, .inl (ck, 150, .inl k)), (ht, .inl (ct, 150, .inl t))])) (va_Qv (fun (u9 : Unit) => match u9 with | _ => True) (fun (u9 : Unit) (t9 : State) => match u9 with | _ => va_P DD vwCl [(am, .inr (9, [.int (nI th), .int (nI (n + 1)), .ref hk, .ref ht, .int (nI n1), .ref hk1, .ref ht1, .int (zb false), .int (nI rn), .ref hfg, .ref hle, .ref hmo, .ref hwy, .int (nI tn), .ref htf, .long cm, .ref hod, .ref hwk, .ref hot, .int (nI ru), .ref hen])), (hk, .inl (ck, 150, .inl (upd (va_cpy k k j (j + 1) (n - j)) j x))), (ht, .inl (ct, 150, .inl (upd (va_cpy t t j (j + 1) (n - j)) j y)))] t9.heap ∧ va_K DD vwCl [(ck, .int), (ct, .int)] t9 ∧ va_D (va_A [(am, .inr (9, [.int (nI th), .int (nI n), .ref hk, .ref ht, .int (nI n1), .ref hk1, .ref ht1, .int (zb pb), .int (nI rn), .ref hfg, .ref hle, .ref hmo, .ref hwy, .int (nI tn), .ref htf, .long cm, .ref hod, .ref hwk, .ref hot, .int (nI ru), .ref hen])), (hk, .inl (ck, 150, .inl k)), (ht, .inl (ct, 150, .inl t))] sz) [(am, .inr (9, [.int (nI th), .int (nI (n + 1)), .ref hk, .ref ht, .int (nI n1), .ref hk1, .ref ht1, .int (zb false), .int (nI rn), .ref hfg, .ref hle, .ref hmo, .ref hwy, .int (nI tn), .ref htf, .long cm, .ref hod, .ref hwk, .ref hot, .int (nI ru), .ref hen])), (hk, .inl (ck, 150, .inl (upd (va_cpy k k j (j + 1) (n - j)) j x))), (ht, .inl (ct, 150, .inl (upd (va_cpy t t j (j + 1) (n - j)) j y)))]) (va_A [(am, .inr (9, [.int (nI th), .int (nI n), .ref hk, .ref ht, .int (nI n1), .ref hk1, .ref ht1, .int (zb pb), .int (nI rn), .ref hfg, .ref hle, .ref hmo, .ref hwy, .int (nI tn), .ref htf, .long cm, .ref hod, .ref hwk, .ref hot, .int (nI ru), .ref hen])), (hk, .inl (ck, 150, .inl k)), (ht, .inl (ct, 150, .inl t))] sz)) 0 0 (va_A [(am, .inr (9, [.int (nI th), .int (nI n), .ref hk, .ref ht, .int (nI n1), .ref hk1, .ref ht1, .int (zb pb), .int (nI rn), .ref hfg, .ref hle, .ref hmo, .ref hwy, .int (nI tn), .ref htf, .long cm, .ref hod, .ref hwk, .ref hot, .int (nI ru), .ref hen])), (hk, .inl (ck, 150, .inl k)), (ht, .inl (ct, 150, .inl t))] sz) := by
  refine Met.ofW (cc := b_Mo_open) (maxL := 5) (ret := none) (by decide) rfl ?_
  intro p e s m args below meth c s₁ B hml hv
  obtain ⟨ha, hsz, hP, hK, hD0⟩ := hv
  have hx := B.exec
  have hb := B.bytes
  have hr := B.returns
  have hts := atoms_spec (ws := ws_Mo_open) B.pre
  have hg : ∀ w ∈ ALLG, w.before args s = true := fun w h => hts w (List.mem_cons_of_mem _ h)
  have hown : s.vm.findClass R_Mo = some m.cls := findClass_of_methodNamed B.named
  have hlocks := B.notSynchronized
  subst hsz
  have hD := hD0.self (sz := s.heap.size)
  generalize hAe : va_A [(am, .inr (9, [.int (nI th), .int (nI n), .ref hk, .ref ht, .int (nI n1), .ref hk1, .ref ht1, .int (zb pb), .int (nI rn), .ref hfg, .ref hle, .ref hmo, .ref hwy, .int (nI tn), .ref htf, .long cm, .ref hod, .ref hwk, .ref hot, .int (nI ru), .ref hen])), (hk, .inl (ck, 150, .inl k)), (ht, .inl (ct, 150, .inl t))] s.heap.size = A at hD ⊢
  have hA : ∀ q : Nat, s.heap.size ≤ q → A q := fun q h => by rw [← hAe]; exact Or.inr h
  have hS : va_S A s.heap s.heap [] := va_S.rf
  have hP : va_P DD vwCl [(am, .inr (9, [.int (nI th), .int (nI n), .ref hk, .ref ht, .int (nI n1), .ref hk1, .ref ht1, .int (zb pb), .int (nI rn), .ref hfg, .ref hle, .ref hmo, .ref hwy, .int (nI tn), .ref htf, .long cm, .ref hod, .ref hwk, .ref hot, .int (nI ru), .ref hen])), (hk, .inl (ck, 150, .inl k)), (ht, .inl (ct, 150, .inl t))] s.heap := hP
  have hl := lv_entry ([.ref am, .int (nI j), .int x, .int y]) (n := 5) (Nat.le_of_ble_eq_true rfl)
  rw [ha, lg_entry_eq, ← ha]
  generalize (lg_sl ([.ref am, .int (nI j), .int x, .int y]) ++ List.replicate (5 - (lg_sl ([.ref am, .int (nI j), .int x, .int y])).length) Slot.unset).toArray = ls at hl ⊢
  have hl : lv_has ls 5 [(0, .ref am), (1, .int (nI j)), (2, .int x), (3, .int y)] := hl
  have K6 : ∀ (kk : Nat) (i : Nat), (hji : j ≤ i) → (hi : i ≤ n) → i < kk → ∀ (H : Heap) (locs : List Loc), va_P DD vwCl [(am, .inr (9, [.int (nI th), .int (nI n), .ref hk, .ref ht, .int (nI n1), .ref hk1, .ref ht1, .int (zb pb), .int (nI rn), .ref hfg, .ref hle, .ref hmo, .ref hwy, .int (nI tn), .ref htf, .long cm, .ref hod, .ref hwk, .ref hot, .int (nI ru), .ref hen])), (hk, .inl (ck, 150, .inl (opF k n i))), (ht, .inl (ct, 150, .inl (opF t n i)))] H → va_D A [(am, .inr (9, [.int (nI th), .int (nI n), .ref hk, .ref ht, .int (nI n1), .ref hk1, .ref ht1, .int (zb pb), .int (nI rn), .ref hfg, .ref hle, .ref hmo, .ref hwy, .int (nI tn), .ref htf, .long cm, .ref hod, .ref hwk, .ref hot, .int (nI ru), .ref hen])), (hk, .inl (ck, 150, .inl (opF k n i))), (ht, .inl (ct, 150, .inl (opF t n i)))] → va_S A s.heap H locs → ∀ (ls : Array Slot), lv_has ls 5 [(0, .ref am), (1, .int (nI j)), (2, .int x), (3, .int y), (4, .int (nI i))] → W p l e (headSpec ws_Mo_open rm_Mo_open).room s m args below meth c H locs 0 0 (MQ below (va_Qv (fun (u9 : Unit) => match u9 with | _ => True) (fun (u9 : Unit) (t9 : State) => match u9 with | _ => va_P DD vwCl [(am, .inr (9, [.int (nI th), .int (nI (n + 1)), .ref hk, .ref ht, .int (nI n1), .ref hk1, .ref ht1, .int (zb false), .int (nI rn), .ref hfg, .ref hle, .ref hmo, .ref hwy, .int (nI tn), .ref htf, .long cm, .ref hod, .ref hwk, .ref hot, .int (nI ru), .ref hen])), (hk, .inl (ck, 150, .inl (upd (va_cpy k k j (j + 1) (n - j)) j x))), (ht, .inl (ct, 150, .inl (upd (va_cpy t t j (j + 1) (n - j)) j y)))] t9.heap ∧ va_K DD vwCl [(ck, .int), (ct, .int)] t9 ∧ va_D A [(am, .inr (9, [.int (nI th), .int (nI (n + 1)), .ref hk, .ref ht, .int (nI n1), .ref hk1, .ref ht1, .int (zb false), .int (nI rn), .ref hfg, .ref hle, .ref hmo, .ref hwy, .int (nI tn), .ref htf, .long cm, .ref hod, .ref hwk, .ref hot, .int (nI ru), .ref hen])), (hk, .inl (ck, 150, .inl (upd (va_cpy k k j (j + 1) (n - j)) j x))), (ht, .inl (ct, 150, .inl (upd (va_cpy t t j (j + 1) (n - j)) j y)))]) A) args s 0 0 A) (F0 m 6 ls []) := by
    intro kk
    induction kk with
    | zero => intros; omega
    | succ kk ih6 =>
      intro i hji hi hkk H locs hP hD hS ls hl
      refine lv_iload hx hb d_Mo_open_6 (lv_at hl 4 rfl) ?_
      refine lv_iload_n hx hb d_Mo_open_8 rfl (lv_at hl 1 rfl) ?_
      refine z_icmp_le (tgt := 50) hx hb d_Mo_open_9 (by decide) (by omega) (by omega) (fun c_9 => ?_) (fun c_9 => ?_)
      · rw [show opF k n i = va_cpy k k j (j + 1) (n - j) from by rw [Nat.le_antisymm c_9 hji]; exact opF_c k hj] at hP hD
        rw [show opF t n i = va_cpy t t j (j + 1) (n - j) from by rw [Nat.le_antisymm c_9 hji]; exact opF_c t hj] at hP hD
        refine lv_aload_n hx hb d_Mo_open_50 rfl (lv_at hl 0 rfl) ?_
        refine va_get (D := DD) (ci := 9) (v := .ref hk) (C := R_Mo) (T := T_Mo) (N := 21) hx hb hg in_Mo hown hK hP 0 rfl rfl 2 (by decide) (hg _ mw_681) (fun _ h9 => h9) rfl d_Mo_open_51 ?_
        refine lv_iload_n hx hb d_Mo_open_54 rfl (lv_at hl 1 rfl) ?_
        refine lv_iload_n hx hb d_Mo_open_55 rfl (lv_at hl 2 rfl) ?_
        refine z_iast hx hb hK hP hD hS 1 0 rfl rfl (by omega) (by decide) d_Mo_open_56 (fun H locs hP hD hS => ?_)
        have hP : va_P DD vwCl [(am, .inr (9, [.int (nI th), .int (nI n), .ref hk, .ref ht, .int (nI n1), .ref hk1, .ref ht1, .int (zb pb), .int (nI rn), .ref hfg, .ref hle, .ref hmo, .ref hwy, .int (nI tn), .ref htf, .long cm, .ref hod, .ref hwk, .ref hot, .int (nI ru), .ref hen])), (hk, .inl (ck, 150, .inl (upd (va_cpy k k j (j + 1) (n - j)) j x))), (ht, .inl (ct, 150, .inl (va_cpy t t j (j + 1) (n - j))))] H := hP
        have hD : va_D A [(am, .inr (9, [.int (nI th), .int (nI n), .ref hk, .ref ht, .int (nI n1), .ref hk1, .ref ht1, .int (zb pb), .int (nI rn), .ref hfg, .ref hle, .ref hmo, .ref hwy, .int (nI tn), .ref htf, .long cm, .ref hod, .ref hwk, .ref hot, .int (nI ru), .ref hen])), (hk, .inl (ck, 150, .inl (upd (va_cpy k k j (j + 1) (n - j)) j x))), (ht, .inl (ct, 150, .inl (va_cpy t t j (j + 1) (n - j))))] := hD
        refine lv_aload_n hx hb d_Mo_open_57 rfl (lv_at hl 0 rfl) ?_
        refine va_get (D := DD) (ci := 9) (v := .ref ht) (C := R_Mo) (T := T_Mo) (N := 21) hx hb hg in_Mo hown hK hP 0 rfl rfl 3 (by decide) (hg _ mw_682) (fun _ h9 => h9) rfl d_Mo_open_58 ?_
        refine lv_iload_n hx hb d_Mo_open_61 rfl (lv_at hl 1 rfl) ?_
        refine lv_iload_n hx hb d_Mo_open_62 rfl (lv_at hl 3 rfl) ?_
        refine z_iast hx hb hK hP hD hS 2 1 rfl rfl (by omega) (by decide) d_Mo_open_63 (fun H locs hP hD hS => ?_)
        have hP : va_P DD vwCl [(am, .inr (9, [.int (nI th), .int (nI n), .ref hk, .ref ht, .int (nI n1), .ref hk1, .ref ht1, .int (zb pb), .int (nI rn), .ref hfg, .ref hle, .ref hmo, .ref hwy, .int (nI tn), .ref htf, .long cm, .ref hod, .ref hwk, .ref hot, .int (nI ru), .ref hen])), (hk, .inl (ck, 150, .inl (upd (va_cpy k k j (j + 1) (n - j)) j x))), (ht, .inl (ct, 150, .inl (upd (va_cpy t t j (j + 1) (n - j)) j y)))] H := hP
        have hD : va_D A [(am, .inr (9, [.int (nI th), .int (nI n), .ref hk, .ref ht, .int (nI n1), .ref hk1, .ref ht1, .int (zb pb), .int (nI rn), .ref hfg, .ref hle, .ref hmo, .ref hwy, .int (nI tn), .ref htf, .long cm, .ref hod, .ref hwk, .ref hot, .int (nI ru), .ref hen])), (hk, .inl (ck, 150, .inl (upd (va_cpy k k j (j + 1) (n - j)) j x))), (ht, .inl (ct, 150, .inl (upd (va_cpy t t j (j + 1) (n - j)) j y)))] := hD
        refine lv_aload_n hx hb d_Mo_open_64 rfl (lv_at hl 0 rfl) ?_
        refine lv_dup hx hb d_Mo_open_65 rfl ?_
        refine va_get (D := DD) (ci := 9) (v := .int (nI n)) (C := R_Mo) (T := T_Mo) (N := 21) hx hb hg in_Mo hown hK hP 0 rfl rfl 1 (by decide) (hg _ mw_680) (fun _ h9 => h9) rfl d_Mo_open_66 ?_
        refine lv_iconst (v := nI 1) hx hb d_Mo_open_69 (by decide) ?_
        refine z_iadd hx hb d_Mo_open_70 ?_
        refine va_put (D := DD) (ci := 9) (v := .int (nI (n + 1))) (ty := .int) (C := R_Mo) (T := T_Mo) (N := 21) hx hb hg in_Mo t_Mo to_Mo n_Mo hown hK hP hD hS 0 rfl rfl 1 (by decide) (hg _ mw_680) (fun _ h9 => h9) rfl (by decide +kernel) rfl rfl (Nat.le_of_ble_eq_true rfl) d_Mo_open_71 (fun H locs hP hD hS => ?_)
        have hP : va_P DD vwCl [(am, .inr (9, [.int (nI th), .int (nI (n + 1)), .ref hk, .ref ht, .int (nI n1), .ref hk1, .ref ht1, .int (zb pb), .int (nI rn), .ref hfg, .ref hle, .ref hmo, .ref hwy, .int (nI tn), .ref htf, .long cm, .ref hod, .ref hwk, .ref hot, .int (nI ru), .ref hen])), (hk, .inl (ck, 150, .inl (upd (va_cpy k k j (j + 1) (n - j)) j x))), (ht, .inl (ct, 150, .inl (upd (va_cpy t t j (j + 1) (n - j)) j y)))] H := hP
        have hD : va_D A [(am, .inr (9, [.int (nI th), .int (nI (n + 1)), .ref hk, .ref ht, .int (nI n1), .ref hk1, .ref ht1, .int (zb pb), .int (nI rn), .ref hfg, .ref hle, .ref hmo, .ref hwy, .int (nI tn), .ref htf, .long cm, .ref hod, .ref hwk, .ref hot, .int (nI ru), .ref hen])), (hk, .inl (ck, 150, .inl (upd (va_cpy k k j (j + 1) (n - j)) j x))), (ht, .inl (ct, 150, .inl (upd (va_cpy t t j (j + 1) (n - j)) j y)))] := hD
        refine lv_aload_n hx hb d_Mo_open_74 rfl (lv_at hl 0 rfl) ?_
        refine lv_iconst (v := nI 0) hx hb d_Mo_open_75 (by decide) ?_
        refine va_put (D := DD) (ci := 9) (v := .int (zb false)) (ty := .boolean) (C := R_Mo) (T := T_Mo) (N := 21) hx hb hg in_Mo t_Mo to_Mo n_Mo hown hK hP hD hS 0 rfl rfl 7 (by decide) (hg _ mw_686) (fun _ h9 => h9) rfl (by decide +kernel) rfl rfl (Nat.le_of_ble_eq_true rfl) d_Mo_open_76 (fun H locs hP hD hS => ?_)
        have hP : va_P DD vwCl [(am, .inr (9, [.int (nI th), .int (nI (n + 1)), .ref hk, .ref ht, .int (nI n1), .ref hk1, .ref ht1, .int (zb false), .int (nI rn), .ref hfg, .ref hle, .ref hmo, .ref hwy, .int (nI tn), .ref htf, .long cm, .ref hod, .ref hwk, .ref hot, .int (nI ru), .ref hen])), (hk, .inl (ck, 150, .inl (upd (va_cpy k k j (j + 1) (n - j)) j x))), (ht, .inl (ct, 150, .inl (upd (va_cpy t t j (j + 1) (n - j)) j y)))] H := hP
        have hD : va_D A [(am, .inr (9, [.int (nI th), .int (nI (n + 1)), .ref hk, .ref ht, .int (nI n1), .ref hk1, .ref ht1, .int (zb false), .int (nI rn), .ref hfg, .ref hle, .ref hmo, .ref hwy, .int (nI tn), .ref htf, .long cm, .ref hod, .ref hwk, .ref hot, .int (nI ru), .ref hen])), (hk, .inl (ck, 150, .inl (upd (va_cpy k k j (j + 1) (n - j)) j x))), (ht, .inl (ct, 150, .inl (upd (va_cpy t t j (j + 1) (n - j)) j y)))] := hD
        have hP9 := hP.sub (ws' := [(am, .inr (9, [.int (nI th), .int (nI (n + 1)), .ref hk, .ref ht, .int (nI n1), .ref hk1, .ref ht1, .int (zb false), .int (nI rn), .ref hfg, .ref hle, .ref hmo, .ref hwy, .int (nI tn), .ref htf, .long cm, .ref hod, .ref hwk, .ref hot, .int (nI ru), .ref hen])), (hk, .inl (ck, 150, .inl (upd (va_cpy k k j (j + 1) (n - j)) j x))), (ht, .inl (ct, 150, .inl (upd (va_cpy t t j (j + 1) (n - j)) j y)))]) [0, 1, 2] rfl
        have hD9 := hD.sub (ws' := [(am, .inr (9, [.int (nI th), .int (nI (n + 1)), .ref hk, .ref ht, .int (nI n1), .ref hk1, .ref ht1, .int (zb false), .int (nI rn), .ref hfg, .ref hle, .ref hmo, .ref hwy, .int (nI tn), .ref htf, .long cm, .ref hod, .ref hwk, .ref hot, .int (nI ru), .ref hen])), (hk, .inl (ck, 150, .inl (upd (va_cpy k k j (j + 1) (n - j)) j x))), (ht, .inl (ct, 150, .inl (upd (va_cpy t t j (j + 1) (n - j)) j y)))]) [0, 1, 2] (by decide) rfl
        exact W.vret hx hb hr (fun t9 ht9 hW9 => ⟨⟨(), rfl, trivial, by rw [ht9]; exact hP9, va_K.moved hW9.alike hK, hD9⟩, hS.F ht9⟩) hS.2.2 d_Mo_open_79
      · refine lv_aload_n hx hb d_Mo_open_12 rfl (lv_at hl 0 rfl) ?_
        refine va_get (D := DD) (ci := 9) (v := .ref hk) (C := R_Mo) (T := T_Mo) (N := 21) hx hb hg in_Mo hown hK hP 0 rfl rfl 2 (by decide) (hg _ mw_681) (fun _ h9 => h9) rfl d_Mo_open_13 ?_
        refine lv_iload hx hb d_Mo_open_16 (lv_at hl 4 rfl) ?_
        refine lv_aload_n hx hb d_Mo_open_18 rfl (lv_at hl 0 rfl) ?_
        refine va_get (D := DD) (ci := 9) (v := .ref hk) (C := R_Mo) (T := T_Mo) (N := 21) hx hb hg in_Mo hown hK hP 0 rfl rfl 2 (by decide) (hg _ mw_681) (fun _ h9 => h9) rfl d_Mo_open_19 ?_
        refine lv_iload hx hb d_Mo_open_22 (lv_at hl 4 rfl) ?_
        refine lv_iconst (v := nI 1) hx hb d_Mo_open_24 (by decide) ?_
        refine z_isub hx hb d_Mo_open_25 (by omega) ?_
        refine z_iald hx hb hK hP 1 0 rfl rfl (by omega) (by decide) d_Mo_open_26 ?_
        refine z_iast hx hb hK hP hD hS 1 0 rfl rfl (by omega) (by decide) d_Mo_open_27 (fun H locs hP hD hS => ?_)
        have hP : va_P DD vwCl [(am, .inr (9, [.int (nI th), .int (nI n), .ref hk, .ref ht, .int (nI n1), .ref hk1, .ref ht1, .int (zb pb), .int (nI rn), .ref hfg, .ref hle, .ref hmo, .ref hwy, .int (nI tn), .ref htf, .long cm, .ref hod, .ref hwk, .ref hot, .int (nI ru), .ref hen])), (hk, .inl (ck, 150, .inl (upd (opF k n i) i ((opF k n i) (i - 1))))), (ht, .inl (ct, 150, .inl (opF t n i)))] H := hP
        have hD : va_D A [(am, .inr (9, [.int (nI th), .int (nI n), .ref hk, .ref ht, .int (nI n1), .ref hk1, .ref ht1, .int (zb pb), .int (nI rn), .ref hfg, .ref hle, .ref hmo, .ref hwy, .int (nI tn), .ref htf, .long cm, .ref hod, .ref hwk, .ref hot, .int (nI ru), .ref hen])), (hk, .inl (ck, 150, .inl (upd (opF k n i) i ((opF k n i) (i - 1))))), (ht, .inl (ct, 150, .inl (opF t n i)))] := hD
        refine lv_aload_n hx hb d_Mo_open_28 rfl (lv_at hl 0 rfl) ?_
        refine va_get (D := DD) (ci := 9) (v := .ref ht) (C := R_Mo) (T := T_Mo) (N := 21) hx hb hg in_Mo hown hK hP 0 rfl rfl 3 (by decide) (hg _ mw_682) (fun _ h9 => h9) rfl d_Mo_open_29 ?_
        refine lv_iload hx hb d_Mo_open_32 (lv_at hl 4 rfl) ?_
        refine lv_aload_n hx hb d_Mo_open_34 rfl (lv_at hl 0 rfl) ?_
        refine va_get (D := DD) (ci := 9) (v := .ref ht) (C := R_Mo) (T := T_Mo) (N := 21) hx hb hg in_Mo hown hK hP 0 rfl rfl 3 (by decide) (hg _ mw_682) (fun _ h9 => h9) rfl d_Mo_open_35 ?_
        refine lv_iload hx hb d_Mo_open_38 (lv_at hl 4 rfl) ?_
        refine lv_iconst (v := nI 1) hx hb d_Mo_open_40 (by decide) ?_
        refine z_isub hx hb d_Mo_open_41 (by omega) ?_
        refine z_iald hx hb hK hP 2 1 rfl rfl (by omega) (by decide) d_Mo_open_42 ?_
        refine z_iast hx hb hK hP hD hS 2 1 rfl rfl (by omega) (by decide) d_Mo_open_43 (fun H locs hP hD hS => ?_)
        have hP : va_P DD vwCl [(am, .inr (9, [.int (nI th), .int (nI n), .ref hk, .ref ht, .int (nI n1), .ref hk1, .ref ht1, .int (zb pb), .int (nI rn), .ref hfg, .ref hle, .ref hmo, .ref hwy, .int (nI tn), .ref htf, .long cm, .ref hod, .ref hwk, .ref hot, .int (nI ru), .ref hen])), (hk, .inl (ck, 150, .inl (upd (opF k n i) i ((opF k n i) (i - 1))))), (ht, .inl (ct, 150, .inl (upd (opF t n i) i ((opF t n i) (i - 1)))))] H := hP
        have hD : va_D A [(am, .inr (9, [.int (nI th), .int (nI n), .ref hk, .ref ht, .int (nI n1), .ref hk1, .ref ht1, .int (zb pb), .int (nI rn), .ref hfg, .ref hle, .ref hmo, .ref hwy, .int (nI tn), .ref htf, .long cm, .ref hod, .ref hwk, .ref hot, .int (nI ru), .ref hen])), (hk, .inl (ck, 150, .inl (upd (opF k n i) i ((opF k n i) (i - 1))))), (ht, .inl (ct, 150, .inl (upd (opF t n i) i ((opF t n i) (i - 1)))))] := hD
        rw [show upd (opF k n i) i ((opF k n i) (i - 1)) = opF k n (i - 1) from opF_s k (by omega) hi] at hP hD
        rw [show upd (opF t n i) i ((opF t n i) (i - 1)) = opF t n (i - 1) from opF_s t (by omega) hi] at hP hD
        refine lv_iinc (v := nI (i - 1)) (lv' := [(4, .int (nI (i - 1))), (0, .ref am), (1, .int (nI j)), (2, .int x), (3, .int y)]) hx hb d_Mo_open_44 hl (k := 4) rfl (by exact z_dec 1 (by omega)) (by decide) rfl (fun ls hl => ?_)
        refine lv_goto (tgt := 6) hx hb d_Mo_open_47 (by decide) ?_
        exact ih6 (i - 1) (by omega) (by omega) (by omega) _ _ hP hD hS ls (lv_sub hl [1, 2, 3, 4, 0] rfl)
  rw [show k = opF k n n from opF_0 k n] at hP hD
  rw [show t = opF t n n from opF_0 t n] at hP hD
  refine lv_aload_n hx hb d_Mo_open_0 rfl (lv_at hl 0 rfl) ?_
  refine va_get (D := DD) (ci := 9) (v := .int (nI n)) (C := R_Mo) (T := T_Mo) (N := 21) hx hb hg in_Mo hown hK hP 0 rfl rfl 1 (by decide) (hg _ mw_680) (fun _ h9 => h9) rfl d_Mo_open_1 ?_
  refine lv_istore (lv' := [(4, .int (nI n)), (0, .ref am), (1, .int (nI j)), (2, .int x), (3, .int y)]) hx hb d_Mo_open_4 hl (by decide) rfl (fun ls hl => ?_)
  exact K6 _ n (by omega) (by omega) (Nat.lt_succ_self _) _ _ hP hD hS ls (lv_sub hl [1, 2, 3, 4, 0] rfl)
theorem d_Mo_put_0 : decode b_Mo_put 0 = .ok (.aload_n 0, 1) := by decide +kernel
theorem d_Mo_put_1 : decode b_Mo_put 1 = .ok (.aload_n 0, 1) := by decide +kernel
theorem d_Mo_put_2 : decode b_Mo_put 2 = .ok (.getfield 54, 3) := by decide +kernel
theorem d_Mo_put_5 : decode b_Mo_put 5 = .ok (.sipush 150, 3) := by decide +kernel
theorem d_Mo_put_8 : decode b_Mo_put 8 = .ok (.if_icmp .ne 7, 3) := by decide +kernel
theorem d_Mo_put_11 : decode b_Mo_put 11 = .ok (.iconst 1, 1) := by decide +kernel
theorem d_Mo_put_12 : decode b_Mo_put 12 = .ok (.goto 4, 3) := by decide +kernel
theorem d_Mo_put_15 : decode b_Mo_put 15 = .ok (.iconst 0, 1) := by decide +kernel
theorem d_Mo_put_16 : decode b_Mo_put 16 = .ok (.putfield 50, 3) := by decide +kernel
theorem d_Mo_put_19 : decode b_Mo_put 19 = .ok (.aload_n 0, 1) := by decide +kernel
theorem d_Mo_put_20 : decode b_Mo_put 20 = .ok (.getfield 50, 3) := by decide +kernel
theorem d_Mo_put_23 : decode b_Mo_put 23 = .ok (.ifCond .le 5, 3) := by decide +kernel
theorem d_Mo_put_26 : decode b_Mo_put 26 = .ok (.iconst 0, 1) := by decide +kernel
theorem d_Mo_put_27 : decode b_Mo_put 27 = .ok (.ireturn, 1) := by decide +kernel
theorem d_Mo_put_28 : decode b_Mo_put 28 = .ok (.aload_n 0, 1) := by decide +kernel
theorem d_Mo_put_29 : decode b_Mo_put 29 = .ok (.aload_n 0, 1) := by decide +kernel
theorem d_Mo_put_30 : decode b_Mo_put 30 = .ok (.getfield 54, 3) := by decide +kernel
theorem d_Mo_put_33 : decode b_Mo_put 33 = .ok (.iload_n 1, 1) := by decide +kernel
theorem d_Mo_put_34 : decode b_Mo_put 34 = .ok (.iload_n 2, 1) := by decide +kernel
theorem d_Mo_put_35 : decode b_Mo_put 35 = .ok (.invokevirtual 61, 3) := by decide +kernel
theorem d_Mo_put_38 : decode b_Mo_put 38 = .ok (.aload_n 0, 1) := by decide +kernel
theorem d_Mo_put_39 : decode b_Mo_put 39 = .ok (.getfield 54, 3) := by decide +kernel
theorem d_Mo_put_42 : decode b_Mo_put 42 = .ok (.iconst 1, 1) := by decide +kernel
theorem d_Mo_put_43 : decode b_Mo_put 43 = .ok (.isub, 1) := by decide +kernel
theorem d_Mo_put_44 : decode b_Mo_put 44 = .ok (.ireturn, 1) := by decide +kernel
abbrev ws_Mo_put : List Cond := .code y_Mo_put b_Mo_put 3 (some .int) :: ALLG
abbrev rm_Mo_put : Room := { frames := 1, cells := 0, slots := 0, locals := 24 }
set_option maxHeartbeats 4000000 in
set_option maxRecDepth 100000 in
theorem c_Mo_put (l : Launch) (DD : va_G) (sz : Nat) (am : Nat) (th : Nat) (n : Nat) (hk : Nat) (ck : ClassId) (k : Nat → Int32) (ht : Nat) (ct : ClassId) (t : Nat → Int32) (n1 : Nat) (hk1 : Nat) (ht1 : Nat) (pb : Bool) (rn : Nat) (hfg : Nat) (hle : Nat) (hmo : Nat) (hwy : Nat) (tn : Nat) (htf : Nat) (cm : Int64) (hod : Nat) (hwk : Nat) (hot : Nat) (ru : Nat) (hen : Nat) (x : Int32) (y : Int32) (hn : n < 150) : Met l y_Mo_put ws_Mo_put rm_Mo_put (va_Pc [.ref am, .int x, .int y] (fun U => U.heap.size = sz ∧ va_P DD vwCl [(am, .inr (9, [.int (nI th), .int (nI n), .ref hk, .ref ht, .int (nI n1), .ref hk1, .ref ht1, .int (zb pb), .int (nI rn), .ref hfg, .ref hle, .ref hmo, .ref hwy, .int (nI tn), .ref htf, .long cm, .ref hod, .ref hwk, .ref hot, .int (nI ru), .ref hen])), (hk, .inl (ck, 150, .inl k)), (ht, .inl (ct, 150, .inl t))] U.heap ∧ va_K DD vwCl [(ck, .int), (ct, .int)] U ∧ va_D (fun _ => True) [(am, .inr (9, [.int (nI th), .int (nI n), .ref hk, .ref ht, .int (nI n1), .ref hk1, .ref ht1, .int (zb pb), .int (nI rn), .ref hfg, .ref hle, .ref hmo, .ref hwy, .int (nI tn), .ref htf, .long cm, .ref hod, .ref hwk, .ref hot, .int (nI ru), .ref hen])), (hk, .inl (ck, 150, .inl k)), (ht, .inl (ct, 150, .inl t))])) (va_Qi (fun (r9 : Int32) (u9 : Unit) => match u9 with | _ => r9 = nI n) (fun (u9 : Unit) (t9 : State) => match u9 with | _ => va_P DD vwCl [(am, .inr (9, [.int (nI 0), .int (nI (n + 1)), .ref hk, .ref ht, .int (nI n1), .ref hk1, .ref ht1, .int (zb false), .int (nI rn), .ref hfg, .ref hle, .ref hmo, .ref hwy, .int (nI tn), .ref htf, .long cm, .ref hod, .ref hwk, .ref hot, .int (nI ru), .ref hen])), (hk, .inl (ck, 150, .inl (upd (va_cpy k k n (n + 1) (n - n)) n x))), (ht, .inl (ct, 150, .inl (upd (va_cpy t t n (n + 1) (n - n)) n y)))] t9.heap ∧ va_K DD vwCl [(ck, .int), (ct, .int)] t9 ∧ va_D (va_A [(am, .inr (9, [.int (nI th), .int (nI n), .ref hk, .ref ht, .int (nI n1), .ref hk1, .ref ht1, .int (zb pb), .int (nI rn), .ref hfg, .ref hle, .ref hmo, .ref hwy, .int (nI tn), .ref htf, .long cm, .ref hod, .ref hwk, .ref hot, .int (nI ru), .ref hen])), (hk, .inl (ck, 150, .inl k)), (ht, .inl (ct, 150, .inl t))] sz) [(am, .inr (9, [.int (nI 0), .int (nI (n + 1)), .ref hk, .ref ht, .int (nI n1), .ref hk1, .ref ht1, .int (zb false), .int (nI rn), .ref hfg, .ref hle, .ref hmo, .ref hwy, .int (nI tn), .ref htf, .long cm, .ref hod, .ref hwk, .ref hot, .int (nI ru), .ref hen])), (hk, .inl (ck, 150, .inl (upd (va_cpy k k n (n + 1) (n - n)) n x))), (ht, .inl (ct, 150, .inl (upd (va_cpy t t n (n + 1) (n - n)) n y)))]) (va_A [(am, .inr (9, [.int (nI th), .int (nI n), .ref hk, .ref ht, .int (nI n1), .ref hk1, .ref ht1, .int (zb pb), .int (nI rn), .ref hfg, .ref hle, .ref hmo, .ref hwy, .int (nI tn), .ref htf, .long cm, .ref hod, .ref hwk, .ref hot, .int (nI ru), .ref hen])), (hk, .inl (ck, 150, .inl k)), (ht, .inl (ct, 150, .inl t))] sz)) 0 0 (va_A [(am, .inr (9, [.int (nI th), .int (nI n), .ref hk, .ref ht, .int (nI n1), .ref hk1, .ref ht1, .int (zb pb), .int (nI rn), .ref hfg, .ref hle, .ref hmo, .ref hwy, .int (nI tn), .ref htf, .long cm, .ref hod, .ref hwk, .ref hot, .int (nI ru), .ref hen])), (hk, .inl (ck, 150, .inl k)), (ht, .inl (ct, 150, .inl t))] sz) := by
  refine Met.ofW (cc := b_Mo_put) (maxL := 3) (ret := (some .int)) (by decide) rfl ?_
  intro p e s m args below meth c s₁ B hml hv
  obtain ⟨ha, hsz, hP, hK, hD0⟩ := hv
  have hx := B.exec
  have hb := B.bytes
  have hr := B.returns
  have hts := atoms_spec (ws := ws_Mo_put) B.pre
  have hg : ∀ w ∈ ALLG, w.before args s = true := fun w h => hts w (List.mem_cons_of_mem _ h)
  have hown : s.vm.findClass R_Mo = some m.cls := findClass_of_methodNamed B.named
  have hlocks := B.notSynchronized
  subst hsz
  have hD := hD0.self (sz := s.heap.size)
  generalize hAe : va_A [(am, .inr (9, [.int (nI th), .int (nI n), .ref hk, .ref ht, .int (nI n1), .ref hk1, .ref ht1, .int (zb pb), .int (nI rn), .ref hfg, .ref hle, .ref hmo, .ref hwy, .int (nI tn), .ref htf, .long cm, .ref hod, .ref hwk, .ref hot, .int (nI ru), .ref hen])), (hk, .inl (ck, 150, .inl k)), (ht, .inl (ct, 150, .inl t))] s.heap.size = A at hD ⊢
  have hA : ∀ q : Nat, s.heap.size ≤ q → A q := fun q h => by rw [← hAe]; exact Or.inr h
  have hS : va_S A s.heap s.heap [] := va_S.rf
  have hP : va_P DD vwCl [(am, .inr (9, [.int (nI th), .int (nI n), .ref hk, .ref ht, .int (nI n1), .ref hk1, .ref ht1, .int (zb pb), .int (nI rn), .ref hfg, .ref hle, .ref hmo, .ref hwy, .int (nI tn), .ref htf, .long cm, .ref hod, .ref hwk, .ref hot, .int (nI ru), .ref hen])), (hk, .inl (ck, 150, .inl k)), (ht, .inl (ct, 150, .inl t))] s.heap := hP
  have hl := lv_entry ([.ref am, .int x, .int y]) (n := 3) (Nat.le_of_ble_eq_true rfl)
  rw [ha, lg_entry_eq, ← ha]
  generalize (lg_sl ([.ref am, .int x, .int y]) ++ List.replicate (3 - (lg_sl ([.ref am, .int x, .int y])).length) Slot.unset).toArray = ls at hl ⊢
  have hl : lv_has ls 3 [(0, .ref am), (1, .int x), (2, .int y)] := hl
  refine lv_aload_n hx hb d_Mo_put_0 rfl (lv_at hl 0 rfl) ?_
  refine lv_aload_n hx hb d_Mo_put_1 rfl (lv_at hl 0 rfl) ?_
  refine va_get (D := DD) (ci := 9) (v := .int (nI n)) (C := R_Mo) (T := T_Mo) (N := 21) hx hb hg in_Mo hown hK hP 0 rfl rfl 1 (by decide) (hg _ mw_680) (fun _ h9 => h9) rfl d_Mo_put_2 ?_
  refine lv_sipush (v := nI 150) hx hb d_Mo_put_5 (by decide) ?_
  refine z_icmp_ne (tgt := 15) hx hb d_Mo_put_8 (by decide) (by omega) (by omega) (fun c_8 => ?_) (fun c_8 => ?_)
  · refine lv_iconst (v := nI 0) hx hb d_Mo_put_15 (by decide) ?_
    refine va_put (D := DD) (ci := 9) (v := .int (nI 0)) (ty := .int) (C := R_Mo) (T := T_Mo) (N := 21) hx hb hg in_Mo t_Mo to_Mo n_Mo hown hK hP hD hS 0 rfl rfl 0 (by decide) (hg _ mw_679) (fun _ h9 => h9) rfl (by decide +kernel) rfl rfl (Nat.le_of_ble_eq_true rfl) d_Mo_put_16 (fun H locs hP hD hS => ?_)
    have hP : va_P DD vwCl [(am, .inr (9, [.int (nI 0), .int (nI n), .ref hk, .ref ht, .int (nI n1), .ref hk1, .ref ht1, .int (zb pb), .int (nI rn), .ref hfg, .ref hle, .ref hmo, .ref hwy, .int (nI tn), .ref htf, .long cm, .ref hod, .ref hwk, .ref hot, .int (nI ru), .ref hen])), (hk, .inl (ck, 150, .inl k)), (ht, .inl (ct, 150, .inl t))] H := hP
    have hD : va_D A [(am, .inr (9, [.int (nI 0), .int (nI n), .ref hk, .ref ht, .int (nI n1), .ref hk1, .ref ht1, .int (zb pb), .int (nI rn), .ref hfg, .ref hle, .ref hmo, .ref hwy, .int (nI tn), .ref htf, .long cm, .ref hod, .ref hwk, .ref hot, .int (nI ru), .ref hen])), (hk, .inl (ck, 150, .inl k)), (ht, .inl (ct, 150, .inl t))] := hD
    refine lv_aload_n hx hb d_Mo_put_19 rfl (lv_at hl 0 rfl) ?_
    refine va_get (D := DD) (ci := 9) (v := .int (nI 0)) (C := R_Mo) (T := T_Mo) (N := 21) hx hb hg in_Mo hown hK hP 0 rfl rfl 0 (by decide) (hg _ mw_679) (fun _ h9 => h9) rfl d_Mo_put_20 ?_
    refine z_if_le (tgt := 28) hx hb d_Mo_put_23 (by decide) (by omega) (fun c_23 => ?_) (fun c_23 => ?_)
    · refine lv_aload_n hx hb d_Mo_put_28 rfl (lv_at hl 0 rfl) ?_
      refine lv_aload_n hx hb d_Mo_put_29 rfl (lv_at hl 0 rfl) ?_
      refine va_get (D := DD) (ci := 9) (v := .int (nI n)) (C := R_Mo) (T := T_Mo) (N := 21) hx hb hg in_Mo hown hK hP 0 rfl rfl 1 (by decide) (hg _ mw_680) (fun _ h9 => h9) rfl d_Mo_put_30 ?_
      refine lv_iload_n hx hb d_Mo_put_33 rfl (lv_at hl 1 rfl) ?_
      refine lv_iload_n hx hb d_Mo_put_34 rfl (lv_at hl 2 rfl) ?_
      have hPc := hP.sub (ws' := [(am, .inr (9, [.int (nI 0), .int (nI n), .ref hk, .ref ht, .int (nI n1), .ref hk1, .ref ht1, .int (zb pb), .int (nI rn), .ref hfg, .ref hle, .ref hmo, .ref hwy, .int (nI tn), .ref htf, .long cm, .ref hod, .ref hwk, .ref hot, .int (nI ru), .ref hen])), (hk, .inl (ck, 150, .inl k)), (ht, .inl (ct, 150, .inl t))]) [0, 1, 2] rfl
      have hKc := hK.sub (tys' := [(ck, .int), (ct, .int)]) [0, 1] rfl
      have hDc := hD.sub (ws' := [(am, .inr (9, [.int (nI 0), .int (nI n), .ref hk, .ref ht, .int (nI n1), .ref hk1, .ref ht1, .int (zb pb), .int (nI rn), .ref hfg, .ref hle, .ref hmo, .ref hwy, .int (nI tn), .ref htf, .long cm, .ref hod, .ref hwk, .ref hot, .int (nI ru), .ref hen])), (hk, .inl (ck, 150, .inl k)), (ht, .inl (ct, 150, .inl t))]) [0, 1, 2] (by decide) rfl
      have hFc := va_free (wc := [(am, .inr (9, [.int (nI 0), .int (nI n), .ref hk, .ref ht, .int (nI n1), .ref hk1, .ref ht1, .int (zb pb), .int (nI rn), .ref hfg, .ref hle, .ref hmo, .ref hwy, .int (nI tn), .ref htf, .long cm, .ref hod, .ref hwk, .ref hot, .int (nI ru), .ref hen])), (hk, .inl (ck, 150, .inl k)), (ht, .inl (ct, 150, .inl t))]) hD hS hA [0, 1, 2] rfl
      refine va_callv (va_runV (As := [.int (nI n), .int x, .int y]) (rest := []) ⟨hx, hb, hml, hown, hg⟩ (c_Mo_open l DD H.size am 0 n hk ck k ht ct t n1 hk1 ht1 pb rn hfg hle hmo hwy tn htf cm hod hwk hot ru hen n x y (by omega) (by omega)) (cwV 3 hg (gi_V mw_751 mw_753 ms_Mo_open mw_11 mw_754) rfl rfl rfl (by decide +kernel) ⟨Nat.le_of_ble_eq_true rfl, Nat.le_of_ble_eq_true rfl⟩) ⟨z_blindQ, va_recv hKc hPc (ci := 9) (q0 := 0) rfl rfl, z_preQ hPc hKc hDc⟩ rfl rfl hl.1 rfl (lv_room (Nat.le_of_ble_eq_true rfl)) d_Mo_put_35 ⟨Nat.zero_le _, Nat.zero_le _⟩) hS (fun q _ h => hFc q h) hFc (fun u9 t9 H9 locs ht9 hvm9 hw9 hB9 hz9 hk9 hS => ?_)
      obtain ⟨hP1, hK1, hD1⟩ := hB9
      rw [ht9] at hP1
      try dsimp only at hw9
      obtain ⟨hP, hD⟩ := va_join (wr := []) (w1 := [(am, .inr (9, [.int (nI 0), .int (nI (n + 1)), .ref hk, .ref ht, .int (nI n1), .ref hk1, .ref ht1, .int (zb false), .int (nI rn), .ref hfg, .ref hle, .ref hmo, .ref hwy, .int (nI tn), .ref htf, .long cm, .ref hod, .ref hwk, .ref hot, .int (nI ru), .ref hen])), (hk, .inl (ck, 150, .inl (upd (va_cpy k k n (n + 1) (n - n)) n x))), (ht, .inl (ct, 150, .inl (upd (va_cpy t t n (n + 1) (n - n)) n y)))]) hP hD [0, 1, 2] [] rfl rfl (by decide) (by decide) hk9 hFc hP1 hD1
      generalize H9 = H at hP hS ⊢
      have hP : va_P DD vwCl [(am, .inr (9, [.int (nI 0), .int (nI (n + 1)), .ref hk, .ref ht, .int (nI n1), .ref hk1, .ref ht1, .int (zb false), .int (nI rn), .ref hfg, .ref hle, .ref hmo, .ref hwy, .int (nI tn), .ref htf, .long cm, .ref hod, .ref hwk, .ref hot, .int (nI ru), .ref hen])), (hk, .inl (ck, 150, .inl (upd (va_cpy k k n (n + 1) (n - n)) n x))), (ht, .inl (ct, 150, .inl (upd (va_cpy t t n (n + 1) (n - n)) n y)))] H := hP
      have hD : va_D A [(am, .inr (9, [.int (nI 0), .int (nI (n + 1)), .ref hk, .ref ht, .int (nI n1), .ref hk1, .ref ht1, .int (zb false), .int (nI rn), .ref hfg, .ref hle, .ref hmo, .ref hwy, .int (nI tn), .ref htf, .long cm, .ref hod, .ref hwk, .ref hot, .int (nI ru), .ref hen])), (hk, .inl (ck, 150, .inl (upd (va_cpy k k n (n + 1) (n - n)) n x))), (ht, .inl (ct, 150, .inl (upd (va_cpy t t n (n + 1) (n - n)) n y)))] := hD
      refine lv_aload_n hx hb d_Mo_put_38 rfl (lv_at hl 0 rfl) ?_
      refine va_get (D := DD) (ci := 9) (v := .int (nI (n + 1))) (C := R_Mo) (T := T_Mo) (N := 21) hx hb hg in_Mo hown hK hP 0 rfl rfl 1 (by decide) (hg _ mw_680) (fun _ h9 => h9) rfl d_Mo_put_39 ?_
      refine lv_iconst (v := nI 1) hx hb d_Mo_put_42 (by decide) ?_
      refine z_isub hx hb d_Mo_put_43 (by omega) ?_
      have hP9 := hP.sub (ws' := [(am, .inr (9, [.int (nI 0), .int (nI (n + 1)), .ref hk, .ref ht, .int (nI n1), .ref hk1, .ref ht1, .int (zb false), .int (nI rn), .ref hfg, .ref hle, .ref hmo, .ref hwy, .int (nI tn), .ref htf, .long cm, .ref hod, .ref hwk, .ref hot, .int (nI ru), .ref hen])), (hk, .inl (ck, 150, .inl (upd (va_cpy k k n (n + 1) (n - n)) n x))), (ht, .inl (ct, 150, .inl (upd (va_cpy t t n (n + 1) (n - n)) n y)))]) [0, 1, 2] rfl
      have hD9 := hD.sub (ws' := [(am, .inr (9, [.int (nI 0), .int (nI (n + 1)), .ref hk, .ref ht, .int (nI n1), .ref hk1, .ref ht1, .int (zb false), .int (nI rn), .ref hfg, .ref hle, .ref hmo, .ref hwy, .int (nI tn), .ref htf, .long cm, .ref hod, .ref hwk, .ref hot, .int (nI ru), .ref hen])), (hk, .inl (ck, 150, .inl (upd (va_cpy k k n (n + 1) (n - n)) n x))), (ht, .inl (ct, 150, .inl (upd (va_cpy t t n (n + 1) (n - n)) n y)))]) [0, 1, 2] (by decide) rfl
      exact W.iret (v := nI ((n + 1) - 1)) hx hb hr (fun t9 ht9 hW9 => ⟨⟨_, (), rfl, rfl, by rw [ht9]; exact hP9, va_K.moved hW9.alike hK, hD9⟩, hS.F ht9⟩) hS.2.2 d_Mo_put_44
    · exact absurd c_23 (by decide)
  · exact absurd c_8 (by omega)
abbrev rm_Mo_put_T : Room := { frames := 0, cells := 0, slots := 0, locals := 0 }
set_option maxHeartbeats 4000000 in
set_option maxRecDepth 100000 in
theorem c_Mo_put_T (l : Launch) (DD : va_G) (sz : Nat) (am : Nat) (th : Nat) (n : Nat) (hk : Nat) (ht : Nat) (n1 : Nat) (hk1 : Nat) (ht1 : Nat) (pb : Bool) (rn : Nat) (hfg : Nat) (hle : Nat) (hmo : Nat) (hwy : Nat) (tn : Nat) (htf : Nat) (cm : Int64) (hod : Nat) (hwk : Nat) (hot : Nat) (ru : Nat) (hen : Nat) (x : Int32) (y : Int32) (hn : n ≤ 150) (hf : 150 ≤ n) : Met l y_Mo_put ws_Mo_put rm_Mo_put_T (va_Pc [.ref am, .int x, .int y] (fun U => U.heap.size = sz ∧ va_P DD vwCl [(am, .inr (9, [.int (nI th), .int (nI n), .ref hk, .ref ht, .int (nI n1), .ref hk1, .ref ht1, .int (zb pb), .int (nI rn), .ref hfg, .ref hle, .ref hmo, .ref hwy, .int (nI tn), .ref htf, .long cm, .ref hod, .ref hwk, .ref hot, .int (nI ru), .ref hen]))] U.heap ∧ va_K DD vwCl [] U ∧ va_D (fun _ => True) [(am, .inr (9, [.int (nI th), .int (nI n), .ref hk, .ref ht, .int (nI n1), .ref hk1, .ref ht1, .int (zb pb), .int (nI rn), .ref hfg, .ref hle, .ref hmo, .ref hwy, .int (nI tn), .ref htf, .long cm, .ref hod, .ref hwk, .ref hot, .int (nI ru), .ref hen]))])) (va_Qi (fun (r9 : Int32) (u9 : Unit) => match u9 with | _ => r9 = nI 0) (fun (u9 : Unit) (t9 : State) => match u9 with | _ => va_P DD vwCl [(am, .inr (9, [.int (nI 1), .int (nI n), .ref hk, .ref ht, .int (nI n1), .ref hk1, .ref ht1, .int (zb pb), .int (nI rn), .ref hfg, .ref hle, .ref hmo, .ref hwy, .int (nI tn), .ref htf, .long cm, .ref hod, .ref hwk, .ref hot, .int (nI ru), .ref hen]))] t9.heap ∧ va_K DD vwCl [] t9 ∧ va_D (va_A [(am, .inr (9, [.int (nI th), .int (nI n), .ref hk, .ref ht, .int (nI n1), .ref hk1, .ref ht1, .int (zb pb), .int (nI rn), .ref hfg, .ref hle, .ref hmo, .ref hwy, .int (nI tn), .ref htf, .long cm, .ref hod, .ref hwk, .ref hot, .int (nI ru), .ref hen]))] sz) [(am, .inr (9, [.int (nI 1), .int (nI n), .ref hk, .ref ht, .int (nI n1), .ref hk1, .ref ht1, .int (zb pb), .int (nI rn), .ref hfg, .ref hle, .ref hmo, .ref hwy, .int (nI tn), .ref htf, .long cm, .ref hod, .ref hwk, .ref hot, .int (nI ru), .ref hen]))]) (va_A [(am, .inr (9, [.int (nI th), .int (nI n), .ref hk, .ref ht, .int (nI n1), .ref hk1, .ref ht1, .int (zb pb), .int (nI rn), .ref hfg, .ref hle, .ref hmo, .ref hwy, .int (nI tn), .ref htf, .long cm, .ref hod, .ref hwk, .ref hot, .int (nI ru), .ref hen]))] sz)) 0 0 (va_A [(am, .inr (9, [.int (nI th), .int (nI n), .ref hk, .ref ht, .int (nI n1), .ref hk1, .ref ht1, .int (zb pb), .int (nI rn), .ref hfg, .ref hle, .ref hmo, .ref hwy, .int (nI tn), .ref htf, .long cm, .ref hod, .ref hwk, .ref hot, .int (nI ru), .ref hen]))] sz) := by
  refine Met.ofW (cc := b_Mo_put) (maxL := 3) (ret := (some .int)) (by decide) rfl ?_
  intro p e s m args below meth c s₁ B hml hv
  obtain ⟨ha, hsz, hP, hK, hD0⟩ := hv
  have hx := B.exec
  have hb := B.bytes
  have hr := B.returns
  have hts := atoms_spec (ws := ws_Mo_put) B.pre
  have hg : ∀ w ∈ ALLG, w.before args s = true := fun w h => hts w (List.mem_cons_of_mem _ h)
  have hown : s.vm.findClass R_Mo = some m.cls := findClass_of_methodNamed B.named
  have hlocks := B.notSynchronized
  subst hsz
  have hD := hD0.self (sz := s.heap.size)
  generalize hAe : va_A [(am, .inr (9, [.int (nI th), .int (nI n), .ref hk, .ref ht, .int (nI n1), .ref hk1, .ref ht1, .int (zb pb), .int (nI rn), .ref hfg, .ref hle, .ref hmo, .ref hwy, .int (nI tn), .ref htf, .long cm, .ref hod, .ref hwk, .ref hot, .int (nI ru), .ref hen]))] s.heap.size = A at hD ⊢
  have hA : ∀ q : Nat, s.heap.size ≤ q → A q := fun q h => by rw [← hAe]; exact Or.inr h
  have hS : va_S A s.heap s.heap [] := va_S.rf
  have hP : va_P DD vwCl [(am, .inr (9, [.int (nI th), .int (nI n), .ref hk, .ref ht, .int (nI n1), .ref hk1, .ref ht1, .int (zb pb), .int (nI rn), .ref hfg, .ref hle, .ref hmo, .ref hwy, .int (nI tn), .ref htf, .long cm, .ref hod, .ref hwk, .ref hot, .int (nI ru), .ref hen]))] s.heap := hP
  have hl := lv_entry ([.ref am, .int x, .int y]) (n := 3) (Nat.le_of_ble_eq_true rfl)
  rw [ha, lg_entry_eq, ← ha]
  generalize (lg_sl ([.ref am, .int x, .int y]) ++ List.replicate (3 - (lg_sl ([.ref am, .int x, .int y])).length) Slot.unset).toArray = ls at hl ⊢
  have hl : lv_has ls 3 [(0, .ref am), (1, .int x), (2, .int y)] := hl
  refine lv_aload_n hx hb d_Mo_put_0 rfl (lv_at hl 0 rfl) ?_
  refine lv_aload_n hx hb d_Mo_put_1 rfl (lv_at hl 0 rfl) ?_
  refine va_get (D := DD) (ci := 9) (v := .int (nI n)) (C := R_Mo) (T := T_Mo) (N := 21) hx hb hg in_Mo hown hK hP 0 rfl rfl 1 (by decide) (hg _ mw_680) (fun _ h9 => h9) rfl d_Mo_put_2 ?_
  refine lv_sipush (v := nI 150) hx hb d_Mo_put_5 (by decide) ?_
  refine z_icmp_ne (tgt := 15) hx hb d_Mo_put_8 (by decide) (by omega) (by omega) (fun c_8 => ?_) (fun c_8 => ?_)
  · exact absurd (show n = 150 by omega) c_8
  · refine lv_iconst (v := nI 1) hx hb d_Mo_put_11 (by decide) ?_
    refine lv_goto (tgt := 16) hx hb d_Mo_put_12 (by decide) ?_
    refine va_put (D := DD) (ci := 9) (v := .int (nI 1)) (ty := .int) (C := R_Mo) (T := T_Mo) (N := 21) hx hb hg in_Mo t_Mo to_Mo n_Mo hown hK hP hD hS 0 rfl rfl 0 (by decide) (hg _ mw_679) (fun _ h9 => h9) rfl (by decide +kernel) rfl rfl (Nat.le_of_ble_eq_true rfl) d_Mo_put_16 (fun H locs hP hD hS => ?_)
    have hP : va_P DD vwCl [(am, .inr (9, [.int (nI 1), .int (nI n), .ref hk, .ref ht, .int (nI n1), .ref hk1, .ref ht1, .int (zb pb), .int (nI rn), .ref hfg, .ref hle, .ref hmo, .ref hwy, .int (nI tn), .ref htf, .long cm, .ref hod, .ref hwk, .ref hot, .int (nI ru), .ref hen]))] H := hP
    have hD : va_D A [(am, .inr (9, [.int (nI 1), .int (nI n), .ref hk, .ref ht, .int (nI n1), .ref hk1, .ref ht1, .int (zb pb), .int (nI rn), .ref hfg, .ref hle, .ref hmo, .ref hwy, .int (nI tn), .ref htf, .long cm, .ref hod, .ref hwk, .ref hot, .int (nI ru), .ref hen]))] := hD
    refine lv_aload_n hx hb d_Mo_put_19 rfl (lv_at hl 0 rfl) ?_
    refine va_get (D := DD) (ci := 9) (v := .int (nI 1)) (C := R_Mo) (T := T_Mo) (N := 21) hx hb hg in_Mo hown hK hP 0 rfl rfl 0 (by decide) (hg _ mw_679) (fun _ h9 => h9) rfl d_Mo_put_20 ?_
    refine z_if_le (tgt := 28) hx hb d_Mo_put_23 (by decide) (by omega) (fun c_23 => ?_) (fun c_23 => ?_)
    · exact absurd c_23 (by decide)
    · refine lv_iconst (v := nI 0) hx hb d_Mo_put_26 (by decide) ?_
      have hP9 := hP.sub (ws' := [(am, .inr (9, [.int (nI 1), .int (nI n), .ref hk, .ref ht, .int (nI n1), .ref hk1, .ref ht1, .int (zb pb), .int (nI rn), .ref hfg, .ref hle, .ref hmo, .ref hwy, .int (nI tn), .ref htf, .long cm, .ref hod, .ref hwk, .ref hot, .int (nI ru), .ref hen]))]) [0] rfl
      have hD9 := hD.sub (ws' := [(am, .inr (9, [.int (nI 1), .int (nI n), .ref hk, .ref ht, .int (nI n1), .ref hk1, .ref ht1, .int (zb pb), .int (nI rn), .ref hfg, .ref hle, .ref hmo, .ref hwy, .int (nI tn), .ref htf, .long cm, .ref hod, .ref hwk, .ref hot, .int (nI ru), .ref hen]))]) [0] (by decide) rfl
      exact W.iret (v := nI 0) hx hb hr (fun t9 ht9 hW9 => ⟨⟨_, (), rfl, rfl, by rw [ht9]; exact hP9, va_K.moved hW9.alike hK, hD9⟩, hS.F ht9⟩) hS.2.2 d_Mo_put_27
theorem d_Mo_insert_0 : decode b_Mo_insert 0 = .ok (.aload_n 0, 1) := by decide +kernel
theorem d_Mo_insert_1 : decode b_Mo_insert 1 = .ok (.iload_n 1, 1) := by decide +kernel
theorem d_Mo_insert_2 : decode b_Mo_insert 2 = .ok (.ifCond .lt 11, 3) := by decide +kernel
theorem d_Mo_insert_5 : decode b_Mo_insert 5 = .ok (.iload_n 1, 1) := by decide +kernel
theorem d_Mo_insert_6 : decode b_Mo_insert 6 = .ok (.aload_n 0, 1) := by decide +kernel
theorem d_Mo_insert_7 : decode b_Mo_insert 7 = .ok (.getfield 54, 3) := by decide +kernel
theorem d_Mo_insert_10 : decode b_Mo_insert 10 = .ok (.if_icmp .le 7, 3) := by decide +kernel
theorem d_Mo_insert_13 : decode b_Mo_insert 13 = .ok (.iconst 1, 1) := by decide +kernel
theorem d_Mo_insert_14 : decode b_Mo_insert 14 = .ok (.goto 18, 3) := by decide +kernel
theorem d_Mo_insert_17 : decode b_Mo_insert 17 = .ok (.aload_n 0, 1) := by decide +kernel
theorem d_Mo_insert_18 : decode b_Mo_insert 18 = .ok (.getfield 54, 3) := by decide +kernel
theorem d_Mo_insert_21 : decode b_Mo_insert 21 = .ok (.sipush 150, 3) := by decide +kernel
theorem d_Mo_insert_24 : decode b_Mo_insert 24 = .ok (.if_icmp .ne 7, 3) := by decide +kernel
theorem d_Mo_insert_27 : decode b_Mo_insert 27 = .ok (.iconst 2, 1) := by decide +kernel
theorem d_Mo_insert_28 : decode b_Mo_insert 28 = .ok (.goto 4, 3) := by decide +kernel
theorem d_Mo_insert_31 : decode b_Mo_insert 31 = .ok (.iconst 0, 1) := by decide +kernel
theorem d_Mo_insert_32 : decode b_Mo_insert 32 = .ok (.putfield 50, 3) := by decide +kernel
theorem d_Mo_insert_35 : decode b_Mo_insert 35 = .ok (.aload_n 0, 1) := by decide +kernel
theorem d_Mo_insert_36 : decode b_Mo_insert 36 = .ok (.getfield 50, 3) := by decide +kernel
theorem d_Mo_insert_39 : decode b_Mo_insert 39 = .ok (.ifCond .le 5, 3) := by decide +kernel
theorem d_Mo_insert_42 : decode b_Mo_insert 42 = .ok (.iconst 0, 1) := by decide +kernel
theorem d_Mo_insert_43 : decode b_Mo_insert 43 = .ok (.ireturn, 1) := by decide +kernel
theorem d_Mo_insert_44 : decode b_Mo_insert 44 = .ok (.aload_n 0, 1) := by decide +kernel
theorem d_Mo_insert_45 : decode b_Mo_insert 45 = .ok (.iload_n 1, 1) := by decide +kernel
theorem d_Mo_insert_46 : decode b_Mo_insert 46 = .ok (.iload_n 2, 1) := by decide +kernel
theorem d_Mo_insert_47 : decode b_Mo_insert 47 = .ok (.iload_n 3, 1) := by decide +kernel
theorem d_Mo_insert_48 : decode b_Mo_insert 48 = .ok (.invokevirtual 61, 3) := by decide +kernel
theorem d_Mo_insert_51 : decode b_Mo_insert 51 = .ok (.aload_n 0, 1) := by decide +kernel
theorem d_Mo_insert_52 : decode b_Mo_insert 52 = .ok (.getfield 54, 3) := by decide +kernel
theorem d_Mo_insert_55 : decode b_Mo_insert 55 = .ok (.ireturn, 1) := by decide +kernel
abbrev ws_Mo_insert : List Cond := .code y_Mo_insert b_Mo_insert 4 (some .int) :: ALLG
abbrev rm_Mo_insert : Room := { frames := 1, cells := 0, slots := 0, locals := 24 }
set_option maxHeartbeats 4000000 in
set_option maxRecDepth 100000 in
theorem c_Mo_insert (l : Launch) (DD : va_G) (sz : Nat) (am : Nat) (th : Nat) (n : Nat) (hk : Nat) (ck : ClassId) (k : Nat → Int32) (ht : Nat) (ct : ClassId) (t : Nat → Int32) (n1 : Nat) (hk1 : Nat) (ht1 : Nat) (pb : Bool) (rn : Nat) (hfg : Nat) (hle : Nat) (hmo : Nat) (hwy : Nat) (tn : Nat) (htf : Nat) (cm : Int64) (hod : Nat) (hwk : Nat) (hot : Nat) (ru : Nat) (hen : Nat) (j : Nat) (x : Int32) (y : Int32) (hn : n < 150) (hj : j ≤ n) : Met l y_Mo_insert ws_Mo_insert rm_Mo_insert (va_Pc [.ref am, .int (nI j), .int x, .int y] (fun U => U.heap.size = sz ∧ va_P DD vwCl [(am, .inr (9, [.int (nI th), .int (nI n), .ref hk, .ref ht, .int (nI n1), .ref hk1, .ref ht1, .int (zb pb), .int (nI rn), .ref hfg, .ref hle, .ref hmo, .ref hwy, .int (nI tn), .ref htf, .long cm, .ref hod, .ref hwk, .ref hot, .int (nI ru), .ref hen])), (hk, .inl (ck, 150, .inl k)), (ht, .inl (ct, 150, .inl t))] U.heap ∧ va_K DD vwCl [(ck, .int), (ct, .int)] U ∧ va_D (fun _ => True) [(am, .inr (9, [.int (nI th), .int (nI n), .ref hk, .ref ht, .int (nI n1), .ref hk1, .ref ht1, .int (zb pb), .int (nI rn), .ref hfg, .ref hle, .ref hmo, .ref hwy, .int (nI tn), .ref htf, .long cm, .ref hod, .ref hwk, .ref hot, .int (nI ru), .ref hen])), (hk, .inl (ck, 150, .inl k)), (ht, .inl (ct, 150, .inl t))])) (va_Qi (fun (r9 : Int32) (u9 : Unit) => match u9 with | _ => r9 = nI (n + 1)) (fun (u9 : Unit) (t9 : State) => match u9 with | _ => va_P DD vwCl [(am, .inr (9, [.int (nI 0), .int (nI (n + 1)), .ref hk, .ref ht, .int (nI n1), .ref hk1, .ref ht1, .int (zb false), .int (nI rn), .ref hfg, .ref hle, .ref hmo, .ref hwy, .int (nI tn), .ref htf, .long cm, .ref hod, .ref hwk, .ref hot, .int (nI ru), .ref hen])), (hk, .inl (ck, 150, .inl (upd (va_cpy k k j (j + 1) (n - j)) j x))), (ht, .inl (ct, 150, .inl (upd (va_cpy t t j (j + 1) (n - j)) j y)))] t9.heap ∧ va_K DD vwCl [(ck, .int), (ct, .int)] t9 ∧ va_D (va_A [(am, .inr (9, [.int (nI th), .int (nI n), .ref hk, .ref ht, .int (nI n1), .ref hk1, .ref ht1, .int (zb pb), .int (nI rn), .ref hfg, .ref hle, .ref hmo, .ref hwy, .int (nI tn), .ref htf, .long cm, .ref hod, .ref hwk, .ref hot, .int (nI ru), .ref hen])), (hk, .inl (ck, 150, .inl k)), (ht, .inl (ct, 150, .inl t))] sz) [(am, .inr (9, [.int (nI 0), .int (nI (n + 1)), .ref hk, .ref ht, .int (nI n1), .ref hk1, .ref ht1, .int (zb false), .int (nI rn), .ref hfg, .ref hle, .ref hmo, .ref hwy, .int (nI tn), .ref htf, .long cm, .ref hod, .ref hwk, .ref hot, .int (nI ru), .ref hen])), (hk, .inl (ck, 150, .inl (upd (va_cpy k k j (j + 1) (n - j)) j x))), (ht, .inl (ct, 150, .inl (upd (va_cpy t t j (j + 1) (n - j)) j y)))]) (va_A [(am, .inr (9, [.int (nI th), .int (nI n), .ref hk, .ref ht, .int (nI n1), .ref hk1, .ref ht1, .int (zb pb), .int (nI rn), .ref hfg, .ref hle, .ref hmo, .ref hwy, .int (nI tn), .ref htf, .long cm, .ref hod, .ref hwk, .ref hot, .int (nI ru), .ref hen])), (hk, .inl (ck, 150, .inl k)), (ht, .inl (ct, 150, .inl t))] sz)) 0 0 (va_A [(am, .inr (9, [.int (nI th), .int (nI n), .ref hk, .ref ht, .int (nI n1), .ref hk1, .ref ht1, .int (zb pb), .int (nI rn), .ref hfg, .ref hle, .ref hmo, .ref hwy, .int (nI tn), .ref htf, .long cm, .ref hod, .ref hwk, .ref hot, .int (nI ru), .ref hen])), (hk, .inl (ck, 150, .inl k)), (ht, .inl (ct, 150, .inl t))] sz) := by
  refine Met.ofW (cc := b_Mo_insert) (maxL := 4) (ret := (some .int)) (by decide) rfl ?_
  intro p e s m args below meth c s₁ B hml hv
  obtain ⟨ha, hsz, hP, hK, hD0⟩ := hv
  have hx := B.exec
  have hb := B.bytes
  have hr := B.returns
  have hts := atoms_spec (ws := ws_Mo_insert) B.pre
  have hg : ∀ w ∈ ALLG, w.before args s = true := fun w h => hts w (List.mem_cons_of_mem _ h)
  have hown : s.vm.findClass R_Mo = some m.cls := findClass_of_methodNamed B.named
  have hlocks := B.notSynchronized
  subst hsz
  have hD := hD0.self (sz := s.heap.size)
  generalize hAe : va_A [(am, .inr (9, [.int (nI th), .int (nI n), .ref hk, .ref ht, .int (nI n1), .ref hk1, .ref ht1, .int (zb pb), .int (nI rn), .ref hfg, .ref hle, .ref hmo, .ref hwy, .int (nI tn), .ref htf, .long cm, .ref hod, .ref hwk, .ref hot, .int (nI ru), .ref hen])), (hk, .inl (ck, 150, .inl k)), (ht, .inl (ct, 150, .inl t))] s.heap.size = A at hD ⊢
  have hA : ∀ q : Nat, s.heap.size ≤ q → A q := fun q h => by rw [← hAe]; exact Or.inr h
  have hS : va_S A s.heap s.heap [] := va_S.rf
  have hP : va_P DD vwCl [(am, .inr (9, [.int (nI th), .int (nI n), .ref hk, .ref ht, .int (nI n1), .ref hk1, .ref ht1, .int (zb pb), .int (nI rn), .ref hfg, .ref hle, .ref hmo, .ref hwy, .int (nI tn), .ref htf, .long cm, .ref hod, .ref hwk, .ref hot, .int (nI ru), .ref hen])), (hk, .inl (ck, 150, .inl k)), (ht, .inl (ct, 150, .inl t))] s.heap := hP
  have hl := lv_entry ([.ref am, .int (nI j), .int x, .int y]) (n := 4) (Nat.le_of_ble_eq_true rfl)
  rw [ha, lg_entry_eq, ← ha]
  generalize (lg_sl ([.ref am, .int (nI j), .int x, .int y]) ++ List.replicate (4 - (lg_sl ([.ref am, .int (nI j), .int x, .int y])).length) Slot.unset).toArray = ls at hl ⊢
  have hl : lv_has ls 4 [(0, .ref am), (1, .int (nI j)), (2, .int x), (3, .int y)] := hl
  refine lv_aload_n hx hb d_Mo_insert_0 rfl (lv_at hl 0 rfl) ?_
  refine lv_iload_n hx hb d_Mo_insert_1 rfl (lv_at hl 1 rfl) ?_
  refine z_if_lt (tgt := 13) hx hb d_Mo_insert_2 (by decide) (by omega) (fun c_2 => ?_) (fun c_2 => ?_)
  · exact c_2.elim
  · refine lv_iload_n hx hb d_Mo_insert_5 rfl (lv_at hl 1 rfl) ?_
    refine lv_aload_n hx hb d_Mo_insert_6 rfl (lv_at hl 0 rfl) ?_
    refine va_get (D := DD) (ci := 9) (v := .int (nI n)) (C := R_Mo) (T := T_Mo) (N := 21) hx hb hg in_Mo hown hK hP 0 rfl rfl 1 (by decide) (hg _ mw_680) (fun _ h9 => h9) rfl d_Mo_insert_7 ?_
    refine z_icmp_le (tgt := 17) hx hb d_Mo_insert_10 (by decide) (by omega) (by omega) (fun c_10 => ?_) (fun c_10 => ?_)
    · refine lv_aload_n hx hb d_Mo_insert_17 rfl (lv_at hl 0 rfl) ?_
      refine va_get (D := DD) (ci := 9) (v := .int (nI n)) (C := R_Mo) (T := T_Mo) (N := 21) hx hb hg in_Mo hown hK hP 0 rfl rfl 1 (by decide) (hg _ mw_680) (fun _ h9 => h9) rfl d_Mo_insert_18 ?_
      refine lv_sipush (v := nI 150) hx hb d_Mo_insert_21 (by decide) ?_
      refine z_icmp_ne (tgt := 31) hx hb d_Mo_insert_24 (by decide) (by omega) (by omega) (fun c_24 => ?_) (fun c_24 => ?_)
      · refine lv_iconst (v := nI 0) hx hb d_Mo_insert_31 (by decide) ?_
        refine va_put (D := DD) (ci := 9) (v := .int (nI 0)) (ty := .int) (C := R_Mo) (T := T_Mo) (N := 21) hx hb hg in_Mo t_Mo to_Mo n_Mo hown hK hP hD hS 0 rfl rfl 0 (by decide) (hg _ mw_679) (fun _ h9 => h9) rfl (by decide +kernel) rfl rfl (Nat.le_of_ble_eq_true rfl) d_Mo_insert_32 (fun H locs hP hD hS => ?_)
        have hP : va_P DD vwCl [(am, .inr (9, [.int (nI 0), .int (nI n), .ref hk, .ref ht, .int (nI n1), .ref hk1, .ref ht1, .int (zb pb), .int (nI rn), .ref hfg, .ref hle, .ref hmo, .ref hwy, .int (nI tn), .ref htf, .long cm, .ref hod, .ref hwk, .ref hot, .int (nI ru), .ref hen])), (hk, .inl (ck, 150, .inl k)), (ht, .inl (ct, 150, .inl t))] H := hP
        have hD : va_D A [(am, .inr (9, [.int (nI 0), .int (nI n), .ref hk, .ref ht, .int (nI n1), .ref hk1, .ref ht1, .int (zb pb), .int (nI rn), .ref hfg, .ref hle, .ref hmo, .ref hwy, .int (nI tn), .ref htf, .long cm, .ref hod, .ref hwk, .ref hot, .int (nI ru), .ref hen])), (hk, .inl (ck, 150, .inl k)), (ht, .inl (ct, 150, .inl t))] := hD
        refine lv_aload_n hx hb d_Mo_insert_35 rfl (lv_at hl 0 rfl) ?_
        refine va_get (D := DD) (ci := 9) (v := .int (nI 0)) (C := R_Mo) (T := T_Mo) (N := 21) hx hb hg in_Mo hown hK hP 0 rfl rfl 0 (by decide) (hg _ mw_679) (fun _ h9 => h9) rfl d_Mo_insert_36 ?_
        refine z_if_le (tgt := 44) hx hb d_Mo_insert_39 (by decide) (by omega) (fun c_39 => ?_) (fun c_39 => ?_)
        · refine lv_aload_n hx hb d_Mo_insert_44 rfl (lv_at hl 0 rfl) ?_
          refine lv_iload_n hx hb d_Mo_insert_45 rfl (lv_at hl 1 rfl) ?_
          refine lv_iload_n hx hb d_Mo_insert_46 rfl (lv_at hl 2 rfl) ?_
          refine lv_iload_n hx hb d_Mo_insert_47 rfl (lv_at hl 3 rfl) ?_
          have hPc := hP.sub (ws' := [(am, .inr (9, [.int (nI 0), .int (nI n), .ref hk, .ref ht, .int (nI n1), .ref hk1, .ref ht1, .int (zb pb), .int (nI rn), .ref hfg, .ref hle, .ref hmo, .ref hwy, .int (nI tn), .ref htf, .long cm, .ref hod, .ref hwk, .ref hot, .int (nI ru), .ref hen])), (hk, .inl (ck, 150, .inl k)), (ht, .inl (ct, 150, .inl t))]) [0, 1, 2] rfl
          have hKc := hK.sub (tys' := [(ck, .int), (ct, .int)]) [0, 1] rfl
          have hDc := hD.sub (ws' := [(am, .inr (9, [.int (nI 0), .int (nI n), .ref hk, .ref ht, .int (nI n1), .ref hk1, .ref ht1, .int (zb pb), .int (nI rn), .ref hfg, .ref hle, .ref hmo, .ref hwy, .int (nI tn), .ref htf, .long cm, .ref hod, .ref hwk, .ref hot, .int (nI ru), .ref hen])), (hk, .inl (ck, 150, .inl k)), (ht, .inl (ct, 150, .inl t))]) [0, 1, 2] (by decide) rfl
          have hFc := va_free (wc := [(am, .inr (9, [.int (nI 0), .int (nI n), .ref hk, .ref ht, .int (nI n1), .ref hk1, .ref ht1, .int (zb pb), .int (nI rn), .ref hfg, .ref hle, .ref hmo, .ref hwy, .int (nI tn), .ref htf, .long cm, .ref hod, .ref hwk, .ref hot, .int (nI ru), .ref hen])), (hk, .inl (ck, 150, .inl k)), (ht, .inl (ct, 150, .inl t))]) hD hS hA [0, 1, 2] rfl
          refine va_callv (va_runV (As := [.int (nI j), .int x, .int y]) (rest := []) ⟨hx, hb, hml, hown, hg⟩ (c_Mo_open l DD H.size am 0 n hk ck k ht ct t n1 hk1 ht1 pb rn hfg hle hmo hwy tn htf cm hod hwk hot ru hen j x y (by omega) (by omega)) (cwV 3 hg (gi_V mw_751 mw_753 ms_Mo_open mw_11 mw_754) rfl rfl rfl (by decide +kernel) ⟨Nat.le_of_ble_eq_true rfl, Nat.le_of_ble_eq_true rfl⟩) ⟨z_blindQ, va_recv hKc hPc (ci := 9) (q0 := 0) rfl rfl, z_preQ hPc hKc hDc⟩ rfl rfl hl.1 rfl (lv_room (Nat.le_of_ble_eq_true rfl)) d_Mo_insert_48 ⟨Nat.zero_le _, Nat.zero_le _⟩) hS (fun q _ h => hFc q h) hFc (fun u9 t9 H9 locs ht9 hvm9 hw9 hB9 hz9 hk9 hS => ?_)
          obtain ⟨hP1, hK1, hD1⟩ := hB9
          rw [ht9] at hP1
          try dsimp only at hw9
          obtain ⟨hP, hD⟩ := va_join (wr := []) (w1 := [(am, .inr (9, [.int (nI 0), .int (nI (n + 1)), .ref hk, .ref ht, .int (nI n1), .ref hk1, .ref ht1, .int (zb false), .int (nI rn), .ref hfg, .ref hle, .ref hmo, .ref hwy, .int (nI tn), .ref htf, .long cm, .ref hod, .ref hwk, .ref hot, .int (nI ru), .ref hen])), (hk, .inl (ck, 150, .inl (upd (va_cpy k k j (j + 1) (n - j)) j x))), (ht, .inl (ct, 150, .inl (upd (va_cpy t t j (j + 1) (n - j)) j y)))]) hP hD [0, 1, 2] [] rfl rfl (by decide) (by decide) hk9 hFc hP1 hD1
          generalize H9 = H at hP hS ⊢
          have hP : va_P DD vwCl [(am, .inr (9, [.int (nI 0), .int (nI (n + 1)), .ref hk, .ref ht, .int (nI n1), .ref hk1, .ref ht1, .int (zb false), .int (nI rn), .ref hfg, .ref hle, .ref hmo, .ref hwy, .int (nI tn), .ref htf, .long cm, .ref hod, .ref hwk, .ref hot, .int (nI ru), .ref hen])), (hk, .inl (ck, 150, .inl (upd (va_cpy k k j (j + 1) (n - j)) j x))), (ht, .inl (ct, 150, .inl (upd (va_cpy t t j (j + 1) (n - j)) j y)))] H := hP
          have hD : va_D A [(am, .inr (9, [.int (nI 0), .int (nI (n + 1)), .ref hk, .ref ht, .int (nI n1), .ref hk1, .ref ht1, .int (zb false), .int (nI rn), .ref hfg, .ref hle, .ref hmo, .ref hwy, .int (nI tn), .ref htf, .long cm, .ref hod, .ref hwk, .ref hot, .int (nI ru), .ref hen])), (hk, .inl (ck, 150, .inl (upd (va_cpy k k j (j + 1) (n - j)) j x))), (ht, .inl (ct, 150, .inl (upd (va_cpy t t j (j + 1) (n - j)) j y)))] := hD
          refine lv_aload_n hx hb d_Mo_insert_51 rfl (lv_at hl 0 rfl) ?_
          refine va_get (D := DD) (ci := 9) (v := .int (nI (n + 1))) (C := R_Mo) (T := T_Mo) (N := 21) hx hb hg in_Mo hown hK hP 0 rfl rfl 1 (by decide) (hg _ mw_680) (fun _ h9 => h9) rfl d_Mo_insert_52 ?_
          have hP9 := hP.sub (ws' := [(am, .inr (9, [.int (nI 0), .int (nI (n + 1)), .ref hk, .ref ht, .int (nI n1), .ref hk1, .ref ht1, .int (zb false), .int (nI rn), .ref hfg, .ref hle, .ref hmo, .ref hwy, .int (nI tn), .ref htf, .long cm, .ref hod, .ref hwk, .ref hot, .int (nI ru), .ref hen])), (hk, .inl (ck, 150, .inl (upd (va_cpy k k j (j + 1) (n - j)) j x))), (ht, .inl (ct, 150, .inl (upd (va_cpy t t j (j + 1) (n - j)) j y)))]) [0, 1, 2] rfl
          have hD9 := hD.sub (ws' := [(am, .inr (9, [.int (nI 0), .int (nI (n + 1)), .ref hk, .ref ht, .int (nI n1), .ref hk1, .ref ht1, .int (zb false), .int (nI rn), .ref hfg, .ref hle, .ref hmo, .ref hwy, .int (nI tn), .ref htf, .long cm, .ref hod, .ref hwk, .ref hot, .int (nI ru), .ref hen])), (hk, .inl (ck, 150, .inl (upd (va_cpy k k j (j + 1) (n - j)) j x))), (ht, .inl (ct, 150, .inl (upd (va_cpy t t j (j + 1) (n - j)) j y)))]) [0, 1, 2] (by decide) rfl
          exact W.iret (v := nI (n + 1)) hx hb hr (fun t9 ht9 hW9 => ⟨⟨_, (), rfl, rfl, by rw [ht9]; exact hP9, va_K.moved hW9.alike hK, hD9⟩, hS.F ht9⟩) hS.2.2 d_Mo_insert_55
        · exact absurd c_39 (by decide)
      · exact absurd c_24 (by omega)
    · exact absurd c_10 (by omega)
abbrev rm_Mo_insert_T1 : Room := { frames := 0, cells := 0, slots := 0, locals := 0 }
set_option maxHeartbeats 4000000 in
set_option maxRecDepth 100000 in
theorem c_Mo_insert_T1 (l : Launch) (DD : va_G) (sz : Nat) (am : Nat) (th : Nat) (n : Nat) (hk : Nat) (ht : Nat) (n1 : Nat) (hk1 : Nat) (ht1 : Nat) (pb : Bool) (rn : Nat) (hfg : Nat) (hle : Nat) (hmo : Nat) (hwy : Nat) (tn : Nat) (htf : Nat) (cm : Int64) (hod : Nat) (hwk : Nat) (hot : Nat) (ru : Nat) (hen : Nat) (v : Int32) (x : Int32) (y : Int32) (hn : n ≤ 150) (hf : v < 0 ∨ ¬ v ≤ nI n) : Met l y_Mo_insert ws_Mo_insert rm_Mo_insert_T1 (va_Pc [.ref am, .int v, .int x, .int y] (fun U => U.heap.size = sz ∧ va_P DD vwCl [(am, .inr (9, [.int (nI th), .int (nI n), .ref hk, .ref ht, .int (nI n1), .ref hk1, .ref ht1, .int (zb pb), .int (nI rn), .ref hfg, .ref hle, .ref hmo, .ref hwy, .int (nI tn), .ref htf, .long cm, .ref hod, .ref hwk, .ref hot, .int (nI ru), .ref hen]))] U.heap ∧ va_K DD vwCl [] U ∧ va_D (fun _ => True) [(am, .inr (9, [.int (nI th), .int (nI n), .ref hk, .ref ht, .int (nI n1), .ref hk1, .ref ht1, .int (zb pb), .int (nI rn), .ref hfg, .ref hle, .ref hmo, .ref hwy, .int (nI tn), .ref htf, .long cm, .ref hod, .ref hwk, .ref hot, .int (nI ru), .ref hen]))])) (va_Qi (fun (r9 : Int32) (u9 : Unit) => match u9 with | _ => r9 = nI 0) (fun (u9 : Unit) (t9 : State) => match u9 with | _ => va_P DD vwCl [(am, .inr (9, [.int (nI 1), .int (nI n), .ref hk, .ref ht, .int (nI n1), .ref hk1, .ref ht1, .int (zb pb), .int (nI rn), .ref hfg, .ref hle, .ref hmo, .ref hwy, .int (nI tn), .ref htf, .long cm, .ref hod, .ref hwk, .ref hot, .int (nI ru), .ref hen]))] t9.heap ∧ va_K DD vwCl [] t9 ∧ va_D (va_A [(am, .inr (9, [.int (nI th), .int (nI n), .ref hk, .ref ht, .int (nI n1), .ref hk1, .ref ht1, .int (zb pb), .int (nI rn), .ref hfg, .ref hle, .ref hmo, .ref hwy, .int (nI tn), .ref htf, .long cm, .ref hod, .ref hwk, .ref hot, .int (nI ru), .ref hen]))] sz) [(am, .inr (9, [.int (nI 1), .int (nI n), .ref hk, .ref ht, .int (nI n1), .ref hk1, .ref ht1, .int (zb pb), .int (nI rn), .ref hfg, .ref hle, .ref hmo, .ref hwy, .int (nI tn), .ref htf, .long cm, .ref hod, .ref hwk, .ref hot, .int (nI ru), .ref hen]))]) (va_A [(am, .inr (9, [.int (nI th), .int (nI n), .ref hk, .ref ht, .int (nI n1), .ref hk1, .ref ht1, .int (zb pb), .int (nI rn), .ref hfg, .ref hle, .ref hmo, .ref hwy, .int (nI tn), .ref htf, .long cm, .ref hod, .ref hwk, .ref hot, .int (nI ru), .ref hen]))] sz)) 0 0 (va_A [(am, .inr (9, [.int (nI th), .int (nI n), .ref hk, .ref ht, .int (nI n1), .ref hk1, .ref ht1, .int (zb pb), .int (nI rn), .ref hfg, .ref hle, .ref hmo, .ref hwy, .int (nI tn), .ref htf, .long cm, .ref hod, .ref hwk, .ref hot, .int (nI ru), .ref hen]))] sz) := by
  refine Met.ofW (cc := b_Mo_insert) (maxL := 4) (ret := (some .int)) (by decide) rfl ?_
  intro p e s m args below meth c s₁ B hml hv
  obtain ⟨ha, hsz, hP, hK, hD0⟩ := hv
  have hx := B.exec
  have hb := B.bytes
  have hr := B.returns
  have hts := atoms_spec (ws := ws_Mo_insert) B.pre
  have hg : ∀ w ∈ ALLG, w.before args s = true := fun w h => hts w (List.mem_cons_of_mem _ h)
  have hown : s.vm.findClass R_Mo = some m.cls := findClass_of_methodNamed B.named
  have hlocks := B.notSynchronized
  subst hsz
  have hD := hD0.self (sz := s.heap.size)
  generalize hAe : va_A [(am, .inr (9, [.int (nI th), .int (nI n), .ref hk, .ref ht, .int (nI n1), .ref hk1, .ref ht1, .int (zb pb), .int (nI rn), .ref hfg, .ref hle, .ref hmo, .ref hwy, .int (nI tn), .ref htf, .long cm, .ref hod, .ref hwk, .ref hot, .int (nI ru), .ref hen]))] s.heap.size = A at hD ⊢
  have hA : ∀ q : Nat, s.heap.size ≤ q → A q := fun q h => by rw [← hAe]; exact Or.inr h
  have hS : va_S A s.heap s.heap [] := va_S.rf
  have hP : va_P DD vwCl [(am, .inr (9, [.int (nI th), .int (nI n), .ref hk, .ref ht, .int (nI n1), .ref hk1, .ref ht1, .int (zb pb), .int (nI rn), .ref hfg, .ref hle, .ref hmo, .ref hwy, .int (nI tn), .ref htf, .long cm, .ref hod, .ref hwk, .ref hot, .int (nI ru), .ref hen]))] s.heap := hP
  have hl := lv_entry ([.ref am, .int v, .int x, .int y]) (n := 4) (Nat.le_of_ble_eq_true rfl)
  rw [ha, lg_entry_eq, ← ha]
  generalize (lg_sl ([.ref am, .int v, .int x, .int y]) ++ List.replicate (4 - (lg_sl ([.ref am, .int v, .int x, .int y])).length) Slot.unset).toArray = ls at hl ⊢
  have hl : lv_has ls 4 [(0, .ref am), (1, .int v), (2, .int x), (3, .int y)] := hl
  refine lv_aload_n hx hb d_Mo_insert_0 rfl (lv_at hl 0 rfl) ?_
  refine lv_iload_n hx hb d_Mo_insert_1 rfl (lv_at hl 1 rfl) ?_
  refine lv_if_lt (tgt := 13) hx hb d_Mo_insert_2 (by decide) (fun c_2 => ?_) (fun c_2 => ?_)
  · refine lv_iconst (v := nI 1) hx hb d_Mo_insert_13 (by decide) ?_
    refine lv_goto (tgt := 32) hx hb d_Mo_insert_14 (by decide) ?_
    refine va_put (D := DD) (ci := 9) (v := .int (nI 1)) (ty := .int) (C := R_Mo) (T := T_Mo) (N := 21) hx hb hg in_Mo t_Mo to_Mo n_Mo hown hK hP hD hS 0 rfl rfl 0 (by decide) (hg _ mw_679) (fun _ h9 => h9) rfl (by decide +kernel) rfl rfl (Nat.le_of_ble_eq_true rfl) d_Mo_insert_32 (fun H locs hP hD hS => ?_)
    have hP : va_P DD vwCl [(am, .inr (9, [.int (nI 1), .int (nI n), .ref hk, .ref ht, .int (nI n1), .ref hk1, .ref ht1, .int (zb pb), .int (nI rn), .ref hfg, .ref hle, .ref hmo, .ref hwy, .int (nI tn), .ref htf, .long cm, .ref hod, .ref hwk, .ref hot, .int (nI ru), .ref hen]))] H := hP
    have hD : va_D A [(am, .inr (9, [.int (nI 1), .int (nI n), .ref hk, .ref ht, .int (nI n1), .ref hk1, .ref ht1, .int (zb pb), .int (nI rn), .ref hfg, .ref hle, .ref hmo, .ref hwy, .int (nI tn), .ref htf, .long cm, .ref hod, .ref hwk, .ref hot, .int (nI ru), .ref hen]))] := hD
    refine lv_aload_n hx hb d_Mo_insert_35 rfl (lv_at hl 0 rfl) ?_
    refine va_get (D := DD) (ci := 9) (v := .int (nI 1)) (C := R_Mo) (T := T_Mo) (N := 21) hx hb hg in_Mo hown hK hP 0 rfl rfl 0 (by decide) (hg _ mw_679) (fun _ h9 => h9) rfl d_Mo_insert_36 ?_
    refine z_if_le (tgt := 44) hx hb d_Mo_insert_39 (by decide) (by omega) (fun c_39 => ?_) (fun c_39 => ?_)
    · exact absurd c_39 (by decide)
    · refine lv_iconst (v := nI 0) hx hb d_Mo_insert_42 (by decide) ?_
      have hP9 := hP.sub (ws' := [(am, .inr (9, [.int (nI 1), .int (nI n), .ref hk, .ref ht, .int (nI n1), .ref hk1, .ref ht1, .int (zb pb), .int (nI rn), .ref hfg, .ref hle, .ref hmo, .ref hwy, .int (nI tn), .ref htf, .long cm, .ref hod, .ref hwk, .ref hot, .int (nI ru), .ref hen]))]) [0] rfl
      have hD9 := hD.sub (ws' := [(am, .inr (9, [.int (nI 1), .int (nI n), .ref hk, .ref ht, .int (nI n1), .ref hk1, .ref ht1, .int (zb pb), .int (nI rn), .ref hfg, .ref hle, .ref hmo, .ref hwy, .int (nI tn), .ref htf, .long cm, .ref hod, .ref hwk, .ref hot, .int (nI ru), .ref hen]))]) [0] (by decide) rfl
      exact W.iret (v := nI 0) hx hb hr (fun t9 ht9 hW9 => ⟨⟨_, (), rfl, rfl, by rw [ht9]; exact hP9, va_K.moved hW9.alike hK, hD9⟩, hS.F ht9⟩) hS.2.2 d_Mo_insert_43
  · refine lv_iload_n hx hb d_Mo_insert_5 rfl (lv_at hl 1 rfl) ?_
    refine lv_aload_n hx hb d_Mo_insert_6 rfl (lv_at hl 0 rfl) ?_
    refine va_get (D := DD) (ci := 9) (v := .int (nI n)) (C := R_Mo) (T := T_Mo) (N := 21) hx hb hg in_Mo hown hK hP 0 rfl rfl 1 (by decide) (hg _ mw_680) (fun _ h9 => h9) rfl d_Mo_insert_7 ?_
    refine lv_icmp_le (tgt := 17) hx hb d_Mo_insert_10 (by decide) (fun c_10 => ?_) (fun c_10 => ?_)
    · exact absurd c_10 (hf.elim (fun h => absurd h c_2) id)
    · refine lv_iconst (v := nI 1) hx hb d_Mo_insert_13 (by decide) ?_
      refine lv_goto (tgt := 32) hx hb d_Mo_insert_14 (by decide) ?_
      refine va_put (D := DD) (ci := 9) (v := .int (nI 1)) (ty := .int) (C := R_Mo) (T := T_Mo) (N := 21) hx hb hg in_Mo t_Mo to_Mo n_Mo hown hK hP hD hS 0 rfl rfl 0 (by decide) (hg _ mw_679) (fun _ h9 => h9) rfl (by decide +kernel) rfl rfl (Nat.le_of_ble_eq_true rfl) d_Mo_insert_32 (fun H locs hP hD hS => ?_)
      have hP : va_P DD vwCl [(am, .inr (9, [.int (nI 1), .int (nI n), .ref hk, .ref ht, .int (nI n1), .ref hk1, .ref ht1, .int (zb pb), .int (nI rn), .ref hfg, .ref hle, .ref hmo, .ref hwy, .int (nI tn), .ref htf, .long cm, .ref hod, .ref hwk, .ref hot, .int (nI ru), .ref hen]))] H := hP
      have hD : va_D A [(am, .inr (9, [.int (nI 1), .int (nI n), .ref hk, .ref ht, .int (nI n1), .ref hk1, .ref ht1, .int (zb pb), .int (nI rn), .ref hfg, .ref hle, .ref hmo, .ref hwy, .int (nI tn), .ref htf, .long cm, .ref hod, .ref hwk, .ref hot, .int (nI ru), .ref hen]))] := hD
      refine lv_aload_n hx hb d_Mo_insert_35 rfl (lv_at hl 0 rfl) ?_
      refine va_get (D := DD) (ci := 9) (v := .int (nI 1)) (C := R_Mo) (T := T_Mo) (N := 21) hx hb hg in_Mo hown hK hP 0 rfl rfl 0 (by decide) (hg _ mw_679) (fun _ h9 => h9) rfl d_Mo_insert_36 ?_
      refine z_if_le (tgt := 44) hx hb d_Mo_insert_39 (by decide) (by omega) (fun c_39 => ?_) (fun c_39 => ?_)
      · exact absurd c_39 (by decide)
      · refine lv_iconst (v := nI 0) hx hb d_Mo_insert_42 (by decide) ?_
        have hP9 := hP.sub (ws' := [(am, .inr (9, [.int (nI 1), .int (nI n), .ref hk, .ref ht, .int (nI n1), .ref hk1, .ref ht1, .int (zb pb), .int (nI rn), .ref hfg, .ref hle, .ref hmo, .ref hwy, .int (nI tn), .ref htf, .long cm, .ref hod, .ref hwk, .ref hot, .int (nI ru), .ref hen]))]) [0] rfl
        have hD9 := hD.sub (ws' := [(am, .inr (9, [.int (nI 1), .int (nI n), .ref hk, .ref ht, .int (nI n1), .ref hk1, .ref ht1, .int (zb pb), .int (nI rn), .ref hfg, .ref hle, .ref hmo, .ref hwy, .int (nI tn), .ref htf, .long cm, .ref hod, .ref hwk, .ref hot, .int (nI ru), .ref hen]))]) [0] (by decide) rfl
        exact W.iret (v := nI 0) hx hb hr (fun t9 ht9 hW9 => ⟨⟨_, (), rfl, rfl, by rw [ht9]; exact hP9, va_K.moved hW9.alike hK, hD9⟩, hS.F ht9⟩) hS.2.2 d_Mo_insert_43
abbrev rm_Mo_insert_T2 : Room := { frames := 0, cells := 0, slots := 0, locals := 0 }
set_option maxHeartbeats 4000000 in
set_option maxRecDepth 100000 in
theorem c_Mo_insert_T2 (l : Launch) (DD : va_G) (sz : Nat) (am : Nat) (th : Nat) (n : Nat) (hk : Nat) (ht : Nat) (n1 : Nat) (hk1 : Nat) (ht1 : Nat) (pb : Bool) (rn : Nat) (hfg : Nat) (hle : Nat) (hmo : Nat) (hwy : Nat) (tn : Nat) (htf : Nat) (cm : Int64) (hod : Nat) (hwk : Nat) (hot : Nat) (ru : Nat) (hen : Nat) (j : Nat) (x : Int32) (y : Int32) (hn : n ≤ 150) (hf : 150 ≤ n) (hj : j ≤ n) : Met l y_Mo_insert ws_Mo_insert rm_Mo_insert_T2 (va_Pc [.ref am, .int (nI j), .int x, .int y] (fun U => U.heap.size = sz ∧ va_P DD vwCl [(am, .inr (9, [.int (nI th), .int (nI n), .ref hk, .ref ht, .int (nI n1), .ref hk1, .ref ht1, .int (zb pb), .int (nI rn), .ref hfg, .ref hle, .ref hmo, .ref hwy, .int (nI tn), .ref htf, .long cm, .ref hod, .ref hwk, .ref hot, .int (nI ru), .ref hen]))] U.heap ∧ va_K DD vwCl [] U ∧ va_D (fun _ => True) [(am, .inr (9, [.int (nI th), .int (nI n), .ref hk, .ref ht, .int (nI n1), .ref hk1, .ref ht1, .int (zb pb), .int (nI rn), .ref hfg, .ref hle, .ref hmo, .ref hwy, .int (nI tn), .ref htf, .long cm, .ref hod, .ref hwk, .ref hot, .int (nI ru), .ref hen]))])) (va_Qi (fun (r9 : Int32) (u9 : Unit) => match u9 with | _ => r9 = nI 0) (fun (u9 : Unit) (t9 : State) => match u9 with | _ => va_P DD vwCl [(am, .inr (9, [.int (nI 2), .int (nI n), .ref hk, .ref ht, .int (nI n1), .ref hk1, .ref ht1, .int (zb pb), .int (nI rn), .ref hfg, .ref hle, .ref hmo, .ref hwy, .int (nI tn), .ref htf, .long cm, .ref hod, .ref hwk, .ref hot, .int (nI ru), .ref hen]))] t9.heap ∧ va_K DD vwCl [] t9 ∧ va_D (va_A [(am, .inr (9, [.int (nI th), .int (nI n), .ref hk, .ref ht, .int (nI n1), .ref hk1, .ref ht1, .int (zb pb), .int (nI rn), .ref hfg, .ref hle, .ref hmo, .ref hwy, .int (nI tn), .ref htf, .long cm, .ref hod, .ref hwk, .ref hot, .int (nI ru), .ref hen]))] sz) [(am, .inr (9, [.int (nI 2), .int (nI n), .ref hk, .ref ht, .int (nI n1), .ref hk1, .ref ht1, .int (zb pb), .int (nI rn), .ref hfg, .ref hle, .ref hmo, .ref hwy, .int (nI tn), .ref htf, .long cm, .ref hod, .ref hwk, .ref hot, .int (nI ru), .ref hen]))]) (va_A [(am, .inr (9, [.int (nI th), .int (nI n), .ref hk, .ref ht, .int (nI n1), .ref hk1, .ref ht1, .int (zb pb), .int (nI rn), .ref hfg, .ref hle, .ref hmo, .ref hwy, .int (nI tn), .ref htf, .long cm, .ref hod, .ref hwk, .ref hot, .int (nI ru), .ref hen]))] sz)) 0 0 (va_A [(am, .inr (9, [.int (nI th), .int (nI n), .ref hk, .ref ht, .int (nI n1), .ref hk1, .ref ht1, .int (zb pb), .int (nI rn), .ref hfg, .ref hle, .ref hmo, .ref hwy, .int (nI tn), .ref htf, .long cm, .ref hod, .ref hwk, .ref hot, .int (nI ru), .ref hen]))] sz) := by
  refine Met.ofW (cc := b_Mo_insert) (maxL := 4) (ret := (some .int)) (by decide) rfl ?_
  intro p e s m args below meth c s₁ B hml hv
  obtain ⟨ha, hsz, hP, hK, hD0⟩ := hv
  have hx := B.exec
  have hb := B.bytes
  have hr := B.returns
  have hts := atoms_spec (ws := ws_Mo_insert) B.pre
  have hg : ∀ w ∈ ALLG, w.before args s = true := fun w h => hts w (List.mem_cons_of_mem _ h)
  have hown : s.vm.findClass R_Mo = some m.cls := findClass_of_methodNamed B.named
  have hlocks := B.notSynchronized
  subst hsz
  have hD := hD0.self (sz := s.heap.size)
  generalize hAe : va_A [(am, .inr (9, [.int (nI th), .int (nI n), .ref hk, .ref ht, .int (nI n1), .ref hk1, .ref ht1, .int (zb pb), .int (nI rn), .ref hfg, .ref hle, .ref hmo, .ref hwy, .int (nI tn), .ref htf, .long cm, .ref hod, .ref hwk, .ref hot, .int (nI ru), .ref hen]))] s.heap.size = A at hD ⊢
  have hA : ∀ q : Nat, s.heap.size ≤ q → A q := fun q h => by rw [← hAe]; exact Or.inr h
  have hS : va_S A s.heap s.heap [] := va_S.rf
  have hP : va_P DD vwCl [(am, .inr (9, [.int (nI th), .int (nI n), .ref hk, .ref ht, .int (nI n1), .ref hk1, .ref ht1, .int (zb pb), .int (nI rn), .ref hfg, .ref hle, .ref hmo, .ref hwy, .int (nI tn), .ref htf, .long cm, .ref hod, .ref hwk, .ref hot, .int (nI ru), .ref hen]))] s.heap := hP
  have hl := lv_entry ([.ref am, .int (nI j), .int x, .int y]) (n := 4) (Nat.le_of_ble_eq_true rfl)
  rw [ha, lg_entry_eq, ← ha]
  generalize (lg_sl ([.ref am, .int (nI j), .int x, .int y]) ++ List.replicate (4 - (lg_sl ([.ref am, .int (nI j), .int x, .int y])).length) Slot.unset).toArray = ls at hl ⊢
  have hl : lv_has ls 4 [(0, .ref am), (1, .int (nI j)), (2, .int x), (3, .int y)] := hl
  refine lv_aload_n hx hb d_Mo_insert_0 rfl (lv_at hl 0 rfl) ?_
  refine lv_iload_n hx hb d_Mo_insert_1 rfl (lv_at hl 1 rfl) ?_
  refine z_if_lt (tgt := 13) hx hb d_Mo_insert_2 (by decide) (by omega) (fun c_2 => ?_) (fun c_2 => ?_)
  · exact c_2.elim
  · refine lv_iload_n hx hb d_Mo_insert_5 rfl (lv_at hl 1 rfl) ?_
    refine lv_aload_n hx hb d_Mo_insert_6 rfl (lv_at hl 0 rfl) ?_
    refine va_get (D := DD) (ci := 9) (v := .int (nI n)) (C := R_Mo) (T := T_Mo) (N := 21) hx hb hg in_Mo hown hK hP 0 rfl rfl 1 (by decide) (hg _ mw_680) (fun _ h9 => h9) rfl d_Mo_insert_7 ?_
    refine z_icmp_le (tgt := 17) hx hb d_Mo_insert_10 (by decide) (by omega) (by omega) (fun c_10 => ?_) (fun c_10 => ?_)
    · refine lv_aload_n hx hb d_Mo_insert_17 rfl (lv_at hl 0 rfl) ?_
      refine va_get (D := DD) (ci := 9) (v := .int (nI n)) (C := R_Mo) (T := T_Mo) (N := 21) hx hb hg in_Mo hown hK hP 0 rfl rfl 1 (by decide) (hg _ mw_680) (fun _ h9 => h9) rfl d_Mo_insert_18 ?_
      refine lv_sipush (v := nI 150) hx hb d_Mo_insert_21 (by decide) ?_
      refine z_icmp_ne (tgt := 31) hx hb d_Mo_insert_24 (by decide) (by omega) (by omega) (fun c_24 => ?_) (fun c_24 => ?_)
      · exact absurd (show n = 150 by omega) c_24
      · refine lv_iconst (v := nI 2) hx hb d_Mo_insert_27 (by decide) ?_
        refine lv_goto (tgt := 32) hx hb d_Mo_insert_28 (by decide) ?_
        refine va_put (D := DD) (ci := 9) (v := .int (nI 2)) (ty := .int) (C := R_Mo) (T := T_Mo) (N := 21) hx hb hg in_Mo t_Mo to_Mo n_Mo hown hK hP hD hS 0 rfl rfl 0 (by decide) (hg _ mw_679) (fun _ h9 => h9) rfl (by decide +kernel) rfl rfl (Nat.le_of_ble_eq_true rfl) d_Mo_insert_32 (fun H locs hP hD hS => ?_)
        have hP : va_P DD vwCl [(am, .inr (9, [.int (nI 2), .int (nI n), .ref hk, .ref ht, .int (nI n1), .ref hk1, .ref ht1, .int (zb pb), .int (nI rn), .ref hfg, .ref hle, .ref hmo, .ref hwy, .int (nI tn), .ref htf, .long cm, .ref hod, .ref hwk, .ref hot, .int (nI ru), .ref hen]))] H := hP
        have hD : va_D A [(am, .inr (9, [.int (nI 2), .int (nI n), .ref hk, .ref ht, .int (nI n1), .ref hk1, .ref ht1, .int (zb pb), .int (nI rn), .ref hfg, .ref hle, .ref hmo, .ref hwy, .int (nI tn), .ref htf, .long cm, .ref hod, .ref hwk, .ref hot, .int (nI ru), .ref hen]))] := hD
        refine lv_aload_n hx hb d_Mo_insert_35 rfl (lv_at hl 0 rfl) ?_
        refine va_get (D := DD) (ci := 9) (v := .int (nI 2)) (C := R_Mo) (T := T_Mo) (N := 21) hx hb hg in_Mo hown hK hP 0 rfl rfl 0 (by decide) (hg _ mw_679) (fun _ h9 => h9) rfl d_Mo_insert_36 ?_
        refine z_if_le (tgt := 44) hx hb d_Mo_insert_39 (by decide) (by omega) (fun c_39 => ?_) (fun c_39 => ?_)
        · exact absurd c_39 (by decide)
        · refine lv_iconst (v := nI 0) hx hb d_Mo_insert_42 (by decide) ?_
          have hP9 := hP.sub (ws' := [(am, .inr (9, [.int (nI 2), .int (nI n), .ref hk, .ref ht, .int (nI n1), .ref hk1, .ref ht1, .int (zb pb), .int (nI rn), .ref hfg, .ref hle, .ref hmo, .ref hwy, .int (nI tn), .ref htf, .long cm, .ref hod, .ref hwk, .ref hot, .int (nI ru), .ref hen]))]) [0] rfl
          have hD9 := hD.sub (ws' := [(am, .inr (9, [.int (nI 2), .int (nI n), .ref hk, .ref ht, .int (nI n1), .ref hk1, .ref ht1, .int (zb pb), .int (nI rn), .ref hfg, .ref hle, .ref hmo, .ref hwy, .int (nI tn), .ref htf, .long cm, .ref hod, .ref hwk, .ref hot, .int (nI ru), .ref hen]))]) [0] (by decide) rfl
          exact W.iret (v := nI 0) hx hb hr (fun t9 ht9 hW9 => ⟨⟨_, (), rfl, rfl, by rw [ht9]; exact hP9, va_K.moved hW9.alike hK, hD9⟩, hS.F ht9⟩) hS.2.2 d_Mo_insert_43
    · exact absurd c_10 (by omega)
theorem d_Mo_remove_0 : decode b_Mo_remove 0 = .ok (.aload_n 0, 1) := by decide +kernel
theorem d_Mo_remove_1 : decode b_Mo_remove 1 = .ok (.iload_n 1, 1) := by decide +kernel
theorem d_Mo_remove_2 : decode b_Mo_remove 2 = .ok (.ifCond .lt 11, 3) := by decide +kernel
theorem d_Mo_remove_5 : decode b_Mo_remove 5 = .ok (.iload_n 1, 1) := by decide +kernel
theorem d_Mo_remove_6 : decode b_Mo_remove 6 = .ok (.aload_n 0, 1) := by decide +kernel
theorem d_Mo_remove_7 : decode b_Mo_remove 7 = .ok (.getfield 54, 3) := by decide +kernel
theorem d_Mo_remove_10 : decode b_Mo_remove 10 = .ok (.if_icmp .lt 7, 3) := by decide +kernel
theorem d_Mo_remove_13 : decode b_Mo_remove 13 = .ok (.iconst 1, 1) := by decide +kernel
theorem d_Mo_remove_14 : decode b_Mo_remove 14 = .ok (.goto 4, 3) := by decide +kernel
theorem d_Mo_remove_17 : decode b_Mo_remove 17 = .ok (.iconst 0, 1) := by decide +kernel
theorem d_Mo_remove_18 : decode b_Mo_remove 18 = .ok (.putfield 50, 3) := by decide +kernel
theorem d_Mo_remove_21 : decode b_Mo_remove 21 = .ok (.aload_n 0, 1) := by decide +kernel
theorem d_Mo_remove_22 : decode b_Mo_remove 22 = .ok (.getfield 50, 3) := by decide +kernel
theorem d_Mo_remove_25 : decode b_Mo_remove 25 = .ok (.ifCond .le 5, 3) := by decide +kernel
theorem d_Mo_remove_28 : decode b_Mo_remove 28 = .ok (.iconst 0, 1) := by decide +kernel
theorem d_Mo_remove_29 : decode b_Mo_remove 29 = .ok (.ireturn, 1) := by decide +kernel
theorem d_Mo_remove_30 : decode b_Mo_remove 30 = .ok (.aload_n 0, 1) := by decide +kernel
theorem d_Mo_remove_31 : decode b_Mo_remove 31 = .ok (.getfield 7, 3) := by decide +kernel
theorem d_Mo_remove_34 : decode b_Mo_remove 34 = .ok (.iload_n 1, 1) := by decide +kernel
theorem d_Mo_remove_35 : decode b_Mo_remove 35 = .ok (.iaload, 1) := by decide +kernel
theorem d_Mo_remove_36 : decode b_Mo_remove 36 = .ok (.istore_n 2, 1) := by decide +kernel
theorem d_Mo_remove_37 : decode b_Mo_remove 37 = .ok (.aload_n 0, 1) := by decide +kernel
theorem d_Mo_remove_38 : decode b_Mo_remove 38 = .ok (.dup, 1) := by decide +kernel
theorem d_Mo_remove_39 : decode b_Mo_remove 39 = .ok (.getfield 54, 3) := by decide +kernel
theorem d_Mo_remove_42 : decode b_Mo_remove 42 = .ok (.iconst 1, 1) := by decide +kernel
theorem d_Mo_remove_43 : decode b_Mo_remove 43 = .ok (.isub, 1) := by decide +kernel
theorem d_Mo_remove_44 : decode b_Mo_remove 44 = .ok (.putfield 54, 3) := by decide +kernel
theorem d_Mo_remove_47 : decode b_Mo_remove 47 = .ok (.iload_n 1, 1) := by decide +kernel
theorem d_Mo_remove_48 : decode b_Mo_remove 48 = .ok (.istore_n 3, 1) := by decide +kernel
theorem d_Mo_remove_49 : decode b_Mo_remove 49 = .ok (.iload_n 3, 1) := by decide +kernel
theorem d_Mo_remove_50 : decode b_Mo_remove 50 = .ok (.aload_n 0, 1) := by decide +kernel
theorem d_Mo_remove_51 : decode b_Mo_remove 51 = .ok (.getfield 54, 3) := by decide +kernel
theorem d_Mo_remove_54 : decode b_Mo_remove 54 = .ok (.if_icmp .ge 37, 3) := by decide +kernel
theorem d_Mo_remove_57 : decode b_Mo_remove 57 = .ok (.aload_n 0, 1) := by decide +kernel
theorem d_Mo_remove_58 : decode b_Mo_remove 58 = .ok (.getfield 7, 3) := by decide +kernel
theorem d_Mo_remove_61 : decode b_Mo_remove 61 = .ok (.iload_n 3, 1) := by decide +kernel
theorem d_Mo_remove_62 : decode b_Mo_remove 62 = .ok (.aload_n 0, 1) := by decide +kernel
theorem d_Mo_remove_63 : decode b_Mo_remove 63 = .ok (.getfield 7, 3) := by decide +kernel
theorem d_Mo_remove_66 : decode b_Mo_remove 66 = .ok (.iload_n 3, 1) := by decide +kernel
theorem d_Mo_remove_67 : decode b_Mo_remove 67 = .ok (.iconst 1, 1) := by decide +kernel
theorem d_Mo_remove_68 : decode b_Mo_remove 68 = .ok (.iadd, 1) := by decide +kernel
theorem d_Mo_remove_69 : decode b_Mo_remove 69 = .ok (.iaload, 1) := by decide +kernel
theorem d_Mo_remove_70 : decode b_Mo_remove 70 = .ok (.iastore, 1) := by decide +kernel
theorem d_Mo_remove_71 : decode b_Mo_remove 71 = .ok (.aload_n 0, 1) := by decide +kernel
theorem d_Mo_remove_72 : decode b_Mo_remove 72 = .ok (.getfield 13, 3) := by decide +kernel
theorem d_Mo_remove_75 : decode b_Mo_remove 75 = .ok (.iload_n 3, 1) := by decide +kernel
theorem d_Mo_remove_76 : decode b_Mo_remove 76 = .ok (.aload_n 0, 1) := by decide +kernel
theorem d_Mo_remove_77 : decode b_Mo_remove 77 = .ok (.getfield 13, 3) := by decide +kernel
theorem d_Mo_remove_80 : decode b_Mo_remove 80 = .ok (.iload_n 3, 1) := by decide +kernel
theorem d_Mo_remove_81 : decode b_Mo_remove 81 = .ok (.iconst 1, 1) := by decide +kernel
theorem d_Mo_remove_82 : decode b_Mo_remove 82 = .ok (.iadd, 1) := by decide +kernel
theorem d_Mo_remove_83 : decode b_Mo_remove 83 = .ok (.iaload, 1) := by decide +kernel
theorem d_Mo_remove_84 : decode b_Mo_remove 84 = .ok (.iastore, 1) := by decide +kernel
theorem d_Mo_remove_85 : decode b_Mo_remove 85 = .ok (.iinc 3 1, 3) := by decide +kernel
theorem d_Mo_remove_88 : decode b_Mo_remove 88 = .ok (.goto (-39), 3) := by decide +kernel
theorem d_Mo_remove_91 : decode b_Mo_remove 91 = .ok (.aload_n 0, 1) := by decide +kernel
theorem d_Mo_remove_92 : decode b_Mo_remove 92 = .ok (.iconst 0, 1) := by decide +kernel
theorem d_Mo_remove_93 : decode b_Mo_remove 93 = .ok (.putfield 57, 3) := by decide +kernel
theorem d_Mo_remove_96 : decode b_Mo_remove 96 = .ok (.iload_n 2, 1) := by decide +kernel
theorem d_Mo_remove_97 : decode b_Mo_remove 97 = .ok (.ireturn, 1) := by decide +kernel
abbrev ws_Mo_remove : List Cond := .code y_Mo_remove b_Mo_remove 4 (some .int) :: ALLG
abbrev rm_Mo_remove : Room := { frames := 0, cells := 0, slots := 0, locals := 0 }
set_option maxHeartbeats 4000000 in
set_option maxRecDepth 100000 in
theorem c_Mo_remove (l : Launch) (DD : va_G) (sz : Nat) (am : Nat) (th : Nat) (n : Nat) (hk : Nat) (ck : ClassId) (k : Nat → Int32) (ht : Nat) (ct : ClassId) (t : Nat → Int32) (n1 : Nat) (hk1 : Nat) (ht1 : Nat) (pb : Bool) (rn : Nat) (hfg : Nat) (hle : Nat) (hmo : Nat) (hwy : Nat) (tn : Nat) (htf : Nat) (cm : Int64) (hod : Nat) (hwk : Nat) (hot : Nat) (ru : Nat) (hen : Nat) (j : Nat) (hn : n ≤ 150) (hj : j < n) : Met l y_Mo_remove ws_Mo_remove rm_Mo_remove (va_Pc [.ref am, .int (nI j)] (fun U => U.heap.size = sz ∧ va_P DD vwCl [(am, .inr (9, [.int (nI th), .int (nI n), .ref hk, .ref ht, .int (nI n1), .ref hk1, .ref ht1, .int (zb pb), .int (nI rn), .ref hfg, .ref hle, .ref hmo, .ref hwy, .int (nI tn), .ref htf, .long cm, .ref hod, .ref hwk, .ref hot, .int (nI ru), .ref hen])), (hk, .inl (ck, 150, .inl k)), (ht, .inl (ct, 150, .inl t))] U.heap ∧ va_K DD vwCl [(ck, .int), (ct, .int)] U ∧ va_D (fun _ => True) [(am, .inr (9, [.int (nI th), .int (nI n), .ref hk, .ref ht, .int (nI n1), .ref hk1, .ref ht1, .int (zb pb), .int (nI rn), .ref hfg, .ref hle, .ref hmo, .ref hwy, .int (nI tn), .ref htf, .long cm, .ref hod, .ref hwk, .ref hot, .int (nI ru), .ref hen])), (hk, .inl (ck, 150, .inl k)), (ht, .inl (ct, 150, .inl t))])) (va_Qi (fun (r9 : Int32) (u9 : Unit) => match u9 with | _ => r9 = k j) (fun (u9 : Unit) (t9 : State) => match u9 with | _ => va_P DD vwCl [(am, .inr (9, [.int (nI 0), .int (nI (n - 1)), .ref hk, .ref ht, .int (nI n1), .ref hk1, .ref ht1, .int (zb false), .int (nI rn), .ref hfg, .ref hle, .ref hmo, .ref hwy, .int (nI tn), .ref htf, .long cm, .ref hod, .ref hwk, .ref hot, .int (nI ru), .ref hen])), (hk, .inl (ck, 150, .inl (va_cpy k k (j + 1) j (n - 1 - j)))), (ht, .inl (ct, 150, .inl (va_cpy t t (j + 1) j (n - 1 - j))))] t9.heap ∧ va_K DD vwCl [(ck, .int), (ct, .int)] t9 ∧ va_D (va_A [(am, .inr (9, [.int (nI th), .int (nI n), .ref hk, .ref ht, .int (nI n1), .ref hk1, .ref ht1, .int (zb pb), .int (nI rn), .ref hfg, .ref hle, .ref hmo, .ref hwy, .int (nI tn), .ref htf, .long cm, .ref hod, .ref hwk, .ref hot, .int (nI ru), .ref hen])), (hk, .inl (ck, 150, .inl k)), (ht, .inl (ct, 150, .inl t))] sz) [(am, .inr (9, [.int (nI 0), .int (nI (n - 1)), .ref hk, .ref ht, .int (nI n1), .ref hk1, .ref ht1, .int (zb false), .int (nI rn), .ref hfg, .ref hle, .ref hmo, .ref hwy, .int (nI tn), .ref htf, .long cm, .ref hod, .ref hwk, .ref hot, .int (nI ru), .ref hen])), (hk, .inl (ck, 150, .inl (va_cpy k k (j + 1) j (n - 1 - j)))), (ht, .inl (ct, 150, .inl (va_cpy t t (j + 1) j (n - 1 - j))))]) (va_A [(am, .inr (9, [.int (nI th), .int (nI n), .ref hk, .ref ht, .int (nI n1), .ref hk1, .ref ht1, .int (zb pb), .int (nI rn), .ref hfg, .ref hle, .ref hmo, .ref hwy, .int (nI tn), .ref htf, .long cm, .ref hod, .ref hwk, .ref hot, .int (nI ru), .ref hen])), (hk, .inl (ck, 150, .inl k)), (ht, .inl (ct, 150, .inl t))] sz)) 0 0 (va_A [(am, .inr (9, [.int (nI th), .int (nI n), .ref hk, .ref ht, .int (nI n1), .ref hk1, .ref ht1, .int (zb pb), .int (nI rn), .ref hfg, .ref hle, .ref hmo, .ref hwy, .int (nI tn), .ref htf, .long cm, .ref hod, .ref hwk, .ref hot, .int (nI ru), .ref hen])), (hk, .inl (ck, 150, .inl k)), (ht, .inl (ct, 150, .inl t))] sz) := by
  refine Met.ofW (cc := b_Mo_remove) (maxL := 4) (ret := (some .int)) (by decide) rfl ?_
  intro p e s m args below meth c s₁ B hml hv
  obtain ⟨ha, hsz, hP, hK, hD0⟩ := hv
  have hx := B.exec
  have hb := B.bytes
  have hr := B.returns
  have hts := atoms_spec (ws := ws_Mo_remove) B.pre
  have hg : ∀ w ∈ ALLG, w.before args s = true := fun w h => hts w (List.mem_cons_of_mem _ h)
  have hown : s.vm.findClass R_Mo = some m.cls := findClass_of_methodNamed B.named
  have hlocks := B.notSynchronized
  subst hsz
  have hD := hD0.self (sz := s.heap.size)
  generalize hAe : va_A [(am, .inr (9, [.int (nI th), .int (nI n), .ref hk, .ref ht, .int (nI n1), .ref hk1, .ref ht1, .int (zb pb), .int (nI rn), .ref hfg, .ref hle, .ref hmo, .ref hwy, .int (nI tn), .ref htf, .long cm, .ref hod, .ref hwk, .ref hot, .int (nI ru), .ref hen])), (hk, .inl (ck, 150, .inl k)), (ht, .inl (ct, 150, .inl t))] s.heap.size = A at hD ⊢
  have hA : ∀ q : Nat, s.heap.size ≤ q → A q := fun q h => by rw [← hAe]; exact Or.inr h
  have hS : va_S A s.heap s.heap [] := va_S.rf
  have hP : va_P DD vwCl [(am, .inr (9, [.int (nI th), .int (nI n), .ref hk, .ref ht, .int (nI n1), .ref hk1, .ref ht1, .int (zb pb), .int (nI rn), .ref hfg, .ref hle, .ref hmo, .ref hwy, .int (nI tn), .ref htf, .long cm, .ref hod, .ref hwk, .ref hot, .int (nI ru), .ref hen])), (hk, .inl (ck, 150, .inl k)), (ht, .inl (ct, 150, .inl t))] s.heap := hP
  have hl := lv_entry ([.ref am, .int (nI j)]) (n := 4) (Nat.le_of_ble_eq_true rfl)
  rw [ha, lg_entry_eq, ← ha]
  generalize (lg_sl ([.ref am, .int (nI j)]) ++ List.replicate (4 - (lg_sl ([.ref am, .int (nI j)])).length) Slot.unset).toArray = ls at hl ⊢
  have hl : lv_has ls 4 [(0, .ref am), (1, .int (nI j))] := hl
  have K49 : ∀ (kk : Nat) (i : Nat), (hji : j ≤ i) → (hi : i ≤ n - 1) → n - i < kk → ∀ (H : Heap) (locs : List Loc), va_P DD vwCl [(am, .inr (9, [.int (nI 0), .int (nI (n - 1)), .ref hk, .ref ht, .int (nI n1), .ref hk1, .ref ht1, .int (zb pb), .int (nI rn), .ref hfg, .ref hle, .ref hmo, .ref hwy, .int (nI tn), .ref htf, .long cm, .ref hod, .ref hwk, .ref hot, .int (nI ru), .ref hen])), (hk, .inl (ck, 150, .inl (shF k j i))), (ht, .inl (ct, 150, .inl (shF t j i)))] H → va_D A [(am, .inr (9, [.int (nI 0), .int (nI (n - 1)), .ref hk, .ref ht, .int (nI n1), .ref hk1, .ref ht1, .int (zb pb), .int (nI rn), .ref hfg, .ref hle, .ref hmo, .ref hwy, .int (nI tn), .ref htf, .long cm, .ref hod, .ref hwk, .ref hot, .int (nI ru), .ref hen])), (hk, .inl (ck, 150, .inl (shF k j i))), (ht, .inl (ct, 150, .inl (shF t j i)))] → va_S A s.heap H locs → ∀ (ls : Array Slot), lv_has ls 4 [(0, .ref am), (1, .int (nI j)), (2, .int (k j)), (3, .int (nI i))] → W p l e (headSpec ws_Mo_remove rm_Mo_remove).room s m args below meth c H locs 0 0 (MQ below (va_Qi (fun (r9 : Int32) (u9 : Unit) => match u9 with | _ => r9 = k j) (fun (u9 : Unit) (t9 : State) => match u9 with | _ => va_P DD vwCl [(am, .inr (9, [.int (nI 0), .int (nI (n - 1)), .ref hk, .ref ht, .int (nI n1), .ref hk1, .ref ht1, .int (zb false), .int (nI rn), .ref hfg, .ref hle, .ref hmo, .ref hwy, .int (nI tn), .ref htf, .long cm, .ref hod, .ref hwk, .ref hot, .int (nI ru), .ref hen])), (hk, .inl (ck, 150, .inl (va_cpy k k (j + 1) j (n - 1 - j)))), (ht, .inl (ct, 150, .inl (va_cpy t t (j + 1) j (n - 1 - j))))] t9.heap ∧ va_K DD vwCl [(ck, .int), (ct, .int)] t9 ∧ va_D A [(am, .inr (9, [.int (nI 0), .int (nI (n - 1)), .ref hk, .ref ht, .int (nI n1), .ref hk1, .ref ht1, .int (zb false), .int (nI rn), .ref hfg, .ref hle, .ref hmo, .ref hwy, .int (nI tn), .ref htf, .long cm, .ref hod, .ref hwk, .ref hot, .int (nI ru), .ref hen])), (hk, .inl (ck, 150, .inl (va_cpy k k (j + 1) j (n - 1 - j)))), (ht, .inl (ct, 150, .inl (va_cpy t t (j + 1) j (n - 1 - j))))]) A) args s 0 0 A) (F0 m 49 ls []) := by
    intro kk
    induction kk with
    | zero => intros; omega
    | succ kk ih49 =>
      intro i hji hi hkk H locs hP hD hS ls hl
      refine lv_iload_n hx hb d_Mo_remove_49 rfl (lv_at hl 3 rfl) ?_
      refine lv_aload_n hx hb d_Mo_remove_50 rfl (lv_at hl 0 rfl) ?_
      refine va_get (D := DD) (ci := 9) (v := .int (nI (n - 1))) (C := R_Mo) (T := T_Mo) (N := 21) hx hb hg in_Mo hown hK hP 0 rfl rfl 1 (by decide) (hg _ mw_680) (fun _ h9 => h9) rfl d_Mo_remove_51 ?_
      refine z_icmp_ge (tgt := 91) hx hb d_Mo_remove_54 (by decide) (by omega) (by omega) (fun c_54 => ?_) (fun c_54 => ?_)
      · rw [show shF k j i = va_cpy k k (j + 1) j (n - 1 - j) from by rw [Nat.le_antisymm hi c_54]; exact shF_c k hj] at hP hD
        rw [show shF t j i = va_cpy t t (j + 1) j (n - 1 - j) from by rw [Nat.le_antisymm hi c_54]; exact shF_c t hj] at hP hD
        refine lv_aload_n hx hb d_Mo_remove_91 rfl (lv_at hl 0 rfl) ?_
        refine lv_iconst (v := nI 0) hx hb d_Mo_remove_92 (by decide) ?_
        refine va_put (D := DD) (ci := 9) (v := .int (zb false)) (ty := .boolean) (C := R_Mo) (T := T_Mo) (N := 21) hx hb hg in_Mo t_Mo to_Mo n_Mo hown hK hP hD hS 0 rfl rfl 7 (by decide) (hg _ mw_686) (fun _ h9 => h9) rfl (by decide +kernel) rfl rfl (Nat.le_of_ble_eq_true rfl) d_Mo_remove_93 (fun H locs hP hD hS => ?_)
        have hP : va_P DD vwCl [(am, .inr (9, [.int (nI 0), .int (nI (n - 1)), .ref hk, .ref ht, .int (nI n1), .ref hk1, .ref ht1, .int (zb false), .int (nI rn), .ref hfg, .ref hle, .ref hmo, .ref hwy, .int (nI tn), .ref htf, .long cm, .ref hod, .ref hwk, .ref hot, .int (nI ru), .ref hen])), (hk, .inl (ck, 150, .inl (va_cpy k k (j + 1) j (n - 1 - j)))), (ht, .inl (ct, 150, .inl (va_cpy t t (j + 1) j (n - 1 - j))))] H := hP
        have hD : va_D A [(am, .inr (9, [.int (nI 0), .int (nI (n - 1)), .ref hk, .ref ht, .int (nI n1), .ref hk1, .ref ht1, .int (zb false), .int (nI rn), .ref hfg, .ref hle, .ref hmo, .ref hwy, .int (nI tn), .ref htf, .long cm, .ref hod, .ref hwk, .ref hot, .int (nI ru), .ref hen])), (hk, .inl (ck, 150, .inl (va_cpy k k (j + 1) j (n - 1 - j)))), (ht, .inl (ct, 150, .inl (va_cpy t t (j + 1) j (n - 1 - j))))] := hD
        refine lv_iload_n hx hb d_Mo_remove_96 rfl (lv_at hl 2 rfl) ?_
        have hP9 := hP.sub (ws' := [(am, .inr (9, [.int (nI 0), .int (nI (n - 1)), .ref hk, .ref ht, .int (nI n1), .ref hk1, .ref ht1, .int (zb false), .int (nI rn), .ref hfg, .ref hle, .ref hmo, .ref hwy, .int (nI tn), .ref htf, .long cm, .ref hod, .ref hwk, .ref hot, .int (nI ru), .ref hen])), (hk, .inl (ck, 150, .inl (va_cpy k k (j + 1) j (n - 1 - j)))), (ht, .inl (ct, 150, .inl (va_cpy t t (j + 1) j (n - 1 - j))))]) [0, 1, 2] rfl
        have hD9 := hD.sub (ws' := [(am, .inr (9, [.int (nI 0), .int (nI (n - 1)), .ref hk, .ref ht, .int (nI n1), .ref hk1, .ref ht1, .int (zb false), .int (nI rn), .ref hfg, .ref hle, .ref hmo, .ref hwy, .int (nI tn), .ref htf, .long cm, .ref hod, .ref hwk, .ref hot, .int (nI ru), .ref hen])), (hk, .inl (ck, 150, .inl (va_cpy k k (j + 1) j (n - 1 - j)))), (ht, .inl (ct, 150, .inl (va_cpy t t (j + 1) j (n - 1 - j))))]) [0, 1, 2] (by decide) rfl
        exact W.iret (v := k j) hx hb hr (fun t9 ht9 hW9 => ⟨⟨_, (), rfl, rfl, by rw [ht9]; exact hP9, va_K.moved hW9.alike hK, hD9⟩, hS.F ht9⟩) hS.2.2 d_Mo_remove_97
      · refine lv_aload_n hx hb d_Mo_remove_57 rfl (lv_at hl 0 rfl) ?_
        refine va_get (D := DD) (ci := 9) (v := .ref hk) (C := R_Mo) (T := T_Mo) (N := 21) hx hb hg in_Mo hown hK hP 0 rfl rfl 2 (by decide) (hg _ mw_681) (fun _ h9 => h9) rfl d_Mo_remove_58 ?_
        refine lv_iload_n hx hb d_Mo_remove_61 rfl (lv_at hl 3 rfl) ?_
        refine lv_aload_n hx hb d_Mo_remove_62 rfl (lv_at hl 0 rfl) ?_
        refine va_get (D := DD) (ci := 9) (v := .ref hk) (C := R_Mo) (T := T_Mo) (N := 21) hx hb hg in_Mo hown hK hP 0 rfl rfl 2 (by decide) (hg _ mw_681) (fun _ h9 => h9) rfl d_Mo_remove_63 ?_
        refine lv_iload_n hx hb d_Mo_remove_66 rfl (lv_at hl 3 rfl) ?_
        refine lv_iconst (v := nI 1) hx hb d_Mo_remove_67 (by decide) ?_
        refine z_iadd hx hb d_Mo_remove_68 ?_
        refine z_iald hx hb hK hP 1 0 rfl rfl (by omega) (by decide) d_Mo_remove_69 ?_
        refine z_iast hx hb hK hP hD hS 1 0 rfl rfl (by omega) (by decide) d_Mo_remove_70 (fun H locs hP hD hS => ?_)
        have hP : va_P DD vwCl [(am, .inr (9, [.int (nI 0), .int (nI (n - 1)), .ref hk, .ref ht, .int (nI n1), .ref hk1, .ref ht1, .int (zb pb), .int (nI rn), .ref hfg, .ref hle, .ref hmo, .ref hwy, .int (nI tn), .ref htf, .long cm, .ref hod, .ref hwk, .ref hot, .int (nI ru), .ref hen])), (hk, .inl (ck, 150, .inl (upd (shF k j i) i ((shF k j i) (i + 1))))), (ht, .inl (ct, 150, .inl (shF t j i)))] H := hP
        have hD : va_D A [(am, .inr (9, [.int (nI 0), .int (nI (n - 1)), .ref hk, .ref ht, .int (nI n1), .ref hk1, .ref ht1, .int (zb pb), .int (nI rn), .ref hfg, .ref hle, .ref hmo, .ref hwy, .int (nI tn), .ref htf, .long cm, .ref hod, .ref hwk, .ref hot, .int (nI ru), .ref hen])), (hk, .inl (ck, 150, .inl (upd (shF k j i) i ((shF k j i) (i + 1))))), (ht, .inl (ct, 150, .inl (shF t j i)))] := hD
        refine lv_aload_n hx hb d_Mo_remove_71 rfl (lv_at hl 0 rfl) ?_
        refine va_get (D := DD) (ci := 9) (v := .ref ht) (C := R_Mo) (T := T_Mo) (N := 21) hx hb hg in_Mo hown hK hP 0 rfl rfl 3 (by decide) (hg _ mw_682) (fun _ h9 => h9) rfl d_Mo_remove_72 ?_
        refine lv_iload_n hx hb d_Mo_remove_75 rfl (lv_at hl 3 rfl) ?_
        refine lv_aload_n hx hb d_Mo_remove_76 rfl (lv_at hl 0 rfl) ?_
        refine va_get (D := DD) (ci := 9) (v := .ref ht) (C := R_Mo) (T := T_Mo) (N := 21) hx hb hg in_Mo hown hK hP 0 rfl rfl 3 (by decide) (hg _ mw_682) (fun _ h9 => h9) rfl d_Mo_remove_77 ?_
        refine lv_iload_n hx hb d_Mo_remove_80 rfl (lv_at hl 3 rfl) ?_
        refine lv_iconst (v := nI 1) hx hb d_Mo_remove_81 (by decide) ?_
        refine z_iadd hx hb d_Mo_remove_82 ?_
        refine z_iald hx hb hK hP 2 1 rfl rfl (by omega) (by decide) d_Mo_remove_83 ?_
        refine z_iast hx hb hK hP hD hS 2 1 rfl rfl (by omega) (by decide) d_Mo_remove_84 (fun H locs hP hD hS => ?_)
        have hP : va_P DD vwCl [(am, .inr (9, [.int (nI 0), .int (nI (n - 1)), .ref hk, .ref ht, .int (nI n1), .ref hk1, .ref ht1, .int (zb pb), .int (nI rn), .ref hfg, .ref hle, .ref hmo, .ref hwy, .int (nI tn), .ref htf, .long cm, .ref hod, .ref hwk, .ref hot, .int (nI ru), .ref hen])), (hk, .inl (ck, 150, .inl (upd (shF k j i) i ((shF k j i) (i + 1))))), (ht, .inl (ct, 150, .inl (upd (shF t j i) i ((shF t j i) (i + 1)))))] H := hP
        have hD : va_D A [(am, .inr (9, [.int (nI 0), .int (nI (n - 1)), .ref hk, .ref ht, .int (nI n1), .ref hk1, .ref ht1, .int (zb pb), .int (nI rn), .ref hfg, .ref hle, .ref hmo, .ref hwy, .int (nI tn), .ref htf, .long cm, .ref hod, .ref hwk, .ref hot, .int (nI ru), .ref hen])), (hk, .inl (ck, 150, .inl (upd (shF k j i) i ((shF k j i) (i + 1))))), (ht, .inl (ct, 150, .inl (upd (shF t j i) i ((shF t j i) (i + 1)))))] := hD
        rw [show upd (shF k j i) i ((shF k j i) (i + 1)) = shF k j (i + 1) from shF_i k hji] at hP hD
        rw [show upd (shF t j i) i ((shF t j i) (i + 1)) = shF t j (i + 1) from shF_i t hji] at hP hD
        refine lv_iinc (v := nI (i + 1)) (lv' := [(3, .int (nI (i + 1))), (0, .ref am), (1, .int (nI j)), (2, .int (k j))]) hx hb d_Mo_remove_85 hl (k := 3) rfl (by exact nI_add i 1) (by decide) rfl (fun ls hl => ?_)
        refine lv_goto (tgt := 49) hx hb d_Mo_remove_88 (by decide) ?_
        exact ih49 (i + 1) (by omega) (by omega) (by omega) _ _ hP hD hS ls (lv_sub hl [1, 2, 3, 0] rfl)
  refine lv_aload_n hx hb d_Mo_remove_0 rfl (lv_at hl 0 rfl) ?_
  refine lv_iload_n hx hb d_Mo_remove_1 rfl (lv_at hl 1 rfl) ?_
  refine z_if_lt (tgt := 13) hx hb d_Mo_remove_2 (by decide) (by omega) (fun c_2 => ?_) (fun c_2 => ?_)
  · exact c_2.elim
  · refine lv_iload_n hx hb d_Mo_remove_5 rfl (lv_at hl 1 rfl) ?_
    refine lv_aload_n hx hb d_Mo_remove_6 rfl (lv_at hl 0 rfl) ?_
    refine va_get (D := DD) (ci := 9) (v := .int (nI n)) (C := R_Mo) (T := T_Mo) (N := 21) hx hb hg in_Mo hown hK hP 0 rfl rfl 1 (by decide) (hg _ mw_680) (fun _ h9 => h9) rfl d_Mo_remove_7 ?_
    refine z_icmp_lt (tgt := 17) hx hb d_Mo_remove_10 (by decide) (by omega) (by omega) (fun c_10 => ?_) (fun c_10 => ?_)
    · refine lv_iconst (v := nI 0) hx hb d_Mo_remove_17 (by decide) ?_
      refine va_put (D := DD) (ci := 9) (v := .int (nI 0)) (ty := .int) (C := R_Mo) (T := T_Mo) (N := 21) hx hb hg in_Mo t_Mo to_Mo n_Mo hown hK hP hD hS 0 rfl rfl 0 (by decide) (hg _ mw_679) (fun _ h9 => h9) rfl (by decide +kernel) rfl rfl (Nat.le_of_ble_eq_true rfl) d_Mo_remove_18 (fun H locs hP hD hS => ?_)
      have hP : va_P DD vwCl [(am, .inr (9, [.int (nI 0), .int (nI n), .ref hk, .ref ht, .int (nI n1), .ref hk1, .ref ht1, .int (zb pb), .int (nI rn), .ref hfg, .ref hle, .ref hmo, .ref hwy, .int (nI tn), .ref htf, .long cm, .ref hod, .ref hwk, .ref hot, .int (nI ru), .ref hen])), (hk, .inl (ck, 150, .inl k)), (ht, .inl (ct, 150, .inl t))] H := hP
      have hD : va_D A [(am, .inr (9, [.int (nI 0), .int (nI n), .ref hk, .ref ht, .int (nI n1), .ref hk1, .ref ht1, .int (zb pb), .int (nI rn), .ref hfg, .ref hle, .ref hmo, .ref hwy, .int (nI tn), .ref htf, .long cm, .ref hod, .ref hwk, .ref hot, .int (nI ru), .ref hen])), (hk, .inl (ck, 150, .inl k)), (ht, .inl (ct, 150, .inl t))] := hD
      refine lv_aload_n hx hb d_Mo_remove_21 rfl (lv_at hl 0 rfl) ?_
      refine va_get (D := DD) (ci := 9) (v := .int (nI 0)) (C := R_Mo) (T := T_Mo) (N := 21) hx hb hg in_Mo hown hK hP 0 rfl rfl 0 (by decide) (hg _ mw_679) (fun _ h9 => h9) rfl d_Mo_remove_22 ?_
      refine z_if_le (tgt := 30) hx hb d_Mo_remove_25 (by decide) (by omega) (fun c_25 => ?_) (fun c_25 => ?_)
      · refine lv_aload_n hx hb d_Mo_remove_30 rfl (lv_at hl 0 rfl) ?_
        refine va_get (D := DD) (ci := 9) (v := .ref hk) (C := R_Mo) (T := T_Mo) (N := 21) hx hb hg in_Mo hown hK hP 0 rfl rfl 2 (by decide) (hg _ mw_681) (fun _ h9 => h9) rfl d_Mo_remove_31 ?_
        refine lv_iload_n hx hb d_Mo_remove_34 rfl (lv_at hl 1 rfl) ?_
        refine z_iald hx hb hK hP 1 0 rfl rfl (by omega) (by decide) d_Mo_remove_35 ?_
        refine lv_istore_n (lv' := [(2, .int (k j)), (0, .ref am), (1, .int (nI j))]) hx hb d_Mo_remove_36 rfl hl (by decide) rfl (fun ls hl => ?_)
        refine lv_aload_n hx hb d_Mo_remove_37 rfl (lv_at hl 1 rfl) ?_
        refine lv_dup hx hb d_Mo_remove_38 rfl ?_
        refine va_get (D := DD) (ci := 9) (v := .int (nI n)) (C := R_Mo) (T := T_Mo) (N := 21) hx hb hg in_Mo hown hK hP 0 rfl rfl 1 (by decide) (hg _ mw_680) (fun _ h9 => h9) rfl d_Mo_remove_39 ?_
        refine lv_iconst (v := nI 1) hx hb d_Mo_remove_42 (by decide) ?_
        refine z_isub hx hb d_Mo_remove_43 (by omega) ?_
        refine va_put (D := DD) (ci := 9) (v := .int (nI (n - 1))) (ty := .int) (C := R_Mo) (T := T_Mo) (N := 21) hx hb hg in_Mo t_Mo to_Mo n_Mo hown hK hP hD hS 0 rfl rfl 1 (by decide) (hg _ mw_680) (fun _ h9 => h9) rfl (by decide +kernel) rfl rfl (Nat.le_of_ble_eq_true rfl) d_Mo_remove_44 (fun H locs hP hD hS => ?_)
        have hP : va_P DD vwCl [(am, .inr (9, [.int (nI 0), .int (nI (n - 1)), .ref hk, .ref ht, .int (nI n1), .ref hk1, .ref ht1, .int (zb pb), .int (nI rn), .ref hfg, .ref hle, .ref hmo, .ref hwy, .int (nI tn), .ref htf, .long cm, .ref hod, .ref hwk, .ref hot, .int (nI ru), .ref hen])), (hk, .inl (ck, 150, .inl k)), (ht, .inl (ct, 150, .inl t))] H := hP
        have hD : va_D A [(am, .inr (9, [.int (nI 0), .int (nI (n - 1)), .ref hk, .ref ht, .int (nI n1), .ref hk1, .ref ht1, .int (zb pb), .int (nI rn), .ref hfg, .ref hle, .ref hmo, .ref hwy, .int (nI tn), .ref htf, .long cm, .ref hod, .ref hwk, .ref hot, .int (nI ru), .ref hen])), (hk, .inl (ck, 150, .inl k)), (ht, .inl (ct, 150, .inl t))] := hD
        rw [show k = shF k j j from shF_0 k j] at hP hD
        rw [show t = shF t j j from shF_0 t j] at hP hD
        refine lv_iload_n hx hb d_Mo_remove_47 rfl (lv_at hl 2 rfl) ?_
        refine lv_istore_n (lv' := [(3, .int (nI j)), (2, .int (k j)), (0, .ref am), (1, .int (nI j))]) hx hb d_Mo_remove_48 rfl hl (by decide) rfl (fun ls hl => ?_)
        exact K49 _ j (by omega) (by omega) (Nat.lt_succ_self _) _ _ hP hD hS ls (lv_sub hl [2, 3, 1, 0] rfl)
      · exact absurd c_25 (by decide)
    · exact absurd c_10 (by omega)
abbrev rm_Mo_remove_T : Room := { frames := 0, cells := 0, slots := 0, locals := 0 }
set_option maxHeartbeats 4000000 in
set_option maxRecDepth 100000 in
theorem c_Mo_remove_T (l : Launch) (DD : va_G) (sz : Nat) (am : Nat) (th : Nat) (n : Nat) (hk : Nat) (ht : Nat) (n1 : Nat) (hk1 : Nat) (ht1 : Nat) (pb : Bool) (rn : Nat) (hfg : Nat) (hle : Nat) (hmo : Nat) (hwy : Nat) (tn : Nat) (htf : Nat) (cm : Int64) (hod : Nat) (hwk : Nat) (hot : Nat) (ru : Nat) (hen : Nat) (v : Int32) (hn : n ≤ 150) (hf : hasB v n = false) : Met l y_Mo_remove ws_Mo_remove rm_Mo_remove_T (va_Pc [.ref am, .int v] (fun U => U.heap.size = sz ∧ va_P DD vwCl [(am, .inr (9, [.int (nI th), .int (nI n), .ref hk, .ref ht, .int (nI n1), .ref hk1, .ref ht1, .int (zb pb), .int (nI rn), .ref hfg, .ref hle, .ref hmo, .ref hwy, .int (nI tn), .ref htf, .long cm, .ref hod, .ref hwk, .ref hot, .int (nI ru), .ref hen]))] U.heap ∧ va_K DD vwCl [] U ∧ va_D (fun _ => True) [(am, .inr (9, [.int (nI th), .int (nI n), .ref hk, .ref ht, .int (nI n1), .ref hk1, .ref ht1, .int (zb pb), .int (nI rn), .ref hfg, .ref hle, .ref hmo, .ref hwy, .int (nI tn), .ref htf, .long cm, .ref hod, .ref hwk, .ref hot, .int (nI ru), .ref hen]))])) (va_Qi (fun (r9 : Int32) (u9 : Unit) => match u9 with | _ => r9 = nI 0) (fun (u9 : Unit) (t9 : State) => match u9 with | _ => va_P DD vwCl [(am, .inr (9, [.int (nI 1), .int (nI n), .ref hk, .ref ht, .int (nI n1), .ref hk1, .ref ht1, .int (zb pb), .int (nI rn), .ref hfg, .ref hle, .ref hmo, .ref hwy, .int (nI tn), .ref htf, .long cm, .ref hod, .ref hwk, .ref hot, .int (nI ru), .ref hen]))] t9.heap ∧ va_K DD vwCl [] t9 ∧ va_D (va_A [(am, .inr (9, [.int (nI th), .int (nI n), .ref hk, .ref ht, .int (nI n1), .ref hk1, .ref ht1, .int (zb pb), .int (nI rn), .ref hfg, .ref hle, .ref hmo, .ref hwy, .int (nI tn), .ref htf, .long cm, .ref hod, .ref hwk, .ref hot, .int (nI ru), .ref hen]))] sz) [(am, .inr (9, [.int (nI 1), .int (nI n), .ref hk, .ref ht, .int (nI n1), .ref hk1, .ref ht1, .int (zb pb), .int (nI rn), .ref hfg, .ref hle, .ref hmo, .ref hwy, .int (nI tn), .ref htf, .long cm, .ref hod, .ref hwk, .ref hot, .int (nI ru), .ref hen]))]) (va_A [(am, .inr (9, [.int (nI th), .int (nI n), .ref hk, .ref ht, .int (nI n1), .ref hk1, .ref ht1, .int (zb pb), .int (nI rn), .ref hfg, .ref hle, .ref hmo, .ref hwy, .int (nI tn), .ref htf, .long cm, .ref hod, .ref hwk, .ref hot, .int (nI ru), .ref hen]))] sz)) 0 0 (va_A [(am, .inr (9, [.int (nI th), .int (nI n), .ref hk, .ref ht, .int (nI n1), .ref hk1, .ref ht1, .int (zb pb), .int (nI rn), .ref hfg, .ref hle, .ref hmo, .ref hwy, .int (nI tn), .ref htf, .long cm, .ref hod, .ref hwk, .ref hot, .int (nI ru), .ref hen]))] sz) := by
  refine Met.ofW (cc := b_Mo_remove) (maxL := 4) (ret := (some .int)) (by decide) rfl ?_
  intro p e s m args below meth c s₁ B hml hv
  obtain ⟨ha, hsz, hP, hK, hD0⟩ := hv
  have hx := B.exec
  have hb := B.bytes
  have hr := B.returns
  have hts := atoms_spec (ws := ws_Mo_remove) B.pre
  have hg : ∀ w ∈ ALLG, w.before args s = true := fun w h => hts w (List.mem_cons_of_mem _ h)
  have hown : s.vm.findClass R_Mo = some m.cls := findClass_of_methodNamed B.named
  have hlocks := B.notSynchronized
  subst hsz
  have hD := hD0.self (sz := s.heap.size)
  generalize hAe : va_A [(am, .inr (9, [.int (nI th), .int (nI n), .ref hk, .ref ht, .int (nI n1), .ref hk1, .ref ht1, .int (zb pb), .int (nI rn), .ref hfg, .ref hle, .ref hmo, .ref hwy, .int (nI tn), .ref htf, .long cm, .ref hod, .ref hwk, .ref hot, .int (nI ru), .ref hen]))] s.heap.size = A at hD ⊢
  have hA : ∀ q : Nat, s.heap.size ≤ q → A q := fun q h => by rw [← hAe]; exact Or.inr h
  have hS : va_S A s.heap s.heap [] := va_S.rf
  have hP : va_P DD vwCl [(am, .inr (9, [.int (nI th), .int (nI n), .ref hk, .ref ht, .int (nI n1), .ref hk1, .ref ht1, .int (zb pb), .int (nI rn), .ref hfg, .ref hle, .ref hmo, .ref hwy, .int (nI tn), .ref htf, .long cm, .ref hod, .ref hwk, .ref hot, .int (nI ru), .ref hen]))] s.heap := hP
  have hl := lv_entry ([.ref am, .int v]) (n := 4) (Nat.le_of_ble_eq_true rfl)
  rw [ha, lg_entry_eq, ← ha]
  generalize (lg_sl ([.ref am, .int v]) ++ List.replicate (4 - (lg_sl ([.ref am, .int v])).length) Slot.unset).toArray = ls at hl ⊢
  have hl : lv_has ls 4 [(0, .ref am), (1, .int v)] := hl
  refine lv_aload_n hx hb d_Mo_remove_0 rfl (lv_at hl 0 rfl) ?_
  refine lv_iload_n hx hb d_Mo_remove_1 rfl (lv_at hl 1 rfl) ?_
  refine lv_if_lt (tgt := 13) hx hb d_Mo_remove_2 (by decide) (fun c_2 => ?_) (fun c_2 => ?_)
  · refine lv_iconst (v := nI 1) hx hb d_Mo_remove_13 (by decide) ?_
    refine lv_goto (tgt := 18) hx hb d_Mo_remove_14 (by decide) ?_
    refine va_put (D := DD) (ci := 9) (v := .int (nI 1)) (ty := .int) (C := R_Mo) (T := T_Mo) (N := 21) hx hb hg in_Mo t_Mo to_Mo n_Mo hown hK hP hD hS 0 rfl rfl 0 (by decide) (hg _ mw_679) (fun _ h9 => h9) rfl (by decide +kernel) rfl rfl (Nat.le_of_ble_eq_true rfl) d_Mo_remove_18 (fun H locs hP hD hS => ?_)
    have hP : va_P DD vwCl [(am, .inr (9, [.int (nI 1), .int (nI n), .ref hk, .ref ht, .int (nI n1), .ref hk1, .ref ht1, .int (zb pb), .int (nI rn), .ref hfg, .ref hle, .ref hmo, .ref hwy, .int (nI tn), .ref htf, .long cm, .ref hod, .ref hwk, .ref hot, .int (nI ru), .ref hen]))] H := hP
    have hD : va_D A [(am, .inr (9, [.int (nI 1), .int (nI n), .ref hk, .ref ht, .int (nI n1), .ref hk1, .ref ht1, .int (zb pb), .int (nI rn), .ref hfg, .ref hle, .ref hmo, .ref hwy, .int (nI tn), .ref htf, .long cm, .ref hod, .ref hwk, .ref hot, .int (nI ru), .ref hen]))] := hD
    refine lv_aload_n hx hb d_Mo_remove_21 rfl (lv_at hl 0 rfl) ?_
    refine va_get (D := DD) (ci := 9) (v := .int (nI 1)) (C := R_Mo) (T := T_Mo) (N := 21) hx hb hg in_Mo hown hK hP 0 rfl rfl 0 (by decide) (hg _ mw_679) (fun _ h9 => h9) rfl d_Mo_remove_22 ?_
    refine z_if_le (tgt := 30) hx hb d_Mo_remove_25 (by decide) (by omega) (fun c_25 => ?_) (fun c_25 => ?_)
    · exact absurd c_25 (by decide)
    · refine lv_iconst (v := nI 0) hx hb d_Mo_remove_28 (by decide) ?_
      have hP9 := hP.sub (ws' := [(am, .inr (9, [.int (nI 1), .int (nI n), .ref hk, .ref ht, .int (nI n1), .ref hk1, .ref ht1, .int (zb pb), .int (nI rn), .ref hfg, .ref hle, .ref hmo, .ref hwy, .int (nI tn), .ref htf, .long cm, .ref hod, .ref hwk, .ref hot, .int (nI ru), .ref hen]))]) [0] rfl
      have hD9 := hD.sub (ws' := [(am, .inr (9, [.int (nI 1), .int (nI n), .ref hk, .ref ht, .int (nI n1), .ref hk1, .ref ht1, .int (zb pb), .int (nI rn), .ref hfg, .ref hle, .ref hmo, .ref hwy, .int (nI tn), .ref htf, .long cm, .ref hod, .ref hwk, .ref hot, .int (nI ru), .ref hen]))]) [0] (by decide) rfl
      exact W.iret (v := nI 0) hx hb hr (fun t9 ht9 hW9 => ⟨⟨_, (), rfl, rfl, by rw [ht9]; exact hP9, va_K.moved hW9.alike hK, hD9⟩, hS.F ht9⟩) hS.2.2 d_Mo_remove_29
  · refine lv_iload_n hx hb d_Mo_remove_5 rfl (lv_at hl 1 rfl) ?_
    refine lv_aload_n hx hb d_Mo_remove_6 rfl (lv_at hl 0 rfl) ?_
    refine va_get (D := DD) (ci := 9) (v := .int (nI n)) (C := R_Mo) (T := T_Mo) (N := 21) hx hb hg in_Mo hown hK hP 0 rfl rfl 1 (by decide) (hg _ mw_680) (fun _ h9 => h9) rfl d_Mo_remove_7 ?_
    refine lv_icmp_lt (tgt := 17) hx hb d_Mo_remove_10 (by decide) (fun c_10 => ?_) (fun c_10 => ?_)
    · exact absurd hf (by rw [hasB_lt (by omega) c_2 c_10]; decide)
    · refine lv_iconst (v := nI 1) hx hb d_Mo_remove_13 (by decide) ?_
      refine lv_goto (tgt := 18) hx hb d_Mo_remove_14 (by decide) ?_
      refine va_put (D := DD) (ci := 9) (v := .int (nI 1)) (ty := .int) (C := R_Mo) (T := T_Mo) (N := 21) hx hb hg in_Mo t_Mo to_Mo n_Mo hown hK hP hD hS 0 rfl rfl 0 (by decide) (hg _ mw_679) (fun _ h9 => h9) rfl (by decide +kernel) rfl rfl (Nat.le_of_ble_eq_true rfl) d_Mo_remove_18 (fun H locs hP hD hS => ?_)
      have hP : va_P DD vwCl [(am, .inr (9, [.int (nI 1), .int (nI n), .ref hk, .ref ht, .int (nI n1), .ref hk1, .ref ht1, .int (zb pb), .int (nI rn), .ref hfg, .ref hle, .ref hmo, .ref hwy, .int (nI tn), .ref htf, .long cm, .ref hod, .ref hwk, .ref hot, .int (nI ru), .ref hen]))] H := hP
      have hD : va_D A [(am, .inr (9, [.int (nI 1), .int (nI n), .ref hk, .ref ht, .int (nI n1), .ref hk1, .ref ht1, .int (zb pb), .int (nI rn), .ref hfg, .ref hle, .ref hmo, .ref hwy, .int (nI tn), .ref htf, .long cm, .ref hod, .ref hwk, .ref hot, .int (nI ru), .ref hen]))] := hD
      refine lv_aload_n hx hb d_Mo_remove_21 rfl (lv_at hl 0 rfl) ?_
      refine va_get (D := DD) (ci := 9) (v := .int (nI 1)) (C := R_Mo) (T := T_Mo) (N := 21) hx hb hg in_Mo hown hK hP 0 rfl rfl 0 (by decide) (hg _ mw_679) (fun _ h9 => h9) rfl d_Mo_remove_22 ?_
      refine z_if_le (tgt := 30) hx hb d_Mo_remove_25 (by decide) (by omega) (fun c_25 => ?_) (fun c_25 => ?_)
      · exact absurd c_25 (by decide)
      · refine lv_iconst (v := nI 0) hx hb d_Mo_remove_28 (by decide) ?_
        have hP9 := hP.sub (ws' := [(am, .inr (9, [.int (nI 1), .int (nI n), .ref hk, .ref ht, .int (nI n1), .ref hk1, .ref ht1, .int (zb pb), .int (nI rn), .ref hfg, .ref hle, .ref hmo, .ref hwy, .int (nI tn), .ref htf, .long cm, .ref hod, .ref hwk, .ref hot, .int (nI ru), .ref hen]))]) [0] rfl
        have hD9 := hD.sub (ws' := [(am, .inr (9, [.int (nI 1), .int (nI n), .ref hk, .ref ht, .int (nI n1), .ref hk1, .ref ht1, .int (zb pb), .int (nI rn), .ref hfg, .ref hle, .ref hmo, .ref hwy, .int (nI tn), .ref htf, .long cm, .ref hod, .ref hwk, .ref hot, .int (nI ru), .ref hen]))]) [0] (by decide) rfl
        exact W.iret (v := nI 0) hx hb hr (fun t9 ht9 hW9 => ⟨⟨_, (), rfl, rfl, by rw [ht9]; exact hP9, va_K.moved hW9.alike hK, hD9⟩, hS.F ht9⟩) hS.2.2 d_Mo_remove_29
theorem d_Mo_at_0 : decode b_Mo_at 0 = .ok (.aload_n 0, 1) := by decide +kernel
theorem d_Mo_at_1 : decode b_Mo_at 1 = .ok (.iload_n 1, 1) := by decide +kernel
theorem d_Mo_at_2 : decode b_Mo_at 2 = .ok (.ifCond .lt 11, 3) := by decide +kernel
theorem d_Mo_at_5 : decode b_Mo_at 5 = .ok (.iload_n 1, 1) := by decide +kernel
theorem d_Mo_at_6 : decode b_Mo_at 6 = .ok (.aload_n 0, 1) := by decide +kernel
theorem d_Mo_at_7 : decode b_Mo_at 7 = .ok (.getfield 54, 3) := by decide +kernel
theorem d_Mo_at_10 : decode b_Mo_at 10 = .ok (.if_icmp .lt 7, 3) := by decide +kernel
theorem d_Mo_at_13 : decode b_Mo_at 13 = .ok (.iconst 1, 1) := by decide +kernel
theorem d_Mo_at_14 : decode b_Mo_at 14 = .ok (.goto 4, 3) := by decide +kernel
theorem d_Mo_at_17 : decode b_Mo_at 17 = .ok (.iconst 0, 1) := by decide +kernel
theorem d_Mo_at_18 : decode b_Mo_at 18 = .ok (.putfield 50, 3) := by decide +kernel
theorem d_Mo_at_21 : decode b_Mo_at 21 = .ok (.aload_n 0, 1) := by decide +kernel
theorem d_Mo_at_22 : decode b_Mo_at 22 = .ok (.getfield 50, 3) := by decide +kernel
theorem d_Mo_at_25 : decode b_Mo_at 25 = .ok (.ifCond .le 7, 3) := by decide +kernel
theorem d_Mo_at_28 : decode b_Mo_at 28 = .ok (.iconst 0, 1) := by decide +kernel
theorem d_Mo_at_29 : decode b_Mo_at 29 = .ok (.goto 22, 3) := by decide +kernel
theorem d_Mo_at_32 : decode b_Mo_at 32 = .ok (.iload_n 2, 1) := by decide +kernel
theorem d_Mo_at_33 : decode b_Mo_at 33 = .ok (.ifCond .eq 12, 3) := by decide +kernel
theorem d_Mo_at_36 : decode b_Mo_at 36 = .ok (.aload_n 0, 1) := by decide +kernel
theorem d_Mo_at_37 : decode b_Mo_at 37 = .ok (.getfield 13, 3) := by decide +kernel
theorem d_Mo_at_40 : decode b_Mo_at 40 = .ok (.iload_n 1, 1) := by decide +kernel
theorem d_Mo_at_41 : decode b_Mo_at 41 = .ok (.iaload, 1) := by decide +kernel
theorem d_Mo_at_42 : decode b_Mo_at 42 = .ok (.goto 9, 3) := by decide +kernel
theorem d_Mo_at_45 : decode b_Mo_at 45 = .ok (.aload_n 0, 1) := by decide +kernel
theorem d_Mo_at_46 : decode b_Mo_at 46 = .ok (.getfield 7, 3) := by decide +kernel
theorem d_Mo_at_49 : decode b_Mo_at 49 = .ok (.iload_n 1, 1) := by decide +kernel
theorem d_Mo_at_50 : decode b_Mo_at 50 = .ok (.iaload, 1) := by decide +kernel
theorem d_Mo_at_51 : decode b_Mo_at 51 = .ok (.ireturn, 1) := by decide +kernel
abbrev ws_Mo_at : List Cond := .code y_Mo_at b_Mo_at 3 (some .int) :: ALLG
abbrev rm_Mo_at : Room := { frames := 0, cells := 0, slots := 0, locals := 0 }
set_option maxHeartbeats 4000000 in
set_option maxRecDepth 100000 in
theorem c_Mo_at (l : Launch) (DD : va_G) (sz : Nat) (am : Nat) (th : Nat) (n : Nat) (hk : Nat) (ck : ClassId) (k : Nat → Int32) (ht : Nat) (ct : ClassId) (t : Nat → Int32) (n1 : Nat) (hk1 : Nat) (ht1 : Nat) (pb : Bool) (rn : Nat) (hfg : Nat) (hle : Nat) (hmo : Nat) (hwy : Nat) (tn : Nat) (htf : Nat) (cm : Int64) (hod : Nat) (hwk : Nat) (hot : Nat) (ru : Nat) (hen : Nat) (j : Nat) (g : Bool) (hn : n ≤ 150) (hj : j < n) : Met l y_Mo_at ws_Mo_at rm_Mo_at (va_Pc [.ref am, .int (nI j), .int (zb g)] (fun U => U.heap.size = sz ∧ va_P DD vwCl [(am, .inr (9, [.int (nI th), .int (nI n), .ref hk, .ref ht, .int (nI n1), .ref hk1, .ref ht1, .int (zb pb), .int (nI rn), .ref hfg, .ref hle, .ref hmo, .ref hwy, .int (nI tn), .ref htf, .long cm, .ref hod, .ref hwk, .ref hot, .int (nI ru), .ref hen])), (hk, .inl (ck, 150, .inl k)), (ht, .inl (ct, 150, .inl t))] U.heap ∧ va_K DD vwCl [(ck, .int), (ct, .int)] U ∧ va_D (fun _ => True) [(am, .inr (9, [.int (nI th), .int (nI n), .ref hk, .ref ht, .int (nI n1), .ref hk1, .ref ht1, .int (zb pb), .int (nI rn), .ref hfg, .ref hle, .ref hmo, .ref hwy, .int (nI tn), .ref htf, .long cm, .ref hod, .ref hwk, .ref hot, .int (nI ru), .ref hen])), (hk, .inl (ck, 150, .inl k)), (ht, .inl (ct, 150, .inl t))])) (va_Qi (fun (r9 : Int32) (u9 : Unit) => match u9 with | _ => r9 = if g = true then t j else k j) (fun (u9 : Unit) (t9 : State) => match u9 with | _ => va_P DD vwCl [(am, .inr (9, [.int (nI 0), .int (nI n), .ref hk, .ref ht, .int (nI n1), .ref hk1, .ref ht1, .int (zb pb), .int (nI rn), .ref hfg, .ref hle, .ref hmo, .ref hwy, .int (nI tn), .ref htf, .long cm, .ref hod, .ref hwk, .ref hot, .int (nI ru), .ref hen])), (hk, .inl (ck, 150, .inl k)), (ht, .inl (ct, 150, .inl t))] t9.heap ∧ va_K DD vwCl [(ck, .int), (ct, .int)] t9 ∧ va_D (va_A [(am, .inr (9, [.int (nI th), .int (nI n), .ref hk, .ref ht, .int (nI n1), .ref hk1, .ref ht1, .int (zb pb), .int (nI rn), .ref hfg, .ref hle, .ref hmo, .ref hwy, .int (nI tn), .ref htf, .long cm, .ref hod, .ref hwk, .ref hot, .int (nI ru), .ref hen])), (hk, .inl (ck, 150, .inl k)), (ht, .inl (ct, 150, .inl t))] sz) [(am, .inr (9, [.int (nI 0), .int (nI n), .ref hk, .ref ht, .int (nI n1), .ref hk1, .ref ht1, .int (zb pb), .int (nI rn), .ref hfg, .ref hle, .ref hmo, .ref hwy, .int (nI tn), .ref htf, .long cm, .ref hod, .ref hwk, .ref hot, .int (nI ru), .ref hen])), (hk, .inl (ck, 150, .inl k)), (ht, .inl (ct, 150, .inl t))]) (va_A [(am, .inr (9, [.int (nI th), .int (nI n), .ref hk, .ref ht, .int (nI n1), .ref hk1, .ref ht1, .int (zb pb), .int (nI rn), .ref hfg, .ref hle, .ref hmo, .ref hwy, .int (nI tn), .ref htf, .long cm, .ref hod, .ref hwk, .ref hot, .int (nI ru), .ref hen])), (hk, .inl (ck, 150, .inl k)), (ht, .inl (ct, 150, .inl t))] sz)) 0 0 (va_A [(am, .inr (9, [.int (nI th), .int (nI n), .ref hk, .ref ht, .int (nI n1), .ref hk1, .ref ht1, .int (zb pb), .int (nI rn), .ref hfg, .ref hle, .ref hmo, .ref hwy, .int (nI tn), .ref htf, .long cm, .ref hod, .ref hwk, .ref hot, .int (nI ru), .ref hen])), (hk, .inl (ck, 150, .inl k)), (ht, .inl (ct, 150, .inl t))] sz) := by
  refine Met.ofW (cc := b_Mo_at) (maxL := 3) (ret := (some .int)) (by decide) rfl ?_
  intro p e s m args below meth c s₁ B hml hv
  obtain ⟨ha, hsz, hP, hK, hD0⟩ := hv
  have hx := B.exec
  have hb := B.bytes
  have hr := B.returns
  have hts := atoms_spec (ws := ws_Mo_at) B.pre
  have hg : ∀ w ∈ ALLG, w.before args s = true := fun w h => hts w (List.mem_cons_of_mem _ h)
  have hown : s.vm.findClass R_Mo = some m.cls := findClass_of_methodNamed B.named
  have hlocks := B.notSynchronized
  subst hsz
  have hD := hD0.self (sz := s.heap.size)
  generalize hAe : va_A [(am, .inr (9, [.int (nI th), .int (nI n), .ref hk, .ref ht, .int (nI n1), .ref hk1, .ref ht1, .int (zb pb), .int (nI rn), .ref hfg, .ref hle, .ref hmo, .ref hwy, .int (nI tn), .ref htf, .long cm, .ref hod, .ref hwk, .ref hot, .int (nI ru), .ref hen])), (hk, .inl (ck, 150, .inl k)), (ht, .inl (ct, 150, .inl t))] s.heap.size = A at hD ⊢
  have hA : ∀ q : Nat, s.heap.size ≤ q → A q := fun q h => by rw [← hAe]; exact Or.inr h
  have hS : va_S A s.heap s.heap [] := va_S.rf
  have hP : va_P DD vwCl [(am, .inr (9, [.int (nI th), .int (nI n), .ref hk, .ref ht, .int (nI n1), .ref hk1, .ref ht1, .int (zb pb), .int (nI rn), .ref hfg, .ref hle, .ref hmo, .ref hwy, .int (nI tn), .ref htf, .long cm, .ref hod, .ref hwk, .ref hot, .int (nI ru), .ref hen])), (hk, .inl (ck, 150, .inl k)), (ht, .inl (ct, 150, .inl t))] s.heap := hP
  have hl := lv_entry ([.ref am, .int (nI j), .int (zb g)]) (n := 3) (Nat.le_of_ble_eq_true rfl)
  rw [ha, lg_entry_eq, ← ha]
  generalize (lg_sl ([.ref am, .int (nI j), .int (zb g)]) ++ List.replicate (3 - (lg_sl ([.ref am, .int (nI j), .int (zb g)])).length) Slot.unset).toArray = ls at hl ⊢
  have hl : lv_has ls 3 [(0, .ref am), (1, .int (nI j)), (2, .int (zb g))] := hl
  refine lv_aload_n hx hb d_Mo_at_0 rfl (lv_at hl 0 rfl) ?_
  refine lv_iload_n hx hb d_Mo_at_1 rfl (lv_at hl 1 rfl) ?_
  refine z_if_lt (tgt := 13) hx hb d_Mo_at_2 (by decide) (by omega) (fun c_2 => ?_) (fun c_2 => ?_)
  · exact c_2.elim
  · refine lv_iload_n hx hb d_Mo_at_5 rfl (lv_at hl 1 rfl) ?_
    refine lv_aload_n hx hb d_Mo_at_6 rfl (lv_at hl 0 rfl) ?_
    refine va_get (D := DD) (ci := 9) (v := .int (nI n)) (C := R_Mo) (T := T_Mo) (N := 21) hx hb hg in_Mo hown hK hP 0 rfl rfl 1 (by decide) (hg _ mw_680) (fun _ h9 => h9) rfl d_Mo_at_7 ?_
    refine z_icmp_lt (tgt := 17) hx hb d_Mo_at_10 (by decide) (by omega) (by omega) (fun c_10 => ?_) (fun c_10 => ?_)
    · refine lv_iconst (v := nI 0) hx hb d_Mo_at_17 (by decide) ?_
      refine va_put (D := DD) (ci := 9) (v := .int (nI 0)) (ty := .int) (C := R_Mo) (T := T_Mo) (N := 21) hx hb hg in_Mo t_Mo to_Mo n_Mo hown hK hP hD hS 0 rfl rfl 0 (by decide) (hg _ mw_679) (fun _ h9 => h9) rfl (by decide +kernel) rfl rfl (Nat.le_of_ble_eq_true rfl) d_Mo_at_18 (fun H locs hP hD hS => ?_)
      have hP : va_P DD vwCl [(am, .inr (9, [.int (nI 0), .int (nI n), .ref hk, .ref ht, .int (nI n1), .ref hk1, .ref ht1, .int (zb pb), .int (nI rn), .ref hfg, .ref hle, .ref hmo, .ref hwy, .int (nI tn), .ref htf, .long cm, .ref hod, .ref hwk, .ref hot, .int (nI ru), .ref hen])), (hk, .inl (ck, 150, .inl k)), (ht, .inl (ct, 150, .inl t))] H := hP
      have hD : va_D A [(am, .inr (9, [.int (nI 0), .int (nI n), .ref hk, .ref ht, .int (nI n1), .ref hk1, .ref ht1, .int (zb pb), .int (nI rn), .ref hfg, .ref hle, .ref hmo, .ref hwy, .int (nI tn), .ref htf, .long cm, .ref hod, .ref hwk, .ref hot, .int (nI ru), .ref hen])), (hk, .inl (ck, 150, .inl k)), (ht, .inl (ct, 150, .inl t))] := hD
      refine lv_aload_n hx hb d_Mo_at_21 rfl (lv_at hl 0 rfl) ?_
      refine va_get (D := DD) (ci := 9) (v := .int (nI 0)) (C := R_Mo) (T := T_Mo) (N := 21) hx hb hg in_Mo hown hK hP 0 rfl rfl 0 (by decide) (hg _ mw_679) (fun _ h9 => h9) rfl d_Mo_at_22 ?_
      refine z_if_le (tgt := 32) hx hb d_Mo_at_25 (by decide) (by omega) (fun c_25 => ?_) (fun c_25 => ?_)
      · refine lv_iload_n hx hb d_Mo_at_32 rfl (lv_at hl 2 rfl) ?_
        refine z_ifb_eq (tgt := 45) hx hb d_Mo_at_33 (by decide) (fun c_33 => ?_) (fun c_33 => ?_)
        · refine lv_aload_n hx hb d_Mo_at_45 rfl (lv_at hl 0 rfl) ?_
          refine va_get (D := DD) (ci := 9) (v := .ref hk) (C := R_Mo) (T := T_Mo) (N := 21) hx hb hg in_Mo hown hK hP 0 rfl rfl 2 (by decide) (hg _ mw_681) (fun _ h9 => h9) rfl d_Mo_at_46 ?_
          refine lv_iload_n hx hb d_Mo_at_49 rfl (lv_at hl 1 rfl) ?_
          refine z_iald hx hb hK hP 1 0 rfl rfl (by omega) (by decide) d_Mo_at_50 ?_
          have hP9 := hP.sub (ws' := [(am, .inr (9, [.int (nI 0), .int (nI n), .ref hk, .ref ht, .int (nI n1), .ref hk1, .ref ht1, .int (zb pb), .int (nI rn), .ref hfg, .ref hle, .ref hmo, .ref hwy, .int (nI tn), .ref htf, .long cm, .ref hod, .ref hwk, .ref hot, .int (nI ru), .ref hen])), (hk, .inl (ck, 150, .inl k)), (ht, .inl (ct, 150, .inl t))]) [0, 1, 2] rfl
          have hD9 := hD.sub (ws' := [(am, .inr (9, [.int (nI 0), .int (nI n), .ref hk, .ref ht, .int (nI n1), .ref hk1, .ref ht1, .int (zb pb), .int (nI rn), .ref hfg, .ref hle, .ref hmo, .ref hwy, .int (nI tn), .ref htf, .long cm, .ref hod, .ref hwk, .ref hot, .int (nI ru), .ref hen])), (hk, .inl (ck, 150, .inl k)), (ht, .inl (ct, 150, .inl t))]) [0, 1, 2] (by decide) rfl
          exact W.iret (v := k j) hx hb hr (fun t9 ht9 hW9 => ⟨⟨_, (), rfl, (by first | exact (if_pos c_33).symm | exact (if_neg (by rw [c_33]; decide)).symm), by rw [ht9]; exact hP9, va_K.moved hW9.alike hK, hD9⟩, hS.F ht9⟩) hS.2.2 d_Mo_at_51
        · refine lv_aload_n hx hb d_Mo_at_36 rfl (lv_at hl 0 rfl) ?_
          refine va_get (D := DD) (ci := 9) (v := .ref ht) (C := R_Mo) (T := T_Mo) (N := 21) hx hb hg in_Mo hown hK hP 0 rfl rfl 3 (by decide) (hg _ mw_682) (fun _ h9 => h9) rfl d_Mo_at_37 ?_
          refine lv_iload_n hx hb d_Mo_at_40 rfl (lv_at hl 1 rfl) ?_
          refine z_iald hx hb hK hP 2 1 rfl rfl (by omega) (by decide) d_Mo_at_41 ?_
          refine lv_goto (tgt := 51) hx hb d_Mo_at_42 (by decide) ?_
          have hP9 := hP.sub (ws' := [(am, .inr (9, [.int (nI 0), .int (nI n), .ref hk, .ref ht, .int (nI n1), .ref hk1, .ref ht1, .int (zb pb), .int (nI rn), .ref hfg, .ref hle, .ref hmo, .ref hwy, .int (nI tn), .ref htf, .long cm, .ref hod, .ref hwk, .ref hot, .int (nI ru), .ref hen])), (hk, .inl (ck, 150, .inl k)), (ht, .inl (ct, 150, .inl t))]) [0, 1, 2] rfl
          have hD9 := hD.sub (ws' := [(am, .inr (9, [.int (nI 0), .int (nI n), .ref hk, .ref ht, .int (nI n1), .ref hk1, .ref ht1, .int (zb pb), .int (nI rn), .ref hfg, .ref hle, .ref hmo, .ref hwy, .int (nI tn), .ref htf, .long cm, .ref hod, .ref hwk, .ref hot, .int (nI ru), .ref hen])), (hk, .inl (ck, 150, .inl k)), (ht, .inl (ct, 150, .inl t))]) [0, 1, 2] (by decide) rfl
          exact W.iret (v := t j) hx hb hr (fun t9 ht9 hW9 => ⟨⟨_, (), rfl, (by first | exact (if_pos c_33).symm | exact (if_neg (by rw [c_33]; decide)).symm), by rw [ht9]; exact hP9, va_K.moved hW9.alike hK, hD9⟩, hS.F ht9⟩) hS.2.2 d_Mo_at_51
      · exact absurd c_25 (by decide)
    · exact absurd c_10 (by omega)
abbrev rm_Mo_at_T : Room := { frames := 0, cells := 0, slots := 0, locals := 0 }
set_option maxHeartbeats 4000000 in
set_option maxRecDepth 100000 in
theorem c_Mo_at_T (l : Launch) (DD : va_G) (sz : Nat) (am : Nat) (th : Nat) (n : Nat) (hk : Nat) (ht : Nat) (n1 : Nat) (hk1 : Nat) (ht1 : Nat) (pb : Bool) (rn : Nat) (hfg : Nat) (hle : Nat) (hmo : Nat) (hwy : Nat) (tn : Nat) (htf : Nat) (cm : Int64) (hod : Nat) (hwk : Nat) (hot : Nat) (ru : Nat) (hen : Nat) (v : Int32) (g : Bool) (hn : n ≤ 150) (hf : hasB v n = false) : Met l y_Mo_at ws_Mo_at rm_Mo_at_T (va_Pc [.ref am, .int v, .int (zb g)] (fun U => U.heap.size = sz ∧ va_P DD vwCl [(am, .inr (9, [.int (nI th), .int (nI n), .ref hk, .ref ht, .int (nI n1), .ref hk1, .ref ht1, .int (zb pb), .int (nI rn), .ref hfg, .ref hle, .ref hmo, .ref hwy, .int (nI tn), .ref htf, .long cm, .ref hod, .ref hwk, .ref hot, .int (nI ru), .ref hen]))] U.heap ∧ va_K DD vwCl [] U ∧ va_D (fun _ => True) [(am, .inr (9, [.int (nI th), .int (nI n), .ref hk, .ref ht, .int (nI n1), .ref hk1, .ref ht1, .int (zb pb), .int (nI rn), .ref hfg, .ref hle, .ref hmo, .ref hwy, .int (nI tn), .ref htf, .long cm, .ref hod, .ref hwk, .ref hot, .int (nI ru), .ref hen]))])) (va_Qi (fun (r9 : Int32) (u9 : Unit) => match u9 with | _ => r9 = nI 0) (fun (u9 : Unit) (t9 : State) => match u9 with | _ => va_P DD vwCl [(am, .inr (9, [.int (nI 1), .int (nI n), .ref hk, .ref ht, .int (nI n1), .ref hk1, .ref ht1, .int (zb pb), .int (nI rn), .ref hfg, .ref hle, .ref hmo, .ref hwy, .int (nI tn), .ref htf, .long cm, .ref hod, .ref hwk, .ref hot, .int (nI ru), .ref hen]))] t9.heap ∧ va_K DD vwCl [] t9 ∧ va_D (va_A [(am, .inr (9, [.int (nI th), .int (nI n), .ref hk, .ref ht, .int (nI n1), .ref hk1, .ref ht1, .int (zb pb), .int (nI rn), .ref hfg, .ref hle, .ref hmo, .ref hwy, .int (nI tn), .ref htf, .long cm, .ref hod, .ref hwk, .ref hot, .int (nI ru), .ref hen]))] sz) [(am, .inr (9, [.int (nI 1), .int (nI n), .ref hk, .ref ht, .int (nI n1), .ref hk1, .ref ht1, .int (zb pb), .int (nI rn), .ref hfg, .ref hle, .ref hmo, .ref hwy, .int (nI tn), .ref htf, .long cm, .ref hod, .ref hwk, .ref hot, .int (nI ru), .ref hen]))]) (va_A [(am, .inr (9, [.int (nI th), .int (nI n), .ref hk, .ref ht, .int (nI n1), .ref hk1, .ref ht1, .int (zb pb), .int (nI rn), .ref hfg, .ref hle, .ref hmo, .ref hwy, .int (nI tn), .ref htf, .long cm, .ref hod, .ref hwk, .ref hot, .int (nI ru), .ref hen]))] sz)) 0 0 (va_A [(am, .inr (9, [.int (nI th), .int (nI n), .ref hk, .ref ht, .int (nI n1), .ref hk1, .ref ht1, .int (zb pb), .int (nI rn), .ref hfg, .ref hle, .ref hmo, .ref hwy, .int (nI tn), .ref htf, .long cm, .ref hod, .ref hwk, .ref hot, .int (nI ru), .ref hen]))] sz) := by
  refine Met.ofW (cc := b_Mo_at) (maxL := 3) (ret := (some .int)) (by decide) rfl ?_
  intro p e s m args below meth c s₁ B hml hv
  obtain ⟨ha, hsz, hP, hK, hD0⟩ := hv
  have hx := B.exec
  have hb := B.bytes
  have hr := B.returns
  have hts := atoms_spec (ws := ws_Mo_at) B.pre
  have hg : ∀ w ∈ ALLG, w.before args s = true := fun w h => hts w (List.mem_cons_of_mem _ h)
  have hown : s.vm.findClass R_Mo = some m.cls := findClass_of_methodNamed B.named
  have hlocks := B.notSynchronized
  subst hsz
  have hD := hD0.self (sz := s.heap.size)
  generalize hAe : va_A [(am, .inr (9, [.int (nI th), .int (nI n), .ref hk, .ref ht, .int (nI n1), .ref hk1, .ref ht1, .int (zb pb), .int (nI rn), .ref hfg, .ref hle, .ref hmo, .ref hwy, .int (nI tn), .ref htf, .long cm, .ref hod, .ref hwk, .ref hot, .int (nI ru), .ref hen]))] s.heap.size = A at hD ⊢
  have hA : ∀ q : Nat, s.heap.size ≤ q → A q := fun q h => by rw [← hAe]; exact Or.inr h
  have hS : va_S A s.heap s.heap [] := va_S.rf
  have hP : va_P DD vwCl [(am, .inr (9, [.int (nI th), .int (nI n), .ref hk, .ref ht, .int (nI n1), .ref hk1, .ref ht1, .int (zb pb), .int (nI rn), .ref hfg, .ref hle, .ref hmo, .ref hwy, .int (nI tn), .ref htf, .long cm, .ref hod, .ref hwk, .ref hot, .int (nI ru), .ref hen]))] s.heap := hP
  have hl := lv_entry ([.ref am, .int v, .int (zb g)]) (n := 3) (Nat.le_of_ble_eq_true rfl)
  rw [ha, lg_entry_eq, ← ha]
  generalize (lg_sl ([.ref am, .int v, .int (zb g)]) ++ List.replicate (3 - (lg_sl ([.ref am, .int v, .int (zb g)])).length) Slot.unset).toArray = ls at hl ⊢
  have hl : lv_has ls 3 [(0, .ref am), (1, .int v), (2, .int (zb g))] := hl
  refine lv_aload_n hx hb d_Mo_at_0 rfl (lv_at hl 0 rfl) ?_
  refine lv_iload_n hx hb d_Mo_at_1 rfl (lv_at hl 1 rfl) ?_
  refine lv_if_lt (tgt := 13) hx hb d_Mo_at_2 (by decide) (fun c_2 => ?_) (fun c_2 => ?_)
  · refine lv_iconst (v := nI 1) hx hb d_Mo_at_13 (by decide) ?_
    refine lv_goto (tgt := 18) hx hb d_Mo_at_14 (by decide) ?_
    refine va_put (D := DD) (ci := 9) (v := .int (nI 1)) (ty := .int) (C := R_Mo) (T := T_Mo) (N := 21) hx hb hg in_Mo t_Mo to_Mo n_Mo hown hK hP hD hS 0 rfl rfl 0 (by decide) (hg _ mw_679) (fun _ h9 => h9) rfl (by decide +kernel) rfl rfl (Nat.le_of_ble_eq_true rfl) d_Mo_at_18 (fun H locs hP hD hS => ?_)
    have hP : va_P DD vwCl [(am, .inr (9, [.int (nI 1), .int (nI n), .ref hk, .ref ht, .int (nI n1), .ref hk1, .ref ht1, .int (zb pb), .int (nI rn), .ref hfg, .ref hle, .ref hmo, .ref hwy, .int (nI tn), .ref htf, .long cm, .ref hod, .ref hwk, .ref hot, .int (nI ru), .ref hen]))] H := hP
    have hD : va_D A [(am, .inr (9, [.int (nI 1), .int (nI n), .ref hk, .ref ht, .int (nI n1), .ref hk1, .ref ht1, .int (zb pb), .int (nI rn), .ref hfg, .ref hle, .ref hmo, .ref hwy, .int (nI tn), .ref htf, .long cm, .ref hod, .ref hwk, .ref hot, .int (nI ru), .ref hen]))] := hD
    refine lv_aload_n hx hb d_Mo_at_21 rfl (lv_at hl 0 rfl) ?_
    refine va_get (D := DD) (ci := 9) (v := .int (nI 1)) (C := R_Mo) (T := T_Mo) (N := 21) hx hb hg in_Mo hown hK hP 0 rfl rfl 0 (by decide) (hg _ mw_679) (fun _ h9 => h9) rfl d_Mo_at_22 ?_
    refine z_if_le (tgt := 32) hx hb d_Mo_at_25 (by decide) (by omega) (fun c_25 => ?_) (fun c_25 => ?_)
    · exact absurd c_25 (by decide)
    · refine lv_iconst (v := nI 0) hx hb d_Mo_at_28 (by decide) ?_
      refine lv_goto (tgt := 51) hx hb d_Mo_at_29 (by decide) ?_
      have hP9 := hP.sub (ws' := [(am, .inr (9, [.int (nI 1), .int (nI n), .ref hk, .ref ht, .int (nI n1), .ref hk1, .ref ht1, .int (zb pb), .int (nI rn), .ref hfg, .ref hle, .ref hmo, .ref hwy, .int (nI tn), .ref htf, .long cm, .ref hod, .ref hwk, .ref hot, .int (nI ru), .ref hen]))]) [0] rfl
      have hD9 := hD.sub (ws' := [(am, .inr (9, [.int (nI 1), .int (nI n), .ref hk, .ref ht, .int (nI n1), .ref hk1, .ref ht1, .int (zb pb), .int (nI rn), .ref hfg, .ref hle, .ref hmo, .ref hwy, .int (nI tn), .ref htf, .long cm, .ref hod, .ref hwk, .ref hot, .int (nI ru), .ref hen]))]) [0] (by decide) rfl
      exact W.iret (v := nI 0) hx hb hr (fun t9 ht9 hW9 => ⟨⟨_, (), rfl, rfl, by rw [ht9]; exact hP9, va_K.moved hW9.alike hK, hD9⟩, hS.F ht9⟩) hS.2.2 d_Mo_at_51
  · refine lv_iload_n hx hb d_Mo_at_5 rfl (lv_at hl 1 rfl) ?_
    refine lv_aload_n hx hb d_Mo_at_6 rfl (lv_at hl 0 rfl) ?_
    refine va_get (D := DD) (ci := 9) (v := .int (nI n)) (C := R_Mo) (T := T_Mo) (N := 21) hx hb hg in_Mo hown hK hP 0 rfl rfl 1 (by decide) (hg _ mw_680) (fun _ h9 => h9) rfl d_Mo_at_7 ?_
    refine lv_icmp_lt (tgt := 17) hx hb d_Mo_at_10 (by decide) (fun c_10 => ?_) (fun c_10 => ?_)
    · exact absurd hf (by rw [hasB_lt (by omega) c_2 c_10]; decide)
    · refine lv_iconst (v := nI 1) hx hb d_Mo_at_13 (by decide) ?_
      refine lv_goto (tgt := 18) hx hb d_Mo_at_14 (by decide) ?_
      refine va_put (D := DD) (ci := 9) (v := .int (nI 1)) (ty := .int) (C := R_Mo) (T := T_Mo) (N := 21) hx hb hg in_Mo t_Mo to_Mo n_Mo hown hK hP hD hS 0 rfl rfl 0 (by decide) (hg _ mw_679) (fun _ h9 => h9) rfl (by decide +kernel) rfl rfl (Nat.le_of_ble_eq_true rfl) d_Mo_at_18 (fun H locs hP hD hS => ?_)
      have hP : va_P DD vwCl [(am, .inr (9, [.int (nI 1), .int (nI n), .ref hk, .ref ht, .int (nI n1), .ref hk1, .ref ht1, .int (zb pb), .int (nI rn), .ref hfg, .ref hle, .ref hmo, .ref hwy, .int (nI tn), .ref htf, .long cm, .ref hod, .ref hwk, .ref hot, .int (nI ru), .ref hen]))] H := hP
      have hD : va_D A [(am, .inr (9, [.int (nI 1), .int (nI n), .ref hk, .ref ht, .int (nI n1), .ref hk1, .ref ht1, .int (zb pb), .int (nI rn), .ref hfg, .ref hle, .ref hmo, .ref hwy, .int (nI tn), .ref htf, .long cm, .ref hod, .ref hwk, .ref hot, .int (nI ru), .ref hen]))] := hD
      refine lv_aload_n hx hb d_Mo_at_21 rfl (lv_at hl 0 rfl) ?_
      refine va_get (D := DD) (ci := 9) (v := .int (nI 1)) (C := R_Mo) (T := T_Mo) (N := 21) hx hb hg in_Mo hown hK hP 0 rfl rfl 0 (by decide) (hg _ mw_679) (fun _ h9 => h9) rfl d_Mo_at_22 ?_
      refine z_if_le (tgt := 32) hx hb d_Mo_at_25 (by decide) (by omega) (fun c_25 => ?_) (fun c_25 => ?_)
      · exact absurd c_25 (by decide)
      · refine lv_iconst (v := nI 0) hx hb d_Mo_at_28 (by decide) ?_
        refine lv_goto (tgt := 51) hx hb d_Mo_at_29 (by decide) ?_
        have hP9 := hP.sub (ws' := [(am, .inr (9, [.int (nI 1), .int (nI n), .ref hk, .ref ht, .int (nI n1), .ref hk1, .ref ht1, .int (zb pb), .int (nI rn), .ref hfg, .ref hle, .ref hmo, .ref hwy, .int (nI tn), .ref htf, .long cm, .ref hod, .ref hwk, .ref hot, .int (nI ru), .ref hen]))]) [0] rfl
        have hD9 := hD.sub (ws' := [(am, .inr (9, [.int (nI 1), .int (nI n), .ref hk, .ref ht, .int (nI n1), .ref hk1, .ref ht1, .int (zb pb), .int (nI rn), .ref hfg, .ref hle, .ref hmo, .ref hwy, .int (nI tn), .ref htf, .long cm, .ref hod, .ref hwk, .ref hot, .int (nI ru), .ref hen]))]) [0] (by decide) rfl
        exact W.iret (v := nI 0) hx hb hr (fun t9 ht9 hW9 => ⟨⟨_, (), rfl, rfl, by rw [ht9]; exact hP9, va_K.moved hW9.alike hK, hD9⟩, hS.F ht9⟩) hS.2.2 d_Mo_at_51
theorem d_Mo_figure_0 : decode b_Mo_figure 0 = .ok (.aload_n 0, 1) := by decide +kernel
theorem d_Mo_figure_1 : decode b_Mo_figure 1 = .ok (.iload_n 1, 1) := by decide +kernel
theorem d_Mo_figure_2 : decode b_Mo_figure 2 = .ok (.ifCond .lt 9, 3) := by decide +kernel
theorem d_Mo_figure_5 : decode b_Mo_figure 5 = .ok (.iload_n 1, 1) := by decide +kernel
theorem d_Mo_figure_6 : decode b_Mo_figure 6 = .ok (.bipush 7, 2) := by decide +kernel
theorem d_Mo_figure_8 : decode b_Mo_figure 8 = .ok (.if_icmp .le 7, 3) := by decide +kernel
theorem d_Mo_figure_11 : decode b_Mo_figure 11 = .ok (.iconst 1, 1) := by decide +kernel
theorem d_Mo_figure_12 : decode b_Mo_figure 12 = .ok (.goto 4, 3) := by decide +kernel
theorem d_Mo_figure_15 : decode b_Mo_figure 15 = .ok (.iconst 0, 1) := by decide +kernel
theorem d_Mo_figure_16 : decode b_Mo_figure 16 = .ok (.putfield 50, 3) := by decide +kernel
theorem d_Mo_figure_19 : decode b_Mo_figure 19 = .ok (.aload_n 0, 1) := by decide +kernel
theorem d_Mo_figure_20 : decode b_Mo_figure 20 = .ok (.getfield 50, 3) := by decide +kernel
theorem d_Mo_figure_23 : decode b_Mo_figure 23 = .ok (.ifCond .le 7, 3) := by decide +kernel
theorem d_Mo_figure_26 : decode b_Mo_figure 26 = .ok (.lconst 0, 1) := by decide +kernel
theorem d_Mo_figure_27 : decode b_Mo_figure 27 = .ok (.goto 8, 3) := by decide +kernel
theorem d_Mo_figure_30 : decode b_Mo_figure 30 = .ok (.aload_n 0, 1) := by decide +kernel
theorem d_Mo_figure_31 : decode b_Mo_figure 31 = .ok (.iload_n 1, 1) := by decide +kernel
theorem d_Mo_figure_32 : decode b_Mo_figure 32 = .ok (.invokevirtual 82, 3) := by decide +kernel
theorem d_Mo_figure_35 : decode b_Mo_figure 35 = .ok (.lreturn, 1) := by decide +kernel
abbrev ws_Mo_figure : List Cond := .code y_Mo_figure b_Mo_figure 2 (some .long) :: ALLG
abbrev rm_Mo_figure : Room := { frames := 2, cells := 0, slots := 0, locals := 46 }
set_option maxHeartbeats 4000000 in
set_option maxRecDepth 100000 in
theorem c_Mo_figure (l : Launch) (DD : va_G) (sz : Nat) (am : Nat) (th : Nat) (n : Nat) (hk : Nat) (ck : ClassId) (k : Nat → Int32) (ht : Nat) (n1 : Nat) (hk1 : Nat) (ht1 : Nat) (pb : Bool) (rn : Nat) (hfg : Nat) (hle : Nat) (hmo : Nat) (hwy : Nat) (tn : Nat) (htf : Nat) (cm : Int64) (hod : Nat) (hwk : Nat) (hot : Nat) (ru : Nat) (hen : Nat) (w : Nat) (hn : n ≤ 150) (hw8 : w < 8) : Met l y_Mo_figure ws_Mo_figure rm_Mo_figure (va_Pc [.ref am, .int (nI w)] (fun U => U.heap.size = sz ∧ va_P DD vwCl [(am, .inr (9, [.int (nI th), .int (nI n), .ref hk, .ref ht, .int (nI n1), .ref hk1, .ref ht1, .int (zb pb), .int (nI rn), .ref hfg, .ref hle, .ref hmo, .ref hwy, .int (nI tn), .ref htf, .long cm, .ref hod, .ref hwk, .ref hot, .int (nI ru), .ref hen])), (hk, .inl (ck, 150, .inl k))] U.heap ∧ va_K DD vwCl [(ck, .int)] U ∧ va_D (fun _ => True) [(am, .inr (9, [.int (nI th), .int (nI n), .ref hk, .ref ht, .int (nI n1), .ref hk1, .ref ht1, .int (zb pb), .int (nI rn), .ref hfg, .ref hle, .ref hmo, .ref hwy, .int (nI tn), .ref htf, .long cm, .ref hod, .ref hwk, .ref hot, .int (nI ru), .ref hen])), (hk, .inl (ck, 150, .inl k))])) (va_Ql (fun (r9 : Int64) (u9 : Unit) => match u9 with | _ => r9 = (figN k n w).toInt64) (fun (u9 : Unit) (t9 : State) => match u9 with | _ => va_P DD vwCl [(am, .inr (9, [.int (nI 0), .int (nI n), .ref hk, .ref ht, .int (nI n1), .ref hk1, .ref ht1, .int (zb pb), .int (nI rn), .ref hfg, .ref hle, .ref hmo, .ref hwy, .int (nI tn), .ref htf, .long cm, .ref hod, .ref hwk, .ref hot, .int (nI ru), .ref hen])), (hk, .inl (ck, 150, .inl k))] t9.heap ∧ va_K DD vwCl [(ck, .int)] t9 ∧ va_D (va_A [(am, .inr (9, [.int (nI th), .int (nI n), .ref hk, .ref ht, .int (nI n1), .ref hk1, .ref ht1, .int (zb pb), .int (nI rn), .ref hfg, .ref hle, .ref hmo, .ref hwy, .int (nI tn), .ref htf, .long cm, .ref hod, .ref hwk, .ref hot, .int (nI ru), .ref hen])), (hk, .inl (ck, 150, .inl k))] sz) [(am, .inr (9, [.int (nI 0), .int (nI n), .ref hk, .ref ht, .int (nI n1), .ref hk1, .ref ht1, .int (zb pb), .int (nI rn), .ref hfg, .ref hle, .ref hmo, .ref hwy, .int (nI tn), .ref htf, .long cm, .ref hod, .ref hwk, .ref hot, .int (nI ru), .ref hen])), (hk, .inl (ck, 150, .inl k))]) (va_A [(am, .inr (9, [.int (nI th), .int (nI n), .ref hk, .ref ht, .int (nI n1), .ref hk1, .ref ht1, .int (zb pb), .int (nI rn), .ref hfg, .ref hle, .ref hmo, .ref hwy, .int (nI tn), .ref htf, .long cm, .ref hod, .ref hwk, .ref hot, .int (nI ru), .ref hen])), (hk, .inl (ck, 150, .inl k))] sz)) 0 0 (va_A [(am, .inr (9, [.int (nI th), .int (nI n), .ref hk, .ref ht, .int (nI n1), .ref hk1, .ref ht1, .int (zb pb), .int (nI rn), .ref hfg, .ref hle, .ref hmo, .ref hwy, .int (nI tn), .ref htf, .long cm, .ref hod, .ref hwk, .ref hot, .int (nI ru), .ref hen])), (hk, .inl (ck, 150, .inl k))] sz) := by
  refine Met.ofW (cc := b_Mo_figure) (maxL := 2) (ret := (some .long)) (by decide) rfl ?_
  intro p e s m args below meth c s₁ B hml hv
  obtain ⟨ha, hsz, hP, hK, hD0⟩ := hv
  have hx := B.exec
  have hb := B.bytes
  have hr := B.returns
  have hts := atoms_spec (ws := ws_Mo_figure) B.pre
  have hg : ∀ w ∈ ALLG, w.before args s = true := fun w h => hts w (List.mem_cons_of_mem _ h)
  have hown : s.vm.findClass R_Mo = some m.cls := findClass_of_methodNamed B.named
  have hlocks := B.notSynchronized
  subst hsz
  have hD := hD0.self (sz := s.heap.size)
  generalize hAe : va_A [(am, .inr (9, [.int (nI th), .int (nI n), .ref hk, .ref ht, .int (nI n1), .ref hk1, .ref ht1, .int (zb pb), .int (nI rn), .ref hfg, .ref hle, .ref hmo, .ref hwy, .int (nI tn), .ref htf, .long cm, .ref hod, .ref hwk, .ref hot, .int (nI ru), .ref hen])), (hk, .inl (ck, 150, .inl k))] s.heap.size = A at hD ⊢
  have hA : ∀ q : Nat, s.heap.size ≤ q → A q := fun q h => by rw [← hAe]; exact Or.inr h
  have hS : va_S A s.heap s.heap [] := va_S.rf
  have hP : va_P DD vwCl [(am, .inr (9, [.int (nI th), .int (nI n), .ref hk, .ref ht, .int (nI n1), .ref hk1, .ref ht1, .int (zb pb), .int (nI rn), .ref hfg, .ref hle, .ref hmo, .ref hwy, .int (nI tn), .ref htf, .long cm, .ref hod, .ref hwk, .ref hot, .int (nI ru), .ref hen])), (hk, .inl (ck, 150, .inl k))] s.heap := hP
  have hl := lv_entry ([.ref am, .int (nI w)]) (n := 2) (Nat.le_of_ble_eq_true rfl)
  rw [ha, lg_entry_eq, ← ha]
  generalize (lg_sl ([.ref am, .int (nI w)]) ++ List.replicate (2 - (lg_sl ([.ref am, .int (nI w)])).length) Slot.unset).toArray = ls at hl ⊢
  have hl : lv_has ls 2 [(0, .ref am), (1, .int (nI w))] := hl
  refine lv_aload_n hx hb d_Mo_figure_0 rfl (lv_at hl 0 rfl) ?_
  refine lv_iload_n hx hb d_Mo_figure_1 rfl (lv_at hl 1 rfl) ?_
  refine z_if_lt (tgt := 11) hx hb d_Mo_figure_2 (by decide) (by omega) (fun c_2 => ?_) (fun c_2 => ?_)
  · exact c_2.elim
  · refine lv_iload_n hx hb d_Mo_figure_5 rfl (lv_at hl 1 rfl) ?_
    refine lv_bipush (v := nI 7) hx hb d_Mo_figure_6 (by decide) ?_
    refine z_icmp_le (tgt := 15) hx hb d_Mo_figure_8 (by decide) (by omega) (by omega) (fun c_8 => ?_) (fun c_8 => ?_)
    · refine lv_iconst (v := nI 0) hx hb d_Mo_figure_15 (by decide) ?_
      refine va_put (D := DD) (ci := 9) (v := .int (nI 0)) (ty := .int) (C := R_Mo) (T := T_Mo) (N := 21) hx hb hg in_Mo t_Mo to_Mo n_Mo hown hK hP hD hS 0 rfl rfl 0 (by decide) (hg _ mw_679) (fun _ h9 => h9) rfl (by decide +kernel) rfl rfl (Nat.le_of_ble_eq_true rfl) d_Mo_figure_16 (fun H locs hP hD hS => ?_)
      have hP : va_P DD vwCl [(am, .inr (9, [.int (nI 0), .int (nI n), .ref hk, .ref ht, .int (nI n1), .ref hk1, .ref ht1, .int (zb pb), .int (nI rn), .ref hfg, .ref hle, .ref hmo, .ref hwy, .int (nI tn), .ref htf, .long cm, .ref hod, .ref hwk, .ref hot, .int (nI ru), .ref hen])), (hk, .inl (ck, 150, .inl k))] H := hP
      have hD : va_D A [(am, .inr (9, [.int (nI 0), .int (nI n), .ref hk, .ref ht, .int (nI n1), .ref hk1, .ref ht1, .int (zb pb), .int (nI rn), .ref hfg, .ref hle, .ref hmo, .ref hwy, .int (nI tn), .ref htf, .long cm, .ref hod, .ref hwk, .ref hot, .int (nI ru), .ref hen])), (hk, .inl (ck, 150, .inl k))] := hD
      refine lv_aload_n hx hb d_Mo_figure_19 rfl (lv_at hl 0 rfl) ?_
      refine va_get (D := DD) (ci := 9) (v := .int (nI 0)) (C := R_Mo) (T := T_Mo) (N := 21) hx hb hg in_Mo hown hK hP 0 rfl rfl 0 (by decide) (hg _ mw_679) (fun _ h9 => h9) rfl d_Mo_figure_20 ?_
      refine z_if_le (tgt := 30) hx hb d_Mo_figure_23 (by decide) (by omega) (fun c_23 => ?_) (fun c_23 => ?_)
      · refine lv_aload_n hx hb d_Mo_figure_30 rfl (lv_at hl 0 rfl) ?_
        refine lv_iload_n hx hb d_Mo_figure_31 rfl (lv_at hl 1 rfl) ?_
        have hPc := hP.sub (ws' := [(am, .inr (9, [.int (nI 0), .int (nI n), .ref hk, .ref ht, .int (nI n1), .ref hk1, .ref ht1, .int (zb pb), .int (nI rn), .ref hfg, .ref hle, .ref hmo, .ref hwy, .int (nI tn), .ref htf, .long cm, .ref hod, .ref hwk, .ref hot, .int (nI ru), .ref hen])), (hk, .inl (ck, 150, .inl k))]) [0, 1] rfl
        have hKc := hK.sub (tys' := [(ck, .int)]) [0] rfl
        refine vp_callSl (W.runV (As := [.int (nI w)]) (rest := []) ⟨hx, hb, hml, hown, hg⟩ (c_Mo_figureOf l DD am 0 n hk ck k ht n1 hk1 ht1 pb rn hfg hle hmo hwy tn htf cm hod hwk hot ru hen w (by omega) (by omega)) (cwV 1 hg (gi_V mw_771 mw_773 ms_Mo_figureOf mw_11 mw_774) rfl rfl rfl (by decide +kernel) ⟨Nat.le_of_ble_eq_true rfl, Nat.le_of_ble_eq_true rfl⟩) ⟨z_blind, va_recv hKc hPc (ci := 9) (q0 := 0) rfl rfl, z_pre hPc hKc⟩ rfl rfl hl.1 rfl (lv_room (Nat.le_of_ble_eq_true rfl)) d_Mo_figure_32 ⟨Nat.zero_le _, Nat.zero_le _⟩) (fun r_32 hr_32 => ?_)
        subst hr_32
        have hP9 := hP.sub (ws' := [(am, .inr (9, [.int (nI 0), .int (nI n), .ref hk, .ref ht, .int (nI n1), .ref hk1, .ref ht1, .int (zb pb), .int (nI rn), .ref hfg, .ref hle, .ref hmo, .ref hwy, .int (nI tn), .ref htf, .long cm, .ref hod, .ref hwk, .ref hot, .int (nI ru), .ref hen])), (hk, .inl (ck, 150, .inl k))]) [0, 1] rfl
        have hD9 := hD.sub (ws' := [(am, .inr (9, [.int (nI 0), .int (nI n), .ref hk, .ref ht, .int (nI n1), .ref hk1, .ref ht1, .int (zb pb), .int (nI rn), .ref hfg, .ref hle, .ref hmo, .ref hwy, .int (nI tn), .ref htf, .long cm, .ref hod, .ref hwk, .ref hot, .int (nI ru), .ref hen])), (hk, .inl (ck, 150, .inl k))]) [0, 1] (by decide) rfl
        exact W.lret (v := (figN k n w).toInt64) hx hb hr (fun t9 ht9 hW9 => ⟨⟨_, (), rfl, rfl, by rw [ht9]; exact hP9, va_K.moved hW9.alike hK, hD9⟩, hS.F ht9⟩) hS.2.2 d_Mo_figure_35
      · exact absurd c_23 (by decide)
    · exact absurd c_8 (by omega)
abbrev rm_Mo_figure_T : Room := { frames := 0, cells := 0, slots := 0, locals := 0 }
set_option maxHeartbeats 4000000 in
set_option maxRecDepth 100000 in
theorem c_Mo_figure_T (l : Launch) (DD : va_G) (sz : Nat) (am : Nat) (th : Nat) (n : Nat) (hk : Nat) (ht : Nat) (n1 : Nat) (hk1 : Nat) (ht1 : Nat) (pb : Bool) (rn : Nat) (hfg : Nat) (hle : Nat) (hmo : Nat) (hwy : Nat) (tn : Nat) (htf : Nat) (cm : Int64) (hod : Nat) (hwk : Nat) (hot : Nat) (ru : Nat) (hen : Nat) (v : Int32) (hf : hasB v 8 = false) : Met l y_Mo_figure ws_Mo_figure rm_Mo_figure_T (va_Pc [.ref am, .int v] (fun U => U.heap.size = sz ∧ va_P DD vwCl [(am, .inr (9, [.int (nI th), .int (nI n), .ref hk, .ref ht, .int (nI n1), .ref hk1, .ref ht1, .int (zb pb), .int (nI rn), .ref hfg, .ref hle, .ref hmo, .ref hwy, .int (nI tn), .ref htf, .long cm, .ref hod, .ref hwk, .ref hot, .int (nI ru), .ref hen]))] U.heap ∧ va_K DD vwCl [] U ∧ va_D (fun _ => True) [(am, .inr (9, [.int (nI th), .int (nI n), .ref hk, .ref ht, .int (nI n1), .ref hk1, .ref ht1, .int (zb pb), .int (nI rn), .ref hfg, .ref hle, .ref hmo, .ref hwy, .int (nI tn), .ref htf, .long cm, .ref hod, .ref hwk, .ref hot, .int (nI ru), .ref hen]))])) (va_Ql (fun (r9 : Int64) (u9 : Unit) => match u9 with | _ => r9 = 0) (fun (u9 : Unit) (t9 : State) => match u9 with | _ => va_P DD vwCl [(am, .inr (9, [.int (nI 1), .int (nI n), .ref hk, .ref ht, .int (nI n1), .ref hk1, .ref ht1, .int (zb pb), .int (nI rn), .ref hfg, .ref hle, .ref hmo, .ref hwy, .int (nI tn), .ref htf, .long cm, .ref hod, .ref hwk, .ref hot, .int (nI ru), .ref hen]))] t9.heap ∧ va_K DD vwCl [] t9 ∧ va_D (va_A [(am, .inr (9, [.int (nI th), .int (nI n), .ref hk, .ref ht, .int (nI n1), .ref hk1, .ref ht1, .int (zb pb), .int (nI rn), .ref hfg, .ref hle, .ref hmo, .ref hwy, .int (nI tn), .ref htf, .long cm, .ref hod, .ref hwk, .ref hot, .int (nI ru), .ref hen]))] sz) [(am, .inr (9, [.int (nI 1), .int (nI n), .ref hk, .ref ht, .int (nI n1), .ref hk1, .ref ht1, .int (zb pb), .int (nI rn), .ref hfg, .ref hle, .ref hmo, .ref hwy, .int (nI tn), .ref htf, .long cm, .ref hod, .ref hwk, .ref hot, .int (nI ru), .ref hen]))]) (va_A [(am, .inr (9, [.int (nI th), .int (nI n), .ref hk, .ref ht, .int (nI n1), .ref hk1, .ref ht1, .int (zb pb), .int (nI rn), .ref hfg, .ref hle, .ref hmo, .ref hwy, .int (nI tn), .ref htf, .long cm, .ref hod, .ref hwk, .ref hot, .int (nI ru), .ref hen]))] sz)) 0 0 (va_A [(am, .inr (9, [.int (nI th), .int (nI n), .ref hk, .ref ht, .int (nI n1), .ref hk1, .ref ht1, .int (zb pb), .int (nI rn), .ref hfg, .ref hle, .ref hmo, .ref hwy, .int (nI tn), .ref htf, .long cm, .ref hod, .ref hwk, .ref hot, .int (nI ru), .ref hen]))] sz) := by
  refine Met.ofW (cc := b_Mo_figure) (maxL := 2) (ret := (some .long)) (by decide) rfl ?_
  intro p e s m args below meth c s₁ B hml hv
  obtain ⟨ha, hsz, hP, hK, hD0⟩ := hv
  have hx := B.exec
  have hb := B.bytes
  have hr := B.returns
  have hts := atoms_spec (ws := ws_Mo_figure) B.pre
  have hg : ∀ w ∈ ALLG, w.before args s = true := fun w h => hts w (List.mem_cons_of_mem _ h)
  have hown : s.vm.findClass R_Mo = some m.cls := findClass_of_methodNamed B.named
  have hlocks := B.notSynchronized
  subst hsz
  have hD := hD0.self (sz := s.heap.size)
  generalize hAe : va_A [(am, .inr (9, [.int (nI th), .int (nI n), .ref hk, .ref ht, .int (nI n1), .ref hk1, .ref ht1, .int (zb pb), .int (nI rn), .ref hfg, .ref hle, .ref hmo, .ref hwy, .int (nI tn), .ref htf, .long cm, .ref hod, .ref hwk, .ref hot, .int (nI ru), .ref hen]))] s.heap.size = A at hD ⊢
  have hA : ∀ q : Nat, s.heap.size ≤ q → A q := fun q h => by rw [← hAe]; exact Or.inr h
  have hS : va_S A s.heap s.heap [] := va_S.rf
  have hP : va_P DD vwCl [(am, .inr (9, [.int (nI th), .int (nI n), .ref hk, .ref ht, .int (nI n1), .ref hk1, .ref ht1, .int (zb pb), .int (nI rn), .ref hfg, .ref hle, .ref hmo, .ref hwy, .int (nI tn), .ref htf, .long cm, .ref hod, .ref hwk, .ref hot, .int (nI ru), .ref hen]))] s.heap := hP
  have hl := lv_entry ([.ref am, .int v]) (n := 2) (Nat.le_of_ble_eq_true rfl)
  rw [ha, lg_entry_eq, ← ha]
  generalize (lg_sl ([.ref am, .int v]) ++ List.replicate (2 - (lg_sl ([.ref am, .int v])).length) Slot.unset).toArray = ls at hl ⊢
  have hl : lv_has ls 2 [(0, .ref am), (1, .int v)] := hl
  refine lv_aload_n hx hb d_Mo_figure_0 rfl (lv_at hl 0 rfl) ?_
  refine lv_iload_n hx hb d_Mo_figure_1 rfl (lv_at hl 1 rfl) ?_
  refine lv_if_lt (tgt := 11) hx hb d_Mo_figure_2 (by decide) (fun c_2 => ?_) (fun c_2 => ?_)
  · refine lv_iconst (v := nI 1) hx hb d_Mo_figure_11 (by decide) ?_
    refine lv_goto (tgt := 16) hx hb d_Mo_figure_12 (by decide) ?_
    refine va_put (D := DD) (ci := 9) (v := .int (nI 1)) (ty := .int) (C := R_Mo) (T := T_Mo) (N := 21) hx hb hg in_Mo t_Mo to_Mo n_Mo hown hK hP hD hS 0 rfl rfl 0 (by decide) (hg _ mw_679) (fun _ h9 => h9) rfl (by decide +kernel) rfl rfl (Nat.le_of_ble_eq_true rfl) d_Mo_figure_16 (fun H locs hP hD hS => ?_)
    have hP : va_P DD vwCl [(am, .inr (9, [.int (nI 1), .int (nI n), .ref hk, .ref ht, .int (nI n1), .ref hk1, .ref ht1, .int (zb pb), .int (nI rn), .ref hfg, .ref hle, .ref hmo, .ref hwy, .int (nI tn), .ref htf, .long cm, .ref hod, .ref hwk, .ref hot, .int (nI ru), .ref hen]))] H := hP
    have hD : va_D A [(am, .inr (9, [.int (nI 1), .int (nI n), .ref hk, .ref ht, .int (nI n1), .ref hk1, .ref ht1, .int (zb pb), .int (nI rn), .ref hfg, .ref hle, .ref hmo, .ref hwy, .int (nI tn), .ref htf, .long cm, .ref hod, .ref hwk, .ref hot, .int (nI ru), .ref hen]))] := hD
    refine lv_aload_n hx hb d_Mo_figure_19 rfl (lv_at hl 0 rfl) ?_
    refine va_get (D := DD) (ci := 9) (v := .int (nI 1)) (C := R_Mo) (T := T_Mo) (N := 21) hx hb hg in_Mo hown hK hP 0 rfl rfl 0 (by decide) (hg _ mw_679) (fun _ h9 => h9) rfl d_Mo_figure_20 ?_
    refine z_if_le (tgt := 30) hx hb d_Mo_figure_23 (by decide) (by omega) (fun c_23 => ?_) (fun c_23 => ?_)
    · exact absurd c_23 (by decide)
    · refine lv_lconst (v := 0) hx hb d_Mo_figure_26 (by decide) ?_
      refine lv_goto (tgt := 35) hx hb d_Mo_figure_27 (by decide) ?_
      have hP9 := hP.sub (ws' := [(am, .inr (9, [.int (nI 1), .int (nI n), .ref hk, .ref ht, .int (nI n1), .ref hk1, .ref ht1, .int (zb pb), .int (nI rn), .ref hfg, .ref hle, .ref hmo, .ref hwy, .int (nI tn), .ref htf, .long cm, .ref hod, .ref hwk, .ref hot, .int (nI ru), .ref hen]))]) [0] rfl
      have hD9 := hD.sub (ws' := [(am, .inr (9, [.int (nI 1), .int (nI n), .ref hk, .ref ht, .int (nI n1), .ref hk1, .ref ht1, .int (zb pb), .int (nI rn), .ref hfg, .ref hle, .ref hmo, .ref hwy, .int (nI tn), .ref htf, .long cm, .ref hod, .ref hwk, .ref hot, .int (nI ru), .ref hen]))]) [0] (by decide) rfl
      exact W.lret (v := 0) hx hb hr (fun t9 ht9 hW9 => ⟨⟨_, (), rfl, rfl, by rw [ht9]; exact hP9, va_K.moved hW9.alike hK, hD9⟩, hS.F ht9⟩) hS.2.2 d_Mo_figure_35
  · refine lv_iload_n hx hb d_Mo_figure_5 rfl (lv_at hl 1 rfl) ?_
    refine lv_bipush (v := nI 7) hx hb d_Mo_figure_6 (by decide) ?_
    refine lv_icmp_le (tgt := 15) hx hb d_Mo_figure_8 (by decide) (fun c_8 => ?_) (fun c_8 => ?_)
    · exact absurd hf (by rw [hasB_8 c_2 c_8]; decide)
    · refine lv_iconst (v := nI 1) hx hb d_Mo_figure_11 (by decide) ?_
      refine lv_goto (tgt := 16) hx hb d_Mo_figure_12 (by decide) ?_
      refine va_put (D := DD) (ci := 9) (v := .int (nI 1)) (ty := .int) (C := R_Mo) (T := T_Mo) (N := 21) hx hb hg in_Mo t_Mo to_Mo n_Mo hown hK hP hD hS 0 rfl rfl 0 (by decide) (hg _ mw_679) (fun _ h9 => h9) rfl (by decide +kernel) rfl rfl (Nat.le_of_ble_eq_true rfl) d_Mo_figure_16 (fun H locs hP hD hS => ?_)
      have hP : va_P DD vwCl [(am, .inr (9, [.int (nI 1), .int (nI n), .ref hk, .ref ht, .int (nI n1), .ref hk1, .ref ht1, .int (zb pb), .int (nI rn), .ref hfg, .ref hle, .ref hmo, .ref hwy, .int (nI tn), .ref htf, .long cm, .ref hod, .ref hwk, .ref hot, .int (nI ru), .ref hen]))] H := hP
      have hD : va_D A [(am, .inr (9, [.int (nI 1), .int (nI n), .ref hk, .ref ht, .int (nI n1), .ref hk1, .ref ht1, .int (zb pb), .int (nI rn), .ref hfg, .ref hle, .ref hmo, .ref hwy, .int (nI tn), .ref htf, .long cm, .ref hod, .ref hwk, .ref hot, .int (nI ru), .ref hen]))] := hD
      refine lv_aload_n hx hb d_Mo_figure_19 rfl (lv_at hl 0 rfl) ?_
      refine va_get (D := DD) (ci := 9) (v := .int (nI 1)) (C := R_Mo) (T := T_Mo) (N := 21) hx hb hg in_Mo hown hK hP 0 rfl rfl 0 (by decide) (hg _ mw_679) (fun _ h9 => h9) rfl d_Mo_figure_20 ?_
      refine z_if_le (tgt := 30) hx hb d_Mo_figure_23 (by decide) (by omega) (fun c_23 => ?_) (fun c_23 => ?_)
      · exact absurd c_23 (by decide)
      · refine lv_lconst (v := 0) hx hb d_Mo_figure_26 (by decide) ?_
        refine lv_goto (tgt := 35) hx hb d_Mo_figure_27 (by decide) ?_
        have hP9 := hP.sub (ws' := [(am, .inr (9, [.int (nI 1), .int (nI n), .ref hk, .ref ht, .int (nI n1), .ref hk1, .ref ht1, .int (zb pb), .int (nI rn), .ref hfg, .ref hle, .ref hmo, .ref hwy, .int (nI tn), .ref htf, .long cm, .ref hod, .ref hwk, .ref hot, .int (nI ru), .ref hen]))]) [0] rfl
        have hD9 := hD.sub (ws' := [(am, .inr (9, [.int (nI 1), .int (nI n), .ref hk, .ref ht, .int (nI n1), .ref hk1, .ref ht1, .int (zb pb), .int (nI rn), .ref hfg, .ref hle, .ref hmo, .ref hwy, .int (nI tn), .ref htf, .long cm, .ref hod, .ref hwk, .ref hot, .int (nI ru), .ref hen]))]) [0] (by decide) rfl
        exact W.lret (v := 0) hx hb hr (fun t9 ht9 hW9 => ⟨⟨_, (), rfl, rfl, by rw [ht9]; exact hP9, va_K.moved hW9.alike hK, hD9⟩, hS.F ht9⟩) hS.2.2 d_Mo_figure_35
theorem d_Mo_rule_0 : decode b_Mo_rule 0 = .ok (.aload_n 0, 1) := by decide +kernel
theorem d_Mo_rule_1 : decode b_Mo_rule 1 = .ok (.iload_n 1, 1) := by decide +kernel
theorem d_Mo_rule_2 : decode b_Mo_rule 2 = .ok (.ifCond .lt 17, 3) := by decide +kernel
theorem d_Mo_rule_5 : decode b_Mo_rule 5 = .ok (.iload_n 1, 1) := by decide +kernel
theorem d_Mo_rule_6 : decode b_Mo_rule 6 = .ok (.bipush 7, 2) := by decide +kernel
theorem d_Mo_rule_8 : decode b_Mo_rule 8 = .ok (.if_icmp .gt 11, 3) := by decide +kernel
theorem d_Mo_rule_11 : decode b_Mo_rule 11 = .ok (.iload 6, 2) := by decide +kernel
theorem d_Mo_rule_13 : decode b_Mo_rule 13 = .ok (.invokestatic 86, 3) := by decide +kernel
theorem d_Mo_rule_16 : decode b_Mo_rule 16 = .ok (.ifCond .ne 7, 3) := by decide +kernel
theorem d_Mo_rule_19 : decode b_Mo_rule 19 = .ok (.iconst 1, 1) := by decide +kernel
theorem d_Mo_rule_20 : decode b_Mo_rule 20 = .ok (.goto 17, 3) := by decide +kernel
theorem d_Mo_rule_23 : decode b_Mo_rule 23 = .ok (.aload_n 0, 1) := by decide +kernel
theorem d_Mo_rule_24 : decode b_Mo_rule 24 = .ok (.getfield 90, 3) := by decide +kernel
theorem d_Mo_rule_27 : decode b_Mo_rule 27 = .ok (.bipush 12, 2) := by decide +kernel
theorem d_Mo_rule_29 : decode b_Mo_rule 29 = .ok (.if_icmp .ne 7, 3) := by decide +kernel
theorem d_Mo_rule_32 : decode b_Mo_rule 32 = .ok (.iconst 2, 1) := by decide +kernel
theorem d_Mo_rule_33 : decode b_Mo_rule 33 = .ok (.goto 4, 3) := by decide +kernel
theorem d_Mo_rule_36 : decode b_Mo_rule 36 = .ok (.iconst 0, 1) := by decide +kernel
theorem d_Mo_rule_37 : decode b_Mo_rule 37 = .ok (.putfield 50, 3) := by decide +kernel
theorem d_Mo_rule_40 : decode b_Mo_rule 40 = .ok (.aload_n 0, 1) := by decide +kernel
theorem d_Mo_rule_41 : decode b_Mo_rule 41 = .ok (.getfield 50, 3) := by decide +kernel
theorem d_Mo_rule_44 : decode b_Mo_rule 44 = .ok (.ifCond .le 5, 3) := by decide +kernel
theorem d_Mo_rule_47 : decode b_Mo_rule 47 = .ok (.iconst 0, 1) := by decide +kernel
theorem d_Mo_rule_48 : decode b_Mo_rule 48 = .ok (.ireturn, 1) := by decide +kernel
theorem d_Mo_rule_49 : decode b_Mo_rule 49 = .ok (.aload_n 0, 1) := by decide +kernel
theorem d_Mo_rule_50 : decode b_Mo_rule 50 = .ok (.getfield 22, 3) := by decide +kernel
theorem d_Mo_rule_53 : decode b_Mo_rule 53 = .ok (.aload_n 0, 1) := by decide +kernel
theorem d_Mo_rule_54 : decode b_Mo_rule 54 = .ok (.getfield 90, 3) := by decide +kernel
theorem d_Mo_rule_57 : decode b_Mo_rule 57 = .ok (.iload_n 1, 1) := by decide +kernel
theorem d_Mo_rule_58 : decode b_Mo_rule 58 = .ok (.iastore, 1) := by decide +kernel
theorem d_Mo_rule_59 : decode b_Mo_rule 59 = .ok (.aload_n 0, 1) := by decide +kernel
theorem d_Mo_rule_60 : decode b_Mo_rule 60 = .ok (.getfield 25, 3) := by decide +kernel
theorem d_Mo_rule_63 : decode b_Mo_rule 63 = .ok (.aload_n 0, 1) := by decide +kernel
theorem d_Mo_rule_64 : decode b_Mo_rule 64 = .ok (.getfield 90, 3) := by decide +kernel
theorem d_Mo_rule_67 : decode b_Mo_rule 67 = .ok (.lload_n 2, 1) := by decide +kernel
theorem d_Mo_rule_68 : decode b_Mo_rule 68 = .ok (.lastore, 1) := by decide +kernel
theorem d_Mo_rule_69 : decode b_Mo_rule 69 = .ok (.aload_n 0, 1) := by decide +kernel
theorem d_Mo_rule_70 : decode b_Mo_rule 70 = .ok (.getfield 29, 3) := by decide +kernel
theorem d_Mo_rule_73 : decode b_Mo_rule 73 = .ok (.aload_n 0, 1) := by decide +kernel
theorem d_Mo_rule_74 : decode b_Mo_rule 74 = .ok (.getfield 90, 3) := by decide +kernel
theorem d_Mo_rule_77 : decode b_Mo_rule 77 = .ok (.lload 4, 2) := by decide +kernel
theorem d_Mo_rule_79 : decode b_Mo_rule 79 = .ok (.lastore, 1) := by decide +kernel
theorem d_Mo_rule_80 : decode b_Mo_rule 80 = .ok (.aload_n 0, 1) := by decide +kernel
theorem d_Mo_rule_81 : decode b_Mo_rule 81 = .ok (.getfield 32, 3) := by decide +kernel
theorem d_Mo_rule_84 : decode b_Mo_rule 84 = .ok (.aload_n 0, 1) := by decide +kernel
theorem d_Mo_rule_85 : decode b_Mo_rule 85 = .ok (.getfield 90, 3) := by decide +kernel
theorem d_Mo_rule_88 : decode b_Mo_rule 88 = .ok (.iload 6, 2) := by decide +kernel
theorem d_Mo_rule_90 : decode b_Mo_rule 90 = .ok (.iastore, 1) := by decide +kernel
theorem d_Mo_rule_91 : decode b_Mo_rule 91 = .ok (.aload_n 0, 1) := by decide +kernel
theorem d_Mo_rule_92 : decode b_Mo_rule 92 = .ok (.dup, 1) := by decide +kernel
theorem d_Mo_rule_93 : decode b_Mo_rule 93 = .ok (.getfield 90, 3) := by decide +kernel
theorem d_Mo_rule_96 : decode b_Mo_rule 96 = .ok (.iconst 1, 1) := by decide +kernel
theorem d_Mo_rule_97 : decode b_Mo_rule 97 = .ok (.iadd, 1) := by decide +kernel
theorem d_Mo_rule_98 : decode b_Mo_rule 98 = .ok (.putfield 90, 3) := by decide +kernel
theorem d_Mo_rule_101 : decode b_Mo_rule 101 = .ok (.aload_n 0, 1) := by decide +kernel
theorem d_Mo_rule_102 : decode b_Mo_rule 102 = .ok (.getfield 90, 3) := by decide +kernel
theorem d_Mo_rule_105 : decode b_Mo_rule 105 = .ok (.iconst 1, 1) := by decide +kernel
theorem d_Mo_rule_106 : decode b_Mo_rule 106 = .ok (.isub, 1) := by decide +kernel
theorem d_Mo_rule_107 : decode b_Mo_rule 107 = .ok (.ireturn, 1) := by decide +kernel
abbrev ws_Mo_rule : List Cond := .code y_Mo_rule b_Mo_rule 7 (some .int) :: ALLG
abbrev rm_Mo_rule : Room := { frames := 1, cells := 0, slots := 0, locals := 20 }
set_option maxHeartbeats 4000000 in
set_option maxRecDepth 100000 in
theorem c_Mo_rule (l : Launch) (DD : va_G) (sz : Nat) (am : Nat) (th : Nat) (n : Nat) (hk : Nat) (ht : Nat) (n1 : Nat) (hk1 : Nat) (ht1 : Nat) (pb : Bool) (rn : Nat) (hfg : Nat) (cfg : ClassId) (fg : Nat → Nat) (hle : Nat) (cle : ClassId) (le : Nat → Int64) (hmo : Nat) (cmo : ClassId) (mo : Nat → Int64) (hwy : Nat) (cwy : ClassId) (wy : Nat → Nat) (tn : Nat) (htf : Nat) (cm : Int64) (hod : Nat) (hwk : Nat) (hot : Nat) (ru : Nat) (hen : Nat) (x : Nat) (y : Int64) (z : Int64) (w : Nat) (hrn : rn < 12) (hx8 : x < 8) (hw5 : w < 5) : Met l y_Mo_rule ws_Mo_rule rm_Mo_rule (va_Pc [.ref am, .int (nI x), .long y, .long z, .int (nI w)] (fun U => U.heap.size = sz ∧ va_P DD vwCl [(am, .inr (9, [.int (nI th), .int (nI n), .ref hk, .ref ht, .int (nI n1), .ref hk1, .ref ht1, .int (zb pb), .int (nI rn), .ref hfg, .ref hle, .ref hmo, .ref hwy, .int (nI tn), .ref htf, .long cm, .ref hod, .ref hwk, .ref hot, .int (nI ru), .ref hen])), (hfg, .inl (cfg, 12, .inl (nF fg))), (hle, .inl (cle, 12, .inr (.inl le))), (hmo, .inl (cmo, 12, .inr (.inl mo))), (hwy, .inl (cwy, 12, .inl (nF wy)))] U.heap ∧ va_K DD vwCl [(cfg, .int), (cle, .long), (cmo, .long), (cwy, .int)] U ∧ va_D (fun _ => True) [(am, .inr (9, [.int (nI th), .int (nI n), .ref hk, .ref ht, .int (nI n1), .ref hk1, .ref ht1, .int (zb pb), .int (nI rn), .ref hfg, .ref hle, .ref hmo, .ref hwy, .int (nI tn), .ref htf, .long cm, .ref hod, .ref hwk, .ref hot, .int (nI ru), .ref hen])), (hfg, .inl (cfg, 12, .inl (nF fg))), (hle, .inl (cle, 12, .inr (.inl le))), (hmo, .inl (cmo, 12, .inr (.inl mo))), (hwy, .inl (cwy, 12, .inl (nF wy)))])) (va_Qi (fun (r9 : Int32) (u9 : Unit) => match u9 with | _ => r9 = nI rn) (fun (u9 : Unit) (t9 : State) => match u9 with | _ => va_P DD vwCl [(am, .inr (9, [.int (nI 0), .int (nI n), .ref hk, .ref ht, .int (nI n1), .ref hk1, .ref ht1, .int (zb pb), .int (nI (rn + 1)), .ref hfg, .ref hle, .ref hmo, .ref hwy, .int (nI tn), .ref htf, .long cm, .ref hod, .ref hwk, .ref hot, .int (nI ru), .ref hen])), (hfg, .inl (cfg, 12, .inl (nF (va_up fg rn x)))), (hle, .inl (cle, 12, .inr (.inl (vp_updL le rn y)))), (hmo, .inl (cmo, 12, .inr (.inl (vp_updL mo rn z)))), (hwy, .inl (cwy, 12, .inl (nF (va_up wy rn w))))] t9.heap ∧ va_K DD vwCl [(cfg, .int), (cle, .long), (cmo, .long), (cwy, .int)] t9 ∧ va_D (va_A [(am, .inr (9, [.int (nI th), .int (nI n), .ref hk, .ref ht, .int (nI n1), .ref hk1, .ref ht1, .int (zb pb), .int (nI rn), .ref hfg, .ref hle, .ref hmo, .ref hwy, .int (nI tn), .ref htf, .long cm, .ref hod, .ref hwk, .ref hot, .int (nI ru), .ref hen])), (hfg, .inl (cfg, 12, .inl (nF fg))), (hle, .inl (cle, 12, .inr (.inl le))), (hmo, .inl (cmo, 12, .inr (.inl mo))), (hwy, .inl (cwy, 12, .inl (nF wy)))] sz) [(am, .inr (9, [.int (nI 0), .int (nI n), .ref hk, .ref ht, .int (nI n1), .ref hk1, .ref ht1, .int (zb pb), .int (nI (rn + 1)), .ref hfg, .ref hle, .ref hmo, .ref hwy, .int (nI tn), .ref htf, .long cm, .ref hod, .ref hwk, .ref hot, .int (nI ru), .ref hen])), (hfg, .inl (cfg, 12, .inl (nF (va_up fg rn x)))), (hle, .inl (cle, 12, .inr (.inl (vp_updL le rn y)))), (hmo, .inl (cmo, 12, .inr (.inl (vp_updL mo rn z)))), (hwy, .inl (cwy, 12, .inl (nF (va_up wy rn w))))]) (va_A [(am, .inr (9, [.int (nI th), .int (nI n), .ref hk, .ref ht, .int (nI n1), .ref hk1, .ref ht1, .int (zb pb), .int (nI rn), .ref hfg, .ref hle, .ref hmo, .ref hwy, .int (nI tn), .ref htf, .long cm, .ref hod, .ref hwk, .ref hot, .int (nI ru), .ref hen])), (hfg, .inl (cfg, 12, .inl (nF fg))), (hle, .inl (cle, 12, .inr (.inl le))), (hmo, .inl (cmo, 12, .inr (.inl mo))), (hwy, .inl (cwy, 12, .inl (nF wy)))] sz)) 0 0 (va_A [(am, .inr (9, [.int (nI th), .int (nI n), .ref hk, .ref ht, .int (nI n1), .ref hk1, .ref ht1, .int (zb pb), .int (nI rn), .ref hfg, .ref hle, .ref hmo, .ref hwy, .int (nI tn), .ref htf, .long cm, .ref hod, .ref hwk, .ref hot, .int (nI ru), .ref hen])), (hfg, .inl (cfg, 12, .inl (nF fg))), (hle, .inl (cle, 12, .inr (.inl le))), (hmo, .inl (cmo, 12, .inr (.inl mo))), (hwy, .inl (cwy, 12, .inl (nF wy)))] sz) := by
  refine Met.ofW (cc := b_Mo_rule) (maxL := 7) (ret := (some .int)) (by decide) rfl ?_
  intro p e s m args below meth c s₁ B hml hv
  obtain ⟨ha, hsz, hP, hK, hD0⟩ := hv
  have hx := B.exec
  have hb := B.bytes
  have hr := B.returns
  have hts := atoms_spec (ws := ws_Mo_rule) B.pre
  have hg : ∀ w ∈ ALLG, w.before args s = true := fun w h => hts w (List.mem_cons_of_mem _ h)
  have hown : s.vm.findClass R_Mo = some m.cls := findClass_of_methodNamed B.named
  have hlocks := B.notSynchronized
  subst hsz
  have hD := hD0.self (sz := s.heap.size)
  generalize hAe : va_A [(am, .inr (9, [.int (nI th), .int (nI n), .ref hk, .ref ht, .int (nI n1), .ref hk1, .ref ht1, .int (zb pb), .int (nI rn), .ref hfg, .ref hle, .ref hmo, .ref hwy, .int (nI tn), .ref htf, .long cm, .ref hod, .ref hwk, .ref hot, .int (nI ru), .ref hen])), (hfg, .inl (cfg, 12, .inl (nF fg))), (hle, .inl (cle, 12, .inr (.inl le))), (hmo, .inl (cmo, 12, .inr (.inl mo))), (hwy, .inl (cwy, 12, .inl (nF wy)))] s.heap.size = A at hD ⊢
  have hA : ∀ q : Nat, s.heap.size ≤ q → A q := fun q h => by rw [← hAe]; exact Or.inr h
  have hS : va_S A s.heap s.heap [] := va_S.rf
  have hP : va_P DD vwCl [(am, .inr (9, [.int (nI th), .int (nI n), .ref hk, .ref ht, .int (nI n1), .ref hk1, .ref ht1, .int (zb pb), .int (nI rn), .ref hfg, .ref hle, .ref hmo, .ref hwy, .int (nI tn), .ref htf, .long cm, .ref hod, .ref hwk, .ref hot, .int (nI ru), .ref hen])), (hfg, .inl (cfg, 12, .inl (nF fg))), (hle, .inl (cle, 12, .inr (.inl le))), (hmo, .inl (cmo, 12, .inr (.inl mo))), (hwy, .inl (cwy, 12, .inl (nF wy)))] s.heap := hP
  have hl := lv_entry ([.ref am, .int (nI x), .long y, .long z, .int (nI w)]) (n := 7) (Nat.le_of_ble_eq_true rfl)
  rw [ha, lg_entry_eq, ← ha]
  generalize (lg_sl ([.ref am, .int (nI x), .long y, .long z, .int (nI w)]) ++ List.replicate (7 - (lg_sl ([.ref am, .int (nI x), .long y, .long z, .int (nI w)])).length) Slot.unset).toArray = ls at hl ⊢
  have hl : lv_has ls 7 [(0, .ref am), (1, .int (nI x)), (2, .long y), (4, .long z), (6, .int (nI w))] := hl
  refine lv_aload_n hx hb d_Mo_rule_0 rfl (lv_at hl 0 rfl) ?_
  refine lv_iload_n hx hb d_Mo_rule_1 rfl (lv_at hl 1 rfl) ?_
  refine z_if_lt (tgt := 19) hx hb d_Mo_rule_2 (by decide) (by omega) (fun c_2 => ?_) (fun c_2 => ?_)
  · exact c_2.elim
  · refine lv_iload_n hx hb d_Mo_rule_5 rfl (lv_at hl 1 rfl) ?_
    refine lv_bipush (v := nI 7) hx hb d_Mo_rule_6 (by decide) ?_
    refine z_icmp_gt (tgt := 19) hx hb d_Mo_rule_8 (by decide) (by omega) (by omega) (fun c_8 => ?_) (fun c_8 => ?_)
    · exact absurd c_8 (by omega)
    · refine lv_iload hx hb d_Mo_rule_11 (lv_at hl 4 rfl) ?_
      have hPc := hP.sub (ws' := []) [] rfl
      have hKc := hK.sub (tys' := []) [] rfl
      refine vp_callSi (W.runS (As := [.int (nI w)]) (rest := [.ref am]) ⟨hx, hb, hml, hown, hg⟩ (c_Mo_isWay l DD (nI w)) (cwS 1 hg (gi_S mw_799 mw_800 mw_11 mw_801) rfl rfl rfl (by decide +kernel) ⟨Nat.le_of_ble_eq_true rfl, Nat.le_of_ble_eq_true rfl⟩) ⟨z_blind, z_pre hPc hKc⟩ rfl rfl hl.1 rfl (lv_room (Nat.le_of_ble_eq_true rfl)) d_Mo_rule_13 ⟨Nat.zero_le _, Nat.zero_le _⟩) (fun r_13 hr_13 => ?_)
      subst hr_13
      refine z_ifb_ne (tgt := 23) hx hb d_Mo_rule_16 (by decide) (fun c_16 => ?_) (fun c_16 => ?_)
      · refine lv_aload_n hx hb d_Mo_rule_23 rfl (lv_at hl 0 rfl) ?_
        refine va_get (D := DD) (ci := 9) (v := .int (nI rn)) (C := R_Mo) (T := T_Mo) (N := 21) hx hb hg in_Mo hown hK hP 0 rfl rfl 8 (by decide) (hg _ mw_687) (fun _ h9 => h9) rfl d_Mo_rule_24 ?_
        refine lv_bipush (v := nI 12) hx hb d_Mo_rule_27 (by decide) ?_
        refine z_icmp_ne (tgt := 36) hx hb d_Mo_rule_29 (by decide) (by omega) (by omega) (fun c_29 => ?_) (fun c_29 => ?_)
        · refine lv_iconst (v := nI 0) hx hb d_Mo_rule_36 (by decide) ?_
          refine va_put (D := DD) (ci := 9) (v := .int (nI 0)) (ty := .int) (C := R_Mo) (T := T_Mo) (N := 21) hx hb hg in_Mo t_Mo to_Mo n_Mo hown hK hP hD hS 0 rfl rfl 0 (by decide) (hg _ mw_679) (fun _ h9 => h9) rfl (by decide +kernel) rfl rfl (Nat.le_of_ble_eq_true rfl) d_Mo_rule_37 (fun H locs hP hD hS => ?_)
          have hP : va_P DD vwCl [(am, .inr (9, [.int (nI 0), .int (nI n), .ref hk, .ref ht, .int (nI n1), .ref hk1, .ref ht1, .int (zb pb), .int (nI rn), .ref hfg, .ref hle, .ref hmo, .ref hwy, .int (nI tn), .ref htf, .long cm, .ref hod, .ref hwk, .ref hot, .int (nI ru), .ref hen])), (hfg, .inl (cfg, 12, .inl (nF fg))), (hle, .inl (cle, 12, .inr (.inl le))), (hmo, .inl (cmo, 12, .inr (.inl mo))), (hwy, .inl (cwy, 12, .inl (nF wy)))] H := hP
          have hD : va_D A [(am, .inr (9, [.int (nI 0), .int (nI n), .ref hk, .ref ht, .int (nI n1), .ref hk1, .ref ht1, .int (zb pb), .int (nI rn), .ref hfg, .ref hle, .ref hmo, .ref hwy, .int (nI tn), .ref htf, .long cm, .ref hod, .ref hwk, .ref hot, .int (nI ru), .ref hen])), (hfg, .inl (cfg, 12, .inl (nF fg))), (hle, .inl (cle, 12, .inr (.inl le))), (hmo, .inl (cmo, 12, .inr (.inl mo))), (hwy, .inl (cwy, 12, .inl (nF wy)))] := hD
          refine lv_aload_n hx hb d_Mo_rule_40 rfl (lv_at hl 0 rfl) ?_
          refine va_get (D := DD) (ci := 9) (v := .int (nI 0)) (C := R_Mo) (T := T_Mo) (N := 21) hx hb hg in_Mo hown hK hP 0 rfl rfl 0 (by decide) (hg _ mw_679) (fun _ h9 => h9) rfl d_Mo_rule_41 ?_
          refine z_if_le (tgt := 49) hx hb d_Mo_rule_44 (by decide) (by omega) (fun c_44 => ?_) (fun c_44 => ?_)
          · refine lv_aload_n hx hb d_Mo_rule_49 rfl (lv_at hl 0 rfl) ?_
            refine va_get (D := DD) (ci := 9) (v := .ref hfg) (C := R_Mo) (T := T_Mo) (N := 21) hx hb hg in_Mo hown hK hP 0 rfl rfl 9 (by decide) (hg _ mw_688) (fun _ h9 => h9) rfl d_Mo_rule_50 ?_
            refine lv_aload_n hx hb d_Mo_rule_53 rfl (lv_at hl 0 rfl) ?_
            refine va_get (D := DD) (ci := 9) (v := .int (nI rn)) (C := R_Mo) (T := T_Mo) (N := 21) hx hb hg in_Mo hown hK hP 0 rfl rfl 8 (by decide) (hg _ mw_687) (fun _ h9 => h9) rfl d_Mo_rule_54 ?_
            refine lv_iload_n hx hb d_Mo_rule_57 rfl (lv_at hl 1 rfl) ?_
            refine z_iastN hx hb hK hP hD hS 1 0 rfl rfl (by omega) (by decide) d_Mo_rule_58 (fun H locs hP hD hS => ?_)
            have hP : va_P DD vwCl [(am, .inr (9, [.int (nI 0), .int (nI n), .ref hk, .ref ht, .int (nI n1), .ref hk1, .ref ht1, .int (zb pb), .int (nI rn), .ref hfg, .ref hle, .ref hmo, .ref hwy, .int (nI tn), .ref htf, .long cm, .ref hod, .ref hwk, .ref hot, .int (nI ru), .ref hen])), (hfg, .inl (cfg, 12, .inl (nF (va_up fg rn x)))), (hle, .inl (cle, 12, .inr (.inl le))), (hmo, .inl (cmo, 12, .inr (.inl mo))), (hwy, .inl (cwy, 12, .inl (nF wy)))] H := hP
            have hD : va_D A [(am, .inr (9, [.int (nI 0), .int (nI n), .ref hk, .ref ht, .int (nI n1), .ref hk1, .ref ht1, .int (zb pb), .int (nI rn), .ref hfg, .ref hle, .ref hmo, .ref hwy, .int (nI tn), .ref htf, .long cm, .ref hod, .ref hwk, .ref hot, .int (nI ru), .ref hen])), (hfg, .inl (cfg, 12, .inl (nF (va_up fg rn x)))), (hle, .inl (cle, 12, .inr (.inl le))), (hmo, .inl (cmo, 12, .inr (.inl mo))), (hwy, .inl (cwy, 12, .inl (nF wy)))] := hD
            refine lv_aload_n hx hb d_Mo_rule_59 rfl (lv_at hl 0 rfl) ?_
            refine va_get (D := DD) (ci := 9) (v := .ref hle) (C := R_Mo) (T := T_Mo) (N := 21) hx hb hg in_Mo hown hK hP 0 rfl rfl 10 (by decide) (hg _ mw_689) (fun _ h9 => h9) rfl d_Mo_rule_60 ?_
            refine lv_aload_n hx hb d_Mo_rule_63 rfl (lv_at hl 0 rfl) ?_
            refine va_get (D := DD) (ci := 9) (v := .int (nI rn)) (C := R_Mo) (T := T_Mo) (N := 21) hx hb hg in_Mo hown hK hP 0 rfl rfl 8 (by decide) (hg _ mw_687) (fun _ h9 => h9) rfl d_Mo_rule_64 ?_
            refine lv_lload_n hx hb d_Mo_rule_67 rfl (lv_at hl 2 rfl) ?_
            refine z_last hx hb hK hP hD hS 2 1 rfl rfl (by omega) (by decide) d_Mo_rule_68 (fun H locs hP hD hS => ?_)
            have hP : va_P DD vwCl [(am, .inr (9, [.int (nI 0), .int (nI n), .ref hk, .ref ht, .int (nI n1), .ref hk1, .ref ht1, .int (zb pb), .int (nI rn), .ref hfg, .ref hle, .ref hmo, .ref hwy, .int (nI tn), .ref htf, .long cm, .ref hod, .ref hwk, .ref hot, .int (nI ru), .ref hen])), (hfg, .inl (cfg, 12, .inl (nF (va_up fg rn x)))), (hle, .inl (cle, 12, .inr (.inl (vp_updL le rn y)))), (hmo, .inl (cmo, 12, .inr (.inl mo))), (hwy, .inl (cwy, 12, .inl (nF wy)))] H := hP
            have hD : va_D A [(am, .inr (9, [.int (nI 0), .int (nI n), .ref hk, .ref ht, .int (nI n1), .ref hk1, .ref ht1, .int (zb pb), .int (nI rn), .ref hfg, .ref hle, .ref hmo, .ref hwy, .int (nI tn), .ref htf, .long cm, .ref hod, .ref hwk, .ref hot, .int (nI ru), .ref hen])), (hfg, .inl (cfg, 12, .inl (nF (va_up fg rn x)))), (hle, .inl (cle, 12, .inr (.inl (vp_updL le rn y)))), (hmo, .inl (cmo, 12, .inr (.inl mo))), (hwy, .inl (cwy, 12, .inl (nF wy)))] := hD
            refine lv_aload_n hx hb d_Mo_rule_69 rfl (lv_at hl 0 rfl) ?_
            refine va_get (D := DD) (ci := 9) (v := .ref hmo) (C := R_Mo) (T := T_Mo) (N := 21) hx hb hg in_Mo hown hK hP 0 rfl rfl 11 (by decide) (hg _ mw_690) (fun _ h9 => h9) rfl d_Mo_rule_70 ?_
            refine lv_aload_n hx hb d_Mo_rule_73 rfl (lv_at hl 0 rfl) ?_
            refine va_get (D := DD) (ci := 9) (v := .int (nI rn)) (C := R_Mo) (T := T_Mo) (N := 21) hx hb hg in_Mo hown hK hP 0 rfl rfl 8 (by decide) (hg _ mw_687) (fun _ h9 => h9) rfl d_Mo_rule_74 ?_
            refine lv_lload hx hb d_Mo_rule_77 (lv_at hl 3 rfl) ?_
            refine z_last hx hb hK hP hD hS 3 2 rfl rfl (by omega) (by decide) d_Mo_rule_79 (fun H locs hP hD hS => ?_)
            have hP : va_P DD vwCl [(am, .inr (9, [.int (nI 0), .int (nI n), .ref hk, .ref ht, .int (nI n1), .ref hk1, .ref ht1, .int (zb pb), .int (nI rn), .ref hfg, .ref hle, .ref hmo, .ref hwy, .int (nI tn), .ref htf, .long cm, .ref hod, .ref hwk, .ref hot, .int (nI ru), .ref hen])), (hfg, .inl (cfg, 12, .inl (nF (va_up fg rn x)))), (hle, .inl (cle, 12, .inr (.inl (vp_updL le rn y)))), (hmo, .inl (cmo, 12, .inr (.inl (vp_updL mo rn z)))), (hwy, .inl (cwy, 12, .inl (nF wy)))] H := hP
            have hD : va_D A [(am, .inr (9, [.int (nI 0), .int (nI n), .ref hk, .ref ht, .int (nI n1), .ref hk1, .ref ht1, .int (zb pb), .int (nI rn), .ref hfg, .ref hle, .ref hmo, .ref hwy, .int (nI tn), .ref htf, .long cm, .ref hod, .ref hwk, .ref hot, .int (nI ru), .ref hen])), (hfg, .inl (cfg, 12, .inl (nF (va_up fg rn x)))), (hle, .inl (cle, 12, .inr (.inl (vp_updL le rn y)))), (hmo, .inl (cmo, 12, .inr (.inl (vp_updL mo rn z)))), (hwy, .inl (cwy, 12, .inl (nF wy)))] := hD
            refine lv_aload_n hx hb d_Mo_rule_80 rfl (lv_at hl 0 rfl) ?_
            refine va_get (D := DD) (ci := 9) (v := .ref hwy) (C := R_Mo) (T := T_Mo) (N := 21) hx hb hg in_Mo hown hK hP 0 rfl rfl 12 (by decide) (hg _ mw_691) (fun _ h9 => h9) rfl d_Mo_rule_81 ?_
            refine lv_aload_n hx hb d_Mo_rule_84 rfl (lv_at hl 0 rfl) ?_
            refine va_get (D := DD) (ci := 9) (v := .int (nI rn)) (C := R_Mo) (T := T_Mo) (N := 21) hx hb hg in_Mo hown hK hP 0 rfl rfl 8 (by decide) (hg _ mw_687) (fun _ h9 => h9) rfl d_Mo_rule_85 ?_
            refine lv_iload hx hb d_Mo_rule_88 (lv_at hl 4 rfl) ?_
            refine z_iastN hx hb hK hP hD hS 4 3 rfl rfl (by omega) (by decide) d_Mo_rule_90 (fun H locs hP hD hS => ?_)
            have hP : va_P DD vwCl [(am, .inr (9, [.int (nI 0), .int (nI n), .ref hk, .ref ht, .int (nI n1), .ref hk1, .ref ht1, .int (zb pb), .int (nI rn), .ref hfg, .ref hle, .ref hmo, .ref hwy, .int (nI tn), .ref htf, .long cm, .ref hod, .ref hwk, .ref hot, .int (nI ru), .ref hen])), (hfg, .inl (cfg, 12, .inl (nF (va_up fg rn x)))), (hle, .inl (cle, 12, .inr (.inl (vp_updL le rn y)))), (hmo, .inl (cmo, 12, .inr (.inl (vp_updL mo rn z)))), (hwy, .inl (cwy, 12, .inl (nF (va_up wy rn w))))] H := hP
            have hD : va_D A [(am, .inr (9, [.int (nI 0), .int (nI n), .ref hk, .ref ht, .int (nI n1), .ref hk1, .ref ht1, .int (zb pb), .int (nI rn), .ref hfg, .ref hle, .ref hmo, .ref hwy, .int (nI tn), .ref htf, .long cm, .ref hod, .ref hwk, .ref hot, .int (nI ru), .ref hen])), (hfg, .inl (cfg, 12, .inl (nF (va_up fg rn x)))), (hle, .inl (cle, 12, .inr (.inl (vp_updL le rn y)))), (hmo, .inl (cmo, 12, .inr (.inl (vp_updL mo rn z)))), (hwy, .inl (cwy, 12, .inl (nF (va_up wy rn w))))] := hD
            refine lv_aload_n hx hb d_Mo_rule_91 rfl (lv_at hl 0 rfl) ?_
            refine lv_dup hx hb d_Mo_rule_92 rfl ?_
            refine va_get (D := DD) (ci := 9) (v := .int (nI rn)) (C := R_Mo) (T := T_Mo) (N := 21) hx hb hg in_Mo hown hK hP 0 rfl rfl 8 (by decide) (hg _ mw_687) (fun _ h9 => h9) rfl d_Mo_rule_93 ?_
            refine lv_iconst (v := nI 1) hx hb d_Mo_rule_96 (by decide) ?_
            refine z_iadd hx hb d_Mo_rule_97 ?_
            refine va_put (D := DD) (ci := 9) (v := .int (nI (rn + 1))) (ty := .int) (C := R_Mo) (T := T_Mo) (N := 21) hx hb hg in_Mo t_Mo to_Mo n_Mo hown hK hP hD hS 0 rfl rfl 8 (by decide) (hg _ mw_687) (fun _ h9 => h9) rfl (by decide +kernel) rfl rfl (Nat.le_of_ble_eq_true rfl) d_Mo_rule_98 (fun H locs hP hD hS => ?_)
            have hP : va_P DD vwCl [(am, .inr (9, [.int (nI 0), .int (nI n), .ref hk, .ref ht, .int (nI n1), .ref hk1, .ref ht1, .int (zb pb), .int (nI (rn + 1)), .ref hfg, .ref hle, .ref hmo, .ref hwy, .int (nI tn), .ref htf, .long cm, .ref hod, .ref hwk, .ref hot, .int (nI ru), .ref hen])), (hfg, .inl (cfg, 12, .inl (nF (va_up fg rn x)))), (hle, .inl (cle, 12, .inr (.inl (vp_updL le rn y)))), (hmo, .inl (cmo, 12, .inr (.inl (vp_updL mo rn z)))), (hwy, .inl (cwy, 12, .inl (nF (va_up wy rn w))))] H := hP
            have hD : va_D A [(am, .inr (9, [.int (nI 0), .int (nI n), .ref hk, .ref ht, .int (nI n1), .ref hk1, .ref ht1, .int (zb pb), .int (nI (rn + 1)), .ref hfg, .ref hle, .ref hmo, .ref hwy, .int (nI tn), .ref htf, .long cm, .ref hod, .ref hwk, .ref hot, .int (nI ru), .ref hen])), (hfg, .inl (cfg, 12, .inl (nF (va_up fg rn x)))), (hle, .inl (cle, 12, .inr (.inl (vp_updL le rn y)))), (hmo, .inl (cmo, 12, .inr (.inl (vp_updL mo rn z)))), (hwy, .inl (cwy, 12, .inl (nF (va_up wy rn w))))] := hD
            refine lv_aload_n hx hb d_Mo_rule_101 rfl (lv_at hl 0 rfl) ?_
            refine va_get (D := DD) (ci := 9) (v := .int (nI (rn + 1))) (C := R_Mo) (T := T_Mo) (N := 21) hx hb hg in_Mo hown hK hP 0 rfl rfl 8 (by decide) (hg _ mw_687) (fun _ h9 => h9) rfl d_Mo_rule_102 ?_
            refine lv_iconst (v := nI 1) hx hb d_Mo_rule_105 (by decide) ?_
            refine z_isub hx hb d_Mo_rule_106 (by omega) ?_
            have hP9 := hP.sub (ws' := [(am, .inr (9, [.int (nI 0), .int (nI n), .ref hk, .ref ht, .int (nI n1), .ref hk1, .ref ht1, .int (zb pb), .int (nI (rn + 1)), .ref hfg, .ref hle, .ref hmo, .ref hwy, .int (nI tn), .ref htf, .long cm, .ref hod, .ref hwk, .ref hot, .int (nI ru), .ref hen])), (hfg, .inl (cfg, 12, .inl (nF (va_up fg rn x)))), (hle, .inl (cle, 12, .inr (.inl (vp_updL le rn y)))), (hmo, .inl (cmo, 12, .inr (.inl (vp_updL mo rn z)))), (hwy, .inl (cwy, 12, .inl (nF (va_up wy rn w))))]) [0, 1, 2, 3, 4] rfl
            have hD9 := hD.sub (ws' := [(am, .inr (9, [.int (nI 0), .int (nI n), .ref hk, .ref ht, .int (nI n1), .ref hk1, .ref ht1, .int (zb pb), .int (nI (rn + 1)), .ref hfg, .ref hle, .ref hmo, .ref hwy, .int (nI tn), .ref htf, .long cm, .ref hod, .ref hwk, .ref hot, .int (nI ru), .ref hen])), (hfg, .inl (cfg, 12, .inl (nF (va_up fg rn x)))), (hle, .inl (cle, 12, .inr (.inl (vp_updL le rn y)))), (hmo, .inl (cmo, 12, .inr (.inl (vp_updL mo rn z)))), (hwy, .inl (cwy, 12, .inl (nF (va_up wy rn w))))]) [0, 1, 2, 3, 4] (by decide) rfl
            exact W.iret (v := nI ((rn + 1) - 1)) hx hb hr (fun t9 ht9 hW9 => ⟨⟨_, (), rfl, rfl, by rw [ht9]; exact hP9, va_K.moved hW9.alike hK, hD9⟩, hS.F ht9⟩) hS.2.2 d_Mo_rule_107
          · exact absurd c_44 (by decide)
        · exact absurd c_29 (by omega)
      · exact absurd c_16 (by rw [hasB_nI (by omega) (by omega)]; decide)
abbrev rm_Mo_rule_T1 : Room := { frames := 1, cells := 0, slots := 0, locals := 20 }
set_option maxHeartbeats 4000000 in
set_option maxRecDepth 100000 in
theorem c_Mo_rule_T1 (l : Launch) (DD : va_G) (sz : Nat) (am : Nat) (th : Nat) (n : Nat) (hk : Nat) (ht : Nat) (n1 : Nat) (hk1 : Nat) (ht1 : Nat) (pb : Bool) (rn : Nat) (hfg : Nat) (hle : Nat) (hmo : Nat) (hwy : Nat) (tn : Nat) (htf : Nat) (cm : Int64) (hod : Nat) (hwk : Nat) (hot : Nat) (ru : Nat) (hen : Nat) (v : Int32) (y : Int64) (z : Int64) (w : Int32) (hf : (hasB v 8 && hasB w 5) = false) : Met l y_Mo_rule ws_Mo_rule rm_Mo_rule_T1 (va_Pc [.ref am, .int v, .long y, .long z, .int w] (fun U => U.heap.size = sz ∧ va_P DD vwCl [(am, .inr (9, [.int (nI th), .int (nI n), .ref hk, .ref ht, .int (nI n1), .ref hk1, .ref ht1, .int (zb pb), .int (nI rn), .ref hfg, .ref hle, .ref hmo, .ref hwy, .int (nI tn), .ref htf, .long cm, .ref hod, .ref hwk, .ref hot, .int (nI ru), .ref hen]))] U.heap ∧ va_K DD vwCl [] U ∧ va_D (fun _ => True) [(am, .inr (9, [.int (nI th), .int (nI n), .ref hk, .ref ht, .int (nI n1), .ref hk1, .ref ht1, .int (zb pb), .int (nI rn), .ref hfg, .ref hle, .ref hmo, .ref hwy, .int (nI tn), .ref htf, .long cm, .ref hod, .ref hwk, .ref hot, .int (nI ru), .ref hen]))])) (va_Qi (fun (r9 : Int32) (u9 : Unit) => match u9 with | _ => r9 = nI 0) (fun (u9 : Unit) (t9 : State) => match u9 with | _ => va_P DD vwCl [(am, .inr (9, [.int (nI 1), .int (nI n), .ref hk, .ref ht, .int (nI n1), .ref hk1, .ref ht1, .int (zb pb), .int (nI rn), .ref hfg, .ref hle, .ref hmo, .ref hwy, .int (nI tn), .ref htf, .long cm, .ref hod, .ref hwk, .ref hot, .int (nI ru), .ref hen]))] t9.heap ∧ va_K DD vwCl [] t9 ∧ va_D (va_A [(am, .inr (9, [.int (nI th), .int (nI n), .ref hk, .ref ht, .int (nI n1), .ref hk1, .ref ht1, .int (zb pb), .int (nI rn), .ref hfg, .ref hle, .ref hmo, .ref hwy, .int (nI tn), .ref htf, .long cm, .ref hod, .ref hwk, .ref hot, .int (nI ru), .ref hen]))] sz) [(am, .inr (9, [.int (nI 1), .int (nI n), .ref hk, .ref ht, .int (nI n1), .ref hk1, .ref ht1, .int (zb pb), .int (nI rn), .ref hfg, .ref hle, .ref hmo, .ref hwy, .int (nI tn), .ref htf, .long cm, .ref hod, .ref hwk, .ref hot, .int (nI ru), .ref hen]))]) (va_A [(am, .inr (9, [.int (nI th), .int (nI n), .ref hk, .ref ht, .int (nI n1), .ref hk1, .ref ht1, .int (zb pb), .int (nI rn), .ref hfg, .ref hle, .ref hmo, .ref hwy, .int (nI tn), .ref htf, .long cm, .ref hod, .ref hwk, .ref hot, .int (nI ru), .ref hen]))] sz)) 0 0 (va_A [(am, .inr (9, [.int (nI th), .int (nI n), .ref hk, .ref ht, .int (nI n1), .ref hk1, .ref ht1, .int (zb pb), .int (nI rn), .ref hfg, .ref hle, .ref hmo, .ref hwy, .int (nI tn), .ref htf, .long cm, .ref hod, .ref hwk, .ref hot, .int (nI ru), .ref hen]))] sz) := by
  refine Met.ofW (cc := b_Mo_rule) (maxL := 7) (ret := (some .int)) (by decide) rfl ?_
  intro p e s m args below meth c s₁ B hml hv
  obtain ⟨ha, hsz, hP, hK, hD0⟩ := hv
  have hx := B.exec
  have hb := B.bytes
  have hr := B.returns
  have hts := atoms_spec (ws := ws_Mo_rule) B.pre
  have hg : ∀ w ∈ ALLG, w.before args s = true := fun w h => hts w (List.mem_cons_of_mem _ h)
  have hown : s.vm.findClass R_Mo = some m.cls := findClass_of_methodNamed B.named
  have hlocks := B.notSynchronized
  subst hsz
  have hD := hD0.self (sz := s.heap.size)
  generalize hAe : va_A [(am, .inr (9, [.int (nI th), .int (nI n), .ref hk, .ref ht, .int (nI n1), .ref hk1, .ref ht1, .int (zb pb), .int (nI rn), .ref hfg, .ref hle, .ref hmo, .ref hwy, .int (nI tn), .ref htf, .long cm, .ref hod, .ref hwk, .ref hot, .int (nI ru), .ref hen]))] s.heap.size = A at hD ⊢
  have hA : ∀ q : Nat, s.heap.size ≤ q → A q := fun q h => by rw [← hAe]; exact Or.inr h
  have hS : va_S A s.heap s.heap [] := va_S.rf
  have hP : va_P DD vwCl [(am, .inr (9, [.int (nI th), .int (nI n), .ref hk, .ref ht, .int (nI n1), .ref hk1, .ref ht1, .int (zb pb), .int (nI rn), .ref hfg, .ref hle, .ref hmo, .ref hwy, .int (nI tn), .ref htf, .long cm, .ref hod, .ref hwk, .ref hot, .int (nI ru), .ref hen]))] s.heap := hP
  have hl := lv_entry ([.ref am, .int v, .long y, .long z, .int w]) (n := 7) (Nat.le_of_ble_eq_true rfl)
  rw [ha, lg_entry_eq, ← ha]
  generalize (lg_sl ([.ref am, .int v, .long y, .long z, .int w]) ++ List.replicate (7 - (lg_sl ([.ref am, .int v, .long y, .long z, .int w])).length) Slot.unset).toArray = ls at hl ⊢
  have hl : lv_has ls 7 [(0, .ref am), (1, .int v), (2, .long y), (4, .long z), (6, .int w)] := hl
  refine lv_aload_n hx hb d_Mo_rule_0 rfl (lv_at hl 0 rfl) ?_
  refine lv_iload_n hx hb d_Mo_rule_1 rfl (lv_at hl 1 rfl) ?_
  refine lv_if_lt (tgt := 19) hx hb d_Mo_rule_2 (by decide) (fun c_2 => ?_) (fun c_2 => ?_)
  · refine lv_iconst (v := nI 1) hx hb d_Mo_rule_19 (by decide) ?_
    refine lv_goto (tgt := 37) hx hb d_Mo_rule_20 (by decide) ?_
    refine va_put (D := DD) (ci := 9) (v := .int (nI 1)) (ty := .int) (C := R_Mo) (T := T_Mo) (N := 21) hx hb hg in_Mo t_Mo to_Mo n_Mo hown hK hP hD hS 0 rfl rfl 0 (by decide) (hg _ mw_679) (fun _ h9 => h9) rfl (by decide +kernel) rfl rfl (Nat.le_of_ble_eq_true rfl) d_Mo_rule_37 (fun H locs hP hD hS => ?_)
    have hP : va_P DD vwCl [(am, .inr (9, [.int (nI 1), .int (nI n), .ref hk, .ref ht, .int (nI n1), .ref hk1, .ref ht1, .int (zb pb), .int (nI rn), .ref hfg, .ref hle, .ref hmo, .ref hwy, .int (nI tn), .ref htf, .long cm, .ref hod, .ref hwk, .ref hot, .int (nI ru), .ref hen]))] H := hP
    have hD : va_D A [(am, .inr (9, [.int (nI 1), .int (nI n), .ref hk, .ref ht, .int (nI n1), .ref hk1, .ref ht1, .int (zb pb), .int (nI rn), .ref hfg, .ref hle, .ref hmo, .ref hwy, .int (nI tn), .ref htf, .long cm, .ref hod, .ref hwk, .ref hot, .int (nI ru), .ref hen]))] := hD
    refine lv_aload_n hx hb d_Mo_rule_40 rfl (lv_at hl 0 rfl) ?_
    refine va_get (D := DD) (ci := 9) (v := .int (nI 1)) (C := R_Mo) (T := T_Mo) (N := 21) hx hb hg in_Mo hown hK hP 0 rfl rfl 0 (by decide) (hg _ mw_679) (fun _ h9 => h9) rfl d_Mo_rule_41 ?_
    refine z_if_le (tgt := 49) hx hb d_Mo_rule_44 (by decide) (by omega) (fun c_44 => ?_) (fun c_44 => ?_)
    · exact absurd c_44 (by decide)
    · refine lv_iconst (v := nI 0) hx hb d_Mo_rule_47 (by decide) ?_
      have hP9 := hP.sub (ws' := [(am, .inr (9, [.int (nI 1), .int (nI n), .ref hk, .ref ht, .int (nI n1), .ref hk1, .ref ht1, .int (zb pb), .int (nI rn), .ref hfg, .ref hle, .ref hmo, .ref hwy, .int (nI tn), .ref htf, .long cm, .ref hod, .ref hwk, .ref hot, .int (nI ru), .ref hen]))]) [0] rfl
      have hD9 := hD.sub (ws' := [(am, .inr (9, [.int (nI 1), .int (nI n), .ref hk, .ref ht, .int (nI n1), .ref hk1, .ref ht1, .int (zb pb), .int (nI rn), .ref hfg, .ref hle, .ref hmo, .ref hwy, .int (nI tn), .ref htf, .long cm, .ref hod, .ref hwk, .ref hot, .int (nI ru), .ref hen]))]) [0] (by decide) rfl
      exact W.iret (v := nI 0) hx hb hr (fun t9 ht9 hW9 => ⟨⟨_, (), rfl, rfl, by rw [ht9]; exact hP9, va_K.moved hW9.alike hK, hD9⟩, hS.F ht9⟩) hS.2.2 d_Mo_rule_48
  · refine lv_iload_n hx hb d_Mo_rule_5 rfl (lv_at hl 1 rfl) ?_
    refine lv_bipush (v := nI 7) hx hb d_Mo_rule_6 (by decide) ?_
    refine lv_icmp_gt (tgt := 19) hx hb d_Mo_rule_8 (by decide) (fun c_8 => ?_) (fun c_8 => ?_)
    · refine lv_iconst (v := nI 1) hx hb d_Mo_rule_19 (by decide) ?_
      refine lv_goto (tgt := 37) hx hb d_Mo_rule_20 (by decide) ?_
      refine va_put (D := DD) (ci := 9) (v := .int (nI 1)) (ty := .int) (C := R_Mo) (T := T_Mo) (N := 21) hx hb hg in_Mo t_Mo to_Mo n_Mo hown hK hP hD hS 0 rfl rfl 0 (by decide) (hg _ mw_679) (fun _ h9 => h9) rfl (by decide +kernel) rfl rfl (Nat.le_of_ble_eq_true rfl) d_Mo_rule_37 (fun H locs hP hD hS => ?_)
      have hP : va_P DD vwCl [(am, .inr (9, [.int (nI 1), .int (nI n), .ref hk, .ref ht, .int (nI n1), .ref hk1, .ref ht1, .int (zb pb), .int (nI rn), .ref hfg, .ref hle, .ref hmo, .ref hwy, .int (nI tn), .ref htf, .long cm, .ref hod, .ref hwk, .ref hot, .int (nI ru), .ref hen]))] H := hP
      have hD : va_D A [(am, .inr (9, [.int (nI 1), .int (nI n), .ref hk, .ref ht, .int (nI n1), .ref hk1, .ref ht1, .int (zb pb), .int (nI rn), .ref hfg, .ref hle, .ref hmo, .ref hwy, .int (nI tn), .ref htf, .long cm, .ref hod, .ref hwk, .ref hot, .int (nI ru), .ref hen]))] := hD
      refine lv_aload_n hx hb d_Mo_rule_40 rfl (lv_at hl 0 rfl) ?_
      refine va_get (D := DD) (ci := 9) (v := .int (nI 1)) (C := R_Mo) (T := T_Mo) (N := 21) hx hb hg in_Mo hown hK hP 0 rfl rfl 0 (by decide) (hg _ mw_679) (fun _ h9 => h9) rfl d_Mo_rule_41 ?_
      refine z_if_le (tgt := 49) hx hb d_Mo_rule_44 (by decide) (by omega) (fun c_44 => ?_) (fun c_44 => ?_)
      · exact absurd c_44 (by decide)
      · refine lv_iconst (v := nI 0) hx hb d_Mo_rule_47 (by decide) ?_
        have hP9 := hP.sub (ws' := [(am, .inr (9, [.int (nI 1), .int (nI n), .ref hk, .ref ht, .int (nI n1), .ref hk1, .ref ht1, .int (zb pb), .int (nI rn), .ref hfg, .ref hle, .ref hmo, .ref hwy, .int (nI tn), .ref htf, .long cm, .ref hod, .ref hwk, .ref hot, .int (nI ru), .ref hen]))]) [0] rfl
        have hD9 := hD.sub (ws' := [(am, .inr (9, [.int (nI 1), .int (nI n), .ref hk, .ref ht, .int (nI n1), .ref hk1, .ref ht1, .int (zb pb), .int (nI rn), .ref hfg, .ref hle, .ref hmo, .ref hwy, .int (nI tn), .ref htf, .long cm, .ref hod, .ref hwk, .ref hot, .int (nI ru), .ref hen]))]) [0] (by decide) rfl
        exact W.iret (v := nI 0) hx hb hr (fun t9 ht9 hW9 => ⟨⟨_, (), rfl, rfl, by rw [ht9]; exact hP9, va_K.moved hW9.alike hK, hD9⟩, hS.F ht9⟩) hS.2.2 d_Mo_rule_48
    · refine lv_iload hx hb d_Mo_rule_11 (lv_at hl 4 rfl) ?_
      have hPc := hP.sub (ws' := []) [] rfl
      have hKc := hK.sub (tys' := []) [] rfl
      refine vp_callSi (W.runS (As := [.int w]) (rest := [.ref am]) ⟨hx, hb, hml, hown, hg⟩ (c_Mo_isWay l DD w) (cwS 1 hg (gi_S mw_799 mw_800 mw_11 mw_801) rfl rfl rfl (by decide +kernel) ⟨Nat.le_of_ble_eq_true rfl, Nat.le_of_ble_eq_true rfl⟩) ⟨z_blind, z_pre hPc hKc⟩ rfl rfl hl.1 rfl (lv_room (Nat.le_of_ble_eq_true rfl)) d_Mo_rule_13 ⟨Nat.zero_le _, Nat.zero_le _⟩) (fun r_13 hr_13 => ?_)
      subst hr_13
      refine z_ifb_ne (tgt := 23) hx hb d_Mo_rule_16 (by decide) (fun c_16 => ?_) (fun c_16 => ?_)
      · exact absurd hf (by rw [hasB_8 c_2 (Int32.not_lt.mp c_8), c_16]; decide)
      · refine lv_iconst (v := nI 1) hx hb d_Mo_rule_19 (by decide) ?_
        refine lv_goto (tgt := 37) hx hb d_Mo_rule_20 (by decide) ?_
        refine va_put (D := DD) (ci := 9) (v := .int (nI 1)) (ty := .int) (C := R_Mo) (T := T_Mo) (N := 21) hx hb hg in_Mo t_Mo to_Mo n_Mo hown hK hP hD hS 0 rfl rfl 0 (by decide) (hg _ mw_679) (fun _ h9 => h9) rfl (by decide +kernel) rfl rfl (Nat.le_of_ble_eq_true rfl) d_Mo_rule_37 (fun H locs hP hD hS => ?_)
        have hP : va_P DD vwCl [(am, .inr (9, [.int (nI 1), .int (nI n), .ref hk, .ref ht, .int (nI n1), .ref hk1, .ref ht1, .int (zb pb), .int (nI rn), .ref hfg, .ref hle, .ref hmo, .ref hwy, .int (nI tn), .ref htf, .long cm, .ref hod, .ref hwk, .ref hot, .int (nI ru), .ref hen]))] H := hP
        have hD : va_D A [(am, .inr (9, [.int (nI 1), .int (nI n), .ref hk, .ref ht, .int (nI n1), .ref hk1, .ref ht1, .int (zb pb), .int (nI rn), .ref hfg, .ref hle, .ref hmo, .ref hwy, .int (nI tn), .ref htf, .long cm, .ref hod, .ref hwk, .ref hot, .int (nI ru), .ref hen]))] := hD
        refine lv_aload_n hx hb d_Mo_rule_40 rfl (lv_at hl 0 rfl) ?_
        refine va_get (D := DD) (ci := 9) (v := .int (nI 1)) (C := R_Mo) (T := T_Mo) (N := 21) hx hb hg in_Mo hown hK hP 0 rfl rfl 0 (by decide) (hg _ mw_679) (fun _ h9 => h9) rfl d_Mo_rule_41 ?_
        refine z_if_le (tgt := 49) hx hb d_Mo_rule_44 (by decide) (by omega) (fun c_44 => ?_) (fun c_44 => ?_)
        · exact absurd c_44 (by decide)
        · refine lv_iconst (v := nI 0) hx hb d_Mo_rule_47 (by decide) ?_
          have hP9 := hP.sub (ws' := [(am, .inr (9, [.int (nI 1), .int (nI n), .ref hk, .ref ht, .int (nI n1), .ref hk1, .ref ht1, .int (zb pb), .int (nI rn), .ref hfg, .ref hle, .ref hmo, .ref hwy, .int (nI tn), .ref htf, .long cm, .ref hod, .ref hwk, .ref hot, .int (nI ru), .ref hen]))]) [0] rfl
          have hD9 := hD.sub (ws' := [(am, .inr (9, [.int (nI 1), .int (nI n), .ref hk, .ref ht, .int (nI n1), .ref hk1, .ref ht1, .int (zb pb), .int (nI rn), .ref hfg, .ref hle, .ref hmo, .ref hwy, .int (nI tn), .ref htf, .long cm, .ref hod, .ref hwk, .ref hot, .int (nI ru), .ref hen]))]) [0] (by decide) rfl
          exact W.iret (v := nI 0) hx hb hr (fun t9 ht9 hW9 => ⟨⟨_, (), rfl, rfl, by rw [ht9]; exact hP9, va_K.moved hW9.alike hK, hD9⟩, hS.F ht9⟩) hS.2.2 d_Mo_rule_48
abbrev rm_Mo_rule_T2 : Room := { frames := 1, cells := 0, slots := 0, locals := 20 }
set_option maxHeartbeats 4000000 in
set_option maxRecDepth 100000 in
theorem c_Mo_rule_T2 (l : Launch) (DD : va_G) (sz : Nat) (am : Nat) (th : Nat) (n : Nat) (hk : Nat) (ht : Nat) (n1 : Nat) (hk1 : Nat) (ht1 : Nat) (pb : Bool) (rn : Nat) (hfg : Nat) (hle : Nat) (hmo : Nat) (hwy : Nat) (tn : Nat) (htf : Nat) (cm : Int64) (hod : Nat) (hwk : Nat) (hot : Nat) (ru : Nat) (hen : Nat) (x : Nat) (y : Int64) (z : Int64) (w : Nat) (hrn : rn ≤ 12) (hf : 12 ≤ rn) (hx8 : x < 8) (hw5 : w < 5) : Met l y_Mo_rule ws_Mo_rule rm_Mo_rule_T2 (va_Pc [.ref am, .int (nI x), .long y, .long z, .int (nI w)] (fun U => U.heap.size = sz ∧ va_P DD vwCl [(am, .inr (9, [.int (nI th), .int (nI n), .ref hk, .ref ht, .int (nI n1), .ref hk1, .ref ht1, .int (zb pb), .int (nI rn), .ref hfg, .ref hle, .ref hmo, .ref hwy, .int (nI tn), .ref htf, .long cm, .ref hod, .ref hwk, .ref hot, .int (nI ru), .ref hen]))] U.heap ∧ va_K DD vwCl [] U ∧ va_D (fun _ => True) [(am, .inr (9, [.int (nI th), .int (nI n), .ref hk, .ref ht, .int (nI n1), .ref hk1, .ref ht1, .int (zb pb), .int (nI rn), .ref hfg, .ref hle, .ref hmo, .ref hwy, .int (nI tn), .ref htf, .long cm, .ref hod, .ref hwk, .ref hot, .int (nI ru), .ref hen]))])) (va_Qi (fun (r9 : Int32) (u9 : Unit) => match u9 with | _ => r9 = nI 0) (fun (u9 : Unit) (t9 : State) => match u9 with | _ => va_P DD vwCl [(am, .inr (9, [.int (nI 2), .int (nI n), .ref hk, .ref ht, .int (nI n1), .ref hk1, .ref ht1, .int (zb pb), .int (nI rn), .ref hfg, .ref hle, .ref hmo, .ref hwy, .int (nI tn), .ref htf, .long cm, .ref hod, .ref hwk, .ref hot, .int (nI ru), .ref hen]))] t9.heap ∧ va_K DD vwCl [] t9 ∧ va_D (va_A [(am, .inr (9, [.int (nI th), .int (nI n), .ref hk, .ref ht, .int (nI n1), .ref hk1, .ref ht1, .int (zb pb), .int (nI rn), .ref hfg, .ref hle, .ref hmo, .ref hwy, .int (nI tn), .ref htf, .long cm, .ref hod, .ref hwk, .ref hot, .int (nI ru), .ref hen]))] sz) [(am, .inr (9, [.int (nI 2), .int (nI n), .ref hk, .ref ht, .int (nI n1), .ref hk1, .ref ht1, .int (zb pb), .int (nI rn), .ref hfg, .ref hle, .ref hmo, .ref hwy, .int (nI tn), .ref htf, .long cm, .ref hod, .ref hwk, .ref hot, .int (nI ru), .ref hen]))]) (va_A [(am, .inr (9, [.int (nI th), .int (nI n), .ref hk, .ref ht, .int (nI n1), .ref hk1, .ref ht1, .int (zb pb), .int (nI rn), .ref hfg, .ref hle, .ref hmo, .ref hwy, .int (nI tn), .ref htf, .long cm, .ref hod, .ref hwk, .ref hot, .int (nI ru), .ref hen]))] sz)) 0 0 (va_A [(am, .inr (9, [.int (nI th), .int (nI n), .ref hk, .ref ht, .int (nI n1), .ref hk1, .ref ht1, .int (zb pb), .int (nI rn), .ref hfg, .ref hle, .ref hmo, .ref hwy, .int (nI tn), .ref htf, .long cm, .ref hod, .ref hwk, .ref hot, .int (nI ru), .ref hen]))] sz) := by
  refine Met.ofW (cc := b_Mo_rule) (maxL := 7) (ret := (some .int)) (by decide) rfl ?_
  intro p e s m args below meth c s₁ B hml hv
  obtain ⟨ha, hsz, hP, hK, hD0⟩ := hv
  have hx := B.exec
  have hb := B.bytes
  have hr := B.returns
  have hts := atoms_spec (ws := ws_Mo_rule) B.pre
  have hg : ∀ w ∈ ALLG, w.before args s = true := fun w h => hts w (List.mem_cons_of_mem _ h)
  have hown : s.vm.findClass R_Mo = some m.cls := findClass_of_methodNamed B.named
  have hlocks := B.notSynchronized
  subst hsz
  have hD := hD0.self (sz := s.heap.size)
  generalize hAe : va_A [(am, .inr (9, [.int (nI th), .int (nI n), .ref hk, .ref ht, .int (nI n1), .ref hk1, .ref ht1, .int (zb pb), .int (nI rn), .ref hfg, .ref hle, .ref hmo, .ref hwy, .int (nI tn), .ref htf, .long cm, .ref hod, .ref hwk, .ref hot, .int (nI ru), .ref hen]))] s.heap.size = A at hD ⊢
  have hA : ∀ q : Nat, s.heap.size ≤ q → A q := fun q h => by rw [← hAe]; exact Or.inr h
  have hS : va_S A s.heap s.heap [] := va_S.rf
  have hP : va_P DD vwCl [(am, .inr (9, [.int (nI th), .int (nI n), .ref hk, .ref ht, .int (nI n1), .ref hk1, .ref ht1, .int (zb pb), .int (nI rn), .ref hfg, .ref hle, .ref hmo, .ref hwy, .int (nI tn), .ref htf, .long cm, .ref hod, .ref hwk, .ref hot, .int (nI ru), .ref hen]))] s.heap := hP
  have hl := lv_entry ([.ref am, .int (nI x), .long y, .long z, .int (nI w)]) (n := 7) (Nat.le_of_ble_eq_true rfl)
  rw [ha, lg_entry_eq, ← ha]
  generalize (lg_sl ([.ref am, .int (nI x), .long y, .long z, .int (nI w)]) ++ List.replicate (7 - (lg_sl ([.ref am, .int (nI x), .long y, .long z, .int (nI w)])).length) Slot.unset).toArray = ls at hl ⊢
  have hl : lv_has ls 7 [(0, .ref am), (1, .int (nI x)), (2, .long y), (4, .long z), (6, .int (nI w))] := hl
  refine lv_aload_n hx hb d_Mo_rule_0 rfl (lv_at hl 0 rfl) ?_
  refine lv_iload_n hx hb d_Mo_rule_1 rfl (lv_at hl 1 rfl) ?_
  refine z_if_lt (tgt := 19) hx hb d_Mo_rule_2 (by decide) (by omega) (fun c_2 => ?_) (fun c_2 => ?_)
  · exact c_2.elim
  · refine lv_iload_n hx hb d_Mo_rule_5 rfl (lv_at hl 1 rfl) ?_
    refine lv_bipush (v := nI 7) hx hb d_Mo_rule_6 (by decide) ?_
    refine z_icmp_gt (tgt := 19) hx hb d_Mo_rule_8 (by decide) (by omega) (by omega) (fun c_8 => ?_) (fun c_8 => ?_)
    · exact absurd c_8 (by omega)
    · refine lv_iload hx hb d_Mo_rule_11 (lv_at hl 4 rfl) ?_
      have hPc := hP.sub (ws' := []) [] rfl
      have hKc := hK.sub (tys' := []) [] rfl
      refine vp_callSi (W.runS (As := [.int (nI w)]) (rest := [.ref am]) ⟨hx, hb, hml, hown, hg⟩ (c_Mo_isWay l DD (nI w)) (cwS 1 hg (gi_S mw_799 mw_800 mw_11 mw_801) rfl rfl rfl (by decide +kernel) ⟨Nat.le_of_ble_eq_true rfl, Nat.le_of_ble_eq_true rfl⟩) ⟨z_blind, z_pre hPc hKc⟩ rfl rfl hl.1 rfl (lv_room (Nat.le_of_ble_eq_true rfl)) d_Mo_rule_13 ⟨Nat.zero_le _, Nat.zero_le _⟩) (fun r_13 hr_13 => ?_)
      subst hr_13
      refine z_ifb_ne (tgt := 23) hx hb d_Mo_rule_16 (by decide) (fun c_16 => ?_) (fun c_16 => ?_)
      · refine lv_aload_n hx hb d_Mo_rule_23 rfl (lv_at hl 0 rfl) ?_
        refine va_get (D := DD) (ci := 9) (v := .int (nI rn)) (C := R_Mo) (T := T_Mo) (N := 21) hx hb hg in_Mo hown hK hP 0 rfl rfl 8 (by decide) (hg _ mw_687) (fun _ h9 => h9) rfl d_Mo_rule_24 ?_
        refine lv_bipush (v := nI 12) hx hb d_Mo_rule_27 (by decide) ?_
        refine z_icmp_ne (tgt := 36) hx hb d_Mo_rule_29 (by decide) (by omega) (by omega) (fun c_29 => ?_) (fun c_29 => ?_)
        · exact absurd (show rn = 12 by omega) c_29
        · refine lv_iconst (v := nI 2) hx hb d_Mo_rule_32 (by decide) ?_
          refine lv_goto (tgt := 37) hx hb d_Mo_rule_33 (by decide) ?_
          refine va_put (D := DD) (ci := 9) (v := .int (nI 2)) (ty := .int) (C := R_Mo) (T := T_Mo) (N := 21) hx hb hg in_Mo t_Mo to_Mo n_Mo hown hK hP hD hS 0 rfl rfl 0 (by decide) (hg _ mw_679) (fun _ h9 => h9) rfl (by decide +kernel) rfl rfl (Nat.le_of_ble_eq_true rfl) d_Mo_rule_37 (fun H locs hP hD hS => ?_)
          have hP : va_P DD vwCl [(am, .inr (9, [.int (nI 2), .int (nI n), .ref hk, .ref ht, .int (nI n1), .ref hk1, .ref ht1, .int (zb pb), .int (nI rn), .ref hfg, .ref hle, .ref hmo, .ref hwy, .int (nI tn), .ref htf, .long cm, .ref hod, .ref hwk, .ref hot, .int (nI ru), .ref hen]))] H := hP
          have hD : va_D A [(am, .inr (9, [.int (nI 2), .int (nI n), .ref hk, .ref ht, .int (nI n1), .ref hk1, .ref ht1, .int (zb pb), .int (nI rn), .ref hfg, .ref hle, .ref hmo, .ref hwy, .int (nI tn), .ref htf, .long cm, .ref hod, .ref hwk, .ref hot, .int (nI ru), .ref hen]))] := hD
          refine lv_aload_n hx hb d_Mo_rule_40 rfl (lv_at hl 0 rfl) ?_
          refine va_get (D := DD) (ci := 9) (v := .int (nI 2)) (C := R_Mo) (T := T_Mo) (N := 21) hx hb hg in_Mo hown hK hP 0 rfl rfl 0 (by decide) (hg _ mw_679) (fun _ h9 => h9) rfl d_Mo_rule_41 ?_
          refine z_if_le (tgt := 49) hx hb d_Mo_rule_44 (by decide) (by omega) (fun c_44 => ?_) (fun c_44 => ?_)
          · exact absurd c_44 (by decide)
          · refine lv_iconst (v := nI 0) hx hb d_Mo_rule_47 (by decide) ?_
            have hP9 := hP.sub (ws' := [(am, .inr (9, [.int (nI 2), .int (nI n), .ref hk, .ref ht, .int (nI n1), .ref hk1, .ref ht1, .int (zb pb), .int (nI rn), .ref hfg, .ref hle, .ref hmo, .ref hwy, .int (nI tn), .ref htf, .long cm, .ref hod, .ref hwk, .ref hot, .int (nI ru), .ref hen]))]) [0] rfl
            have hD9 := hD.sub (ws' := [(am, .inr (9, [.int (nI 2), .int (nI n), .ref hk, .ref ht, .int (nI n1), .ref hk1, .ref ht1, .int (zb pb), .int (nI rn), .ref hfg, .ref hle, .ref hmo, .ref hwy, .int (nI tn), .ref htf, .long cm, .ref hod, .ref hwk, .ref hot, .int (nI ru), .ref hen]))]) [0] (by decide) rfl
            exact W.iret (v := nI 0) hx hb hr (fun t9 ht9 hW9 => ⟨⟨_, (), rfl, rfl, by rw [ht9]; exact hP9, va_K.moved hW9.alike hK, hD9⟩, hS.F ht9⟩) hS.2.2 d_Mo_rule_48
      · exact absurd c_16 (by rw [hasB_nI (by omega) (by omega)]; decide)
theorem d_Mo_forget_0 : decode b_Mo_forget 0 = .ok (.aload_n 0, 1) := by decide +kernel
theorem d_Mo_forget_1 : decode b_Mo_forget 1 = .ok (.iload_n 1, 1) := by decide +kernel
theorem d_Mo_forget_2 : decode b_Mo_forget 2 = .ok (.ifCond .lt 11, 3) := by decide +kernel
theorem d_Mo_forget_5 : decode b_Mo_forget 5 = .ok (.iload_n 1, 1) := by decide +kernel
theorem d_Mo_forget_6 : decode b_Mo_forget 6 = .ok (.aload_n 0, 1) := by decide +kernel
theorem d_Mo_forget_7 : decode b_Mo_forget 7 = .ok (.getfield 90, 3) := by decide +kernel
theorem d_Mo_forget_10 : decode b_Mo_forget 10 = .ok (.if_icmp .lt 7, 3) := by decide +kernel
theorem d_Mo_forget_13 : decode b_Mo_forget 13 = .ok (.iconst 1, 1) := by decide +kernel
theorem d_Mo_forget_14 : decode b_Mo_forget 14 = .ok (.goto 4, 3) := by decide +kernel
theorem d_Mo_forget_17 : decode b_Mo_forget 17 = .ok (.iconst 0, 1) := by decide +kernel
theorem d_Mo_forget_18 : decode b_Mo_forget 18 = .ok (.putfield 50, 3) := by decide +kernel
theorem d_Mo_forget_21 : decode b_Mo_forget 21 = .ok (.aload_n 0, 1) := by decide +kernel
theorem d_Mo_forget_22 : decode b_Mo_forget 22 = .ok (.getfield 50, 3) := by decide +kernel
theorem d_Mo_forget_25 : decode b_Mo_forget 25 = .ok (.ifCond .le 5, 3) := by decide +kernel
theorem d_Mo_forget_28 : decode b_Mo_forget 28 = .ok (.iconst 0, 1) := by decide +kernel
theorem d_Mo_forget_29 : decode b_Mo_forget 29 = .ok (.ireturn, 1) := by decide +kernel
theorem d_Mo_forget_30 : decode b_Mo_forget 30 = .ok (.aload_n 0, 1) := by decide +kernel
theorem d_Mo_forget_31 : decode b_Mo_forget 31 = .ok (.dup, 1) := by decide +kernel
theorem d_Mo_forget_32 : decode b_Mo_forget 32 = .ok (.getfield 90, 3) := by decide +kernel
theorem d_Mo_forget_35 : decode b_Mo_forget 35 = .ok (.iconst 1, 1) := by decide +kernel
theorem d_Mo_forget_36 : decode b_Mo_forget 36 = .ok (.isub, 1) := by decide +kernel
theorem d_Mo_forget_37 : decode b_Mo_forget 37 = .ok (.putfield 90, 3) := by decide +kernel
theorem d_Mo_forget_40 : decode b_Mo_forget 40 = .ok (.iload_n 1, 1) := by decide +kernel
theorem d_Mo_forget_41 : decode b_Mo_forget 41 = .ok (.istore_n 2, 1) := by decide +kernel
theorem d_Mo_forget_42 : decode b_Mo_forget 42 = .ok (.iload_n 2, 1) := by decide +kernel
theorem d_Mo_forget_43 : decode b_Mo_forget 43 = .ok (.aload_n 0, 1) := by decide +kernel
theorem d_Mo_forget_44 : decode b_Mo_forget 44 = .ok (.getfield 90, 3) := by decide +kernel
theorem d_Mo_forget_47 : decode b_Mo_forget 47 = .ok (.if_icmp .ge 65, 3) := by decide +kernel
theorem d_Mo_forget_50 : decode b_Mo_forget 50 = .ok (.aload_n 0, 1) := by decide +kernel
theorem d_Mo_forget_51 : decode b_Mo_forget 51 = .ok (.getfield 22, 3) := by decide +kernel
theorem d_Mo_forget_54 : decode b_Mo_forget 54 = .ok (.iload_n 2, 1) := by decide +kernel
theorem d_Mo_forget_55 : decode b_Mo_forget 55 = .ok (.aload_n 0, 1) := by decide +kernel
theorem d_Mo_forget_56 : decode b_Mo_forget 56 = .ok (.getfield 22, 3) := by decide +kernel
theorem d_Mo_forget_59 : decode b_Mo_forget 59 = .ok (.iload_n 2, 1) := by decide +kernel
theorem d_Mo_forget_60 : decode b_Mo_forget 60 = .ok (.iconst 1, 1) := by decide +kernel
theorem d_Mo_forget_61 : decode b_Mo_forget 61 = .ok (.iadd, 1) := by decide +kernel
theorem d_Mo_forget_62 : decode b_Mo_forget 62 = .ok (.iaload, 1) := by decide +kernel
theorem d_Mo_forget_63 : decode b_Mo_forget 63 = .ok (.iastore, 1) := by decide +kernel
theorem d_Mo_forget_64 : decode b_Mo_forget 64 = .ok (.aload_n 0, 1) := by decide +kernel
theorem d_Mo_forget_65 : decode b_Mo_forget 65 = .ok (.getfield 25, 3) := by decide +kernel
theorem d_Mo_forget_68 : decode b_Mo_forget 68 = .ok (.iload_n 2, 1) := by decide +kernel
theorem d_Mo_forget_69 : decode b_Mo_forget 69 = .ok (.aload_n 0, 1) := by decide +kernel
theorem d_Mo_forget_70 : decode b_Mo_forget 70 = .ok (.getfield 25, 3) := by decide +kernel
theorem d_Mo_forget_73 : decode b_Mo_forget 73 = .ok (.iload_n 2, 1) := by decide +kernel
theorem d_Mo_forget_74 : decode b_Mo_forget 74 = .ok (.iconst 1, 1) := by decide +kernel
theorem d_Mo_forget_75 : decode b_Mo_forget 75 = .ok (.iadd, 1) := by decide +kernel
theorem d_Mo_forget_76 : decode b_Mo_forget 76 = .ok (.laload, 1) := by decide +kernel
theorem d_Mo_forget_77 : decode b_Mo_forget 77 = .ok (.lastore, 1) := by decide +kernel
theorem d_Mo_forget_78 : decode b_Mo_forget 78 = .ok (.aload_n 0, 1) := by decide +kernel
theorem d_Mo_forget_79 : decode b_Mo_forget 79 = .ok (.getfield 29, 3) := by decide +kernel
theorem d_Mo_forget_82 : decode b_Mo_forget 82 = .ok (.iload_n 2, 1) := by decide +kernel
theorem d_Mo_forget_83 : decode b_Mo_forget 83 = .ok (.aload_n 0, 1) := by decide +kernel
theorem d_Mo_forget_84 : decode b_Mo_forget 84 = .ok (.getfield 29, 3) := by decide +kernel
theorem d_Mo_forget_87 : decode b_Mo_forget 87 = .ok (.iload_n 2, 1) := by decide +kernel
theorem d_Mo_forget_88 : decode b_Mo_forget 88 = .ok (.iconst 1, 1) := by decide +kernel
theorem d_Mo_forget_89 : decode b_Mo_forget 89 = .ok (.iadd, 1) := by decide +kernel
theorem d_Mo_forget_90 : decode b_Mo_forget 90 = .ok (.laload, 1) := by decide +kernel
theorem d_Mo_forget_91 : decode b_Mo_forget 91 = .ok (.lastore, 1) := by decide +kernel
theorem d_Mo_forget_92 : decode b_Mo_forget 92 = .ok (.aload_n 0, 1) := by decide +kernel
theorem d_Mo_forget_93 : decode b_Mo_forget 93 = .ok (.getfield 32, 3) := by decide +kernel
theorem d_Mo_forget_96 : decode b_Mo_forget 96 = .ok (.iload_n 2, 1) := by decide +kernel
theorem d_Mo_forget_97 : decode b_Mo_forget 97 = .ok (.aload_n 0, 1) := by decide +kernel
theorem d_Mo_forget_98 : decode b_Mo_forget 98 = .ok (.getfield 32, 3) := by decide +kernel
theorem d_Mo_forget_101 : decode b_Mo_forget 101 = .ok (.iload_n 2, 1) := by decide +kernel
theorem d_Mo_forget_102 : decode b_Mo_forget 102 = .ok (.iconst 1, 1) := by decide +kernel
theorem d_Mo_forget_103 : decode b_Mo_forget 103 = .ok (.iadd, 1) := by decide +kernel
theorem d_Mo_forget_104 : decode b_Mo_forget 104 = .ok (.iaload, 1) := by decide +kernel
theorem d_Mo_forget_105 : decode b_Mo_forget 105 = .ok (.iastore, 1) := by decide +kernel
theorem d_Mo_forget_106 : decode b_Mo_forget 106 = .ok (.iinc 2 1, 3) := by decide +kernel
theorem d_Mo_forget_109 : decode b_Mo_forget 109 = .ok (.goto (-67), 3) := by decide +kernel
theorem d_Mo_forget_112 : decode b_Mo_forget 112 = .ok (.aload_n 0, 1) := by decide +kernel
theorem d_Mo_forget_113 : decode b_Mo_forget 113 = .ok (.getfield 90, 3) := by decide +kernel
theorem d_Mo_forget_116 : decode b_Mo_forget 116 = .ok (.ireturn, 1) := by decide +kernel
abbrev ws_Mo_forget : List Cond := .code y_Mo_forget b_Mo_forget 3 (some .int) :: ALLG
abbrev rm_Mo_forget : Room := { frames := 0, cells := 0, slots := 0, locals := 0 }
set_option maxHeartbeats 4000000 in
set_option maxRecDepth 100000 in
theorem c_Mo_forget (l : Launch) (DD : va_G) (sz : Nat) (am : Nat) (th : Nat) (n : Nat) (hk : Nat) (ht : Nat) (n1 : Nat) (hk1 : Nat) (ht1 : Nat) (pb : Bool) (rn : Nat) (hfg : Nat) (cfg : ClassId) (fg : Nat → Nat) (hle : Nat) (cle : ClassId) (le : Nat → Int64) (hmo : Nat) (cmo : ClassId) (mo : Nat → Int64) (hwy : Nat) (cwy : ClassId) (wy : Nat → Nat) (tn : Nat) (htf : Nat) (cm : Int64) (hod : Nat) (hwk : Nat) (hot : Nat) (ru : Nat) (hen : Nat) (j : Nat) (hrn : rn ≤ 12) (hj : j < rn) : Met l y_Mo_forget ws_Mo_forget rm_Mo_forget (va_Pc [.ref am, .int (nI j)] (fun U => U.heap.size = sz ∧ va_P DD vwCl [(am, .inr (9, [.int (nI th), .int (nI n), .ref hk, .ref ht, .int (nI n1), .ref hk1, .ref ht1, .int (zb pb), .int (nI rn), .ref hfg, .ref hle, .ref hmo, .ref hwy, .int (nI tn), .ref htf, .long cm, .ref hod, .ref hwk, .ref hot, .int (nI ru), .ref hen])), (hfg, .inl (cfg, 12, .inl (nF fg))), (hle, .inl (cle, 12, .inr (.inl le))), (hmo, .inl (cmo, 12, .inr (.inl mo))), (hwy, .inl (cwy, 12, .inl (nF wy)))] U.heap ∧ va_K DD vwCl [(cfg, .int), (cle, .long), (cmo, .long), (cwy, .int)] U ∧ va_D (fun _ => True) [(am, .inr (9, [.int (nI th), .int (nI n), .ref hk, .ref ht, .int (nI n1), .ref hk1, .ref ht1, .int (zb pb), .int (nI rn), .ref hfg, .ref hle, .ref hmo, .ref hwy, .int (nI tn), .ref htf, .long cm, .ref hod, .ref hwk, .ref hot, .int (nI ru), .ref hen])), (hfg, .inl (cfg, 12, .inl (nF fg))), (hle, .inl (cle, 12, .inr (.inl le))), (hmo, .inl (cmo, 12, .inr (.inl mo))), (hwy, .inl (cwy, 12, .inl (nF wy)))])) (va_Qi (fun (r9 : Int32) (u9 : Unit) => match u9 with | _ => r9 = nI (rn - 1)) (fun (u9 : Unit) (t9 : State) => match u9 with | _ => va_P DD vwCl [(am, .inr (9, [.int (nI 0), .int (nI n), .ref hk, .ref ht, .int (nI n1), .ref hk1, .ref ht1, .int (zb pb), .int (nI (rn - 1)), .ref hfg, .ref hle, .ref hmo, .ref hwy, .int (nI tn), .ref htf, .long cm, .ref hod, .ref hwk, .ref hot, .int (nI ru), .ref hen])), (hfg, .inl (cfg, 12, .inl (nF (shF fg j (rn - 1))))), (hle, .inl (cle, 12, .inr (.inl (shF le j (rn - 1))))), (hmo, .inl (cmo, 12, .inr (.inl (shF mo j (rn - 1))))), (hwy, .inl (cwy, 12, .inl (nF (shF wy j (rn - 1)))))] t9.heap ∧ va_K DD vwCl [(cfg, .int), (cle, .long), (cmo, .long), (cwy, .int)] t9 ∧ va_D (va_A [(am, .inr (9, [.int (nI th), .int (nI n), .ref hk, .ref ht, .int (nI n1), .ref hk1, .ref ht1, .int (zb pb), .int (nI rn), .ref hfg, .ref hle, .ref hmo, .ref hwy, .int (nI tn), .ref htf, .long cm, .ref hod, .ref hwk, .ref hot, .int (nI ru), .ref hen])), (hfg, .inl (cfg, 12, .inl (nF fg))), (hle, .inl (cle, 12, .inr (.inl le))), (hmo, .inl (cmo, 12, .inr (.inl mo))), (hwy, .inl (cwy, 12, .inl (nF wy)))] sz) [(am, .inr (9, [.int (nI 0), .int (nI n), .ref hk, .ref ht, .int (nI n1), .ref hk1, .ref ht1, .int (zb pb), .int (nI (rn - 1)), .ref hfg, .ref hle, .ref hmo, .ref hwy, .int (nI tn), .ref htf, .long cm, .ref hod, .ref hwk, .ref hot, .int (nI ru), .ref hen])), (hfg, .inl (cfg, 12, .inl (nF (shF fg j (rn - 1))))), (hle, .inl (cle, 12, .inr (.inl (shF le j (rn - 1))))), (hmo, .inl (cmo, 12, .inr (.inl (shF mo j (rn - 1))))), (hwy, .inl (cwy, 12, .inl (nF (shF wy j (rn - 1)))))]) (va_A [(am, .inr (9, [.int (nI th), .int (nI n), .ref hk, .ref ht, .int (nI n1), .ref hk1, .ref ht1, .int (zb pb), .int (nI rn), .ref hfg, .ref hle, .ref hmo, .ref hwy, .int (nI tn), .ref htf, .long cm, .ref hod, .ref hwk, .ref hot, .int (nI ru), .ref hen])), (hfg, .inl (cfg, 12, .inl (nF fg))), (hle, .inl (cle, 12, .inr (.inl le))), (hmo, .inl (cmo, 12, .inr (.inl mo))), (hwy, .inl (cwy, 12, .inl (nF wy)))] sz)) 0 0 (va_A [(am, .inr (9, [.int (nI th), .int (nI n), .ref hk, .ref ht, .int (nI n1), .ref hk1, .ref ht1, .int (zb pb), .int (nI rn), .ref hfg, .ref hle, .ref hmo, .ref hwy, .int (nI tn), .ref htf, .long cm, .ref hod, .ref hwk, .ref hot, .int (nI ru), .ref hen])), (hfg, .inl (cfg, 12, .inl (nF fg))), (hle, .inl (cle, 12, .inr (.inl le))), (hmo, .inl (cmo, 12, .inr (.inl mo))), (hwy, .inl (cwy, 12, .inl (nF wy)))] sz) := by
  refine Met.ofW (cc := b_Mo_forget) (maxL := 3) (ret := (some .int)) (by decide) rfl ?_
  intro p e s m args below meth c s₁ B hml hv
  obtain ⟨ha, hsz, hP, hK, hD0⟩ := hv
  have hx := B.exec
  have hb := B.bytes
  have hr := B.returns
  have hts := atoms_spec (ws := ws_Mo_forget) B.pre
  have hg : ∀ w ∈ ALLG, w.before args s = true := fun w h => hts w (List.mem_cons_of_mem _ h)
  have hown : s.vm.findClass R_Mo = some m.cls := findClass_of_methodNamed B.named
  have hlocks := B.notSynchronized
  subst hsz
  have hD := hD0.self (sz := s.heap.size)
  generalize hAe : va_A [(am, .inr (9, [.int (nI th), .int (nI n), .ref hk, .ref ht, .int (nI n1), .ref hk1, .ref ht1, .int (zb pb), .int (nI rn), .ref hfg, .ref hle, .ref hmo, .ref hwy, .int (nI tn), .ref htf, .long cm, .ref hod, .ref hwk, .ref hot, .int (nI ru), .ref hen])), (hfg, .inl (cfg, 12, .inl (nF fg))), (hle, .inl (cle, 12, .inr (.inl le))), (hmo, .inl (cmo, 12, .inr (.inl mo))), (hwy, .inl (cwy, 12, .inl (nF wy)))] s.heap.size = A at hD ⊢
  have hA : ∀ q : Nat, s.heap.size ≤ q → A q := fun q h => by rw [← hAe]; exact Or.inr h
  have hS : va_S A s.heap s.heap [] := va_S.rf
  have hP : va_P DD vwCl [(am, .inr (9, [.int (nI th), .int (nI n), .ref hk, .ref ht, .int (nI n1), .ref hk1, .ref ht1, .int (zb pb), .int (nI rn), .ref hfg, .ref hle, .ref hmo, .ref hwy, .int (nI tn), .ref htf, .long cm, .ref hod, .ref hwk, .ref hot, .int (nI ru), .ref hen])), (hfg, .inl (cfg, 12, .inl (nF fg))), (hle, .inl (cle, 12, .inr (.inl le))), (hmo, .inl (cmo, 12, .inr (.inl mo))), (hwy, .inl (cwy, 12, .inl (nF wy)))] s.heap := hP
  have hl := lv_entry ([.ref am, .int (nI j)]) (n := 3) (Nat.le_of_ble_eq_true rfl)
  rw [ha, lg_entry_eq, ← ha]
  generalize (lg_sl ([.ref am, .int (nI j)]) ++ List.replicate (3 - (lg_sl ([.ref am, .int (nI j)])).length) Slot.unset).toArray = ls at hl ⊢
  have hl : lv_has ls 3 [(0, .ref am), (1, .int (nI j))] := hl
  have K42 : ∀ (kk : Nat) (i : Nat), (hji : j ≤ i) → (hi : i ≤ rn - 1) → rn - i < kk → ∀ (H : Heap) (locs : List Loc), va_P DD vwCl [(am, .inr (9, [.int (nI 0), .int (nI n), .ref hk, .ref ht, .int (nI n1), .ref hk1, .ref ht1, .int (zb pb), .int (nI (rn - 1)), .ref hfg, .ref hle, .ref hmo, .ref hwy, .int (nI tn), .ref htf, .long cm, .ref hod, .ref hwk, .ref hot, .int (nI ru), .ref hen])), (hfg, .inl (cfg, 12, .inl (nF (shF fg j i)))), (hle, .inl (cle, 12, .inr (.inl (shF le j i)))), (hmo, .inl (cmo, 12, .inr (.inl (shF mo j i)))), (hwy, .inl (cwy, 12, .inl (nF (shF wy j i))))] H → va_D A [(am, .inr (9, [.int (nI 0), .int (nI n), .ref hk, .ref ht, .int (nI n1), .ref hk1, .ref ht1, .int (zb pb), .int (nI (rn - 1)), .ref hfg, .ref hle, .ref hmo, .ref hwy, .int (nI tn), .ref htf, .long cm, .ref hod, .ref hwk, .ref hot, .int (nI ru), .ref hen])), (hfg, .inl (cfg, 12, .inl (nF (shF fg j i)))), (hle, .inl (cle, 12, .inr (.inl (shF le j i)))), (hmo, .inl (cmo, 12, .inr (.inl (shF mo j i)))), (hwy, .inl (cwy, 12, .inl (nF (shF wy j i))))] → va_S A s.heap H locs → ∀ (ls : Array Slot), lv_has ls 3 [(0, .ref am), (1, .int (nI j)), (2, .int (nI i))] → W p l e (headSpec ws_Mo_forget rm_Mo_forget).room s m args below meth c H locs 0 0 (MQ below (va_Qi (fun (r9 : Int32) (u9 : Unit) => match u9 with | _ => r9 = nI (rn - 1)) (fun (u9 : Unit) (t9 : State) => match u9 with | _ => va_P DD vwCl [(am, .inr (9, [.int (nI 0), .int (nI n), .ref hk, .ref ht, .int (nI n1), .ref hk1, .ref ht1, .int (zb pb), .int (nI (rn - 1)), .ref hfg, .ref hle, .ref hmo, .ref hwy, .int (nI tn), .ref htf, .long cm, .ref hod, .ref hwk, .ref hot, .int (nI ru), .ref hen])), (hfg, .inl (cfg, 12, .inl (nF (shF fg j (rn - 1))))), (hle, .inl (cle, 12, .inr (.inl (shF le j (rn - 1))))), (hmo, .inl (cmo, 12, .inr (.inl (shF mo j (rn - 1))))), (hwy, .inl (cwy, 12, .inl (nF (shF wy j (rn - 1)))))] t9.heap ∧ va_K DD vwCl [(cfg, .int), (cle, .long), (cmo, .long), (cwy, .int)] t9 ∧ va_D A [(am, .inr (9, [.int (nI 0), .int (nI n), .ref hk, .ref ht, .int (nI n1), .ref hk1, .ref ht1, .int (zb pb), .int (nI (rn - 1)), .ref hfg, .ref hle, .ref hmo, .ref hwy, .int (nI tn), .ref htf, .long cm, .ref hod, .ref hwk, .ref hot, .int (nI ru), .ref hen])), (hfg, .inl (cfg, 12, .inl (nF (shF fg j (rn - 1))))), (hle, .inl (cle, 12, .inr (.inl (shF le j (rn - 1))))), (hmo, .inl (cmo, 12, .inr (.inl (shF mo j (rn - 1))))), (hwy, .inl (cwy, 12, .inl (nF (shF wy j (rn - 1)))))]) A) args s 0 0 A) (F0 m 42 ls []) := by
    intro kk
    induction kk with
    | zero => intros; omega
    | succ kk ih42 =>
      intro i hji hi hkk H locs hP hD hS ls hl
      refine lv_iload_n hx hb d_Mo_forget_42 rfl (lv_at hl 2 rfl) ?_
      refine lv_aload_n hx hb d_Mo_forget_43 rfl (lv_at hl 0 rfl) ?_
      refine va_get (D := DD) (ci := 9) (v := .int (nI (rn - 1))) (C := R_Mo) (T := T_Mo) (N := 21) hx hb hg in_Mo hown hK hP 0 rfl rfl 8 (by decide) (hg _ mw_687) (fun _ h9 => h9) rfl d_Mo_forget_44 ?_
      refine z_icmp_ge (tgt := 112) hx hb d_Mo_forget_47 (by decide) (by omega) (by omega) (fun c_47 => ?_) (fun c_47 => ?_)
      · rw [show shF fg j i = shF fg j (rn - 1) from by rw [Nat.le_antisymm hi c_47]] at hP hD
        rw [show shF le j i = shF le j (rn - 1) from by rw [Nat.le_antisymm hi c_47]] at hP hD
        rw [show shF mo j i = shF mo j (rn - 1) from by rw [Nat.le_antisymm hi c_47]] at hP hD
        rw [show shF wy j i = shF wy j (rn - 1) from by rw [Nat.le_antisymm hi c_47]] at hP hD
        refine lv_aload_n hx hb d_Mo_forget_112 rfl (lv_at hl 0 rfl) ?_
        refine va_get (D := DD) (ci := 9) (v := .int (nI (rn - 1))) (C := R_Mo) (T := T_Mo) (N := 21) hx hb hg in_Mo hown hK hP 0 rfl rfl 8 (by decide) (hg _ mw_687) (fun _ h9 => h9) rfl d_Mo_forget_113 ?_
        have hP9 := hP.sub (ws' := [(am, .inr (9, [.int (nI 0), .int (nI n), .ref hk, .ref ht, .int (nI n1), .ref hk1, .ref ht1, .int (zb pb), .int (nI (rn - 1)), .ref hfg, .ref hle, .ref hmo, .ref hwy, .int (nI tn), .ref htf, .long cm, .ref hod, .ref hwk, .ref hot, .int (nI ru), .ref hen])), (hfg, .inl (cfg, 12, .inl (nF (shF fg j (rn - 1))))), (hle, .inl (cle, 12, .inr (.inl (shF le j (rn - 1))))), (hmo, .inl (cmo, 12, .inr (.inl (shF mo j (rn - 1))))), (hwy, .inl (cwy, 12, .inl (nF (shF wy j (rn - 1)))))]) [0, 1, 2, 3, 4] rfl
        have hD9 := hD.sub (ws' := [(am, .inr (9, [.int (nI 0), .int (nI n), .ref hk, .ref ht, .int (nI n1), .ref hk1, .ref ht1, .int (zb pb), .int (nI (rn - 1)), .ref hfg, .ref hle, .ref hmo, .ref hwy, .int (nI tn), .ref htf, .long cm, .ref hod, .ref hwk, .ref hot, .int (nI ru), .ref hen])), (hfg, .inl (cfg, 12, .inl (nF (shF fg j (rn - 1))))), (hle, .inl (cle, 12, .inr (.inl (shF le j (rn - 1))))), (hmo, .inl (cmo, 12, .inr (.inl (shF mo j (rn - 1))))), (hwy, .inl (cwy, 12, .inl (nF (shF wy j (rn - 1)))))]) [0, 1, 2, 3, 4] (by decide) rfl
        exact W.iret (v := nI (rn - 1)) hx hb hr (fun t9 ht9 hW9 => ⟨⟨_, (), rfl, rfl, by rw [ht9]; exact hP9, va_K.moved hW9.alike hK, hD9⟩, hS.F ht9⟩) hS.2.2 d_Mo_forget_116
      · refine lv_aload_n hx hb d_Mo_forget_50 rfl (lv_at hl 0 rfl) ?_
        refine va_get (D := DD) (ci := 9) (v := .ref hfg) (C := R_Mo) (T := T_Mo) (N := 21) hx hb hg in_Mo hown hK hP 0 rfl rfl 9 (by decide) (hg _ mw_688) (fun _ h9 => h9) rfl d_Mo_forget_51 ?_
        refine lv_iload_n hx hb d_Mo_forget_54 rfl (lv_at hl 2 rfl) ?_
        refine lv_aload_n hx hb d_Mo_forget_55 rfl (lv_at hl 0 rfl) ?_
        refine va_get (D := DD) (ci := 9) (v := .ref hfg) (C := R_Mo) (T := T_Mo) (N := 21) hx hb hg in_Mo hown hK hP 0 rfl rfl 9 (by decide) (hg _ mw_688) (fun _ h9 => h9) rfl d_Mo_forget_56 ?_
        refine lv_iload_n hx hb d_Mo_forget_59 rfl (lv_at hl 2 rfl) ?_
        refine lv_iconst (v := nI 1) hx hb d_Mo_forget_60 (by decide) ?_
        refine z_iadd hx hb d_Mo_forget_61 ?_
        refine z_ialdN hx hb hK hP 1 0 rfl rfl (by omega) (by decide) d_Mo_forget_62 ?_
        refine z_iastN hx hb hK hP hD hS 1 0 rfl rfl (by omega) (by decide) d_Mo_forget_63 (fun H locs hP hD hS => ?_)
        have hP : va_P DD vwCl [(am, .inr (9, [.int (nI 0), .int (nI n), .ref hk, .ref ht, .int (nI n1), .ref hk1, .ref ht1, .int (zb pb), .int (nI (rn - 1)), .ref hfg, .ref hle, .ref hmo, .ref hwy, .int (nI tn), .ref htf, .long cm, .ref hod, .ref hwk, .ref hot, .int (nI ru), .ref hen])), (hfg, .inl (cfg, 12, .inl (nF (va_up (shF fg j i) i ((shF fg j i) (i + 1)))))), (hle, .inl (cle, 12, .inr (.inl (shF le j i)))), (hmo, .inl (cmo, 12, .inr (.inl (shF mo j i)))), (hwy, .inl (cwy, 12, .inl (nF (shF wy j i))))] H := hP
        have hD : va_D A [(am, .inr (9, [.int (nI 0), .int (nI n), .ref hk, .ref ht, .int (nI n1), .ref hk1, .ref ht1, .int (zb pb), .int (nI (rn - 1)), .ref hfg, .ref hle, .ref hmo, .ref hwy, .int (nI tn), .ref htf, .long cm, .ref hod, .ref hwk, .ref hot, .int (nI ru), .ref hen])), (hfg, .inl (cfg, 12, .inl (nF (va_up (shF fg j i) i ((shF fg j i) (i + 1)))))), (hle, .inl (cle, 12, .inr (.inl (shF le j i)))), (hmo, .inl (cmo, 12, .inr (.inl (shF mo j i)))), (hwy, .inl (cwy, 12, .inl (nF (shF wy j i))))] := hD
        refine lv_aload_n hx hb d_Mo_forget_64 rfl (lv_at hl 0 rfl) ?_
        refine va_get (D := DD) (ci := 9) (v := .ref hle) (C := R_Mo) (T := T_Mo) (N := 21) hx hb hg in_Mo hown hK hP 0 rfl rfl 10 (by decide) (hg _ mw_689) (fun _ h9 => h9) rfl d_Mo_forget_65 ?_
        refine lv_iload_n hx hb d_Mo_forget_68 rfl (lv_at hl 2 rfl) ?_
        refine lv_aload_n hx hb d_Mo_forget_69 rfl (lv_at hl 0 rfl) ?_
        refine va_get (D := DD) (ci := 9) (v := .ref hle) (C := R_Mo) (T := T_Mo) (N := 21) hx hb hg in_Mo hown hK hP 0 rfl rfl 10 (by decide) (hg _ mw_689) (fun _ h9 => h9) rfl d_Mo_forget_70 ?_
        refine lv_iload_n hx hb d_Mo_forget_73 rfl (lv_at hl 2 rfl) ?_
        refine lv_iconst (v := nI 1) hx hb d_Mo_forget_74 (by decide) ?_
        refine z_iadd hx hb d_Mo_forget_75 ?_
        refine z_lald hx hb hK hP 2 1 rfl rfl (by omega) (by decide) d_Mo_forget_76 ?_
        refine z_last hx hb hK hP hD hS 2 1 rfl rfl (by omega) (by decide) d_Mo_forget_77 (fun H locs hP hD hS => ?_)
        have hP : va_P DD vwCl [(am, .inr (9, [.int (nI 0), .int (nI n), .ref hk, .ref ht, .int (nI n1), .ref hk1, .ref ht1, .int (zb pb), .int (nI (rn - 1)), .ref hfg, .ref hle, .ref hmo, .ref hwy, .int (nI tn), .ref htf, .long cm, .ref hod, .ref hwk, .ref hot, .int (nI ru), .ref hen])), (hfg, .inl (cfg, 12, .inl (nF (va_up (shF fg j i) i ((shF fg j i) (i + 1)))))), (hle, .inl (cle, 12, .inr (.inl (vp_updL (shF le j i) i ((shF le j i) (i + 1)))))), (hmo, .inl (cmo, 12, .inr (.inl (shF mo j i)))), (hwy, .inl (cwy, 12, .inl (nF (shF wy j i))))] H := hP
        have hD : va_D A [(am, .inr (9, [.int (nI 0), .int (nI n), .ref hk, .ref ht, .int (nI n1), .ref hk1, .ref ht1, .int (zb pb), .int (nI (rn - 1)), .ref hfg, .ref hle, .ref hmo, .ref hwy, .int (nI tn), .ref htf, .long cm, .ref hod, .ref hwk, .ref hot, .int (nI ru), .ref hen])), (hfg, .inl (cfg, 12, .inl (nF (va_up (shF fg j i) i ((shF fg j i) (i + 1)))))), (hle, .inl (cle, 12, .inr (.inl (vp_updL (shF le j i) i ((shF le j i) (i + 1)))))), (hmo, .inl (cmo, 12, .inr (.inl (shF mo j i)))), (hwy, .inl (cwy, 12, .inl (nF (shF wy j i))))] := hD
        refine lv_aload_n hx hb d_Mo_forget_78 rfl (lv_at hl 0 rfl) ?_
        refine va_get (D := DD) (ci := 9) (v := .ref hmo) (C := R_Mo) (T := T_Mo) (N := 21) hx hb hg in_Mo hown hK hP 0 rfl rfl 11 (by decide) (hg _ mw_690) (fun _ h9 => h9) rfl d_Mo_forget_79 ?_
        refine lv_iload_n hx hb d_Mo_forget_82 rfl (lv_at hl 2 rfl) ?_
        refine lv_aload_n hx hb d_Mo_forget_83 rfl (lv_at hl 0 rfl) ?_
        refine va_get (D := DD) (ci := 9) (v := .ref hmo) (C := R_Mo) (T := T_Mo) (N := 21) hx hb hg in_Mo hown hK hP 0 rfl rfl 11 (by decide) (hg _ mw_690) (fun _ h9 => h9) rfl d_Mo_forget_84 ?_
        refine lv_iload_n hx hb d_Mo_forget_87 rfl (lv_at hl 2 rfl) ?_
        refine lv_iconst (v := nI 1) hx hb d_Mo_forget_88 (by decide) ?_
        refine z_iadd hx hb d_Mo_forget_89 ?_
        refine z_lald hx hb hK hP 3 2 rfl rfl (by omega) (by decide) d_Mo_forget_90 ?_
        refine z_last hx hb hK hP hD hS 3 2 rfl rfl (by omega) (by decide) d_Mo_forget_91 (fun H locs hP hD hS => ?_)
        have hP : va_P DD vwCl [(am, .inr (9, [.int (nI 0), .int (nI n), .ref hk, .ref ht, .int (nI n1), .ref hk1, .ref ht1, .int (zb pb), .int (nI (rn - 1)), .ref hfg, .ref hle, .ref hmo, .ref hwy, .int (nI tn), .ref htf, .long cm, .ref hod, .ref hwk, .ref hot, .int (nI ru), .ref hen])), (hfg, .inl (cfg, 12, .inl (nF (va_up (shF fg j i) i ((shF fg j i) (i + 1)))))), (hle, .inl (cle, 12, .inr (.inl (vp_updL (shF le j i) i ((shF le j i) (i + 1)))))), (hmo, .inl (cmo, 12, .inr (.inl (vp_updL (shF mo j i) i ((shF mo j i) (i + 1)))))), (hwy, .inl (cwy, 12, .inl (nF (shF wy j i))))] H := hP
        have hD : va_D A [(am, .inr (9, [.int (nI 0), .int (nI n), .ref hk, .ref ht, .int (nI n1), .ref hk1, .ref ht1, .int (zb pb), .int (nI (rn - 1)), .ref hfg, .ref hle, .ref hmo, .ref hwy, .int (nI tn), .ref htf, .long cm, .ref hod, .ref hwk, .ref hot, .int (nI ru), .ref hen])), (hfg, .inl (cfg, 12, .inl (nF (va_up (shF fg j i) i ((shF fg j i) (i + 1)))))), (hle, .inl (cle, 12, .inr (.inl (vp_updL (shF le j i) i ((shF le j i) (i + 1)))))), (hmo, .inl (cmo, 12, .inr (.inl (vp_updL (shF mo j i) i ((shF mo j i) (i + 1)))))), (hwy, .inl (cwy, 12, .inl (nF (shF wy j i))))] := hD
        refine lv_aload_n hx hb d_Mo_forget_92 rfl (lv_at hl 0 rfl) ?_
        refine va_get (D := DD) (ci := 9) (v := .ref hwy) (C := R_Mo) (T := T_Mo) (N := 21) hx hb hg in_Mo hown hK hP 0 rfl rfl 12 (by decide) (hg _ mw_691) (fun _ h9 => h9) rfl d_Mo_forget_93 ?_
        refine lv_iload_n hx hb d_Mo_forget_96 rfl (lv_at hl 2 rfl) ?_
        refine lv_aload_n hx hb d_Mo_forget_97 rfl (lv_at hl 0 rfl) ?_
        refine va_get (D := DD) (ci := 9) (v := .ref hwy) (C := R_Mo) (T := T_Mo) (N := 21) hx hb hg in_Mo hown hK hP 0 rfl rfl 12 (by decide) (hg _ mw_691) (fun _ h9 => h9) rfl d_Mo_forget_98 ?_
        refine lv_iload_n hx hb d_Mo_forget_101 rfl (lv_at hl 2 rfl) ?_
        refine lv_iconst (v := nI 1) hx hb d_Mo_forget_102 (by decide) ?_
        refine z_iadd hx hb d_Mo_forget_103 ?_
        refine z_ialdN hx hb hK hP 4 3 rfl rfl (by omega) (by decide) d_Mo_forget_104 ?_
        refine z_iastN hx hb hK hP hD hS 4 3 rfl rfl (by omega) (by decide) d_Mo_forget_105 (fun H locs hP hD hS => ?_)
        have hP : va_P DD vwCl [(am, .inr (9, [.int (nI 0), .int (nI n), .ref hk, .ref ht, .int (nI n1), .ref hk1, .ref ht1, .int (zb pb), .int (nI (rn - 1)), .ref hfg, .ref hle, .ref hmo, .ref hwy, .int (nI tn), .ref htf, .long cm, .ref hod, .ref hwk, .ref hot, .int (nI ru), .ref hen])), (hfg, .inl (cfg, 12, .inl (nF (va_up (shF fg j i) i ((shF fg j i) (i + 1)))))), (hle, .inl (cle, 12, .inr (.inl (vp_updL (shF le j i) i ((shF le j i) (i + 1)))))), (hmo, .inl (cmo, 12, .inr (.inl (vp_updL (shF mo j i) i ((shF mo j i) (i + 1)))))), (hwy, .inl (cwy, 12, .inl (nF (va_up (shF wy j i) i ((shF wy j i) (i + 1))))))] H := hP
        have hD : va_D A [(am, .inr (9, [.int (nI 0), .int (nI n), .ref hk, .ref ht, .int (nI n1), .ref hk1, .ref ht1, .int (zb pb), .int (nI (rn - 1)), .ref hfg, .ref hle, .ref hmo, .ref hwy, .int (nI tn), .ref htf, .long cm, .ref hod, .ref hwk, .ref hot, .int (nI ru), .ref hen])), (hfg, .inl (cfg, 12, .inl (nF (va_up (shF fg j i) i ((shF fg j i) (i + 1)))))), (hle, .inl (cle, 12, .inr (.inl (vp_updL (shF le j i) i ((shF le j i) (i + 1)))))), (hmo, .inl (cmo, 12, .inr (.inl (vp_updL (shF mo j i) i ((shF mo j i) (i + 1)))))), (hwy, .inl (cwy, 12, .inl (nF (va_up (shF wy j i) i ((shF wy j i) (i + 1))))))] := hD
        rw [show va_up (shF fg j i) i ((shF fg j i) (i + 1)) = shF fg j (i + 1) from shF_n fg hji] at hP hD
        rw [show va_up (shF wy j i) i ((shF wy j i) (i + 1)) = shF wy j (i + 1) from shF_n wy hji] at hP hD
        rw [show vp_updL (shF le j i) i ((shF le j i) (i + 1)) = shF le j (i + 1) from shF_l le hji] at hP hD
        rw [show vp_updL (shF mo j i) i ((shF mo j i) (i + 1)) = shF mo j (i + 1) from shF_l mo hji] at hP hD
        refine lv_iinc (v := nI (i + 1)) (lv' := [(2, .int (nI (i + 1))), (0, .ref am), (1, .int (nI j))]) hx hb d_Mo_forget_106 hl (k := 2) rfl (by exact nI_add i 1) (by decide) rfl (fun ls hl => ?_)
        refine lv_goto (tgt := 42) hx hb d_Mo_forget_109 (by decide) ?_
        exact ih42 (i + 1) (by omega) (by omega) (by omega) _ _ hP hD hS ls (lv_sub hl [1, 2, 0] rfl)
  refine lv_aload_n hx hb d_Mo_forget_0 rfl (lv_at hl 0 rfl) ?_
  refine lv_iload_n hx hb d_Mo_forget_1 rfl (lv_at hl 1 rfl) ?_
  refine z_if_lt (tgt := 13) hx hb d_Mo_forget_2 (by decide) (by omega) (fun c_2 => ?_) (fun c_2 => ?_)
  · exact c_2.elim
  · refine lv_iload_n hx hb d_Mo_forget_5 rfl (lv_at hl 1 rfl) ?_
    refine lv_aload_n hx hb d_Mo_forget_6 rfl (lv_at hl 0 rfl) ?_
    refine va_get (D := DD) (ci := 9) (v := .int (nI rn)) (C := R_Mo) (T := T_Mo) (N := 21) hx hb hg in_Mo hown hK hP 0 rfl rfl 8 (by decide) (hg _ mw_687) (fun _ h9 => h9) rfl d_Mo_forget_7 ?_
    refine z_icmp_lt (tgt := 17) hx hb d_Mo_forget_10 (by decide) (by omega) (by omega) (fun c_10 => ?_) (fun c_10 => ?_)
    · refine lv_iconst (v := nI 0) hx hb d_Mo_forget_17 (by decide) ?_
      refine va_put (D := DD) (ci := 9) (v := .int (nI 0)) (ty := .int) (C := R_Mo) (T := T_Mo) (N := 21) hx hb hg in_Mo t_Mo to_Mo n_Mo hown hK hP hD hS 0 rfl rfl 0 (by decide) (hg _ mw_679) (fun _ h9 => h9) rfl (by decide +kernel) rfl rfl (Nat.le_of_ble_eq_true rfl) d_Mo_forget_18 (fun H locs hP hD hS => ?_)
      have hP : va_P DD vwCl [(am, .inr (9, [.int (nI 0), .int (nI n), .ref hk, .ref ht, .int (nI n1), .ref hk1, .ref ht1, .int (zb pb), .int (nI rn), .ref hfg, .ref hle, .ref hmo, .ref hwy, .int (nI tn), .ref htf, .long cm, .ref hod, .ref hwk, .ref hot, .int (nI ru), .ref hen])), (hfg, .inl (cfg, 12, .inl (nF fg))), (hle, .inl (cle, 12, .inr (.inl le))), (hmo, .inl (cmo, 12, .inr (.inl mo))), (hwy, .inl (cwy, 12, .inl (nF wy)))] H := hP
      have hD : va_D A [(am, .inr (9, [.int (nI 0), .int (nI n), .ref hk, .ref ht, .int (nI n1), .ref hk1, .ref ht1, .int (zb pb), .int (nI rn), .ref hfg, .ref hle, .ref hmo, .ref hwy, .int (nI tn), .ref htf, .long cm, .ref hod, .ref hwk, .ref hot, .int (nI ru), .ref hen])), (hfg, .inl (cfg, 12, .inl (nF fg))), (hle, .inl (cle, 12, .inr (.inl le))), (hmo, .inl (cmo, 12, .inr (.inl mo))), (hwy, .inl (cwy, 12, .inl (nF wy)))] := hD
      refine lv_aload_n hx hb d_Mo_forget_21 rfl (lv_at hl 0 rfl) ?_
      refine va_get (D := DD) (ci := 9) (v := .int (nI 0)) (C := R_Mo) (T := T_Mo) (N := 21) hx hb hg in_Mo hown hK hP 0 rfl rfl 0 (by decide) (hg _ mw_679) (fun _ h9 => h9) rfl d_Mo_forget_22 ?_
      refine z_if_le (tgt := 30) hx hb d_Mo_forget_25 (by decide) (by omega) (fun c_25 => ?_) (fun c_25 => ?_)
      · refine lv_aload_n hx hb d_Mo_forget_30 rfl (lv_at hl 0 rfl) ?_
        refine lv_dup hx hb d_Mo_forget_31 rfl ?_
        refine va_get (D := DD) (ci := 9) (v := .int (nI rn)) (C := R_Mo) (T := T_Mo) (N := 21) hx hb hg in_Mo hown hK hP 0 rfl rfl 8 (by decide) (hg _ mw_687) (fun _ h9 => h9) rfl d_Mo_forget_32 ?_
        refine lv_iconst (v := nI 1) hx hb d_Mo_forget_35 (by decide) ?_
        refine z_isub hx hb d_Mo_forget_36 (by omega) ?_
        refine va_put (D := DD) (ci := 9) (v := .int (nI (rn - 1))) (ty := .int) (C := R_Mo) (T := T_Mo) (N := 21) hx hb hg in_Mo t_Mo to_Mo n_Mo hown hK hP hD hS 0 rfl rfl 8 (by decide) (hg _ mw_687) (fun _ h9 => h9) rfl (by decide +kernel) rfl rfl (Nat.le_of_ble_eq_true rfl) d_Mo_forget_37 (fun H locs hP hD hS => ?_)
        have hP : va_P DD vwCl [(am, .inr (9, [.int (nI 0), .int (nI n), .ref hk, .ref ht, .int (nI n1), .ref hk1, .ref ht1, .int (zb pb), .int (nI (rn - 1)), .ref hfg, .ref hle, .ref hmo, .ref hwy, .int (nI tn), .ref htf, .long cm, .ref hod, .ref hwk, .ref hot, .int (nI ru), .ref hen])), (hfg, .inl (cfg, 12, .inl (nF fg))), (hle, .inl (cle, 12, .inr (.inl le))), (hmo, .inl (cmo, 12, .inr (.inl mo))), (hwy, .inl (cwy, 12, .inl (nF wy)))] H := hP
        have hD : va_D A [(am, .inr (9, [.int (nI 0), .int (nI n), .ref hk, .ref ht, .int (nI n1), .ref hk1, .ref ht1, .int (zb pb), .int (nI (rn - 1)), .ref hfg, .ref hle, .ref hmo, .ref hwy, .int (nI tn), .ref htf, .long cm, .ref hod, .ref hwk, .ref hot, .int (nI ru), .ref hen])), (hfg, .inl (cfg, 12, .inl (nF fg))), (hle, .inl (cle, 12, .inr (.inl le))), (hmo, .inl (cmo, 12, .inr (.inl mo))), (hwy, .inl (cwy, 12, .inl (nF wy)))] := hD
        rw [show fg = shF fg j j from shF_0 fg j] at hP hD
        rw [show le = shF le j j from shF_0 le j] at hP hD
        rw [show mo = shF mo j j from shF_0 mo j] at hP hD
        rw [show wy = shF wy j j from shF_0 wy j] at hP hD
        refine lv_iload_n hx hb d_Mo_forget_40 rfl (lv_at hl 1 rfl) ?_
        refine lv_istore_n (lv' := [(2, .int (nI j)), (0, .ref am), (1, .int (nI j))]) hx hb d_Mo_forget_41 rfl hl (by decide) rfl (fun ls hl => ?_)
        exact K42 _ j (by omega) (by omega) (Nat.lt_succ_self _) _ _ hP hD hS ls (lv_sub hl [1, 2, 0] rfl)
      · exact absurd c_25 (by decide)
    · exact absurd c_10 (by omega)
abbrev rm_Mo_forget_T : Room := { frames := 0, cells := 0, slots := 0, locals := 0 }
set_option maxHeartbeats 4000000 in
set_option maxRecDepth 100000 in
theorem c_Mo_forget_T (l : Launch) (DD : va_G) (sz : Nat) (am : Nat) (th : Nat) (n : Nat) (hk : Nat) (ht : Nat) (n1 : Nat) (hk1 : Nat) (ht1 : Nat) (pb : Bool) (rn : Nat) (hfg : Nat) (hle : Nat) (hmo : Nat) (hwy : Nat) (tn : Nat) (htf : Nat) (cm : Int64) (hod : Nat) (hwk : Nat) (hot : Nat) (ru : Nat) (hen : Nat) (v : Int32) (hrn : rn ≤ 12) (hf : hasB v rn = false) : Met l y_Mo_forget ws_Mo_forget rm_Mo_forget_T (va_Pc [.ref am, .int v] (fun U => U.heap.size = sz ∧ va_P DD vwCl [(am, .inr (9, [.int (nI th), .int (nI n), .ref hk, .ref ht, .int (nI n1), .ref hk1, .ref ht1, .int (zb pb), .int (nI rn), .ref hfg, .ref hle, .ref hmo, .ref hwy, .int (nI tn), .ref htf, .long cm, .ref hod, .ref hwk, .ref hot, .int (nI ru), .ref hen]))] U.heap ∧ va_K DD vwCl [] U ∧ va_D (fun _ => True) [(am, .inr (9, [.int (nI th), .int (nI n), .ref hk, .ref ht, .int (nI n1), .ref hk1, .ref ht1, .int (zb pb), .int (nI rn), .ref hfg, .ref hle, .ref hmo, .ref hwy, .int (nI tn), .ref htf, .long cm, .ref hod, .ref hwk, .ref hot, .int (nI ru), .ref hen]))])) (va_Qi (fun (r9 : Int32) (u9 : Unit) => match u9 with | _ => r9 = nI 0) (fun (u9 : Unit) (t9 : State) => match u9 with | _ => va_P DD vwCl [(am, .inr (9, [.int (nI 1), .int (nI n), .ref hk, .ref ht, .int (nI n1), .ref hk1, .ref ht1, .int (zb pb), .int (nI rn), .ref hfg, .ref hle, .ref hmo, .ref hwy, .int (nI tn), .ref htf, .long cm, .ref hod, .ref hwk, .ref hot, .int (nI ru), .ref hen]))] t9.heap ∧ va_K DD vwCl [] t9 ∧ va_D (va_A [(am, .inr (9, [.int (nI th), .int (nI n), .ref hk, .ref ht, .int (nI n1), .ref hk1, .ref ht1, .int (zb pb), .int (nI rn), .ref hfg, .ref hle, .ref hmo, .ref hwy, .int (nI tn), .ref htf, .long cm, .ref hod, .ref hwk, .ref hot, .int (nI ru), .ref hen]))] sz) [(am, .inr (9, [.int (nI 1), .int (nI n), .ref hk, .ref ht, .int (nI n1), .ref hk1, .ref ht1, .int (zb pb), .int (nI rn), .ref hfg, .ref hle, .ref hmo, .ref hwy, .int (nI tn), .ref htf, .long cm, .ref hod, .ref hwk, .ref hot, .int (nI ru), .ref hen]))]) (va_A [(am, .inr (9, [.int (nI th), .int (nI n), .ref hk, .ref ht, .int (nI n1), .ref hk1, .ref ht1, .int (zb pb), .int (nI rn), .ref hfg, .ref hle, .ref hmo, .ref hwy, .int (nI tn), .ref htf, .long cm, .ref hod, .ref hwk, .ref hot, .int (nI ru), .ref hen]))] sz)) 0 0 (va_A [(am, .inr (9, [.int (nI th), .int (nI n), .ref hk, .ref ht, .int (nI n1), .ref hk1, .ref ht1, .int (zb pb), .int (nI rn), .ref hfg, .ref hle, .ref hmo, .ref hwy, .int (nI tn), .ref htf, .long cm, .ref hod, .ref hwk, .ref hot, .int (nI ru), .ref hen]))] sz) := by
  refine Met.ofW (cc := b_Mo_forget) (maxL := 3) (ret := (some .int)) (by decide) rfl ?_
  intro p e s m args below meth c s₁ B hml hv
  obtain ⟨ha, hsz, hP, hK, hD0⟩ := hv
  have hx := B.exec
  have hb := B.bytes
  have hr := B.returns
  have hts := atoms_spec (ws := ws_Mo_forget) B.pre
  have hg : ∀ w ∈ ALLG, w.before args s = true := fun w h => hts w (List.mem_cons_of_mem _ h)
  have hown : s.vm.findClass R_Mo = some m.cls := findClass_of_methodNamed B.named
  have hlocks := B.notSynchronized
  subst hsz
  have hD := hD0.self (sz := s.heap.size)
  generalize hAe : va_A [(am, .inr (9, [.int (nI th), .int (nI n), .ref hk, .ref ht, .int (nI n1), .ref hk1, .ref ht1, .int (zb pb), .int (nI rn), .ref hfg, .ref hle, .ref hmo, .ref hwy, .int (nI tn), .ref htf, .long cm, .ref hod, .ref hwk, .ref hot, .int (nI ru), .ref hen]))] s.heap.size = A at hD ⊢
  have hA : ∀ q : Nat, s.heap.size ≤ q → A q := fun q h => by rw [← hAe]; exact Or.inr h
  have hS : va_S A s.heap s.heap [] := va_S.rf
  have hP : va_P DD vwCl [(am, .inr (9, [.int (nI th), .int (nI n), .ref hk, .ref ht, .int (nI n1), .ref hk1, .ref ht1, .int (zb pb), .int (nI rn), .ref hfg, .ref hle, .ref hmo, .ref hwy, .int (nI tn), .ref htf, .long cm, .ref hod, .ref hwk, .ref hot, .int (nI ru), .ref hen]))] s.heap := hP
  have hl := lv_entry ([.ref am, .int v]) (n := 3) (Nat.le_of_ble_eq_true rfl)
  rw [ha, lg_entry_eq, ← ha]
  generalize (lg_sl ([.ref am, .int v]) ++ List.replicate (3 - (lg_sl ([.ref am, .int v])).length) Slot.unset).toArray = ls at hl ⊢
  have hl : lv_has ls 3 [(0, .ref am), (1, .int v)] := hl
  refine lv_aload_n hx hb d_Mo_forget_0 rfl (lv_at hl 0 rfl) ?_
  refine lv_iload_n hx hb d_Mo_forget_1 rfl (lv_at hl 1 rfl) ?_
  refine lv_if_lt (tgt := 13) hx hb d_Mo_forget_2 (by decide) (fun c_2 => ?_) (fun c_2 => ?_)
  · refine lv_iconst (v := nI 1) hx hb d_Mo_forget_13 (by decide) ?_
    refine lv_goto (tgt := 18) hx hb d_Mo_forget_14 (by decide) ?_
    refine va_put (D := DD) (ci := 9) (v := .int (nI 1)) (ty := .int) (C := R_Mo) (T := T_Mo) (N := 21) hx hb hg in_Mo t_Mo to_Mo n_Mo hown hK hP hD hS 0 rfl rfl 0 (by decide) (hg _ mw_679) (fun _ h9 => h9) rfl (by decide +kernel) rfl rfl (Nat.le_of_ble_eq_true rfl) d_Mo_forget_18 (fun H locs hP hD hS => ?_)
    have hP : va_P DD vwCl [(am, .inr (9, [.int (nI 1), .int (nI n), .ref hk, .ref ht, .int (nI n1), .ref hk1, .ref ht1, .int (zb pb), .int (nI rn), .ref hfg, .ref hle, .ref hmo, .ref hwy, .int (nI tn), .ref htf, .long cm, .ref hod, .ref hwk, .ref hot, .int (nI ru), .ref hen]))] H := hP
    have hD : va_D A [(am, .inr (9, [.int (nI 1), .int (nI n), .ref hk, .ref ht, .int (nI n1), .ref hk1, .ref ht1, .int (zb pb), .int (nI rn), .ref hfg, .ref hle, .ref hmo, .ref hwy, .int (nI tn), .ref htf, .long cm, .ref hod, .ref hwk, .ref hot, .int (nI ru), .ref hen]))] := hD
    refine lv_aload_n hx hb d_Mo_forget_21 rfl (lv_at hl 0 rfl) ?_
    refine va_get (D := DD) (ci := 9) (v := .int (nI 1)) (C := R_Mo) (T := T_Mo) (N := 21) hx hb hg in_Mo hown hK hP 0 rfl rfl 0 (by decide) (hg _ mw_679) (fun _ h9 => h9) rfl d_Mo_forget_22 ?_
    refine z_if_le (tgt := 30) hx hb d_Mo_forget_25 (by decide) (by omega) (fun c_25 => ?_) (fun c_25 => ?_)
    · exact absurd c_25 (by decide)
    · refine lv_iconst (v := nI 0) hx hb d_Mo_forget_28 (by decide) ?_
      have hP9 := hP.sub (ws' := [(am, .inr (9, [.int (nI 1), .int (nI n), .ref hk, .ref ht, .int (nI n1), .ref hk1, .ref ht1, .int (zb pb), .int (nI rn), .ref hfg, .ref hle, .ref hmo, .ref hwy, .int (nI tn), .ref htf, .long cm, .ref hod, .ref hwk, .ref hot, .int (nI ru), .ref hen]))]) [0] rfl
      have hD9 := hD.sub (ws' := [(am, .inr (9, [.int (nI 1), .int (nI n), .ref hk, .ref ht, .int (nI n1), .ref hk1, .ref ht1, .int (zb pb), .int (nI rn), .ref hfg, .ref hle, .ref hmo, .ref hwy, .int (nI tn), .ref htf, .long cm, .ref hod, .ref hwk, .ref hot, .int (nI ru), .ref hen]))]) [0] (by decide) rfl
      exact W.iret (v := nI 0) hx hb hr (fun t9 ht9 hW9 => ⟨⟨_, (), rfl, rfl, by rw [ht9]; exact hP9, va_K.moved hW9.alike hK, hD9⟩, hS.F ht9⟩) hS.2.2 d_Mo_forget_29
  · refine lv_iload_n hx hb d_Mo_forget_5 rfl (lv_at hl 1 rfl) ?_
    refine lv_aload_n hx hb d_Mo_forget_6 rfl (lv_at hl 0 rfl) ?_
    refine va_get (D := DD) (ci := 9) (v := .int (nI rn)) (C := R_Mo) (T := T_Mo) (N := 21) hx hb hg in_Mo hown hK hP 0 rfl rfl 8 (by decide) (hg _ mw_687) (fun _ h9 => h9) rfl d_Mo_forget_7 ?_
    refine lv_icmp_lt (tgt := 17) hx hb d_Mo_forget_10 (by decide) (fun c_10 => ?_) (fun c_10 => ?_)
    · exact absurd hf (by rw [hasB_lt (by omega) c_2 c_10]; decide)
    · refine lv_iconst (v := nI 1) hx hb d_Mo_forget_13 (by decide) ?_
      refine lv_goto (tgt := 18) hx hb d_Mo_forget_14 (by decide) ?_
      refine va_put (D := DD) (ci := 9) (v := .int (nI 1)) (ty := .int) (C := R_Mo) (T := T_Mo) (N := 21) hx hb hg in_Mo t_Mo to_Mo n_Mo hown hK hP hD hS 0 rfl rfl 0 (by decide) (hg _ mw_679) (fun _ h9 => h9) rfl (by decide +kernel) rfl rfl (Nat.le_of_ble_eq_true rfl) d_Mo_forget_18 (fun H locs hP hD hS => ?_)
      have hP : va_P DD vwCl [(am, .inr (9, [.int (nI 1), .int (nI n), .ref hk, .ref ht, .int (nI n1), .ref hk1, .ref ht1, .int (zb pb), .int (nI rn), .ref hfg, .ref hle, .ref hmo, .ref hwy, .int (nI tn), .ref htf, .long cm, .ref hod, .ref hwk, .ref hot, .int (nI ru), .ref hen]))] H := hP
      have hD : va_D A [(am, .inr (9, [.int (nI 1), .int (nI n), .ref hk, .ref ht, .int (nI n1), .ref hk1, .ref ht1, .int (zb pb), .int (nI rn), .ref hfg, .ref hle, .ref hmo, .ref hwy, .int (nI tn), .ref htf, .long cm, .ref hod, .ref hwk, .ref hot, .int (nI ru), .ref hen]))] := hD
      refine lv_aload_n hx hb d_Mo_forget_21 rfl (lv_at hl 0 rfl) ?_
      refine va_get (D := DD) (ci := 9) (v := .int (nI 1)) (C := R_Mo) (T := T_Mo) (N := 21) hx hb hg in_Mo hown hK hP 0 rfl rfl 0 (by decide) (hg _ mw_679) (fun _ h9 => h9) rfl d_Mo_forget_22 ?_
      refine z_if_le (tgt := 30) hx hb d_Mo_forget_25 (by decide) (by omega) (fun c_25 => ?_) (fun c_25 => ?_)
      · exact absurd c_25 (by decide)
      · refine lv_iconst (v := nI 0) hx hb d_Mo_forget_28 (by decide) ?_
        have hP9 := hP.sub (ws' := [(am, .inr (9, [.int (nI 1), .int (nI n), .ref hk, .ref ht, .int (nI n1), .ref hk1, .ref ht1, .int (zb pb), .int (nI rn), .ref hfg, .ref hle, .ref hmo, .ref hwy, .int (nI tn), .ref htf, .long cm, .ref hod, .ref hwk, .ref hot, .int (nI ru), .ref hen]))]) [0] rfl
        have hD9 := hD.sub (ws' := [(am, .inr (9, [.int (nI 1), .int (nI n), .ref hk, .ref ht, .int (nI n1), .ref hk1, .ref ht1, .int (zb pb), .int (nI rn), .ref hfg, .ref hle, .ref hmo, .ref hwy, .int (nI tn), .ref htf, .long cm, .ref hod, .ref hwk, .ref hot, .int (nI ru), .ref hen]))]) [0] (by decide) rfl
        exact W.iret (v := nI 0) hx hb hr (fun t9 ht9 hW9 => ⟨⟨_, (), rfl, rfl, by rw [ht9]; exact hP9, va_K.moved hW9.alike hK, hD9⟩, hS.F ht9⟩) hS.2.2 d_Mo_forget_29
theorem d_Mo_plan_0 : decode b_Mo_plan 0 = .ok (.aload_n 0, 1) := by decide +kernel
theorem d_Mo_plan_1 : decode b_Mo_plan 1 = .ok (.iconst 0, 1) := by decide +kernel
theorem d_Mo_plan_2 : decode b_Mo_plan 2 = .ok (.putfield 50, 3) := by decide +kernel
theorem d_Mo_plan_5 : decode b_Mo_plan 5 = .ok (.aload_n 0, 1) := by decide +kernel
theorem d_Mo_plan_6 : decode b_Mo_plan 6 = .ok (.invokevirtual 98, 3) := by decide +kernel
theorem d_Mo_plan_9 : decode b_Mo_plan 9 = .ok (.ireturn, 1) := by decide +kernel
abbrev ws_Mo_plan : List Cond := .code y_Mo_plan b_Mo_plan 1 (some .int) :: ALLG
abbrev rm_Mo_plan : Room := { frames := 3, cells := 0, slots := 0, locals := 69 }
set_option maxHeartbeats 4000000 in
set_option maxRecDepth 100000 in
theorem c_Mo_plan (l : Launch) (DD : va_G) (sz : Nat) (am : Nat) (th : Nat) (n : Nat) (hk : Nat) (ck : ClassId) (k : Nat → Int32) (ht : Nat) (n1 : Nat) (hk1 : Nat) (ht1 : Nat) (pb : Bool) (rn : Nat) (hfg : Nat) (cfg : ClassId) (fg : Nat → Nat) (hle : Nat) (cle : ClassId) (le : Nat → Int64) (hmo : Nat) (cmo : ClassId) (mo : Nat → Int64) (hwy : Nat) (cwy : ClassId) (wy : Nat → Nat) (tn : Nat) (htf : Nat) (cm : Int64) (hod : Nat) (hwk : Nat) (hot : Nat) (ru : Nat) (hen : Nat) (hn : n ≤ 150) (hrn : rn ≤ 12) (hf8 : ∀ i, i < rn → fg i < 8) (hw5 : ∀ i, i < rn → wy i < 5) : Met l y_Mo_plan ws_Mo_plan rm_Mo_plan (va_Pc [.ref am] (fun U => U.heap.size = sz ∧ va_P DD vwCl [(am, .inr (9, [.int (nI th), .int (nI n), .ref hk, .ref ht, .int (nI n1), .ref hk1, .ref ht1, .int (zb pb), .int (nI rn), .ref hfg, .ref hle, .ref hmo, .ref hwy, .int (nI tn), .ref htf, .long cm, .ref hod, .ref hwk, .ref hot, .int (nI ru), .ref hen])), (hk, .inl (ck, 150, .inl k)), (hfg, .inl (cfg, 12, .inl (nF fg))), (hle, .inl (cle, 12, .inr (.inl le))), (hmo, .inl (cmo, 12, .inr (.inl mo))), (hwy, .inl (cwy, 12, .inl (nF wy)))] U.heap ∧ va_K DD vwCl [(ck, .int), (cfg, .int), (cle, .long), (cmo, .long), (cwy, .int)] U ∧ va_D (fun _ => True) [(am, .inr (9, [.int (nI th), .int (nI n), .ref hk, .ref ht, .int (nI n1), .ref hk1, .ref ht1, .int (zb pb), .int (nI rn), .ref hfg, .ref hle, .ref hmo, .ref hwy, .int (nI tn), .ref htf, .long cm, .ref hod, .ref hwk, .ref hot, .int (nI ru), .ref hen])), (hk, .inl (ck, 150, .inl k)), (hfg, .inl (cfg, 12, .inl (nF fg))), (hle, .inl (cle, 12, .inr (.inl le))), (hmo, .inl (cmo, 12, .inr (.inl mo))), (hwy, .inl (cwy, 12, .inl (nF wy)))])) (va_Qi (fun (r9 : Int32) (u9 : Unit) => match u9 with | _ => r9 = nI (planF k n fg le mo wy rn rn)) (fun (u9 : Unit) (t9 : State) => match u9 with | _ => va_P DD vwCl [(am, .inr (9, [.int (nI 0), .int (nI n), .ref hk, .ref ht, .int (nI n1), .ref hk1, .ref ht1, .int (zb pb), .int (nI rn), .ref hfg, .ref hle, .ref hmo, .ref hwy, .int (nI tn), .ref htf, .long cm, .ref hod, .ref hwk, .ref hot, .int (nI ru), .ref hen])), (hk, .inl (ck, 150, .inl k)), (hfg, .inl (cfg, 12, .inl (nF fg))), (hle, .inl (cle, 12, .inr (.inl le))), (hmo, .inl (cmo, 12, .inr (.inl mo))), (hwy, .inl (cwy, 12, .inl (nF wy)))] t9.heap ∧ va_K DD vwCl [(ck, .int), (cfg, .int), (cle, .long), (cmo, .long), (cwy, .int)] t9 ∧ va_D (va_A [(am, .inr (9, [.int (nI th), .int (nI n), .ref hk, .ref ht, .int (nI n1), .ref hk1, .ref ht1, .int (zb pb), .int (nI rn), .ref hfg, .ref hle, .ref hmo, .ref hwy, .int (nI tn), .ref htf, .long cm, .ref hod, .ref hwk, .ref hot, .int (nI ru), .ref hen])), (hk, .inl (ck, 150, .inl k)), (hfg, .inl (cfg, 12, .inl (nF fg))), (hle, .inl (cle, 12, .inr (.inl le))), (hmo, .inl (cmo, 12, .inr (.inl mo))), (hwy, .inl (cwy, 12, .inl (nF wy)))] sz) [(am, .inr (9, [.int (nI 0), .int (nI n), .ref hk, .ref ht, .int (nI n1), .ref hk1, .ref ht1, .int (zb pb), .int (nI rn), .ref hfg, .ref hle, .ref hmo, .ref hwy, .int (nI tn), .ref htf, .long cm, .ref hod, .ref hwk, .ref hot, .int (nI ru), .ref hen])), (hk, .inl (ck, 150, .inl k)), (hfg, .inl (cfg, 12, .inl (nF fg))), (hle, .inl (cle, 12, .inr (.inl le))), (hmo, .inl (cmo, 12, .inr (.inl mo))), (hwy, .inl (cwy, 12, .inl (nF wy)))]) (va_A [(am, .inr (9, [.int (nI th), .int (nI n), .ref hk, .ref ht, .int (nI n1), .ref hk1, .ref ht1, .int (zb pb), .int (nI rn), .ref hfg, .ref hle, .ref hmo, .ref hwy, .int (nI tn), .ref htf, .long cm, .ref hod, .ref hwk, .ref hot, .int (nI ru), .ref hen])), (hk, .inl (ck, 150, .inl k)), (hfg, .inl (cfg, 12, .inl (nF fg))), (hle, .inl (cle, 12, .inr (.inl le))), (hmo, .inl (cmo, 12, .inr (.inl mo))), (hwy, .inl (cwy, 12, .inl (nF wy)))] sz)) 0 0 (va_A [(am, .inr (9, [.int (nI th), .int (nI n), .ref hk, .ref ht, .int (nI n1), .ref hk1, .ref ht1, .int (zb pb), .int (nI rn), .ref hfg, .ref hle, .ref hmo, .ref hwy, .int (nI tn), .ref htf, .long cm, .ref hod, .ref hwk, .ref hot, .int (nI ru), .ref hen])), (hk, .inl (ck, 150, .inl k)), (hfg, .inl (cfg, 12, .inl (nF fg))), (hle, .inl (cle, 12, .inr (.inl le))), (hmo, .inl (cmo, 12, .inr (.inl mo))), (hwy, .inl (cwy, 12, .inl (nF wy)))] sz) := by
  refine Met.ofW (cc := b_Mo_plan) (maxL := 1) (ret := (some .int)) (by decide) rfl ?_
  intro p e s m args below meth c s₁ B hml hv
  obtain ⟨ha, hsz, hP, hK, hD0⟩ := hv
  have hx := B.exec
  have hb := B.bytes
  have hr := B.returns
  have hts := atoms_spec (ws := ws_Mo_plan) B.pre
  have hg : ∀ w ∈ ALLG, w.before args s = true := fun w h => hts w (List.mem_cons_of_mem _ h)
  have hown : s.vm.findClass R_Mo = some m.cls := findClass_of_methodNamed B.named
  have hlocks := B.notSynchronized
  subst hsz
  have hD := hD0.self (sz := s.heap.size)
  generalize hAe : va_A [(am, .inr (9, [.int (nI th), .int (nI n), .ref hk, .ref ht, .int (nI n1), .ref hk1, .ref ht1, .int (zb pb), .int (nI rn), .ref hfg, .ref hle, .ref hmo, .ref hwy, .int (nI tn), .ref htf, .long cm, .ref hod, .ref hwk, .ref hot, .int (nI ru), .ref hen])), (hk, .inl (ck, 150, .inl k)), (hfg, .inl (cfg, 12, .inl (nF fg))), (hle, .inl (cle, 12, .inr (.inl le))), (hmo, .inl (cmo, 12, .inr (.inl mo))), (hwy, .inl (cwy, 12, .inl (nF wy)))] s.heap.size = A at hD ⊢
  have hA : ∀ q : Nat, s.heap.size ≤ q → A q := fun q h => by rw [← hAe]; exact Or.inr h
  have hS : va_S A s.heap s.heap [] := va_S.rf
  have hP : va_P DD vwCl [(am, .inr (9, [.int (nI th), .int (nI n), .ref hk, .ref ht, .int (nI n1), .ref hk1, .ref ht1, .int (zb pb), .int (nI rn), .ref hfg, .ref hle, .ref hmo, .ref hwy, .int (nI tn), .ref htf, .long cm, .ref hod, .ref hwk, .ref hot, .int (nI ru), .ref hen])), (hk, .inl (ck, 150, .inl k)), (hfg, .inl (cfg, 12, .inl (nF fg))), (hle, .inl (cle, 12, .inr (.inl le))), (hmo, .inl (cmo, 12, .inr (.inl mo))), (hwy, .inl (cwy, 12, .inl (nF wy)))] s.heap := hP
  have hl := lv_entry ([.ref am]) (n := 1) (Nat.le_of_ble_eq_true rfl)
  rw [ha, lg_entry_eq, ← ha]
  generalize (lg_sl ([.ref am]) ++ List.replicate (1 - (lg_sl ([.ref am])).length) Slot.unset).toArray = ls at hl ⊢
  have hl : lv_has ls 1 [(0, .ref am)] := hl
  refine lv_aload_n hx hb d_Mo_plan_0 rfl (lv_at hl 0 rfl) ?_
  refine lv_iconst (v := nI 0) hx hb d_Mo_plan_1 (by decide) ?_
  refine va_put (D := DD) (ci := 9) (v := .int (nI 0)) (ty := .int) (C := R_Mo) (T := T_Mo) (N := 21) hx hb hg in_Mo t_Mo to_Mo n_Mo hown hK hP hD hS 0 rfl rfl 0 (by decide) (hg _ mw_679) (fun _ h9 => h9) rfl (by decide +kernel) rfl rfl (Nat.le_of_ble_eq_true rfl) d_Mo_plan_2 (fun H locs hP hD hS => ?_)
  have hP : va_P DD vwCl [(am, .inr (9, [.int (nI 0), .int (nI n), .ref hk, .ref ht, .int (nI n1), .ref hk1, .ref ht1, .int (zb pb), .int (nI rn), .ref hfg, .ref hle, .ref hmo, .ref hwy, .int (nI tn), .ref htf, .long cm, .ref hod, .ref hwk, .ref hot, .int (nI ru), .ref hen])), (hk, .inl (ck, 150, .inl k)), (hfg, .inl (cfg, 12, .inl (nF fg))), (hle, .inl (cle, 12, .inr (.inl le))), (hmo, .inl (cmo, 12, .inr (.inl mo))), (hwy, .inl (cwy, 12, .inl (nF wy)))] H := hP
  have hD : va_D A [(am, .inr (9, [.int (nI 0), .int (nI n), .ref hk, .ref ht, .int (nI n1), .ref hk1, .ref ht1, .int (zb pb), .int (nI rn), .ref hfg, .ref hle, .ref hmo, .ref hwy, .int (nI tn), .ref htf, .long cm, .ref hod, .ref hwk, .ref hot, .int (nI ru), .ref hen])), (hk, .inl (ck, 150, .inl k)), (hfg, .inl (cfg, 12, .inl (nF fg))), (hle, .inl (cle, 12, .inr (.inl le))), (hmo, .inl (cmo, 12, .inr (.inl mo))), (hwy, .inl (cwy, 12, .inl (nF wy)))] := hD
  refine lv_aload_n hx hb d_Mo_plan_5 rfl (lv_at hl 0 rfl) ?_
  have hPc := hP.sub (ws' := [(am, .inr (9, [.int (nI 0), .int (nI n), .ref hk, .ref ht, .int (nI n1), .ref hk1, .ref ht1, .int (zb pb), .int (nI rn), .ref hfg, .ref hle, .ref hmo, .ref hwy, .int (nI tn), .ref htf, .long cm, .ref hod, .ref hwk, .ref hot, .int (nI ru), .ref hen])), (hk, .inl (ck, 150, .inl k)), (hfg, .inl (cfg, 12, .inl (nF fg))), (hle, .inl (cle, 12, .inr (.inl le))), (hmo, .inl (cmo, 12, .inr (.inl mo))), (hwy, .inl (cwy, 12, .inl (nF wy)))]) [0, 1, 2, 3, 4, 5] rfl
  have hKc := hK.sub (tys' := [(ck, .int), (cfg, .int), (cle, .long), (cmo, .long), (cwy, .int)]) [0, 1, 2, 3, 4] rfl
  refine vp_callSi (W.runV (As := []) (rest := []) ⟨hx, hb, hml, hown, hg⟩ (c_Mo_planned l DD am 0 n hk ck k ht n1 hk1 ht1 pb rn hfg cfg fg hle cle le hmo cmo mo hwy cwy wy tn htf cm hod hwk hot ru hen (by omega) (by omega) (by exact hf8) (by exact hw5)) (cwV 0 hg (gi_V mw_810 mw_812 ms_Mo_planned mw_11 mw_813) rfl rfl rfl (by decide +kernel) ⟨Nat.le_of_ble_eq_true rfl, Nat.le_of_ble_eq_true rfl⟩) ⟨z_blind, va_recv hKc hPc (ci := 9) (q0 := 0) rfl rfl, z_pre hPc hKc⟩ rfl rfl hl.1 rfl (lv_room (Nat.le_of_ble_eq_true rfl)) d_Mo_plan_6 ⟨Nat.zero_le _, Nat.zero_le _⟩) (fun r_6 hr_6 => ?_)
  subst hr_6
  have hP9 := hP.sub (ws' := [(am, .inr (9, [.int (nI 0), .int (nI n), .ref hk, .ref ht, .int (nI n1), .ref hk1, .ref ht1, .int (zb pb), .int (nI rn), .ref hfg, .ref hle, .ref hmo, .ref hwy, .int (nI tn), .ref htf, .long cm, .ref hod, .ref hwk, .ref hot, .int (nI ru), .ref hen])), (hk, .inl (ck, 150, .inl k)), (hfg, .inl (cfg, 12, .inl (nF fg))), (hle, .inl (cle, 12, .inr (.inl le))), (hmo, .inl (cmo, 12, .inr (.inl mo))), (hwy, .inl (cwy, 12, .inl (nF wy)))]) [0, 1, 2, 3, 4, 5] rfl
  have hD9 := hD.sub (ws' := [(am, .inr (9, [.int (nI 0), .int (nI n), .ref hk, .ref ht, .int (nI n1), .ref hk1, .ref ht1, .int (zb pb), .int (nI rn), .ref hfg, .ref hle, .ref hmo, .ref hwy, .int (nI tn), .ref htf, .long cm, .ref hod, .ref hwk, .ref hot, .int (nI ru), .ref hen])), (hk, .inl (ck, 150, .inl k)), (hfg, .inl (cfg, 12, .inl (nF fg))), (hle, .inl (cle, 12, .inr (.inl le))), (hmo, .inl (cmo, 12, .inr (.inl mo))), (hwy, .inl (cwy, 12, .inl (nF wy)))]) [0, 1, 2, 3, 4, 5] (by decide) rfl
  exact W.iret (v := nI (planF k n fg le mo wy rn rn)) hx hb hr (fun t9 ht9 hW9 => ⟨⟨_, (), rfl, rfl, by rw [ht9]; exact hP9, va_K.moved hW9.alike hK, hD9⟩, hS.F ht9⟩) hS.2.2 d_Mo_plan_9
theorem d_Mo_isFit_0 : decode b_Mo_isFit 0 = .ok (.aload_n 0, 1) := by decide +kernel
theorem d_Mo_isFit_1 : decode b_Mo_isFit 1 = .ok (.iload_n 1, 1) := by decide +kernel
theorem d_Mo_isFit_2 : decode b_Mo_isFit 2 = .ok (.invokestatic 86, 3) := by decide +kernel
theorem d_Mo_isFit_5 : decode b_Mo_isFit 5 = .ok (.ifCond .eq 7, 3) := by decide +kernel
theorem d_Mo_isFit_8 : decode b_Mo_isFit 8 = .ok (.iconst 0, 1) := by decide +kernel
theorem d_Mo_isFit_9 : decode b_Mo_isFit 9 = .ok (.goto 4, 3) := by decide +kernel
theorem d_Mo_isFit_12 : decode b_Mo_isFit 12 = .ok (.iconst 1, 1) := by decide +kernel
theorem d_Mo_isFit_13 : decode b_Mo_isFit 13 = .ok (.putfield 50, 3) := by decide +kernel
theorem d_Mo_isFit_16 : decode b_Mo_isFit 16 = .ok (.aload_n 0, 1) := by decide +kernel
theorem d_Mo_isFit_17 : decode b_Mo_isFit 17 = .ok (.getfield 50, 3) := by decide +kernel
theorem d_Mo_isFit_20 : decode b_Mo_isFit 20 = .ok (.ifCond .ne 15, 3) := by decide +kernel
theorem d_Mo_isFit_23 : decode b_Mo_isFit 23 = .ok (.aload_n 0, 1) := by decide +kernel
theorem d_Mo_isFit_24 : decode b_Mo_isFit 24 = .ok (.iload_n 1, 1) := by decide +kernel
theorem d_Mo_isFit_25 : decode b_Mo_isFit 25 = .ok (.invokevirtual 95, 3) := by decide +kernel
theorem d_Mo_isFit_28 : decode b_Mo_isFit 28 = .ok (.ifCond .eq 7, 3) := by decide +kernel
theorem d_Mo_isFit_31 : decode b_Mo_isFit 31 = .ok (.iconst 1, 1) := by decide +kernel
theorem d_Mo_isFit_32 : decode b_Mo_isFit 32 = .ok (.goto 4, 3) := by decide +kernel
theorem d_Mo_isFit_35 : decode b_Mo_isFit 35 = .ok (.iconst 0, 1) := by decide +kernel
theorem d_Mo_isFit_36 : decode b_Mo_isFit 36 = .ok (.ireturn, 1) := by decide +kernel
abbrev ws_Mo_isFit : List Cond := .code y_Mo_isFit b_Mo_isFit 2 (some .boolean) :: ALLG
abbrev rm_Mo_isFit : Room := { frames := 2, cells := 0, slots := 0, locals := 46 }
set_option maxHeartbeats 4000000 in
set_option maxRecDepth 100000 in
theorem c_Mo_isFit (l : Launch) (DD : va_G) (sz : Nat) (am : Nat) (th : Nat) (n : Nat) (hk : Nat) (ck : ClassId) (k : Nat → Int32) (ht : Nat) (n1 : Nat) (hk1 : Nat) (ht1 : Nat) (pb : Bool) (rn : Nat) (hfg : Nat) (hle : Nat) (hmo : Nat) (hwy : Nat) (tn : Nat) (htf : Nat) (cm : Int64) (hod : Nat) (hwk : Nat) (hot : Nat) (ru : Nat) (hen : Nat) (w : Nat) (hn : n ≤ 150) (hw5 : w < 5) : Met l y_Mo_isFit ws_Mo_isFit rm_Mo_isFit (va_Pc [.ref am, .int (nI w)] (fun U => U.heap.size = sz ∧ va_P DD vwCl [(am, .inr (9, [.int (nI th), .int (nI n), .ref hk, .ref ht, .int (nI n1), .ref hk1, .ref ht1, .int (zb pb), .int (nI rn), .ref hfg, .ref hle, .ref hmo, .ref hwy, .int (nI tn), .ref htf, .long cm, .ref hod, .ref hwk, .ref hot, .int (nI ru), .ref hen])), (hk, .inl (ck, 150, .inl k))] U.heap ∧ va_K DD vwCl [(ck, .int)] U ∧ va_D (fun _ => True) [(am, .inr (9, [.int (nI th), .int (nI n), .ref hk, .ref ht, .int (nI n1), .ref hk1, .ref ht1, .int (zb pb), .int (nI rn), .ref hfg, .ref hle, .ref hmo, .ref hwy, .int (nI tn), .ref htf, .long cm, .ref hod, .ref hwk, .ref hot, .int (nI ru), .ref hen])), (hk, .inl (ck, 150, .inl k))])) (va_Qi (fun (r9 : Int32) (u9 : Unit) => match u9 with | _ => r9 = zb (suB k n w)) (fun (u9 : Unit) (t9 : State) => match u9 with | _ => va_P DD vwCl [(am, .inr (9, [.int (nI 0), .int (nI n), .ref hk, .ref ht, .int (nI n1), .ref hk1, .ref ht1, .int (zb pb), .int (nI rn), .ref hfg, .ref hle, .ref hmo, .ref hwy, .int (nI tn), .ref htf, .long cm, .ref hod, .ref hwk, .ref hot, .int (nI ru), .ref hen])), (hk, .inl (ck, 150, .inl k))] t9.heap ∧ va_K DD vwCl [(ck, .int)] t9 ∧ va_D (va_A [(am, .inr (9, [.int (nI th), .int (nI n), .ref hk, .ref ht, .int (nI n1), .ref hk1, .ref ht1, .int (zb pb), .int (nI rn), .ref hfg, .ref hle, .ref hmo, .ref hwy, .int (nI tn), .ref htf, .long cm, .ref hod, .ref hwk, .ref hot, .int (nI ru), .ref hen])), (hk, .inl (ck, 150, .inl k))] sz) [(am, .inr (9, [.int (nI 0), .int (nI n), .ref hk, .ref ht, .int (nI n1), .ref hk1, .ref ht1, .int (zb pb), .int (nI rn), .ref hfg, .ref hle, .ref hmo, .ref hwy, .int (nI tn), .ref htf, .long cm, .ref hod, .ref hwk, .ref hot, .int (nI ru), .ref hen])), (hk, .inl (ck, 150, .inl k))]) (va_A [(am, .inr (9, [.int (nI th), .int (nI n), .ref hk, .ref ht, .int (nI n1), .ref hk1, .ref ht1, .int (zb pb), .int (nI rn), .ref hfg, .ref hle, .ref hmo, .ref hwy, .int (nI tn), .ref htf, .long cm, .ref hod, .ref hwk, .ref hot, .int (nI ru), .ref hen])), (hk, .inl (ck, 150, .inl k))] sz)) 0 0 (va_A [(am, .inr (9, [.int (nI th), .int (nI n), .ref hk, .ref ht, .int (nI n1), .ref hk1, .ref ht1, .int (zb pb), .int (nI rn), .ref hfg, .ref hle, .ref hmo, .ref hwy, .int (nI tn), .ref htf, .long cm, .ref hod, .ref hwk, .ref hot, .int (nI ru), .ref hen])), (hk, .inl (ck, 150, .inl k))] sz) := by
  refine Met.ofW (cc := b_Mo_isFit) (maxL := 2) (ret := (some .boolean)) (by decide) rfl ?_
  intro p e s m args below meth c s₁ B hml hv
  obtain ⟨ha, hsz, hP, hK, hD0⟩ := hv
  have hx := B.exec
  have hb := B.bytes
  have hr := B.returns
  have hts := atoms_spec (ws := ws_Mo_isFit) B.pre
  have hg : ∀ w ∈ ALLG, w.before args s = true := fun w h => hts w (List.mem_cons_of_mem _ h)
  have hown : s.vm.findClass R_Mo = some m.cls := findClass_of_methodNamed B.named
  have hlocks := B.notSynchronized
  subst hsz
  have hD := hD0.self (sz := s.heap.size)
  generalize hAe : va_A [(am, .inr (9, [.int (nI th), .int (nI n), .ref hk, .ref ht, .int (nI n1), .ref hk1, .ref ht1, .int (zb pb), .int (nI rn), .ref hfg, .ref hle, .ref hmo, .ref hwy, .int (nI tn), .ref htf, .long cm, .ref hod, .ref hwk, .ref hot, .int (nI ru), .ref hen])), (hk, .inl (ck, 150, .inl k))] s.heap.size = A at hD ⊢
  have hA : ∀ q : Nat, s.heap.size ≤ q → A q := fun q h => by rw [← hAe]; exact Or.inr h
  have hS : va_S A s.heap s.heap [] := va_S.rf
  have hP : va_P DD vwCl [(am, .inr (9, [.int (nI th), .int (nI n), .ref hk, .ref ht, .int (nI n1), .ref hk1, .ref ht1, .int (zb pb), .int (nI rn), .ref hfg, .ref hle, .ref hmo, .ref hwy, .int (nI tn), .ref htf, .long cm, .ref hod, .ref hwk, .ref hot, .int (nI ru), .ref hen])), (hk, .inl (ck, 150, .inl k))] s.heap := hP
  have hl := lv_entry ([.ref am, .int (nI w)]) (n := 2) (Nat.le_of_ble_eq_true rfl)
  rw [ha, lg_entry_eq, ← ha]
  generalize (lg_sl ([.ref am, .int (nI w)]) ++ List.replicate (2 - (lg_sl ([.ref am, .int (nI w)])).length) Slot.unset).toArray = ls at hl ⊢
  have hl : lv_has ls 2 [(0, .ref am), (1, .int (nI w))] := hl
  refine lv_aload_n hx hb d_Mo_isFit_0 rfl (lv_at hl 0 rfl) ?_
  refine lv_iload_n hx hb d_Mo_isFit_1 rfl (lv_at hl 1 rfl) ?_
  have hPc := hP.sub (ws' := []) [] rfl
  have hKc := hK.sub (tys' := []) [] rfl
  refine vp_callSi (W.runS (As := [.int (nI w)]) (rest := [.ref am]) ⟨hx, hb, hml, hown, hg⟩ (c_Mo_isWay l DD (nI w)) (cwS 1 hg (gi_S mw_799 mw_800 mw_11 mw_801) rfl rfl rfl (by decide +kernel) ⟨Nat.le_of_ble_eq_true rfl, Nat.le_of_ble_eq_true rfl⟩) ⟨z_blind, z_pre hPc hKc⟩ rfl rfl hl.1 rfl (lv_room (Nat.le_of_ble_eq_true rfl)) d_Mo_isFit_2 ⟨Nat.zero_le _, Nat.zero_le _⟩) (fun r_2 hr_2 => ?_)
  subst hr_2
  refine z_ifb_eq (tgt := 12) hx hb d_Mo_isFit_5 (by decide) (fun c_5 => ?_) (fun c_5 => ?_)
  · exact absurd c_5 (by rw [hasB_nI (by omega) (by omega)]; decide)
  · refine lv_iconst (v := nI 0) hx hb d_Mo_isFit_8 (by decide) ?_
    refine lv_goto (tgt := 13) hx hb d_Mo_isFit_9 (by decide) ?_
    refine va_put (D := DD) (ci := 9) (v := .int (nI 0)) (ty := .int) (C := R_Mo) (T := T_Mo) (N := 21) hx hb hg in_Mo t_Mo to_Mo n_Mo hown hK hP hD hS 0 rfl rfl 0 (by decide) (hg _ mw_679) (fun _ h9 => h9) rfl (by decide +kernel) rfl rfl (Nat.le_of_ble_eq_true rfl) d_Mo_isFit_13 (fun H locs hP hD hS => ?_)
    have hP : va_P DD vwCl [(am, .inr (9, [.int (nI 0), .int (nI n), .ref hk, .ref ht, .int (nI n1), .ref hk1, .ref ht1, .int (zb pb), .int (nI rn), .ref hfg, .ref hle, .ref hmo, .ref hwy, .int (nI tn), .ref htf, .long cm, .ref hod, .ref hwk, .ref hot, .int (nI ru), .ref hen])), (hk, .inl (ck, 150, .inl k))] H := hP
    have hD : va_D A [(am, .inr (9, [.int (nI 0), .int (nI n), .ref hk, .ref ht, .int (nI n1), .ref hk1, .ref ht1, .int (zb pb), .int (nI rn), .ref hfg, .ref hle, .ref hmo, .ref hwy, .int (nI tn), .ref htf, .long cm, .ref hod, .ref hwk, .ref hot, .int (nI ru), .ref hen])), (hk, .inl (ck, 150, .inl k))] := hD
    refine lv_aload_n hx hb d_Mo_isFit_16 rfl (lv_at hl 0 rfl) ?_
    refine va_get (D := DD) (ci := 9) (v := .int (nI 0)) (C := R_Mo) (T := T_Mo) (N := 21) hx hb hg in_Mo hown hK hP 0 rfl rfl 0 (by decide) (hg _ mw_679) (fun _ h9 => h9) rfl d_Mo_isFit_17 ?_
    refine z_if_ne (tgt := 35) hx hb d_Mo_isFit_20 (by decide) (by omega) (fun c_20 => ?_) (fun c_20 => ?_)
    · exact absurd c_20 (by decide)
    · refine lv_aload_n hx hb d_Mo_isFit_23 rfl (lv_at hl 0 rfl) ?_
      refine lv_iload_n hx hb d_Mo_isFit_24 rfl (lv_at hl 1 rfl) ?_
      have hPc := hP.sub (ws' := [(am, .inr (9, [.int (nI 0), .int (nI n), .ref hk, .ref ht, .int (nI n1), .ref hk1, .ref ht1, .int (zb pb), .int (nI rn), .ref hfg, .ref hle, .ref hmo, .ref hwy, .int (nI tn), .ref htf, .long cm, .ref hod, .ref hwk, .ref hot, .int (nI ru), .ref hen])), (hk, .inl (ck, 150, .inl k))]) [0, 1] rfl
      have hKc := hK.sub (tys' := [(ck, .int)]) [0] rfl
      refine vp_callSi (W.runV (As := [.int (nI w)]) (rest := []) ⟨hx, hb, hml, hown, hg⟩ (c_Mo_fits l DD am 0 n hk ck k ht n1 hk1 ht1 pb rn hfg hle hmo hwy tn htf cm hod hwk hot ru hen w (by omega) (by omega)) (cwV 1 hg (gi_V mw_814 mw_816 ms_Mo_fits mw_11 mw_817) rfl rfl rfl (by decide +kernel) ⟨Nat.le_of_ble_eq_true rfl, Nat.le_of_ble_eq_true rfl⟩) ⟨z_blind, va_recv hKc hPc (ci := 9) (q0 := 0) rfl rfl, z_pre hPc hKc⟩ rfl rfl hl.1 rfl (lv_room (Nat.le_of_ble_eq_true rfl)) d_Mo_isFit_25 ⟨Nat.zero_le _, Nat.zero_le _⟩) (fun r_25 hr_25 => ?_)
      subst hr_25
      refine z_ifb_eq (tgt := 35) hx hb d_Mo_isFit_28 (by decide) (fun c_28 => ?_) (fun c_28 => ?_)
      · refine lv_iconst (v := nI 0) hx hb d_Mo_isFit_35 (by decide) ?_
        have hP9 := hP.sub (ws' := [(am, .inr (9, [.int (nI 0), .int (nI n), .ref hk, .ref ht, .int (nI n1), .ref hk1, .ref ht1, .int (zb pb), .int (nI rn), .ref hfg, .ref hle, .ref hmo, .ref hwy, .int (nI tn), .ref htf, .long cm, .ref hod, .ref hwk, .ref hot, .int (nI ru), .ref hen])), (hk, .inl (ck, 150, .inl k))]) [0, 1] rfl
        have hD9 := hD.sub (ws' := [(am, .inr (9, [.int (nI 0), .int (nI n), .ref hk, .ref ht, .int (nI n1), .ref hk1, .ref ht1, .int (zb pb), .int (nI rn), .ref hfg, .ref hle, .ref hmo, .ref hwy, .int (nI tn), .ref htf, .long cm, .ref hod, .ref hwk, .ref hot, .int (nI ru), .ref hen])), (hk, .inl (ck, 150, .inl k))]) [0, 1] (by decide) rfl
        exact W.zret (v := nI 0) hx hb hr (by rfl) (fun t9 ht9 hW9 => ⟨⟨_, (), rfl, (by first | exact zb_t c_28 | exact zb_f c_28), by rw [ht9]; exact hP9, va_K.moved hW9.alike hK, hD9⟩, hS.F ht9⟩) hS.2.2 d_Mo_isFit_36
      · refine lv_iconst (v := nI 1) hx hb d_Mo_isFit_31 (by decide) ?_
        refine lv_goto (tgt := 36) hx hb d_Mo_isFit_32 (by decide) ?_
        have hP9 := hP.sub (ws' := [(am, .inr (9, [.int (nI 0), .int (nI n), .ref hk, .ref ht, .int (nI n1), .ref hk1, .ref ht1, .int (zb pb), .int (nI rn), .ref hfg, .ref hle, .ref hmo, .ref hwy, .int (nI tn), .ref htf, .long cm, .ref hod, .ref hwk, .ref hot, .int (nI ru), .ref hen])), (hk, .inl (ck, 150, .inl k))]) [0, 1] rfl
        have hD9 := hD.sub (ws' := [(am, .inr (9, [.int (nI 0), .int (nI n), .ref hk, .ref ht, .int (nI n1), .ref hk1, .ref ht1, .int (zb pb), .int (nI rn), .ref hfg, .ref hle, .ref hmo, .ref hwy, .int (nI tn), .ref htf, .long cm, .ref hod, .ref hwk, .ref hot, .int (nI ru), .ref hen])), (hk, .inl (ck, 150, .inl k))]) [0, 1] (by decide) rfl
        exact W.zret (v := nI 1) hx hb hr (by rfl) (fun t9 ht9 hW9 => ⟨⟨_, (), rfl, (by first | exact zb_t c_28 | exact zb_f c_28), by rw [ht9]; exact hP9, va_K.moved hW9.alike hK, hD9⟩, hS.F ht9⟩) hS.2.2 d_Mo_isFit_36
abbrev rm_Mo_isFit_T : Room := { frames := 1, cells := 0, slots := 0, locals := 20 }
set_option maxHeartbeats 4000000 in
set_option maxRecDepth 100000 in
theorem c_Mo_isFit_T (l : Launch) (DD : va_G) (sz : Nat) (am : Nat) (th : Nat) (n : Nat) (hk : Nat) (ht : Nat) (n1 : Nat) (hk1 : Nat) (ht1 : Nat) (pb : Bool) (rn : Nat) (hfg : Nat) (hle : Nat) (hmo : Nat) (hwy : Nat) (tn : Nat) (htf : Nat) (cm : Int64) (hod : Nat) (hwk : Nat) (hot : Nat) (ru : Nat) (hen : Nat) (v : Int32) (hf : hasB v 5 = false) : Met l y_Mo_isFit ws_Mo_isFit rm_Mo_isFit_T (va_Pc [.ref am, .int v] (fun U => U.heap.size = sz ∧ va_P DD vwCl [(am, .inr (9, [.int (nI th), .int (nI n), .ref hk, .ref ht, .int (nI n1), .ref hk1, .ref ht1, .int (zb pb), .int (nI rn), .ref hfg, .ref hle, .ref hmo, .ref hwy, .int (nI tn), .ref htf, .long cm, .ref hod, .ref hwk, .ref hot, .int (nI ru), .ref hen]))] U.heap ∧ va_K DD vwCl [] U ∧ va_D (fun _ => True) [(am, .inr (9, [.int (nI th), .int (nI n), .ref hk, .ref ht, .int (nI n1), .ref hk1, .ref ht1, .int (zb pb), .int (nI rn), .ref hfg, .ref hle, .ref hmo, .ref hwy, .int (nI tn), .ref htf, .long cm, .ref hod, .ref hwk, .ref hot, .int (nI ru), .ref hen]))])) (va_Qi (fun (r9 : Int32) (u9 : Unit) => match u9 with | _ => r9 = zb false) (fun (u9 : Unit) (t9 : State) => match u9 with | _ => va_P DD vwCl [(am, .inr (9, [.int (nI 1), .int (nI n), .ref hk, .ref ht, .int (nI n1), .ref hk1, .ref ht1, .int (zb pb), .int (nI rn), .ref hfg, .ref hle, .ref hmo, .ref hwy, .int (nI tn), .ref htf, .long cm, .ref hod, .ref hwk, .ref hot, .int (nI ru), .ref hen]))] t9.heap ∧ va_K DD vwCl [] t9 ∧ va_D (va_A [(am, .inr (9, [.int (nI th), .int (nI n), .ref hk, .ref ht, .int (nI n1), .ref hk1, .ref ht1, .int (zb pb), .int (nI rn), .ref hfg, .ref hle, .ref hmo, .ref hwy, .int (nI tn), .ref htf, .long cm, .ref hod, .ref hwk, .ref hot, .int (nI ru), .ref hen]))] sz) [(am, .inr (9, [.int (nI 1), .int (nI n), .ref hk, .ref ht, .int (nI n1), .ref hk1, .ref ht1, .int (zb pb), .int (nI rn), .ref hfg, .ref hle, .ref hmo, .ref hwy, .int (nI tn), .ref htf, .long cm, .ref hod, .ref hwk, .ref hot, .int (nI ru), .ref hen]))]) (va_A [(am, .inr (9, [.int (nI th), .int (nI n), .ref hk, .ref ht, .int (nI n1), .ref hk1, .ref ht1, .int (zb pb), .int (nI rn), .ref hfg, .ref hle, .ref hmo, .ref hwy, .int (nI tn), .ref htf, .long cm, .ref hod, .ref hwk, .ref hot, .int (nI ru), .ref hen]))] sz)) 0 0 (va_A [(am, .inr (9, [.int (nI th), .int (nI n), .ref hk, .ref ht, .int (nI n1), .ref hk1, .ref ht1, .int (zb pb), .int (nI rn), .ref hfg, .ref hle, .ref hmo, .ref hwy, .int (nI tn), .ref htf, .long cm, .ref hod, .ref hwk, .ref hot, .int (nI ru), .ref hen]))] sz) := by
  refine Met.ofW (cc := b_Mo_isFit) (maxL := 2) (ret := (some .boolean)) (by decide) rfl ?_
  intro p e s m args below meth c s₁ B hml hv
  obtain ⟨ha, hsz, hP, hK, hD0⟩ := hv
  have hx := B.exec
  have hb := B.bytes
  have hr := B.returns
  have hts := atoms_spec (ws := ws_Mo_isFit) B.pre
  have hg : ∀ w ∈ ALLG, w.before args s = true := fun w h => hts w (List.mem_cons_of_mem _ h)
  have hown : s.vm.findClass R_Mo = some m.cls := findClass_of_methodNamed B.named
  have hlocks := B.notSynchronized
  subst hsz
  have hD := hD0.self (sz := s.heap.size)
  generalize hAe : va_A [(am, .inr (9, [.int (nI th), .int (nI n), .ref hk, .ref ht, .int (nI n1), .ref hk1, .ref ht1, .int (zb pb), .int (nI rn), .ref hfg, .ref hle, .ref hmo, .ref hwy, .int (nI tn), .ref htf, .long cm, .ref hod, .ref hwk, .ref hot, .int (nI ru), .ref hen]))] s.heap.size = A at hD ⊢
  have hA : ∀ q : Nat, s.heap.size ≤ q → A q := fun q h => by rw [← hAe]; exact Or.inr h
  have hS : va_S A s.heap s.heap [] := va_S.rf
  have hP : va_P DD vwCl [(am, .inr (9, [.int (nI th), .int (nI n), .ref hk, .ref ht, .int (nI n1), .ref hk1, .ref ht1, .int (zb pb), .int (nI rn), .ref hfg, .ref hle, .ref hmo, .ref hwy, .int (nI tn), .ref htf, .long cm, .ref hod, .ref hwk, .ref hot, .int (nI ru), .ref hen]))] s.heap := hP
  have hl := lv_entry ([.ref am, .int v]) (n := 2) (Nat.le_of_ble_eq_true rfl)
  rw [ha, lg_entry_eq, ← ha]
  generalize (lg_sl ([.ref am, .int v]) ++ List.replicate (2 - (lg_sl ([.ref am, .int v])).length) Slot.unset).toArray = ls at hl ⊢
  have hl : lv_has ls 2 [(0, .ref am), (1, .int v)] := hl
  refine lv_aload_n hx hb d_Mo_isFit_0 rfl (lv_at hl 0 rfl) ?_
  refine lv_iload_n hx hb d_Mo_isFit_1 rfl (lv_at hl 1 rfl) ?_
  have hPc := hP.sub (ws' := []) [] rfl
  have hKc := hK.sub (tys' := []) [] rfl
  refine vp_callSi (W.runS (As := [.int v]) (rest := [.ref am]) ⟨hx, hb, hml, hown, hg⟩ (c_Mo_isWay l DD v) (cwS 1 hg (gi_S mw_799 mw_800 mw_11 mw_801) rfl rfl rfl (by decide +kernel) ⟨Nat.le_of_ble_eq_true rfl, Nat.le_of_ble_eq_true rfl⟩) ⟨z_blind, z_pre hPc hKc⟩ rfl rfl hl.1 rfl (lv_room (Nat.le_of_ble_eq_true rfl)) d_Mo_isFit_2 ⟨Nat.zero_le _, Nat.zero_le _⟩) (fun r_2 hr_2 => ?_)
  subst hr_2
  refine z_ifb_eq (tgt := 12) hx hb d_Mo_isFit_5 (by decide) (fun c_5 => ?_) (fun c_5 => ?_)
  · refine lv_iconst (v := nI 1) hx hb d_Mo_isFit_12 (by decide) ?_
    refine va_put (D := DD) (ci := 9) (v := .int (nI 1)) (ty := .int) (C := R_Mo) (T := T_Mo) (N := 21) hx hb hg in_Mo t_Mo to_Mo n_Mo hown hK hP hD hS 0 rfl rfl 0 (by decide) (hg _ mw_679) (fun _ h9 => h9) rfl (by decide +kernel) rfl rfl (Nat.le_of_ble_eq_true rfl) d_Mo_isFit_13 (fun H locs hP hD hS => ?_)
    have hP : va_P DD vwCl [(am, .inr (9, [.int (nI 1), .int (nI n), .ref hk, .ref ht, .int (nI n1), .ref hk1, .ref ht1, .int (zb pb), .int (nI rn), .ref hfg, .ref hle, .ref hmo, .ref hwy, .int (nI tn), .ref htf, .long cm, .ref hod, .ref hwk, .ref hot, .int (nI ru), .ref hen]))] H := hP
    have hD : va_D A [(am, .inr (9, [.int (nI 1), .int (nI n), .ref hk, .ref ht, .int (nI n1), .ref hk1, .ref ht1, .int (zb pb), .int (nI rn), .ref hfg, .ref hle, .ref hmo, .ref hwy, .int (nI tn), .ref htf, .long cm, .ref hod, .ref hwk, .ref hot, .int (nI ru), .ref hen]))] := hD
    refine lv_aload_n hx hb d_Mo_isFit_16 rfl (lv_at hl 0 rfl) ?_
    refine va_get (D := DD) (ci := 9) (v := .int (nI 1)) (C := R_Mo) (T := T_Mo) (N := 21) hx hb hg in_Mo hown hK hP 0 rfl rfl 0 (by decide) (hg _ mw_679) (fun _ h9 => h9) rfl d_Mo_isFit_17 ?_
    refine z_if_ne (tgt := 35) hx hb d_Mo_isFit_20 (by decide) (by omega) (fun c_20 => ?_) (fun c_20 => ?_)
    · refine lv_iconst (v := nI 0) hx hb d_Mo_isFit_35 (by decide) ?_
      have hP9 := hP.sub (ws' := [(am, .inr (9, [.int (nI 1), .int (nI n), .ref hk, .ref ht, .int (nI n1), .ref hk1, .ref ht1, .int (zb pb), .int (nI rn), .ref hfg, .ref hle, .ref hmo, .ref hwy, .int (nI tn), .ref htf, .long cm, .ref hod, .ref hwk, .ref hot, .int (nI ru), .ref hen]))]) [0] rfl
      have hD9 := hD.sub (ws' := [(am, .inr (9, [.int (nI 1), .int (nI n), .ref hk, .ref ht, .int (nI n1), .ref hk1, .ref ht1, .int (zb pb), .int (nI rn), .ref hfg, .ref hle, .ref hmo, .ref hwy, .int (nI tn), .ref htf, .long cm, .ref hod, .ref hwk, .ref hot, .int (nI ru), .ref hen]))]) [0] (by decide) rfl
      exact W.zret (v := nI 0) hx hb hr (by rfl) (fun t9 ht9 hW9 => ⟨⟨_, (), rfl, rfl, by rw [ht9]; exact hP9, va_K.moved hW9.alike hK, hD9⟩, hS.F ht9⟩) hS.2.2 d_Mo_isFit_36
    · exact absurd c_20 (by decide)
  · exact absurd c_5 (by rw [hf]; decide)
theorem d_Mo_tell_0 : decode b_Mo_tell 0 = .ok (.aload_n 0, 1) := by decide +kernel
theorem d_Mo_tell_1 : decode b_Mo_tell 1 = .ok (.getfield 35, 3) := by decide +kernel
theorem d_Mo_tell_4 : decode b_Mo_tell 4 = .ok (.iconst 3, 1) := by decide +kernel
theorem d_Mo_tell_5 : decode b_Mo_tell 5 = .ok (.aload_n 0, 1) := by decide +kernel
theorem d_Mo_tell_6 : decode b_Mo_tell 6 = .ok (.getfield 101, 3) := by decide +kernel
theorem d_Mo_tell_9 : decode b_Mo_tell 9 = .ok (.imul, 1) := by decide +kernel
theorem d_Mo_tell_10 : decode b_Mo_tell 10 = .ok (.iload_n 1, 1) := by decide +kernel
theorem d_Mo_tell_11 : decode b_Mo_tell 11 = .ok (.iastore, 1) := by decide +kernel
theorem d_Mo_tell_12 : decode b_Mo_tell 12 = .ok (.aload_n 0, 1) := by decide +kernel
theorem d_Mo_tell_13 : decode b_Mo_tell 13 = .ok (.getfield 35, 3) := by decide +kernel
theorem d_Mo_tell_16 : decode b_Mo_tell 16 = .ok (.iconst 3, 1) := by decide +kernel
theorem d_Mo_tell_17 : decode b_Mo_tell 17 = .ok (.aload_n 0, 1) := by decide +kernel
theorem d_Mo_tell_18 : decode b_Mo_tell 18 = .ok (.getfield 101, 3) := by decide +kernel
theorem d_Mo_tell_21 : decode b_Mo_tell 21 = .ok (.imul, 1) := by decide +kernel
theorem d_Mo_tell_22 : decode b_Mo_tell 22 = .ok (.iconst 1, 1) := by decide +kernel
theorem d_Mo_tell_23 : decode b_Mo_tell 23 = .ok (.iadd, 1) := by decide +kernel
theorem d_Mo_tell_24 : decode b_Mo_tell 24 = .ok (.iload_n 2, 1) := by decide +kernel
theorem d_Mo_tell_25 : decode b_Mo_tell 25 = .ok (.iastore, 1) := by decide +kernel
theorem d_Mo_tell_26 : decode b_Mo_tell 26 = .ok (.aload_n 0, 1) := by decide +kernel
theorem d_Mo_tell_27 : decode b_Mo_tell 27 = .ok (.getfield 35, 3) := by decide +kernel
theorem d_Mo_tell_30 : decode b_Mo_tell 30 = .ok (.iconst 3, 1) := by decide +kernel
theorem d_Mo_tell_31 : decode b_Mo_tell 31 = .ok (.aload_n 0, 1) := by decide +kernel
theorem d_Mo_tell_32 : decode b_Mo_tell 32 = .ok (.getfield 101, 3) := by decide +kernel
theorem d_Mo_tell_35 : decode b_Mo_tell 35 = .ok (.imul, 1) := by decide +kernel
theorem d_Mo_tell_36 : decode b_Mo_tell 36 = .ok (.iconst 2, 1) := by decide +kernel
theorem d_Mo_tell_37 : decode b_Mo_tell 37 = .ok (.iadd, 1) := by decide +kernel
theorem d_Mo_tell_38 : decode b_Mo_tell 38 = .ok (.iload_n 3, 1) := by decide +kernel
theorem d_Mo_tell_39 : decode b_Mo_tell 39 = .ok (.iastore, 1) := by decide +kernel
theorem d_Mo_tell_40 : decode b_Mo_tell 40 = .ok (.aload_n 0, 1) := by decide +kernel
theorem d_Mo_tell_41 : decode b_Mo_tell 41 = .ok (.dup, 1) := by decide +kernel
theorem d_Mo_tell_42 : decode b_Mo_tell 42 = .ok (.getfield 101, 3) := by decide +kernel
theorem d_Mo_tell_45 : decode b_Mo_tell 45 = .ok (.iconst 1, 1) := by decide +kernel
theorem d_Mo_tell_46 : decode b_Mo_tell 46 = .ok (.iadd, 1) := by decide +kernel
theorem d_Mo_tell_47 : decode b_Mo_tell 47 = .ok (.putfield 101, 3) := by decide +kernel
theorem d_Mo_tell_50 : decode b_Mo_tell 50 = .ok (.return_, 1) := by decide +kernel
abbrev ws_Mo_tell : List Cond := .code y_Mo_tell b_Mo_tell 4 none :: ALLG
abbrev rm_Mo_tell : Room := { frames := 0, cells := 0, slots := 0, locals := 0 }
set_option maxHeartbeats 4000000 in
set_option maxRecDepth 100000 in
theorem c_Mo_tell (l : Launch) (DD : va_G) (sz : Nat) (am : Nat) (th : Nat) (n : Nat) (hk : Nat) (ht : Nat) (n1 : Nat) (hk1 : Nat) (ht1 : Nat) (pb : Bool) (rn : Nat) (hfg : Nat) (hle : Nat) (hmo : Nat) (hwy : Nat) (tn : Nat) (htf : Nat) (ctf : ClassId) (tf : Nat → Int32) (cm : Int64) (hod : Nat) (hwk : Nat) (hot : Nat) (ru : Nat) (hen : Nat) (x : Int32) (y : Int32) (z : Int32) (htn : tn < 300) : Met l y_Mo_tell ws_Mo_tell rm_Mo_tell (va_Pc [.ref am, .int x, .int y, .int z] (fun U => U.heap.size = sz ∧ va_P DD vwCl [(am, .inr (9, [.int (nI th), .int (nI n), .ref hk, .ref ht, .int (nI n1), .ref hk1, .ref ht1, .int (zb pb), .int (nI rn), .ref hfg, .ref hle, .ref hmo, .ref hwy, .int (nI tn), .ref htf, .long cm, .ref hod, .ref hwk, .ref hot, .int (nI ru), .ref hen])), (htf, .inl (ctf, 900, .inl tf))] U.heap ∧ va_K DD vwCl [(ctf, .int)] U ∧ va_D (fun _ => True) [(am, .inr (9, [.int (nI th), .int (nI n), .ref hk, .ref ht, .int (nI n1), .ref hk1, .ref ht1, .int (zb pb), .int (nI rn), .ref hfg, .ref hle, .ref hmo, .ref hwy, .int (nI tn), .ref htf, .long cm, .ref hod, .ref hwk, .ref hot, .int (nI ru), .ref hen])), (htf, .inl (ctf, 900, .inl tf))])) (va_Qv (fun (u9 : Unit) => match u9 with | _ => True) (fun (u9 : Unit) (t9 : State) => match u9 with | _ => va_P DD vwCl [(am, .inr (9, [.int (nI th), .int (nI n), .ref hk, .ref ht, .int (nI n1), .ref hk1, .ref ht1, .int (zb pb), .int (nI rn), .ref hfg, .ref hle, .ref hmo, .ref hwy, .int (nI (tn + 1)), .ref htf, .long cm, .ref hod, .ref hwk, .ref hot, .int (nI ru), .ref hen])), (htf, .inl (ctf, 900, .inl (tadd tf tn x y z)))] t9.heap ∧ va_K DD vwCl [(ctf, .int)] t9 ∧ va_D (va_A [(am, .inr (9, [.int (nI th), .int (nI n), .ref hk, .ref ht, .int (nI n1), .ref hk1, .ref ht1, .int (zb pb), .int (nI rn), .ref hfg, .ref hle, .ref hmo, .ref hwy, .int (nI tn), .ref htf, .long cm, .ref hod, .ref hwk, .ref hot, .int (nI ru), .ref hen])), (htf, .inl (ctf, 900, .inl tf))] sz) [(am, .inr (9, [.int (nI th), .int (nI n), .ref hk, .ref ht, .int (nI n1), .ref hk1, .ref ht1, .int (zb pb), .int (nI rn), .ref hfg, .ref hle, .ref hmo, .ref hwy, .int (nI (tn + 1)), .ref htf, .long cm, .ref hod, .ref hwk, .ref hot, .int (nI ru), .ref hen])), (htf, .inl (ctf, 900, .inl (tadd tf tn x y z)))]) (va_A [(am, .inr (9, [.int (nI th), .int (nI n), .ref hk, .ref ht, .int (nI n1), .ref hk1, .ref ht1, .int (zb pb), .int (nI rn), .ref hfg, .ref hle, .ref hmo, .ref hwy, .int (nI tn), .ref htf, .long cm, .ref hod, .ref hwk, .ref hot, .int (nI ru), .ref hen])), (htf, .inl (ctf, 900, .inl tf))] sz)) 0 0 (va_A [(am, .inr (9, [.int (nI th), .int (nI n), .ref hk, .ref ht, .int (nI n1), .ref hk1, .ref ht1, .int (zb pb), .int (nI rn), .ref hfg, .ref hle, .ref hmo, .ref hwy, .int (nI tn), .ref htf, .long cm, .ref hod, .ref hwk, .ref hot, .int (nI ru), .ref hen])), (htf, .inl (ctf, 900, .inl tf))] sz) := by
  refine Met.ofW (cc := b_Mo_tell) (maxL := 4) (ret := none) (by decide) rfl ?_
  intro p e s m args below meth c s₁ B hml hv
  obtain ⟨ha, hsz, hP, hK, hD0⟩ := hv
  have hx := B.exec
  have hb := B.bytes
  have hr := B.returns
  have hts := atoms_spec (ws := ws_Mo_tell) B.pre
  have hg : ∀ w ∈ ALLG, w.before args s = true := fun w h => hts w (List.mem_cons_of_mem _ h)
  have hown : s.vm.findClass R_Mo = some m.cls := findClass_of_methodNamed B.named
  have hlocks := B.notSynchronized
  subst hsz
  have hD := hD0.self (sz := s.heap.size)
  generalize hAe : va_A [(am, .inr (9, [.int (nI th), .int (nI n), .ref hk, .ref ht, .int (nI n1), .ref hk1, .ref ht1, .int (zb pb), .int (nI rn), .ref hfg, .ref hle, .ref hmo, .ref hwy, .int (nI tn), .ref htf, .long cm, .ref hod, .ref hwk, .ref hot, .int (nI ru), .ref hen])), (htf, .inl (ctf, 900, .inl tf))] s.heap.size = A at hD ⊢
  have hA : ∀ q : Nat, s.heap.size ≤ q → A q := fun q h => by rw [← hAe]; exact Or.inr h
  have hS : va_S A s.heap s.heap [] := va_S.rf
  have hP : va_P DD vwCl [(am, .inr (9, [.int (nI th), .int (nI n), .ref hk, .ref ht, .int (nI n1), .ref hk1, .ref ht1, .int (zb pb), .int (nI rn), .ref hfg, .ref hle, .ref hmo, .ref hwy, .int (nI tn), .ref htf, .long cm, .ref hod, .ref hwk, .ref hot, .int (nI ru), .ref hen])), (htf, .inl (ctf, 900, .inl tf))] s.heap := hP
  have hl := lv_entry ([.ref am, .int x, .int y, .int z]) (n := 4) (Nat.le_of_ble_eq_true rfl)
  rw [ha, lg_entry_eq, ← ha]
  generalize (lg_sl ([.ref am, .int x, .int y, .int z]) ++ List.replicate (4 - (lg_sl ([.ref am, .int x, .int y, .int z])).length) Slot.unset).toArray = ls at hl ⊢
  have hl : lv_has ls 4 [(0, .ref am), (1, .int x), (2, .int y), (3, .int z)] := hl
  refine lv_aload_n hx hb d_Mo_tell_0 rfl (lv_at hl 0 rfl) ?_
  refine va_get (D := DD) (ci := 9) (v := .ref htf) (C := R_Mo) (T := T_Mo) (N := 21) hx hb hg in_Mo hown hK hP 0 rfl rfl 14 (by decide) (hg _ mw_693) (fun _ h9 => h9) rfl d_Mo_tell_1 ?_
  refine lv_iconst (v := nI 3) hx hb d_Mo_tell_4 (by decide) ?_
  refine lv_aload_n hx hb d_Mo_tell_5 rfl (lv_at hl 0 rfl) ?_
  refine va_get (D := DD) (ci := 9) (v := .int (nI tn)) (C := R_Mo) (T := T_Mo) (N := 21) hx hb hg in_Mo hown hK hP 0 rfl rfl 13 (by decide) (hg _ mw_692) (fun _ h9 => h9) rfl d_Mo_tell_6 ?_
  refine z_imul hx hb d_Mo_tell_9 ?_
  refine lv_iload_n hx hb d_Mo_tell_10 rfl (lv_at hl 1 rfl) ?_
  refine z_iast hx hb hK hP hD hS 1 0 rfl rfl (by omega) (by decide) d_Mo_tell_11 (fun H locs hP hD hS => ?_)
  have hP : va_P DD vwCl [(am, .inr (9, [.int (nI th), .int (nI n), .ref hk, .ref ht, .int (nI n1), .ref hk1, .ref ht1, .int (zb pb), .int (nI rn), .ref hfg, .ref hle, .ref hmo, .ref hwy, .int (nI tn), .ref htf, .long cm, .ref hod, .ref hwk, .ref hot, .int (nI ru), .ref hen])), (htf, .inl (ctf, 900, .inl (upd tf (3 * tn) x)))] H := hP
  have hD : va_D A [(am, .inr (9, [.int (nI th), .int (nI n), .ref hk, .ref ht, .int (nI n1), .ref hk1, .ref ht1, .int (zb pb), .int (nI rn), .ref hfg, .ref hle, .ref hmo, .ref hwy, .int (nI tn), .ref htf, .long cm, .ref hod, .ref hwk, .ref hot, .int (nI ru), .ref hen])), (htf, .inl (ctf, 900, .inl (upd tf (3 * tn) x)))] := hD
  refine lv_aload_n hx hb d_Mo_tell_12 rfl (lv_at hl 0 rfl) ?_
  refine va_get (D := DD) (ci := 9) (v := .ref htf) (C := R_Mo) (T := T_Mo) (N := 21) hx hb hg in_Mo hown hK hP 0 rfl rfl 14 (by decide) (hg _ mw_693) (fun _ h9 => h9) rfl d_Mo_tell_13 ?_
  refine lv_iconst (v := nI 3) hx hb d_Mo_tell_16 (by decide) ?_
  refine lv_aload_n hx hb d_Mo_tell_17 rfl (lv_at hl 0 rfl) ?_
  refine va_get (D := DD) (ci := 9) (v := .int (nI tn)) (C := R_Mo) (T := T_Mo) (N := 21) hx hb hg in_Mo hown hK hP 0 rfl rfl 13 (by decide) (hg _ mw_692) (fun _ h9 => h9) rfl d_Mo_tell_18 ?_
  refine z_imul hx hb d_Mo_tell_21 ?_
  refine lv_iconst (v := nI 1) hx hb d_Mo_tell_22 (by decide) ?_
  refine z_iadd hx hb d_Mo_tell_23 ?_
  refine lv_iload_n hx hb d_Mo_tell_24 rfl (lv_at hl 2 rfl) ?_
  refine z_iast hx hb hK hP hD hS 1 0 rfl rfl (by omega) (by decide) d_Mo_tell_25 (fun H locs hP hD hS => ?_)
  have hP : va_P DD vwCl [(am, .inr (9, [.int (nI th), .int (nI n), .ref hk, .ref ht, .int (nI n1), .ref hk1, .ref ht1, .int (zb pb), .int (nI rn), .ref hfg, .ref hle, .ref hmo, .ref hwy, .int (nI tn), .ref htf, .long cm, .ref hod, .ref hwk, .ref hot, .int (nI ru), .ref hen])), (htf, .inl (ctf, 900, .inl (upd (upd tf (3 * tn) x) ((3 * tn) + 1) y)))] H := hP
  have hD : va_D A [(am, .inr (9, [.int (nI th), .int (nI n), .ref hk, .ref ht, .int (nI n1), .ref hk1, .ref ht1, .int (zb pb), .int (nI rn), .ref hfg, .ref hle, .ref hmo, .ref hwy, .int (nI tn), .ref htf, .long cm, .ref hod, .ref hwk, .ref hot, .int (nI ru), .ref hen])), (htf, .inl (ctf, 900, .inl (upd (upd tf (3 * tn) x) ((3 * tn) + 1) y)))] := hD
  refine lv_aload_n hx hb d_Mo_tell_26 rfl (lv_at hl 0 rfl) ?_
  refine va_get (D := DD) (ci := 9) (v := .ref htf) (C := R_Mo) (T := T_Mo) (N := 21) hx hb hg in_Mo hown hK hP 0 rfl rfl 14 (by decide) (hg _ mw_693) (fun _ h9 => h9) rfl d_Mo_tell_27 ?_
  refine lv_iconst (v := nI 3) hx hb d_Mo_tell_30 (by decide) ?_
  refine lv_aload_n hx hb d_Mo_tell_31 rfl (lv_at hl 0 rfl) ?_
  refine va_get (D := DD) (ci := 9) (v := .int (nI tn)) (C := R_Mo) (T := T_Mo) (N := 21) hx hb hg in_Mo hown hK hP 0 rfl rfl 13 (by decide) (hg _ mw_692) (fun _ h9 => h9) rfl d_Mo_tell_32 ?_
  refine z_imul hx hb d_Mo_tell_35 ?_
  refine lv_iconst (v := nI 2) hx hb d_Mo_tell_36 (by decide) ?_
  refine z_iadd hx hb d_Mo_tell_37 ?_
  refine lv_iload_n hx hb d_Mo_tell_38 rfl (lv_at hl 3 rfl) ?_
  refine z_iast hx hb hK hP hD hS 1 0 rfl rfl (by omega) (by decide) d_Mo_tell_39 (fun H locs hP hD hS => ?_)
  have hP : va_P DD vwCl [(am, .inr (9, [.int (nI th), .int (nI n), .ref hk, .ref ht, .int (nI n1), .ref hk1, .ref ht1, .int (zb pb), .int (nI rn), .ref hfg, .ref hle, .ref hmo, .ref hwy, .int (nI tn), .ref htf, .long cm, .ref hod, .ref hwk, .ref hot, .int (nI ru), .ref hen])), (htf, .inl (ctf, 900, .inl (upd (upd (upd tf (3 * tn) x) ((3 * tn) + 1) y) ((3 * tn) + 2) z)))] H := hP
  have hD : va_D A [(am, .inr (9, [.int (nI th), .int (nI n), .ref hk, .ref ht, .int (nI n1), .ref hk1, .ref ht1, .int (zb pb), .int (nI rn), .ref hfg, .ref hle, .ref hmo, .ref hwy, .int (nI tn), .ref htf, .long cm, .ref hod, .ref hwk, .ref hot, .int (nI ru), .ref hen])), (htf, .inl (ctf, 900, .inl (upd (upd (upd tf (3 * tn) x) ((3 * tn) + 1) y) ((3 * tn) + 2) z)))] := hD
  refine lv_aload_n hx hb d_Mo_tell_40 rfl (lv_at hl 0 rfl) ?_
  refine lv_dup hx hb d_Mo_tell_41 rfl ?_
  refine va_get (D := DD) (ci := 9) (v := .int (nI tn)) (C := R_Mo) (T := T_Mo) (N := 21) hx hb hg in_Mo hown hK hP 0 rfl rfl 13 (by decide) (hg _ mw_692) (fun _ h9 => h9) rfl d_Mo_tell_42 ?_
  refine lv_iconst (v := nI 1) hx hb d_Mo_tell_45 (by decide) ?_
  refine z_iadd hx hb d_Mo_tell_46 ?_
  refine va_put (D := DD) (ci := 9) (v := .int (nI (tn + 1))) (ty := .int) (C := R_Mo) (T := T_Mo) (N := 21) hx hb hg in_Mo t_Mo to_Mo n_Mo hown hK hP hD hS 0 rfl rfl 13 (by decide) (hg _ mw_692) (fun _ h9 => h9) rfl (by decide +kernel) rfl rfl (Nat.le_of_ble_eq_true rfl) d_Mo_tell_47 (fun H locs hP hD hS => ?_)
  have hP : va_P DD vwCl [(am, .inr (9, [.int (nI th), .int (nI n), .ref hk, .ref ht, .int (nI n1), .ref hk1, .ref ht1, .int (zb pb), .int (nI rn), .ref hfg, .ref hle, .ref hmo, .ref hwy, .int (nI (tn + 1)), .ref htf, .long cm, .ref hod, .ref hwk, .ref hot, .int (nI ru), .ref hen])), (htf, .inl (ctf, 900, .inl (upd (upd (upd tf (3 * tn) x) ((3 * tn) + 1) y) ((3 * tn) + 2) z)))] H := hP
  have hD : va_D A [(am, .inr (9, [.int (nI th), .int (nI n), .ref hk, .ref ht, .int (nI n1), .ref hk1, .ref ht1, .int (zb pb), .int (nI rn), .ref hfg, .ref hle, .ref hmo, .ref hwy, .int (nI (tn + 1)), .ref htf, .long cm, .ref hod, .ref hwk, .ref hot, .int (nI ru), .ref hen])), (htf, .inl (ctf, 900, .inl (upd (upd (upd tf (3 * tn) x) ((3 * tn) + 1) y) ((3 * tn) + 2) z)))] := hD
  rw [show upd (upd (upd tf (3 * tn) x) ((3 * tn) + 1) y) ((3 * tn) + 2) z = tadd tf tn x y z from tadd_m tf tn x y z] at hP hD
  have hP9 := hP.sub (ws' := [(am, .inr (9, [.int (nI th), .int (nI n), .ref hk, .ref ht, .int (nI n1), .ref hk1, .ref ht1, .int (zb pb), .int (nI rn), .ref hfg, .ref hle, .ref hmo, .ref hwy, .int (nI (tn + 1)), .ref htf, .long cm, .ref hod, .ref hwk, .ref hot, .int (nI ru), .ref hen])), (htf, .inl (ctf, 900, .inl (tadd tf tn x y z)))]) [0, 1] rfl
  have hD9 := hD.sub (ws' := [(am, .inr (9, [.int (nI th), .int (nI n), .ref hk, .ref ht, .int (nI n1), .ref hk1, .ref ht1, .int (zb pb), .int (nI rn), .ref hfg, .ref hle, .ref hmo, .ref hwy, .int (nI (tn + 1)), .ref htf, .long cm, .ref hod, .ref hwk, .ref hot, .int (nI ru), .ref hen])), (htf, .inl (ctf, 900, .inl (tadd tf tn x y z)))]) [0, 1] (by decide) rfl
  exact W.vret hx hb hr (fun t9 ht9 hW9 => ⟨⟨(), rfl, trivial, by rw [ht9]; exact hP9, va_K.moved hW9.alike hK, hD9⟩, hS.F ht9⟩) hS.2.2 d_Mo_tell_50
theorem d_Mo_findOrder_0 : decode b_Mo_findOrder 0 = .ok (.iconst 0, 1) := by decide +kernel
theorem d_Mo_findOrder_1 : decode b_Mo_findOrder 1 = .ok (.istore_n 1, 1) := by decide +kernel
theorem d_Mo_findOrder_2 : decode b_Mo_findOrder 2 = .ok (.iload_n 1, 1) := by decide +kernel
theorem d_Mo_findOrder_3 : decode b_Mo_findOrder 3 = .ok (.aload_n 0, 1) := by decide +kernel
theorem d_Mo_findOrder_4 : decode b_Mo_findOrder 4 = .ok (.getfield 54, 3) := by decide +kernel
theorem d_Mo_findOrder_7 : decode b_Mo_findOrder 7 = .ok (.if_icmp .ge 77, 3) := by decide +kernel
theorem d_Mo_findOrder_10 : decode b_Mo_findOrder 10 = .ok (.iconst 0, 1) := by decide +kernel
theorem d_Mo_findOrder_11 : decode b_Mo_findOrder 11 = .ok (.istore_n 2, 1) := by decide +kernel
theorem d_Mo_findOrder_12 : decode b_Mo_findOrder 12 = .ok (.iconst 0, 1) := by decide +kernel
theorem d_Mo_findOrder_13 : decode b_Mo_findOrder 13 = .ok (.istore_n 3, 1) := by decide +kernel
theorem d_Mo_findOrder_14 : decode b_Mo_findOrder 14 = .ok (.iload_n 3, 1) := by decide +kernel
theorem d_Mo_findOrder_15 : decode b_Mo_findOrder 15 = .ok (.aload_n 0, 1) := by decide +kernel
theorem d_Mo_findOrder_16 : decode b_Mo_findOrder 16 = .ok (.getfield 54, 3) := by decide +kernel
theorem d_Mo_findOrder_19 : decode b_Mo_findOrder 19 = .ok (.if_icmp .ge 52, 3) := by decide +kernel
theorem d_Mo_findOrder_22 : decode b_Mo_findOrder 22 = .ok (.aload_n 0, 1) := by decide +kernel
theorem d_Mo_findOrder_23 : decode b_Mo_findOrder 23 = .ok (.getfield 7, 3) := by decide +kernel
theorem d_Mo_findOrder_26 : decode b_Mo_findOrder 26 = .ok (.iload_n 3, 1) := by decide +kernel
theorem d_Mo_findOrder_27 : decode b_Mo_findOrder 27 = .ok (.iaload, 1) := by decide +kernel
theorem d_Mo_findOrder_28 : decode b_Mo_findOrder 28 = .ok (.aload_n 0, 1) := by decide +kernel
theorem d_Mo_findOrder_29 : decode b_Mo_findOrder 29 = .ok (.getfield 7, 3) := by decide +kernel
theorem d_Mo_findOrder_32 : decode b_Mo_findOrder 32 = .ok (.iload_n 1, 1) := by decide +kernel
theorem d_Mo_findOrder_33 : decode b_Mo_findOrder 33 = .ok (.iaload, 1) := by decide +kernel
theorem d_Mo_findOrder_34 : decode b_Mo_findOrder 34 = .ok (.if_icmp .lt 23, 3) := by decide +kernel
theorem d_Mo_findOrder_37 : decode b_Mo_findOrder 37 = .ok (.aload_n 0, 1) := by decide +kernel
theorem d_Mo_findOrder_38 : decode b_Mo_findOrder 38 = .ok (.getfield 7, 3) := by decide +kernel
theorem d_Mo_findOrder_41 : decode b_Mo_findOrder 41 = .ok (.iload_n 3, 1) := by decide +kernel
theorem d_Mo_findOrder_42 : decode b_Mo_findOrder 42 = .ok (.iaload, 1) := by decide +kernel
theorem d_Mo_findOrder_43 : decode b_Mo_findOrder 43 = .ok (.aload_n 0, 1) := by decide +kernel
theorem d_Mo_findOrder_44 : decode b_Mo_findOrder 44 = .ok (.getfield 7, 3) := by decide +kernel
theorem d_Mo_findOrder_47 : decode b_Mo_findOrder 47 = .ok (.iload_n 1, 1) := by decide +kernel
theorem d_Mo_findOrder_48 : decode b_Mo_findOrder 48 = .ok (.iaload, 1) := by decide +kernel
theorem d_Mo_findOrder_49 : decode b_Mo_findOrder 49 = .ok (.if_icmp .ne 14, 3) := by decide +kernel
theorem d_Mo_findOrder_52 : decode b_Mo_findOrder 52 = .ok (.iload_n 3, 1) := by decide +kernel
theorem d_Mo_findOrder_53 : decode b_Mo_findOrder 53 = .ok (.iload_n 1, 1) := by decide +kernel
theorem d_Mo_findOrder_54 : decode b_Mo_findOrder 54 = .ok (.if_icmp .ge 9, 3) := by decide +kernel
theorem d_Mo_findOrder_57 : decode b_Mo_findOrder 57 = .ok (.iload_n 2, 1) := by decide +kernel
theorem d_Mo_findOrder_58 : decode b_Mo_findOrder 58 = .ok (.iconst 1, 1) := by decide +kernel
theorem d_Mo_findOrder_59 : decode b_Mo_findOrder 59 = .ok (.iadd, 1) := by decide +kernel
theorem d_Mo_findOrder_60 : decode b_Mo_findOrder 60 = .ok (.goto 4, 3) := by decide +kernel
theorem d_Mo_findOrder_63 : decode b_Mo_findOrder 63 = .ok (.iload_n 2, 1) := by decide +kernel
theorem d_Mo_findOrder_64 : decode b_Mo_findOrder 64 = .ok (.istore_n 2, 1) := by decide +kernel
theorem d_Mo_findOrder_65 : decode b_Mo_findOrder 65 = .ok (.iinc 3 1, 3) := by decide +kernel
theorem d_Mo_findOrder_68 : decode b_Mo_findOrder 68 = .ok (.goto (-54), 3) := by decide +kernel
theorem d_Mo_findOrder_71 : decode b_Mo_findOrder 71 = .ok (.aload_n 0, 1) := by decide +kernel
theorem d_Mo_findOrder_72 : decode b_Mo_findOrder 72 = .ok (.getfield 44, 3) := by decide +kernel
theorem d_Mo_findOrder_75 : decode b_Mo_findOrder 75 = .ok (.iload_n 2, 1) := by decide +kernel
theorem d_Mo_findOrder_76 : decode b_Mo_findOrder 76 = .ok (.iload_n 1, 1) := by decide +kernel
theorem d_Mo_findOrder_77 : decode b_Mo_findOrder 77 = .ok (.iastore, 1) := by decide +kernel
theorem d_Mo_findOrder_78 : decode b_Mo_findOrder 78 = .ok (.iinc 1 1, 3) := by decide +kernel
theorem d_Mo_findOrder_81 : decode b_Mo_findOrder 81 = .ok (.goto (-79), 3) := by decide +kernel
theorem d_Mo_findOrder_84 : decode b_Mo_findOrder 84 = .ok (.return_, 1) := by decide +kernel
abbrev ws_Mo_findOrder : List Cond := .code y_Mo_findOrder b_Mo_findOrder 4 none :: ALLG
abbrev rm_Mo_findOrder : Room := { frames := 0, cells := 0, slots := 0, locals := 0 }
set_option maxHeartbeats 4000000 in
set_option maxRecDepth 100000 in
theorem c_Mo_findOrder (l : Launch) (DD : va_G) (sz : Nat) (am : Nat) (th : Nat) (n : Nat) (hk : Nat) (ck : ClassId) (k : Nat → Int32) (ht : Nat) (n1 : Nat) (hk1 : Nat) (ht1 : Nat) (pb : Bool) (rn : Nat) (hfg : Nat) (hle : Nat) (hmo : Nat) (hwy : Nat) (tn : Nat) (htf : Nat) (cm : Int64) (hod : Nat) (hwk : Nat) (hot : Nat) (cot : ClassId) (ot : Nat → Int32) (ru : Nat) (hen : Nat) (hn : n ≤ 150) : Met l y_Mo_findOrder ws_Mo_findOrder rm_Mo_findOrder (va_Pc [.ref am] (fun U => U.heap.size = sz ∧ va_P DD vwCl [(am, .inr (9, [.int (nI th), .int (nI n), .ref hk, .ref ht, .int (nI n1), .ref hk1, .ref ht1, .int (zb pb), .int (nI rn), .ref hfg, .ref hle, .ref hmo, .ref hwy, .int (nI tn), .ref htf, .long cm, .ref hod, .ref hwk, .ref hot, .int (nI ru), .ref hen])), (hk, .inl (ck, 150, .inl k)), (hot, .inl (cot, 150, .inl ot))] U.heap ∧ va_K DD vwCl [(ck, .int), (cot, .int)] U ∧ va_D (fun _ => True) [(am, .inr (9, [.int (nI th), .int (nI n), .ref hk, .ref ht, .int (nI n1), .ref hk1, .ref ht1, .int (zb pb), .int (nI rn), .ref hfg, .ref hle, .ref hmo, .ref hwy, .int (nI tn), .ref htf, .long cm, .ref hod, .ref hwk, .ref hot, .int (nI ru), .ref hen])), (hk, .inl (ck, 150, .inl k)), (hot, .inl (cot, 150, .inl ot))])) (va_Qv (fun (u9 : Unit) => match u9 with | _ => True) (fun (u9 : Unit) (t9 : State) => match u9 with | _ => va_P DD vwCl [(am, .inr (9, [.int (nI th), .int (nI n), .ref hk, .ref ht, .int (nI n1), .ref hk1, .ref ht1, .int (zb pb), .int (nI rn), .ref hfg, .ref hle, .ref hmo, .ref hwy, .int (nI tn), .ref htf, .long cm, .ref hod, .ref hwk, .ref hot, .int (nI ru), .ref hen])), (hk, .inl (ck, 150, .inl k)), (hot, .inl (cot, 150, .inl (foF k n ot n)))] t9.heap ∧ va_K DD vwCl [(ck, .int), (cot, .int)] t9 ∧ va_D (va_A [(am, .inr (9, [.int (nI th), .int (nI n), .ref hk, .ref ht, .int (nI n1), .ref hk1, .ref ht1, .int (zb pb), .int (nI rn), .ref hfg, .ref hle, .ref hmo, .ref hwy, .int (nI tn), .ref htf, .long cm, .ref hod, .ref hwk, .ref hot, .int (nI ru), .ref hen])), (hk, .inl (ck, 150, .inl k)), (hot, .inl (cot, 150, .inl ot))] sz) [(am, .inr (9, [.int (nI th), .int (nI n), .ref hk, .ref ht, .int (nI n1), .ref hk1, .ref ht1, .int (zb pb), .int (nI rn), .ref hfg, .ref hle, .ref hmo, .ref hwy, .int (nI tn), .ref htf, .long cm, .ref hod, .ref hwk, .ref hot, .int (nI ru), .ref hen])), (hk, .inl (ck, 150, .inl k)), (hot, .inl (cot, 150, .inl (foF k n ot n)))]) (va_A [(am, .inr (9, [.int (nI th), .int (nI n), .ref hk, .ref ht, .int (nI n1), .ref hk1, .ref ht1, .int (zb pb), .int (nI rn), .ref hfg, .ref hle, .ref hmo, .ref hwy, .int (nI tn), .ref htf, .long cm, .ref hod, .ref hwk, .ref hot, .int (nI ru), .ref hen])), (hk, .inl (ck, 150, .inl k)), (hot, .inl (cot, 150, .inl ot))] sz)) 0 0 (va_A [(am, .inr (9, [.int (nI th), .int (nI n), .ref hk, .ref ht, .int (nI n1), .ref hk1, .ref ht1, .int (zb pb), .int (nI rn), .ref hfg, .ref hle, .ref hmo, .ref hwy, .int (nI tn), .ref htf, .long cm, .ref hod, .ref hwk, .ref hot, .int (nI ru), .ref hen])), (hk, .inl (ck, 150, .inl k)), (hot, .inl (cot, 150, .inl ot))] sz) := by
  refine Met.ofW (cc := b_Mo_findOrder) (maxL := 4) (ret := none) (by decide) rfl ?_
  intro p e s m args below meth c s₁ B hml hv
  obtain ⟨ha, hsz, hP, hK, hD0⟩ := hv
  have hx := B.exec
  have hb := B.bytes
  have hr := B.returns
  have hts := atoms_spec (ws := ws_Mo_findOrder) B.pre
  have hg : ∀ w ∈ ALLG, w.before args s = true := fun w h => hts w (List.mem_cons_of_mem _ h)
  have hown : s.vm.findClass R_Mo = some m.cls := findClass_of_methodNamed B.named
  have hlocks := B.notSynchronized
  subst hsz
  have hD := hD0.self (sz := s.heap.size)
  generalize hAe : va_A [(am, .inr (9, [.int (nI th), .int (nI n), .ref hk, .ref ht, .int (nI n1), .ref hk1, .ref ht1, .int (zb pb), .int (nI rn), .ref hfg, .ref hle, .ref hmo, .ref hwy, .int (nI tn), .ref htf, .long cm, .ref hod, .ref hwk, .ref hot, .int (nI ru), .ref hen])), (hk, .inl (ck, 150, .inl k)), (hot, .inl (cot, 150, .inl ot))] s.heap.size = A at hD ⊢
  have hA : ∀ q : Nat, s.heap.size ≤ q → A q := fun q h => by rw [← hAe]; exact Or.inr h
  have hS : va_S A s.heap s.heap [] := va_S.rf
  have hP : va_P DD vwCl [(am, .inr (9, [.int (nI th), .int (nI n), .ref hk, .ref ht, .int (nI n1), .ref hk1, .ref ht1, .int (zb pb), .int (nI rn), .ref hfg, .ref hle, .ref hmo, .ref hwy, .int (nI tn), .ref htf, .long cm, .ref hod, .ref hwk, .ref hot, .int (nI ru), .ref hen])), (hk, .inl (ck, 150, .inl k)), (hot, .inl (cot, 150, .inl ot))] s.heap := hP
  have hl := lv_entry ([.ref am]) (n := 4) (Nat.le_of_ble_eq_true rfl)
  rw [ha, lg_entry_eq, ← ha]
  generalize (lg_sl ([.ref am]) ++ List.replicate (4 - (lg_sl ([.ref am])).length) Slot.unset).toArray = ls at hl ⊢
  have hl : lv_has ls 4 [(0, .ref am)] := hl
  have K2 : ∀ (kk : Nat) (i : Nat), (hi : i ≤ n) → n - i < kk → ∀ (H : Heap) (locs : List Loc), va_P DD vwCl [(am, .inr (9, [.int (nI th), .int (nI n), .ref hk, .ref ht, .int (nI n1), .ref hk1, .ref ht1, .int (zb pb), .int (nI rn), .ref hfg, .ref hle, .ref hmo, .ref hwy, .int (nI tn), .ref htf, .long cm, .ref hod, .ref hwk, .ref hot, .int (nI ru), .ref hen])), (hk, .inl (ck, 150, .inl k)), (hot, .inl (cot, 150, .inl (foF k n ot i)))] H → va_D A [(am, .inr (9, [.int (nI th), .int (nI n), .ref hk, .ref ht, .int (nI n1), .ref hk1, .ref ht1, .int (zb pb), .int (nI rn), .ref hfg, .ref hle, .ref hmo, .ref hwy, .int (nI tn), .ref htf, .long cm, .ref hod, .ref hwk, .ref hot, .int (nI ru), .ref hen])), (hk, .inl (ck, 150, .inl k)), (hot, .inl (cot, 150, .inl (foF k n ot i)))] → va_S A s.heap H locs → ∀ (ls : Array Slot), lv_has ls 4 [(0, .ref am), (1, .int (nI i))] → W p l e (headSpec ws_Mo_findOrder rm_Mo_findOrder).room s m args below meth c H locs 0 0 (MQ below (va_Qv (fun (u9 : Unit) => match u9 with | _ => True) (fun (u9 : Unit) (t9 : State) => match u9 with | _ => va_P DD vwCl [(am, .inr (9, [.int (nI th), .int (nI n), .ref hk, .ref ht, .int (nI n1), .ref hk1, .ref ht1, .int (zb pb), .int (nI rn), .ref hfg, .ref hle, .ref hmo, .ref hwy, .int (nI tn), .ref htf, .long cm, .ref hod, .ref hwk, .ref hot, .int (nI ru), .ref hen])), (hk, .inl (ck, 150, .inl k)), (hot, .inl (cot, 150, .inl (foF k n ot n)))] t9.heap ∧ va_K DD vwCl [(ck, .int), (cot, .int)] t9 ∧ va_D A [(am, .inr (9, [.int (nI th), .int (nI n), .ref hk, .ref ht, .int (nI n1), .ref hk1, .ref ht1, .int (zb pb), .int (nI rn), .ref hfg, .ref hle, .ref hmo, .ref hwy, .int (nI tn), .ref htf, .long cm, .ref hod, .ref hwk, .ref hot, .int (nI ru), .ref hen])), (hk, .inl (ck, 150, .inl k)), (hot, .inl (cot, 150, .inl (foF k n ot n)))]) A) args s 0 0 A) (F0 m 2 ls []) := by
    intro kk
    induction kk with
    | zero => intros; omega
    | succ kk ih2 =>
      intro i hi hkk H locs hP hD hS ls hl
      have K14 : ∀ (kk : Nat) (j : Nat) (q : Nat), (hlt : i < n) → (hj : j ≤ n) → (hq : q = cnt (fun a => goesB k a i) j) → n - j < kk → ∀ (ls : Array Slot), lv_has ls 4 [(0, .ref am), (1, .int (nI i)), (2, .int (nI q)), (3, .int (nI j))] → W p l e (headSpec ws_Mo_findOrder rm_Mo_findOrder).room s m args below meth c H locs 0 0 (MQ below (va_Qv (fun (u9 : Unit) => match u9 with | _ => True) (fun (u9 : Unit) (t9 : State) => match u9 with | _ => va_P DD vwCl [(am, .inr (9, [.int (nI th), .int (nI n), .ref hk, .ref ht, .int (nI n1), .ref hk1, .ref ht1, .int (zb pb), .int (nI rn), .ref hfg, .ref hle, .ref hmo, .ref hwy, .int (nI tn), .ref htf, .long cm, .ref hod, .ref hwk, .ref hot, .int (nI ru), .ref hen])), (hk, .inl (ck, 150, .inl k)), (hot, .inl (cot, 150, .inl (foF k n ot n)))] t9.heap ∧ va_K DD vwCl [(ck, .int), (cot, .int)] t9 ∧ va_D A [(am, .inr (9, [.int (nI th), .int (nI n), .ref hk, .ref ht, .int (nI n1), .ref hk1, .ref ht1, .int (zb pb), .int (nI rn), .ref hfg, .ref hle, .ref hmo, .ref hwy, .int (nI tn), .ref htf, .long cm, .ref hod, .ref hwk, .ref hot, .int (nI ru), .ref hen])), (hk, .inl (ck, 150, .inl k)), (hot, .inl (cot, 150, .inl (foF k n ot n)))]) A) args s 0 0 A) (F0 m 14 ls []) := by
        intro kk
        induction kk with
        | zero => intros; omega
        | succ kk ih14 =>
          intro j q hlt hj hq hkk ls hl
          refine lv_iload_n hx hb d_Mo_findOrder_14 rfl (lv_at hl 3 rfl) ?_
          refine lv_aload_n hx hb d_Mo_findOrder_15 rfl (lv_at hl 0 rfl) ?_
          refine va_get (D := DD) (ci := 9) (v := .int (nI n)) (C := R_Mo) (T := T_Mo) (N := 21) hx hb hg in_Mo hown hK hP 0 rfl rfl 1 (by decide) (hg _ mw_680) (fun _ h9 => h9) rfl d_Mo_findOrder_16 ?_
          refine z_icmp_ge (tgt := 71) hx hb d_Mo_findOrder_19 (by decide) (by omega) (by omega) (fun c_19 => ?_) (fun c_19 => ?_)
          · have hqr : q = rankF k n i := by rw [hq, Nat.le_antisymm hj c_19]; rfl
            have hrl := rankF_lt (k := k) hlt
            refine lv_aload_n hx hb d_Mo_findOrder_71 rfl (lv_at hl 0 rfl) ?_
            refine va_get (D := DD) (ci := 9) (v := .ref hot) (C := R_Mo) (T := T_Mo) (N := 21) hx hb hg in_Mo hown hK hP 0 rfl rfl 18 (by decide) (hg _ mw_697) (fun _ h9 => h9) rfl d_Mo_findOrder_72 ?_
            refine lv_iload_n hx hb d_Mo_findOrder_75 rfl (lv_at hl 2 rfl) ?_
            refine lv_iload_n hx hb d_Mo_findOrder_76 rfl (lv_at hl 1 rfl) ?_
            refine z_iast hx hb hK hP hD hS 2 1 rfl rfl (by omega) (by decide) d_Mo_findOrder_77 (fun H locs hP hD hS => ?_)
            have hP : va_P DD vwCl [(am, .inr (9, [.int (nI th), .int (nI n), .ref hk, .ref ht, .int (nI n1), .ref hk1, .ref ht1, .int (zb pb), .int (nI rn), .ref hfg, .ref hle, .ref hmo, .ref hwy, .int (nI tn), .ref htf, .long cm, .ref hod, .ref hwk, .ref hot, .int (nI ru), .ref hen])), (hk, .inl (ck, 150, .inl k)), (hot, .inl (cot, 150, .inl (upd (foF k n ot i) q (nI i))))] H := hP
            have hD : va_D A [(am, .inr (9, [.int (nI th), .int (nI n), .ref hk, .ref ht, .int (nI n1), .ref hk1, .ref ht1, .int (zb pb), .int (nI rn), .ref hfg, .ref hle, .ref hmo, .ref hwy, .int (nI tn), .ref htf, .long cm, .ref hod, .ref hwk, .ref hot, .int (nI ru), .ref hen])), (hk, .inl (ck, 150, .inl k)), (hot, .inl (cot, 150, .inl (upd (foF k n ot i) q (nI i))))] := hD
            rw [show upd (foF k n ot i) q (nI i) = foF k n ot (i + 1) from by rw [hqr]; rfl] at hP hD
            refine lv_iinc (v := nI (i + 1)) (lv' := [(1, .int (nI (i + 1))), (0, .ref am), (2, .int (nI q)), (3, .int (nI j))]) hx hb d_Mo_findOrder_78 hl (k := 1) rfl (by exact nI_add i 1) (by decide) rfl (fun ls hl => ?_)
            refine lv_goto (tgt := 2) hx hb d_Mo_findOrder_81 (by decide) ?_
            exact ih2 (i + 1) (by omega) (by omega) _ _ hP hD hS ls (lv_sub hl [1, 0] rfl)
          · refine lv_aload_n hx hb d_Mo_findOrder_22 rfl (lv_at hl 0 rfl) ?_
            refine va_get (D := DD) (ci := 9) (v := .ref hk) (C := R_Mo) (T := T_Mo) (N := 21) hx hb hg in_Mo hown hK hP 0 rfl rfl 2 (by decide) (hg _ mw_681) (fun _ h9 => h9) rfl d_Mo_findOrder_23 ?_
            refine lv_iload_n hx hb d_Mo_findOrder_26 rfl (lv_at hl 3 rfl) ?_
            refine z_iald hx hb hK hP 1 0 rfl rfl (by omega) (by decide) d_Mo_findOrder_27 ?_
            refine lv_aload_n hx hb d_Mo_findOrder_28 rfl (lv_at hl 0 rfl) ?_
            refine va_get (D := DD) (ci := 9) (v := .ref hk) (C := R_Mo) (T := T_Mo) (N := 21) hx hb hg in_Mo hown hK hP 0 rfl rfl 2 (by decide) (hg _ mw_681) (fun _ h9 => h9) rfl d_Mo_findOrder_29 ?_
            refine lv_iload_n hx hb d_Mo_findOrder_32 rfl (lv_at hl 1 rfl) ?_
            refine z_iald hx hb hK hP 1 0 rfl rfl (by omega) (by decide) d_Mo_findOrder_33 ?_
            refine lv_icmp_lt (tgt := 57) hx hb d_Mo_findOrder_34 (by decide) (fun c_34 => ?_) (fun c_34 => ?_)
            · refine lv_iload_n hx hb d_Mo_findOrder_57 rfl (lv_at hl 2 rfl) ?_
              refine lv_iconst (v := nI 1) hx hb d_Mo_findOrder_58 (by decide) ?_
              refine z_iadd hx hb d_Mo_findOrder_59 ?_
              refine lv_goto (tgt := 64) hx hb d_Mo_findOrder_60 (by decide) ?_
              refine lv_istore_n (lv' := [(2, .int (nI (q + 1))), (0, .ref am), (1, .int (nI i)), (3, .int (nI j))]) hx hb d_Mo_findOrder_64 rfl hl (by decide) rfl (fun ls hl => ?_)
              refine lv_iinc (v := nI (j + 1)) (lv' := [(3, .int (nI (j + 1))), (2, .int (nI (q + 1))), (0, .ref am), (1, .int (nI i))]) hx hb d_Mo_findOrder_65 hl (k := 3) rfl (by exact nI_add j 1) (by decide) rfl (fun ls hl => ?_)
              refine lv_goto (tgt := 14) hx hb d_Mo_findOrder_68 (by decide) ?_
              exact ih14 (j + 1) (q + 1) (by omega) (by omega) (by first | exact cnt_t hq (go_t1 c_34) | exact cnt_t hq (go_t2 c_49 c_54) | exact cnt_f hq (go_f2 c_34 c_54) | exact cnt_f hq (go_f1 c_34 c_49)) (by omega) ls (lv_sub hl [2, 3, 1, 0] rfl)
            · refine lv_aload_n hx hb d_Mo_findOrder_37 rfl (lv_at hl 0 rfl) ?_
              refine va_get (D := DD) (ci := 9) (v := .ref hk) (C := R_Mo) (T := T_Mo) (N := 21) hx hb hg in_Mo hown hK hP 0 rfl rfl 2 (by decide) (hg _ mw_681) (fun _ h9 => h9) rfl d_Mo_findOrder_38 ?_
              refine lv_iload_n hx hb d_Mo_findOrder_41 rfl (lv_at hl 3 rfl) ?_
              refine z_iald hx hb hK hP 1 0 rfl rfl (by omega) (by decide) d_Mo_findOrder_42 ?_
              refine lv_aload_n hx hb d_Mo_findOrder_43 rfl (lv_at hl 0 rfl) ?_
              refine va_get (D := DD) (ci := 9) (v := .ref hk) (C := R_Mo) (T := T_Mo) (N := 21) hx hb hg in_Mo hown hK hP 0 rfl rfl 2 (by decide) (hg _ mw_681) (fun _ h9 => h9) rfl d_Mo_findOrder_44 ?_
              refine lv_iload_n hx hb d_Mo_findOrder_47 rfl (lv_at hl 1 rfl) ?_
              refine z_iald hx hb hK hP 1 0 rfl rfl (by omega) (by decide) d_Mo_findOrder_48 ?_
              refine lv_icmp_ne (tgt := 63) hx hb d_Mo_findOrder_49 (by decide) (fun c_49 => ?_) (fun c_49 => ?_)
              · refine lv_iload_n hx hb d_Mo_findOrder_63 rfl (lv_at hl 2 rfl) ?_
                refine lv_istore_n (lv' := [(2, .int (nI q)), (0, .ref am), (1, .int (nI i)), (3, .int (nI j))]) hx hb d_Mo_findOrder_64 rfl hl (by decide) rfl (fun ls hl => ?_)
                refine lv_iinc (v := nI (j + 1)) (lv' := [(3, .int (nI (j + 1))), (2, .int (nI q)), (0, .ref am), (1, .int (nI i))]) hx hb d_Mo_findOrder_65 hl (k := 3) rfl (by exact nI_add j 1) (by decide) rfl (fun ls hl => ?_)
                refine lv_goto (tgt := 14) hx hb d_Mo_findOrder_68 (by decide) ?_
                exact ih14 (j + 1) q (by omega) (by omega) (by first | exact cnt_t hq (go_t1 c_34) | exact cnt_t hq (go_t2 c_49 c_54) | exact cnt_f hq (go_f2 c_34 c_54) | exact cnt_f hq (go_f1 c_34 c_49)) (by omega) ls (lv_sub hl [2, 3, 1, 0] rfl)
              · refine lv_iload_n hx hb d_Mo_findOrder_52 rfl (lv_at hl 3 rfl) ?_
                refine lv_iload_n hx hb d_Mo_findOrder_53 rfl (lv_at hl 1 rfl) ?_
                refine z_icmp_ge (tgt := 63) hx hb d_Mo_findOrder_54 (by decide) (by omega) (by omega) (fun c_54 => ?_) (fun c_54 => ?_)
                · refine lv_iload_n hx hb d_Mo_findOrder_63 rfl (lv_at hl 2 rfl) ?_
                  refine lv_istore_n (lv' := [(2, .int (nI q)), (0, .ref am), (1, .int (nI i)), (3, .int (nI j))]) hx hb d_Mo_findOrder_64 rfl hl (by decide) rfl (fun ls hl => ?_)
                  refine lv_iinc (v := nI (j + 1)) (lv' := [(3, .int (nI (j + 1))), (2, .int (nI q)), (0, .ref am), (1, .int (nI i))]) hx hb d_Mo_findOrder_65 hl (k := 3) rfl (by exact nI_add j 1) (by decide) rfl (fun ls hl => ?_)
                  refine lv_goto (tgt := 14) hx hb d_Mo_findOrder_68 (by decide) ?_
                  exact ih14 (j + 1) q (by omega) (by omega) (by first | exact cnt_t hq (go_t1 c_34) | exact cnt_t hq (go_t2 c_49 c_54) | exact cnt_f hq (go_f2 c_34 c_54) | exact cnt_f hq (go_f1 c_34 c_49)) (by omega) ls (lv_sub hl [2, 3, 1, 0] rfl)
                · refine lv_iload_n hx hb d_Mo_findOrder_57 rfl (lv_at hl 2 rfl) ?_
                  refine lv_iconst (v := nI 1) hx hb d_Mo_findOrder_58 (by decide) ?_
                  refine z_iadd hx hb d_Mo_findOrder_59 ?_
                  refine lv_goto (tgt := 64) hx hb d_Mo_findOrder_60 (by decide) ?_
                  refine lv_istore_n (lv' := [(2, .int (nI (q + 1))), (0, .ref am), (1, .int (nI i)), (3, .int (nI j))]) hx hb d_Mo_findOrder_64 rfl hl (by decide) rfl (fun ls hl => ?_)
                  refine lv_iinc (v := nI (j + 1)) (lv' := [(3, .int (nI (j + 1))), (2, .int (nI (q + 1))), (0, .ref am), (1, .int (nI i))]) hx hb d_Mo_findOrder_65 hl (k := 3) rfl (by exact nI_add j 1) (by decide) rfl (fun ls hl => ?_)
                  refine lv_goto (tgt := 14) hx hb d_Mo_findOrder_68 (by decide) ?_
                  exact ih14 (j + 1) (q + 1) (by omega) (by omega) (by first | exact cnt_t hq (go_t1 c_34) | exact cnt_t hq (go_t2 c_49 c_54) | exact cnt_f hq (go_f2 c_34 c_54) | exact cnt_f hq (go_f1 c_34 c_49)) (by omega) ls (lv_sub hl [2, 3, 1, 0] rfl)
      refine lv_iload_n hx hb d_Mo_findOrder_2 rfl (lv_at hl 1 rfl) ?_
      refine lv_aload_n hx hb d_Mo_findOrder_3 rfl (lv_at hl 0 rfl) ?_
      refine va_get (D := DD) (ci := 9) (v := .int (nI n)) (C := R_Mo) (T := T_Mo) (N := 21) hx hb hg in_Mo hown hK hP 0 rfl rfl 1 (by decide) (hg _ mw_680) (fun _ h9 => h9) rfl d_Mo_findOrder_4 ?_
      refine z_icmp_ge (tgt := 84) hx hb d_Mo_findOrder_7 (by decide) (by omega) (by omega) (fun c_7 => ?_) (fun c_7 => ?_)
      · rw [show foF k n ot i = foF k n ot n from by rw [Nat.le_antisymm hi c_7]] at hP hD
        have hP9 := hP.sub (ws' := [(am, .inr (9, [.int (nI th), .int (nI n), .ref hk, .ref ht, .int (nI n1), .ref hk1, .ref ht1, .int (zb pb), .int (nI rn), .ref hfg, .ref hle, .ref hmo, .ref hwy, .int (nI tn), .ref htf, .long cm, .ref hod, .ref hwk, .ref hot, .int (nI ru), .ref hen])), (hk, .inl (ck, 150, .inl k)), (hot, .inl (cot, 150, .inl (foF k n ot n)))]) [0, 1, 2] rfl
        have hD9 := hD.sub (ws' := [(am, .inr (9, [.int (nI th), .int (nI n), .ref hk, .ref ht, .int (nI n1), .ref hk1, .ref ht1, .int (zb pb), .int (nI rn), .ref hfg, .ref hle, .ref hmo, .ref hwy, .int (nI tn), .ref htf, .long cm, .ref hod, .ref hwk, .ref hot, .int (nI ru), .ref hen])), (hk, .inl (ck, 150, .inl k)), (hot, .inl (cot, 150, .inl (foF k n ot n)))]) [0, 1, 2] (by decide) rfl
        exact W.vret hx hb hr (fun t9 ht9 hW9 => ⟨⟨(), rfl, trivial, by rw [ht9]; exact hP9, va_K.moved hW9.alike hK, hD9⟩, hS.F ht9⟩) hS.2.2 d_Mo_findOrder_84
      · refine lv_iconst (v := nI 0) hx hb d_Mo_findOrder_10 (by decide) ?_
        refine lv_istore_n (lv' := [(2, .int (nI 0)), (0, .ref am), (1, .int (nI i))]) hx hb d_Mo_findOrder_11 rfl hl (by decide) rfl (fun ls hl => ?_)
        refine lv_iconst (v := nI 0) hx hb d_Mo_findOrder_12 (by decide) ?_
        refine lv_istore_n (lv' := [(3, .int (nI 0)), (2, .int (nI 0)), (0, .ref am), (1, .int (nI i))]) hx hb d_Mo_findOrder_13 rfl hl (by decide) rfl (fun ls hl => ?_)
        exact K14 _ 0 0 (by omega) (by omega) (by rfl) (Nat.lt_succ_self _) ls (lv_sub hl [2, 3, 1, 0] rfl)
  rw [show ot = foF k n ot 0 from rfl] at hP hD
  refine lv_iconst (v := nI 0) hx hb d_Mo_findOrder_0 (by decide) ?_
  refine lv_istore_n (lv' := [(1, .int (nI 0)), (0, .ref am)]) hx hb d_Mo_findOrder_1 rfl hl (by decide) rfl (fun ls hl => ?_)
  exact K2 _ 0 (by omega) (Nat.lt_succ_self _) _ _ hP hD hS ls (lv_sub hl [1, 0] rfl)
