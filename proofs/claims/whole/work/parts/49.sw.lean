theorem ins_of {v : Int32} {n : Nat} (hn : n < 2 ^ 30) (h0 : ¬ v < 0) (h : v ≤ nI n) : ∃ a : Nat, a ≤ n ∧ v = nI a := by
  have h1 : ¬ v.toInt < (0 : Int32).toInt := fun q => h0 (Int32.lt_iff_toInt_lt.mpr q)
  have h2 := Int32.le_iff_toInt_le.mp h
  rw [nI_toInt (by omega)] at h2
  have h3 : (0 : Int32).toInt = 0 := rfl
  refine ⟨v.toInt.toNat, by omega, Int32.toInt_inj.mp ?_⟩
  rw [nI_toInt (by omega)]
  omega
theorem law_go {j L : Nat} (hL : L ≤ 3584) (hj : 7 * j ≤ 3584) (h : ¬ nI L - nI 7 < nI (7 * j)) : 7 * j + 7 ≤ L := by
  have h1 : ¬ (nI L - nI 7).toInt < (nI (7 * j)).toInt := fun q => h (Int32.lt_iff_toInt_lt.mpr q)
  rw [nI_toInt (by omega), pk_sub_toInt (by omega) (by omega)] at h1
  omega
theorem sw_of (x : Int32) : ∃ v : Nat, v < 32 ∧ x &&& nI 31 = nI v := pk_andE x 5 rfl
set_option maxHeartbeats 4000000 in
set_option maxRecDepth 100000 in
theorem law_sw {p : Program} {l : Launch} {e : Env} {s : State} {m : MethodId} {args : Array Value} {below : List Frame} {meth : Method} {c : Code} {Q : State → Prop} (hl0 : l.stackTraces = false) (hx : p.tables.exec = Jvm.exec) (hb : c.code = b_La_law) (hml : c.maxLocals = 8) (hown : s.vm.findClass R_La = some m.cls) (hg : ∀ w ∈ ALLG, w.before args s = true) (hXK : XK s) (hTH : thO s) {b L : Nat} {xs : Nat → Int32} (hX : va_X b L xs s s.heap) (hbl : b < s.heap.size) (hL : L ≤ 3584) {A : Nat → Prop} (hA : ∀ q, s.heap.size ≤ q → A q) (hAo : ∀ q, q < s.heap.size → ¬ A q) {DD : va_G} {ad h hk ht h1 hk1 ht1 ar hfg hle hmo hwy aq htf hwv aw0 aw1 aw2 hjs2 hjj2 aw3 hcc3 hcn3 aw4 hbn4 hbd4 hpn hod amM hkM htM hk1M ht1M hfgM hleM hmoM hwyM htfM hodM hwkM hotM henM hov : Nat} {ck ct ck1 ct1 cfg cle cmo cwy ctf cwv cjs2 cjj2 ccc3 ccn3 cbn4 cbd4 cpn cod ckM ctM ck1M ct1M cfgM cleM cmoM cwyM ctfM codM cwkM cotM cenM cov : ClassId} (hK : va_K DD vwCl [(ck, .int), (ct, .int), (ck1, .int), (ct1, .int), (cfg, .int), (cle, .long), (cmo, .long), (cwy, .int), (ctf, .int), (cwv, .object "SortDesk$Way"), (cjs2, .int), (cjj2, .int), (ccc3, .int), (ccn3, .int), (cbn4, .int), (cbd4, .int), (cpn, .int), (cod, .int), (ckM, .int), (ctM, .int), (ck1M, .int), (ct1M, .int), (cfgM, .int), (cleM, .long), (cmoM, .long), (cwyM, .int), (ctfM, .int), (codM, .int), (cwkM, .int), (cotM, .int), (cenM, .int), (cov, .long)] s) {j : Nat} (hj : 7 * j + 7 ≤ L) (KK : LK p l e s m args below meth c Q DD A b ad h hk ht h1 hk1 ht1 ar hfg hle hmo hwy aq htf hwv aw0 aw1 aw2 hjs2 hjj2 aw3 hcc3 hcn3 aw4 hbn4 hbd4 hpn hod amM hkM htM hk1M ht1M hfgM hleM hmoM hwyM htfM hodM hwkM hotM henM hov ck ct ck1 ct1 cfg cle cmo cwy ctf cwv cjs2 cjj2 ccc3 ccn3 cbn4 cbd4 cpn cod ckM ctM ck1M ct1M cfgM cleM cmoM cwyM ctfM codM cwkM cotM cenM cov j) {k : Nat → Int32} {t : Nat → Int32} {n : Nat} {k1 : Nat → Int32} {t1 : Nat → Int32} {n1 : Nat} {fg : Nat → Nat} {le : Nat → Int64} {mo : Nat → Int64} {wy : Nat → Nat} {rn : Nat} {tf : Nat → Int32} {tn : Nat} {js2 : Nat → Nat} {jj2 : Nat → Nat} {cc3 : Nat → Nat} {cn3 : Nat → Nat} {bn4 : Nat → Nat} {bd4 : Nat → Nat} {pn : Nat → Nat} {od : Nat → Nat} {cm : Int64} {pb : Bool} {th : Nat} {wk : Nat → Int32} {ot : Nat → Int32} {en : Nat → Nat} {ru : Nat} {ov : Nat → Int64} (hn : n ≤ 150) (hn1 : n1 ≤ 150) (hpbn : pb = true → n = n1) (hrn : rn ≤ 12) (hf8 : ∀ i, i < rn → fg i < 8) (hr5 : ∀ i, i < rn → wy i < 5) (htn : tn ≤ 150) (hpB : ∀ x, pn x < 150) (hjB : ∀ x, jj2 x < 150) (hbB : ∀ x, bd4 x < 150) {H : Heap} {locs : List Loc} (hP : va_P DD vwCl [(ad, .inr (8, [.ref h, .ref h1, .ref ar, .ref aq, .ref hwv, .ref hpn, .ref hod, .long cm, .int (zb pb), .int (zb false)])), (h, .inr (4, [.ref hk, .ref ht, .int (nI n)])), (hk, .inl (ck, 150, .inl k)), (ht, .inl (ct, 150, .inl t)), (h1, .inr (4, [.ref hk1, .ref ht1, .int (nI n1)])), (hk1, .inl (ck1, 150, .inl k1)), (ht1, .inl (ct1, 150, .inl t1)), (ar, .inr (5, [.ref hfg, .ref hle, .ref hmo, .ref hwy, .int (nI rn)])), (hfg, .inl (cfg, 12, .inl (nF fg))), (hle, .inl (cle, 12, .inr (.inl le))), (hmo, .inl (cmo, 12, .inr (.inl mo))), (hwy, .inl (cwy, 12, .inl (nF wy))), (aq, .inr (6, [.ref htf, .int (nI tn)])), (htf, .inl (ctf, 450, .inl tf)), (hwv, .inl (cwv, 5, .inr (.inr (.inr (.inr (wayF aw0 aw1 aw2 aw3 aw4)))))), (aw0, .inr (7, [])), (aw1, .inr (3, [])), (aw2, .inr (2, [.ref hjs2, .ref hjj2])), (hjs2, .inl (cjs2, 151, .inl (nF js2))), (hjj2, .inl (cjj2, 150, .inl (nF jj2))), (aw3, .inr (1, [.ref hcc3, .ref hcn3])), (hcc3, .inl (ccc3, 501, .inl (nF cc3))), (hcn3, .inl (ccn3, 501, .inl (nF cn3))), (aw4, .inr (0, [.ref hbn4, .ref hbd4])), (hbn4, .inl (cbn4, 256, .inl (nF bn4))), (hbd4, .inl (cbd4, 150, .inl (nF bd4))), (hpn, .inl (cpn, 150, .inl (nF pn))), (hod, .inl (cod, 5, .inl (nF od))), (amM, .inr (9, [.int (nI th), .int (nI n), .ref hkM, .ref htM, .int (nI n1), .ref hk1M, .ref ht1M, .int (zb pb), .int (nI rn), .ref hfgM, .ref hleM, .ref hmoM, .ref hwyM, .int (nI tn), .ref htfM, .long cm, .ref hodM, .ref hwkM, .ref hotM, .int (nI ru), .ref henM])), (hkM, .inl (ckM, 150, .inl k)), (htM, .inl (ctM, 150, .inl t)), (hk1M, .inl (ck1M, 150, .inl k1)), (ht1M, .inl (ct1M, 150, .inl t1)), (hfgM, .inl (cfgM, 12, .inl (nF fg))), (hleM, .inl (cleM, 12, .inr (.inl le))), (hmoM, .inl (cmoM, 12, .inr (.inl mo))), (hwyM, .inl (cwyM, 12, .inl (nF wy))), (htfM, .inl (ctfM, 900, .inl tf)), (hodM, .inl (codM, 5, .inl (nF od))), (hwkM, .inl (cwkM, 150, .inl wk)), (hotM, .inl (cotM, 150, .inl ot)), (henM, .inl (cenM, 150, .inl (nF en))), (hov, .inl (cov, 1, .inr (.inl ov)))] H) (hD : va_D A [(ad, .inr (8, [.ref h, .ref h1, .ref ar, .ref aq, .ref hwv, .ref hpn, .ref hod, .long cm, .int (zb pb), .int (zb false)])), (h, .inr (4, [.ref hk, .ref ht, .int (nI n)])), (hk, .inl (ck, 150, .inl k)), (ht, .inl (ct, 150, .inl t)), (h1, .inr (4, [.ref hk1, .ref ht1, .int (nI n1)])), (hk1, .inl (ck1, 150, .inl k1)), (ht1, .inl (ct1, 150, .inl t1)), (ar, .inr (5, [.ref hfg, .ref hle, .ref hmo, .ref hwy, .int (nI rn)])), (hfg, .inl (cfg, 12, .inl (nF fg))), (hle, .inl (cle, 12, .inr (.inl le))), (hmo, .inl (cmo, 12, .inr (.inl mo))), (hwy, .inl (cwy, 12, .inl (nF wy))), (aq, .inr (6, [.ref htf, .int (nI tn)])), (htf, .inl (ctf, 450, .inl tf)), (hwv, .inl (cwv, 5, .inr (.inr (.inr (.inr (wayF aw0 aw1 aw2 aw3 aw4)))))), (aw0, .inr (7, [])), (aw1, .inr (3, [])), (aw2, .inr (2, [.ref hjs2, .ref hjj2])), (hjs2, .inl (cjs2, 151, .inl (nF js2))), (hjj2, .inl (cjj2, 150, .inl (nF jj2))), (aw3, .inr (1, [.ref hcc3, .ref hcn3])), (hcc3, .inl (ccc3, 501, .inl (nF cc3))), (hcn3, .inl (ccn3, 501, .inl (nF cn3))), (aw4, .inr (0, [.ref hbn4, .ref hbd4])), (hbn4, .inl (cbn4, 256, .inl (nF bn4))), (hbd4, .inl (cbd4, 150, .inl (nF bd4))), (hpn, .inl (cpn, 150, .inl (nF pn))), (hod, .inl (cod, 5, .inl (nF od))), (amM, .inr (9, [.int (nI th), .int (nI n), .ref hkM, .ref htM, .int (nI n1), .ref hk1M, .ref ht1M, .int (zb pb), .int (nI rn), .ref hfgM, .ref hleM, .ref hmoM, .ref hwyM, .int (nI tn), .ref htfM, .long cm, .ref hodM, .ref hwkM, .ref hotM, .int (nI ru), .ref henM])), (hkM, .inl (ckM, 150, .inl k)), (htM, .inl (ctM, 150, .inl t)), (hk1M, .inl (ck1M, 150, .inl k1)), (ht1M, .inl (ct1M, 150, .inl t1)), (hfgM, .inl (cfgM, 12, .inl (nF fg))), (hleM, .inl (cleM, 12, .inr (.inl le))), (hmoM, .inl (cmoM, 12, .inr (.inl mo))), (hwyM, .inl (cwyM, 12, .inl (nF wy))), (htfM, .inl (ctfM, 900, .inl tf)), (hodM, .inl (codM, 5, .inl (nF od))), (hwkM, .inl (cwkM, 150, .inl wk)), (hotM, .inl (cotM, 150, .inl ot)), (henM, .inl (cenM, 150, .inl (nF en))), (hov, .inl (cov, 1, .inr (.inl ov)))]) (hS : va_S A s.heap H locs) {ls : Array Slot} (hl : lv_has ls 8 [(0, .ref b), (1, .ref ad), (2, .ref amM), (3, .ref hov), (4, .int (nI (7 * j)))]) {v : Nat} (hv : v < 32) : W p l e room_1 s m args below meth c H locs (43 + j) (5021 + 6 * j) Q (F0 m 40 ls [.int (nI v)]) := by
  rcases (show v = 0 ∨ v = 1 ∨ v = 2 ∨ v = 3 ∨ v = 4 ∨ v = 5 ∨ v = 6 ∨ v = 7 ∨ v = 8 ∨ v = 9 ∨ v = 10 ∨ v = 11 ∨ v = 12 ∨ v = 13 ∨ v = 14 ∨ v = 15 ∨ v = 16 ∨ v = 17 ∨ 18 ≤ v by omega) with rfl | rfl | rfl | rfl | rfl | rfl | rfl | rfl | rfl | rfl | rfl | rfl | rfl | rfl | rfl | rfl | rfl | rfl | h7
  · refine lv_tableIn (x := nI 0) (off := 88) (tgt := 128) hx hb d_La_law_40 (by decide) (by decide) (by decide) (by decide) ?_
    by_cases hlt : n < 150
    · exact lc_put hl0 hx hb hml hown hg hXK hTH hX hbl hL hA hAo hK hj KK hn hn1 hpbn hrn hf8 hr5 htn hpB hjB hbB hlt hP hD hS hl
    · exact lc_put_T hl0 hx hb hml hown hg hXK hTH hX hbl hL hA hAo hK hj KK hn hn1 hpbn hrn hf8 hr5 htn hpB hjB hbB (by omega) hP hD hS hl
  · refine lv_tableIn (x := nI 1) (off := 156) (tgt := 196) hx hb d_La_law_40 (by decide) (by decide) (by decide) (by decide) ?_
    by_cases hf1 : xs (7 * j + 1) < 0 ∨ ¬ xs (7 * j + 1) ≤ nI n
    · exact lc_insert_T1 hl0 hx hb hml hown hg hXK hTH hX hbl hL hA hAo hK hj KK hn hn1 hpbn hrn hf8 hr5 htn hpB hjB hbB hf1 hP hD hS hl
    · obtain ⟨a1, ha1, e1⟩ := ins_of (by omega) (fun q => hf1 (Or.inl q)) (Classical.byContradiction (fun q => hf1 (Or.inr q)))
      by_cases hlt : n < 150
      · exact lc_insert hl0 hx hb hml hown hg hXK hTH hX hbl hL hA hAo hK hj KK hn hn1 hpbn hrn hf8 hr5 htn hpB hjB hbB a1 e1 hlt ha1 hP hD hS hl
      · exact lc_insert_T2 hl0 hx hb hml hown hg hXK hTH hX hbl hL hA hAo hK hj KK hn hn1 hpbn hrn hf8 hr5 htn hpB hjB hbB a1 e1 (by omega) ha1 hP hD hS hl
  · refine lv_tableIn (x := nI 2) (off := 236) (tgt := 276) hx hb d_La_law_40 (by decide) (by decide) (by decide) (by decide) ?_
    cases hf1 : hasB (xs (7 * j + 1)) n with
    | false => exact lc_remove_T hl0 hx hb hml hown hg hXK hTH hX hbl hL hA hAo hK hj KK hn hn1 hpbn hrn hf8 hr5 htn hpB hjB hbB hf1 hP hD hS hl
    | true =>
      obtain ⟨a1, ha1, e1⟩ := hasB_of (by omega) hf1
      exact lc_remove hl0 hx hb hml hown hg hXK hTH hX hbl hL hA hAo hK hj KK hn hn1 hpbn hrn hf8 hr5 htn hpB hjB hbB a1 e1 ha1 hP hD hS hl
  · refine lv_tableIn (x := nI 3) (off := 292) (tgt := 332) hx hb d_La_law_40 (by decide) (by decide) (by decide) (by decide) ?_
    cases hf1 : hasB (xs (7 * j + 1)) n with
    | false => exact lc_at_T hl0 hx hb hml hown hg hXK hTH hX hbl hL hA hAo hK hj KK hn hn1 hpbn hrn hf8 hr5 htn hpB hjB hbB hf1 hP hD hS hl
    | true =>
      obtain ⟨a1, ha1, e1⟩ := hasB_of (by omega) hf1
      exact lc_at hl0 hx hb hml hown hg hXK hTH hX hbl hL hA hAo hK hj KK hn hn1 hpbn hrn hf8 hr5 htn hpB hjB hbB a1 e1 ha1 hP hD hS hl
  · refine lv_tableIn (x := nI 4) (off := 376) (tgt := 416) hx hb d_La_law_40 (by decide) (by decide) (by decide) (by decide) ?_
    cases hf1 : hasB (xs (7 * j + 1)) 8 with
    | false => exact lc_figure_T hl0 hx hb hml hown hg hXK hTH hX hbl hL hA hAo hK hj KK hn hn1 hpbn hrn hf8 hr5 htn hpB hjB hbB hf1 hP hD hS hl
    | true =>
      obtain ⟨a1, ha1, e1⟩ := hasB_of (by omega) hf1
      exact lc_figure hl0 hx hb hml hown hg hXK hTH hX hbl hL hA hAo hK hj KK hn hn1 hpbn hrn hf8 hr5 htn hpB hjB hbB a1 e1 ha1 hP hD hS hl
  · refine lv_tableIn (x := nI 5) (off := 431) (tgt := 471) hx hb d_La_law_40 (by decide) (by decide) (by decide) (by decide) ?_
    cases hf1 : (hasB (xs (7 * j + 1)) 8 && hasB (xs (7 * j + 6)) 5) with
    | false => exact lc_rule_T1 hl0 hx hb hml hown hg hXK hTH hX hbl hL hA hAo hK hj KK hn hn1 hpbn hrn hf8 hr5 htn hpB hjB hbB hf1 hP hD hS hl
    | true =>
      have h9 := Bool.and_eq_true_iff.mp hf1
      obtain ⟨a1, ha1, e1⟩ := hasB_of (by omega) h9.1
      obtain ⟨a6, ha6, e6⟩ := hasB_of (by omega) h9.2
      by_cases hlt : rn < 12
      · exact lc_rule hl0 hx hb hml hown hg hXK hTH hX hbl hL hA hAo hK hj KK hn hn1 hpbn hrn hf8 hr5 htn hpB hjB hbB a1 e1 a6 e6 ha1 ha6 hlt hP hD hS hl
      · exact lc_rule_T2 hl0 hx hb hml hown hg hXK hTH hX hbl hL hA hAo hK hj KK hn hn1 hpbn hrn hf8 hr5 htn hpB hjB hbB a1 e1 a6 e6 ha1 ha6 (by omega) hP hD hS hl
  · refine lv_tableIn (x := nI 6) (off := 589) (tgt := 629) hx hb d_La_law_40 (by decide) (by decide) (by decide) (by decide) ?_
    cases hf1 : hasB (xs (7 * j + 1)) rn with
    | false => exact lc_forget_T hl0 hx hb hml hown hg hXK hTH hX hbl hL hA hAo hK hj KK hn hn1 hpbn hrn hf8 hr5 htn hpB hjB hbB hf1 hP hD hS hl
    | true =>
      obtain ⟨a1, ha1, e1⟩ := hasB_of (by omega) hf1
      exact lc_forget hl0 hx hb hml hown hg hXK hTH hX hbl hL hA hAo hK hj KK hn hn1 hpbn hrn hf8 hr5 htn hpB hjB hbB a1 e1 ha1 hP hD hS hl
  · refine lv_tableIn (x := nI 7) (off := 645) (tgt := 685) hx hb d_La_law_40 (by decide) (by decide) (by decide) (by decide) ?_
    exact lc_plan hl0 hx hb hml hown hg hXK hTH hX hbl hL hA hAo hK hj KK hn hn1 hpbn hrn hf8 hr5 htn hpB hjB hbB  hP hD hS hl
  · refine lv_tableIn (x := nI 8) (off := 658) (tgt := 698) hx hb d_La_law_40 (by decide) (by decide) (by decide) (by decide) ?_
    cases hf1 : hasB (xs (7 * j + 1)) 5 with
    | false => exact lc_isFit_T hl0 hx hb hml hown hg hXK hTH hX hbl hL hA hAo hK hj KK hn hn1 hpbn hrn hf8 hr5 htn hpB hjB hbB hf1 hP hD hS hl
    | true =>
      obtain ⟨a1, ha1, e1⟩ := hasB_of (by omega) hf1
      exact lc_isFit hl0 hx hb hml hown hg hXK hTH hX hbl hL hA hAo hK hj KK hn hn1 hpbn hrn hf8 hr5 htn hpB hjB hbB a1 e1 ha1 hP hD hS hl
  · refine lv_tableIn (x := nI 9) (off := 721) (tgt := 761) hx hb d_La_law_40 (by decide) (by decide) (by decide) (by decide) ?_
    by_cases hv1 : xs (7 * j + 1) = -1
    · exact lc_order_p hl0 hx hb hml hown hg hXK hTH hX hbl hL hA hAo hK hj KK hn hn1 hpbn hrn hf8 hr5 htn hpB hjB hbB hv1 hP hD hS hl
    · cases hf1 : hasB (xs (7 * j + 1)) 5 with
      | false => exact lc_order_T1 hl0 hx hb hml hown hg hXK hTH hX hbl hL hA hAo hK hj KK hn hn1 hpbn hrn hf8 hr5 htn hpB hjB hbB hf1 hv1 hP hD hS hl
      | true =>
        obtain ⟨a1, ha1, e1⟩ := hasB_of (by omega) hf1
        cases hsu : suB k n a1 with
        | true => exact lc_order hl0 hx hb hml hown hg hXK hTH hX hbl hL hA hAo hK hj KK hn hn1 hpbn hrn hf8 hr5 htn hpB hjB hbB a1 e1 ha1 hsu hP hD hS hl
        | false => exact lc_order_T2 hl0 hx hb hml hown hg hXK hTH hX hbl hL hA hAo hK hj KK hn hn1 hpbn hrn hf8 hr5 htn hpB hjB hbB a1 e1 ha1 hsu hP hD hS hl
  · refine lv_tableIn (x := nI 10) (off := 777) (tgt := 817) hx hb d_La_law_40 (by decide) (by decide) (by decide) (by decide) ?_
    by_cases hpb : pb = true
    · obtain rfl : n = n1 := hpbn hpb
      exact lc_putBack hl0 hx hb hml hown hg hXK hTH hX hbl hL hA hAo hK hj KK hn hrn hf8 hr5 htn hpB hjB hbB hpb hP hD hS hl
    · exact lc_putBack_T hl0 hx hb hml hown hg hXK hTH hX hbl hL hA hAo hK hj KK hn hn1 hpbn hrn hf8 hr5 htn hpB hjB hbB (zb_nf hpb) hP hD hS hl
  · refine lv_tableIn (x := nI 11) (off := 821) (tgt := 861) hx hb d_La_law_40 (by decide) (by decide) (by decide) (by decide) ?_
    exact lc_steps hl0 hx hb hml hown hg hXK hTH hX hbl hL hA hAo hK hj KK hn hn1 hpbn hrn hf8 hr5 htn hpB hjB hbB  hP hD hS hl
  · refine lv_tableIn (x := nI 12) (off := 834) (tgt := 874) hx hb d_La_law_40 (by decide) (by decide) (by decide) (by decide) ?_
    cases hf1 : (hasB (xs (7 * j + 1)) tn && hasB (xs (7 * j + 2)) 3) with
    | false => exact lc_step_T hl0 hx hb hml hown hg hXK hTH hX hbl hL hA hAo hK hj KK hn hn1 hpbn hrn hf8 hr5 htn hpB hjB hbB hf1 hP hD hS hl
    | true =>
      have h9 := Bool.and_eq_true_iff.mp hf1
      obtain ⟨a1, ha1, e1⟩ := hasB_of (by omega) h9.1
      obtain ⟨a2, ha2, e2⟩ := hasB_of (by omega) h9.2
      exact lc_step hl0 hx hb hml hown hg hXK hTH hX hbl hL hA hAo hK hj KK hn hn1 hpbn hrn hf8 hr5 htn hpB hjB hbB a1 e1 a2 e2 ha1 ha2 hP hD hS hl
  · refine lv_tableIn (x := nI 13) (off := 902) (tgt := 942) hx hb d_La_law_40 (by decide) (by decide) (by decide) (by decide) ?_
    cases hf1 : hasB (xs (7 * j + 1)) n with
    | false => exact lc_origin_T hl0 hx hb hml hown hg hXK hTH hX hbl hL hA hAo hK hj KK hn hn1 hpbn hrn hf8 hr5 htn hpB hjB hbB hf1 hP hD hS hl
    | true =>
      obtain ⟨a1, ha1, e1⟩ := hasB_of (by omega) hf1
      exact lc_origin hl0 hx hb hml hown hg hXK hTH hX hbl hL hA hAo hK hj KK hn hn1 hpbn hrn hf8 hr5 htn hpB hjB hbB a1 e1 ha1 hP hD hS hl
  · refine lv_tableIn (x := nI 14) (off := 958) (tgt := 998) hx hb d_La_law_40 (by decide) (by decide) (by decide) (by decide) ?_
    exact lc_below hl0 hx hb hml hown hg hXK hTH hX hbl hL hA hAo hK hj KK hn hn1 hpbn hrn hf8 hr5 htn hpB hjB hbB  hP hD hS hl
  · refine lv_tableIn (x := nI 15) (off := 983) (tgt := 1023) hx hb d_La_law_40 (by decide) (by decide) (by decide) (by decide) ?_
    exact lc_compared hl0 hx hb hml hown hg hXK hTH hX hbl hL hA hAo hK hj KK hn hn1 hpbn hrn hf8 hr5 htn hpB hjB hbB  hP hD hS hl
  · refine lv_tableIn (x := nI 16) (off := 997) (tgt := 1037) hx hb d_La_law_40 (by decide) (by decide) (by decide) (by decide) ?_
    cases hf1 : hasB (xs (7 * j + 1)) 5 with
    | false => exact lc_times_T hl0 hx hb hml hown hg hXK hTH hX hbl hL hA hAo hK hj KK hn hn1 hpbn hrn hf8 hr5 htn hpB hjB hbB hf1 hP hD hS hl
    | true =>
      obtain ⟨a1, ha1, e1⟩ := hasB_of (by omega) hf1
      exact lc_times hl0 hx hb hml hown hg hXK hTH hX hbl hL hA hAo hK hj KK hn hn1 hpbn hrn hf8 hr5 htn hpB hjB hbB a1 e1 ha1 hP hD hS hl
  · refine lv_tableIn (x := nI 17) (off := 1053) (tgt := 1093) hx hb d_La_law_40 (by decide) (by decide) (by decide) (by decide) ?_
    exact lc_astray hl0 hx hb hml hown hg hXK hTH hX hbl hL hA hAo hK hj KK hn hn1 hpbn hrn hf8 hr5 htn hpB hjB hbB  hP hD hS hl
  · refine lv_tableOut (tgt := 1106) hx hb d_La_law_40 (Or.inr (by rw [nI_toInt (by omega)]; omega)) (by decide) ?_
    refine W.widen (k := 44 + j) (n := 5027 + 6 * j) (by omega) (by omega) ?_
    exact KK k t n k1 t1 n1 fg le mo wy rn tf tn js2 jj2 cc3 cn3 bn4 bd4 pn od cm pb th wk ot en ru ov hn hn1 hpbn hrn hf8 hr5 htn hpB hjB hbB _ _ hP hD hS ls hl
