-- what the class tells of a way is what the model tells: putting in
section Rel
variable {k K w wk : Nat → Int32} {p : Nat → Nat} {n : Nat}
theorem tg_rel {q : Nat → Nat} {v x : Nat → Int32} (y : Int32) (i : Nat) (h : ∀ z, z < i → v z = x (q z)) : tgW v y i = tgtF x q y i := by
  induction i with
  | zero => rfl
  | succ i ih => rw [tgW, tgtF, h i (by omega), ih (fun z hz => h z (by omega))]
theorem mp_rel (hw : ∀ x, x < n → w x = K (p x)) (i : Nat) (hi : i ≤ n) : ∀ x, x < n → mP w i x = K (pP K p i x) := by
  induction i with
  | zero => exact hw
  | succ i ih =>
    have ih := ih (by omega)
    have e : tgW (mP w i) (mP w i i) i = tgtF K (pP K p i) (K (pP K p i i)) i := by
      rw [ih i (by omega)]; exact tg_rel _ i (fun z hz => ih z (by omega))
    intro x hx
    rw [mP, pP, e]
    have hle := tgtF_le K (pP K p i) (K (pP K p i i)) i
    generalize tgtF K (pP K p i) (K (pP K p i i)) i = to at hle
    by_cases h : to < i
    · rw [if_pos h, if_pos h, movF_eq _ hle]
      unfold mvW upd va_cpy
      by_cases h1 : x = to
      · rw [if_pos h1, if_pos h1]; exact ih i (by omega)
      · rw [if_neg h1, if_neg h1]
        by_cases h2 : to < x ∧ x ≤ i
        · rw [if_pos (by omega), if_pos h2, show to + (x - (to + 1)) = x - 1 by omega]; exact ih _ (by omega)
        · rw [if_neg (by omega), if_neg h2]; exact ih x hx
    · rw [if_neg h, if_neg h]; exact ih x hx
theorem mto_rel (hw : ∀ x, x < n → w x = K (p x)) {i : Nat} (hi : i < n) : mTo w i = pTo K p i := by
  have h := mp_rel hw i (by omega)
  rw [mTo, pTo, h i hi]; exact tg_rel _ i (fun z hz => h z (by omega))
theorem put_rel (hw : ∀ x, x < n → w x = K (p x)) (tn : Nat) (tf : Nat → Int32) (i : Nat) (hi : i ≤ n) : pT K p tn i = mT w tn i ∧ pF K p tn tf i = mF w tn tf i ∧ pC K p i = mC w i := by
  induction i with
  | zero => exact ⟨rfl, rfl, rfl⟩
  | succ i ih =>
    obtain ⟨h1, h2, h3⟩ := ih (by omega)
    have e := mto_rel hw (i := i) (by omega)
    exact ⟨by rw [pT, mT, h1, e], by rw [pF, mF, h1, h2, e], by rw [pC, mC, h3, e]⟩
-- joining
theorem jM_ex {m e : Nat} : ∀ (f a d q : Nat) (o : Nat → Int32), a ≤ m → m ≤ d → d ≤ e → f = (m - a) + (e - d) → (m ≤ a ∨ e ≤ d) → (jM w m e f a d q o).1 = q ∧ ∀ x, x < e → (jM w m e f a d q o).2 x = if x < a + d - m then o x else if x < d then w (a + (x - (a + d - m))) else w x := by
  intro f
  induction f with
  | zero => intro a d q o ha hd hde hf hx; rw [jM]; exact ⟨rfl, fun x hx => by rw [if_pos (by omega)]⟩
  | succ f ih =>
    intro a d q o ha hd hde hf hx
    rw [jM, if_neg (by omega)]
    by_cases h1 : a < m
    · rw [if_pos h1]
      obtain ⟨i1, i2⟩ := ih (a + 1) d q (upd o (a + d - m) (w a)) (by omega) hd hde (by omega) (by omega)
      refine ⟨i1, fun x hx => ?_⟩
      rw [i2 x hx]
      unfold upd
      by_cases c1 : x < a + d - m
      · rw [if_pos (by omega), if_neg (by omega), if_pos c1]
      · simp only [if_neg c1, if_pos (show x < d by omega)]
        by_cases c2 : x = a + d - m
        · rw [if_pos (by omega), if_pos c2]; exact congrArg w (by omega)
        · rw [if_neg (by omega)]; exact congrArg w (by omega)
    · rw [if_neg h1]
      obtain ⟨i1, i2⟩ := ih a (d + 1) q (upd o (a + d - m) (w d)) ha (by omega) (by omega) (by omega) (by omega)
      refine ⟨i1, fun x hx => ?_⟩
      rw [i2 x hx]
      unfold upd
      by_cases c1 : x < a + d - m
      · rw [if_pos (by omega), if_neg (by omega), if_pos c1]
      · rw [if_neg c1, if_neg (show ¬ x < d by omega)]
        by_cases c2 : x = a + d - m
        · rw [if_pos (by omega), if_pos c2]; exact congrArg w (by omega)
        · rw [if_neg (by omega), if_neg (by omega)]
theorem jM_rel {b m e : Nat} (hw : ∀ x, b ≤ x → x < e → w x = K (p x)) : ∀ (f a d q : Nat) (o : Nat → Int32) (j : Nat → Nat), b ≤ a → a ≤ m → m ≤ d → d ≤ e → f = (m - a) + (e - d) → (∀ x, b ≤ x → x < a + d - m → o x = K (j x)) →
    (jM w m e f a d q o).1 + (a + d - m) = q + ((jL K p m e f a d j).1 + (jL K p m e f a d j).2.1 - m) ∧ ∀ x, b ≤ x → x < e → (jM w m e f a d q o).2 x = K (fin3 p m e (jL K p m e f a d j) x) := by
  have ex : ∀ (f a d q : Nat) (o : Nat → Int32) (j : Nat → Nat), b ≤ a → a ≤ m → m ≤ d → d ≤ e → f = (m - a) + (e - d) → (m ≤ a ∨ e ≤ d) → (∀ x, b ≤ x → x < a + d - m → o x = K (j x)) →
      (jM w m e f a d q o).1 + (a + d - m) = q + (a + d - m) ∧ ∀ x, b ≤ x → x < e → (jM w m e f a d q o).2 x = K (fin3 p m e (a, d, j) x) := by
    intro f a d q o j hb ha hd hde hf hx ho
    obtain ⟨i1, i2⟩ := jM_ex (w := w) f a d q o ha hd hde hf hx
    refine ⟨by rw [i1], fun x h1 h2 => ?_⟩
    rw [i2 x h2, fin3_eq ha hd hde h2]
    split
    · exact ho x h1 (by assumption)
    · split
      · exact hw _ (by omega) (by omega)
      · exact hw x h1 h2
  intro f
  induction f with
  | zero =>
    intro a d q o j hb ha hd hde hf ho
    have h := ex 0 a d q o j hb ha hd hde hf (by omega) ho
    rw [show jL K p m e 0 a d j = (a, d, j) from rfl]; exact h
  | succ f ih =>
    intro a d q o j hb ha hd hde hf ho
    by_cases hc : a < m ∧ d < e
    · have wa := hw a hb (by omega)
      have wd := hw d (by omega) hc.2
      rw [jM, if_pos hc, jL, if_pos hc, wa, wd]
      have hup : ∀ (v : Nat) (y : Int32), y = K v → ∀ x, b ≤ x → x < a + d - m + 1 → upd o (a + d - m) y x = K (va_up j (a + d - m) v x) := by
        intro v y hy x h1 h2
        unfold upd va_up
        by_cases c : x = a + d - m
        · rw [if_pos c, if_pos c]; exact hy
        · rw [if_neg c, if_neg c]; exact ho x h1 (by omega)
      by_cases hk : K (p a) ≤ K (p d)
      · rw [if_pos hk, if_neg (Int32.not_lt.mpr hk)]
        obtain ⟨i1, i2⟩ := ih (a + 1) d (q + 1) (upd o (a + d - m) (K (p a))) (va_up j (a + d - m) (p a)) (by omega) hc.1 hd hde (by omega) (fun x h1 h2 => hup _ _ rfl x h1 (by omega))
        exact ⟨by omega, i2⟩
      · rw [if_neg hk, if_pos (Int32.not_le.mp hk)]
        obtain ⟨i1, i2⟩ := ih a (d + 1) (q + 1) (upd o (a + d - m) (K (p d))) (va_up j (a + d - m) (p d)) hb ha (by omega) hc.2 (by omega) (fun x h1 h2 => hup _ _ rfl x h1 (by omega))
        exact ⟨by omega, i2⟩
    · have h := ex (f + 1) a d q o j hb ha hd hde hf (by omega) ho
      rw [show jL K p m e (f + 1) a d j = (a, d, j) by rw [jL, if_neg hc]]; exact h
theorem jm_rel {b m e : Nat} (o : Nat → Int32) (j : Nat → Nat) (hbm : b ≤ m) (hme : m ≤ e) (he : e ≤ n) (hw : ∀ x, x < n → w x = K (p x)) : (jmR w b m e o).1 = jnC K p b m e j ∧ ∀ x, x < n → jmW w b m e o x = K (jnP K p b m e j x) := by
  obtain ⟨i1, i2⟩ := jM_rel (b := b) (m := m) (e := e) (fun x _ h => hw x (by omega)) (e - b) b m 0 o j (Nat.le_refl _) hbm (Nat.le_refl _) hme (by omega) (fun x h1 h2 => by omega)
  refine ⟨?_, fun x hx => ?_⟩
  · show (jM w m e (e - b) b m 0 o).1 = (jL K p m e (e - b) b m j).1 + (jL K p m e (e - b) b m j).2.1 - m - b
    omega
  · rw [jmW, cpR]
    by_cases c : b ≤ x ∧ x < e
    · rw [if_pos c, jnP_in c.1 c.2, jnJ_fin]; exact i2 x c.1 c.2
    · rw [if_neg c, jnP_out (by omega)]; exact hw x hx
theorem tj_rel {s en : Nat → Nat} {r tn q : Nat} {tf o : Nat → Int32} {j : Nat → Nat} (hm : ∀ x, x < r → s x ≤ s (x + 1)) (hs : ∀ x, x ≤ r → s x ≤ n) (h0 : s 0 = 0) (hse : ∀ x, x < r → en x = s (x + 1)) (hw : ∀ x, x < n → w x = K (p x)) (x : Nat) (hx : 2 * x ≤ r) :
    (tjS en r (w, o, tn, tf, q) x).2.2.1 = (jpS K s (p, j, tn, tf, 0) x).2.2.1 ∧ (tjS en r (w, o, tn, tf, q) x).2.2.2.1 = (jpS K s (p, j, tn, tf, 0) x).2.2.2.1 ∧ (tjS en r (w, o, tn, tf, q) x).2.2.2.2 = q + (jpS K s (p, j, tn, tf, 0) x).2.2.2.2 ∧ ∀ z, z < n → (tjS en r (w, o, tn, tf, q) x).1 z = K ((jpS K s (p, j, tn, tf, 0) x).1 z) := by
  induction x with
  | zero => exact ⟨rfl, rfl, rfl, hw⟩
  | succ x ih =>
    obtain ⟨i1, i2, i3, i4⟩ := ih (by omega)
    have eb : tjB en r x = s (2 * x) := by
      rw [tjB]; split
      · rename_i z; rw [z, h0]
      · rw [tjV, if_pos (by omega), hse _ (by omega)]; exact congrArg s (by omega)
    have e1 : en (2 * x) = s (2 * x + 1) := hse _ (by omega)
    have e2 : en (2 * x + 1) = s (2 * x + 2) := hse _ (by omega)
    obtain ⟨r1, r2⟩ := jm_rel (tjS en r (w, o, tn, tf, q) x).2.1 (jpS K s (p, j, tn, tf, 0) x).2.1 (hm (2 * x) (by omega)) (show s (2 * x + 1) ≤ s (2 * x + 2) from hm (2 * x + 1) (by omega)) (hs (2 * x + 2) (by omega)) i4
    rw [tjS_t (by omega), jpS, eb, e1, e2]
    dsimp only
    exact ⟨by rw [i1], by rw [i1, i2], by rw [i3, r1]; omega, r2⟩
theorem to_rel : ∀ (f : Nat) (w o : Nat → Int32) (p j : Nat → Nat) (tn : Nat) (tf : Nat → Int32) (q : Nat) (s en : Nat → Nat) (r : Nat), (∀ x, x < r → s x ≤ s (x + 1)) → (∀ x, x ≤ r → s x ≤ n) → s 0 = 0 → (∀ x, x < r → en x = s (x + 1)) → (∀ x, x < n → w x = K (p x)) →
    (joL K f (p, j, tn, tf, q, s, r)).2.2.1 = (toL f (w, o, tn, tf, q, en, r)).2.2.1 ∧ (joL K f (p, j, tn, tf, q, s, r)).2.2.2.1 = (toL f (w, o, tn, tf, q, en, r)).2.2.2.1 ∧ (joL K f (p, j, tn, tf, q, s, r)).2.2.2.2.1 = (toL f (w, o, tn, tf, q, en, r)).2.2.2.2.1 := by
  intro f
  induction f with
  | zero => intro w o p j tn tf q s en r _ _ _ _ _; exact ⟨rfl, rfl, rfl⟩
  | succ f ih =>
    intro w o p j tn tf q s en r hm hs h0 hse hw
    rw [joL, toL]
    by_cases hr : r ≤ 1
    · rw [if_pos hr, if_pos hr]; exact ⟨rfl, rfl, rfl⟩
    · rw [if_neg hr, if_neg hr]
      have et : tjS en r (w, o, tn, tf, q) ((r + 1) / 2) = tjS en r (w, o, tn, tf, q) (r / 2) := by
        rcases Nat.mod_two_eq_zero_or_one r with z | z
        · rw [show (r + 1) / 2 = r / 2 by omega]
        · rw [show (r + 1) / 2 = r / 2 + 1 by omega]; exact tjS_f (by omega)
      obtain ⟨i1, i2, i3, i4⟩ := tj_rel (q := q) (tn := tn) (tf := tf) (o := o) (j := j) hm hs h0 hse hw (r / 2) (by omega)
      rw [joR, toR, et, i1, i2, i3]
      refine ih _ _ _ _ _ _ _ _ _ _ (keS_mon hm) (keS_le hs) (by rw [keS_eq s r 0 (by omega), if_neg (by omega)]; exact h0) (fun x hx => ?_) i4
      rw [tjE, if_pos hx, keS_eq s r (x + 1) (by omega), tjV]
      by_cases c : 2 * x + 1 < r
      · rw [if_pos c, hse _ c]
        split
        · exact congrArg s (by omega)
        · exact congrArg s (by omega)
      · rw [if_neg c, hse _ (by omega), if_pos (by omega)]; exact congrArg s (by omega)
theorem en_rel {en s : Nat → Nat} (hk : ∀ x, x < n → K x = k x) (i : Nat) (hi : i + 1 ≤ n) : cnt (enB k n) i + 1 = cnt (stB K) (i + 1) ∧ ∀ x, x < cnt (enB k n) i → teE k n en i x = frF K s (i + 1) (x + 1) := by
  induction i with
  | zero => exact ⟨cnt_t (P := stB K) (i := 0) rfl (stB_0 rfl), fun x h => absurd h (Nat.not_lt_zero x)⟩
  | succ i ih =>
    obtain ⟨i1, i2⟩ := ih (by omega)
    have eb : enB k n i = stB K (i + 1) := by
      simp only [enB, stB, dropB, hk i (by omega), hk (i + 1) (by omega), Nat.add_sub_cancel]
      have : ¬ i + 1 = n := by omega
      simp [this]
    by_cases hb : stB K (i + 1) = true
    · have hb' : enB k n i = true := by rw [eb]; exact hb
      have c1 : cnt (enB k n) (i + 1) = cnt (enB k n) i + 1 := (cnt_t rfl hb').symm
      have c2 : cnt (stB K) (i + 1 + 1) = cnt (stB K) (i + 1) + 1 := (cnt_t rfl hb).symm
      refine ⟨by omega, fun x hx => ?_⟩
      rw [teE, if_pos hb', frF, if_pos hb]
      unfold va_up
      by_cases c : x = cnt (enB k n) i
      · rw [if_pos c, if_pos (by omega)]
      · rw [if_neg c, if_neg (by omega)]; exact i2 x (by omega)
    · have hb := zb_nf hb
      have hb' : enB k n i = false := by rw [eb]; exact hb
      have c1 : cnt (enB k n) i = cnt (enB k n) (i + 1) := cnt_f rfl hb'
      have c2 : cnt (stB K) (i + 1) = cnt (stB K) (i + 1 + 1) := cnt_f rfl hb
      refine ⟨by omega, fun x hx => ?_⟩
      rw [← teE_f hb', ← frF_f hb]; exact i2 x (by omega)
theorem en_all (en s : Nat → Nat) (hk : ∀ x, x < n → K x = k x) : cnt (enB k n) n = cnt (stB K) n ∧ ∀ x, x < cnt (stB K) n → teE k n en n x = fRun K n s (x + 1) := by
  rcases Nat.eq_zero_or_pos n with z | z
  · subst z; exact ⟨rfl, fun x h => absurd h (Nat.not_lt_zero x)⟩
  · obtain ⟨m, rfl⟩ : ∃ m, n = m + 1 := ⟨n - 1, by omega⟩
    obtain ⟨i1, i2⟩ := en_rel (en := en) (s := s) hk m (Nat.le_refl _)
    have hb : enB k (m + 1) m = true := enB_t1 rfl
    have c1 : cnt (enB k (m + 1)) (m + 1) = cnt (enB k (m + 1)) m + 1 := (cnt_t rfl hb).symm
    refine ⟨by omega, fun x hx => ?_⟩
    rw [teE, if_pos hb]
    unfold fRun va_up
    by_cases c : x = cnt (enB k (m + 1)) m
    · rw [if_pos c, if_pos (by omega)]
    · rw [if_neg c, if_neg (by omega)]; exact i2 x (by omega)
theorem join_rel (hk : ∀ x, x < n → K x = k x) (hid : ∀ x, x < n → p x = x) (wk o tf : Nat → Int32) (j en s : Nat → Nat) (tn : Nat) : (joF K n p j tn tf s).2.2.1 = (toF k n wk o tn tf en).2.2.1 ∧ (joF K n p j tn tf s).2.2.2.1 = (toF k n wk o tn tf en).2.2.2.1 ∧ (joF K n p j tn tf s).2.2.2.2.1 = (toF k n wk o tn tf en).2.2.2.2.1 := by
  obtain ⟨e1, e2⟩ := en_all (K := K) en s hk
  rw [joF, toF, e1]
  exact to_rel 150 _ _ _ _ _ _ _ _ _ _ (fRun_mon K n s) (fRun_le K n s) (fRun_0 K n s) e2 (fun x hx => by rw [cpF, if_pos hx, hid x hx, hk x hx])
-- counting
theorem kd_lt {i j : Nat} (hi : i < n) (hj : j < n) : (kdF K (leastF K n) i < kdF K (leastF K n) j ↔ K i < K j) ∧ (kdF K (leastF K n) i = kdF K (leastF K n) j ↔ K i = K j) := by
  have h1 := least_le (k := K) hi
  have h2 := least_le (k := K) hj
  refine ⟨?_, ?_⟩
  · rw [Int32.lt_iff_toInt_lt]; unfold kdF; omega
  · rw [← Int32.toInt_inj]; unfold kdF; omega
theorem kd_gB {i j : Nat} (hi : i < n) (hj : j < n) : gB (nI' (kdF K (leastF K n))) i j = gB (kI K) i j := by
  have h1 := least_le (k := K) hi
  have h2 := least_le (k := K) hj
  have e : (gB (nI' (kdF K (leastF K n))) i j = true) ↔ (gB (kI K) i j = true) := by
    rw [gB_iff, gB_iff]; unfold nI' kdF kI; omega
  cases h3 : gB (kI K) i j with
  | true => exact e.mpr h3
  | false => exact zb_nf (fun q => by rw [e.mp q] at h3; cases h3)
theorem ltN_mono {d : Nat → Nat} {a b : Nat} (h : a ≤ b) : cnt (ltN d a) n ≤ cnt (ltN d b) n := cnt_sub (fun i _ q => by simp only [ltN, decide_eq_true_eq] at q ⊢; omega)
theorem ltN_s (d : Nat → Nat) (v : Nat) : cnt (ltN d (v + 1)) n = cnt (ltN d v) n + cnt (eqN d v) n := by
  have h := sum_cnt d n (v + 1)
  rw [sumF, sum_cnt] at h
  exact h.symm
theorem cg_key {V i : Nat} (h1 : cnt (ltN (kdF K (leastF K n)) V) n ≤ i) (h2 : i < cnt (ltN (kdF K (leastF K n)) (V + 1)) n) : kdF K (leastF K n) (odF (kI K) n i) = V := by
  have hin : i < n := Nat.lt_of_lt_of_le h2 (cnt_le _ n)
  have ho := od_ok (x := kI K) hin
  have hr : rkF (nI' (kdF K (leastF K n))) n (odF (kI K) n i) = i := by
    rw [rk_congr (fun a b ha hb => kd_gB ha hb) ho.1]; exact ho.2
  rw [← pos_eq ho.1] at hr
  generalize odF (kI K) n i = q at hr ho
  have hq : cnt (eqN (kdF K (leastF K n)) (kdF K (leastF K n) q)) (q + 1) ≤ cnt (eqN (kdF K (leastF K n)) (kdF K (leastF K n) q)) n := cnt_mono ho.1
  have hq2 := cnt_t (P := eqN (kdF K (leastF K n)) (kdF K (leastF K n) q)) (i := q) rfl (by simp [eqN])
  have hs := ltN_s (n := n) (kdF K (leastF K n)) (kdF K (leastF K n) q)
  rcases Nat.lt_trichotomy (kdF K (leastF K n) q) V with c | c | c
  · have := ltN_mono (n := n) (d := kdF K (leastF K n)) (show kdF K (leastF K n) q + 1 ≤ V from c); omega
  · exact c
  · have := ltN_mono (n := n) (d := kdF K (leastF K n)) (show V + 1 ≤ kdF K (leastF K n) q from c); omega
theorem cg_tc (hf : cntB K n = true) {V i : Nat} (h1 : cnt (ltN (kdF K (leastF K n)) V) n ≤ i) (h2 : i < cnt (ltN (kdF K (leastF K n)) (V + 1)) n) :
    cnt (ltB K (K (odF (kI K) n i))) n = cnt (ltN (kdF K (leastF K n)) V) n ∧ cnt (eqB K (K (odF (kI K) n i))) n = cnt (eqN (kdF K (leastF K n)) V) n ∧ K (odF (kI K) n i) = leastF K n + nI V := by
  have hv := cg_key h1 h2
  have hin : i < n := Nat.lt_of_lt_of_le h2 (cnt_le _ n)
  have ho := (od_ok (x := kI K) hin).1
  generalize odF (kI K) n i = q at hv ho
  refine ⟨cnt_congr (fun a ha => ?_), cnt_congr (fun a ha => ?_), ?_⟩
  · simp only [ltB, ltN, ← hv]; exact decide_eq_decide.mpr (kd_lt ha ho).1.symm
  · simp only [eqB, eqN, ← hv]; exact decide_eq_decide.mpr (kd_lt ha ho).2.symm
  · have h := (kd_ok hf q ho).1
    rw [hv] at h
    rw [← h, Int32.add_comm, Int32.sub_add_cancel]
theorem cg_in (hf : cntB K n = true) (tn : Nat) (tf : Nat → Int32) {V : Nat} (t : Nat) (ht : t ≤ cnt (eqN (kdF K (leastF K n)) V) n) :
    tcN K n tn (cnt (ltN (kdF K (leastF K n)) V) n + t) = (if 0 < t ∧ 1 < cnt (eqN (kdF K (leastF K n)) V) n then tcN K n tn (cnt (ltN (kdF K (leastF K n)) V) n) + 1 else tcN K n tn (cnt (ltN (kdF K (leastF K n)) V) n)) ∧
    tcF K n tn tf (cnt (ltN (kdF K (leastF K n)) V) n + t) = (if 0 < t ∧ 1 < cnt (eqN (kdF K (leastF K n)) V) n then tadd (tcF K n tn tf (cnt (ltN (kdF K (leastF K n)) V) n)) (tcN K n tn (cnt (ltN (kdF K (leastF K n)) V) n)) (nI 3) (leastF K n + nI V) (nI (cnt (eqN (kdF K (leastF K n)) V) n)) else tcF K n tn tf (cnt (ltN (kdF K (leastF K n)) V) n)) := by
  induction t with
  | zero => rw [if_neg (by omega), if_neg (by omega)]; exact ⟨rfl, rfl⟩
  | succ t ih =>
    obtain ⟨i1, i2⟩ := ih (by omega)
    have hs := ltN_s (n := n) (kdF K (leastF K n)) V
    obtain ⟨a1, a2, a3⟩ := cg_tc hf (V := V) (i := cnt (ltN (kdF K (leastF K n)) V) n + t) (by omega) (by omega)
    rw [show cnt (ltN (kdF K (leastF K n)) V) n + (t + 1) = cnt (ltN (kdF K (leastF K n)) V) n + t + 1 by omega, tcN, tcF, i1, i2, a2, a3]
    have hb : tcB K n (cnt (ltN (kdF K (leastF K n)) V) n + t) = (decide (t = 0) && decide (1 < cnt (eqN (kdF K (leastF K n)) V) n)) := by
      rw [tcB, a1, a2]; congr 1; exact decide_eq_decide.mpr (by omega)
    rw [hb]
    simp only [Bool.and_eq_true, decide_eq_true_eq]
    generalize cnt (eqN (kdF K (leastF K n)) V) n = M
    generalize tcN K n tn (cnt (ltN (kdF K (leastF K n)) V) n) = A
    generalize tcF K n tn tf (cnt (ltN (kdF K (leastF K n)) V) n) = B
    by_cases c1 : t = 0 <;> by_cases c2 : 1 < M <;> simp [c1, c2, Nat.pos_iff_ne_zero]
theorem cg_rel (hf : cntB K n = true) (cc : Nat → Nat) (tn : Nat) (tf : Nat → Int32) (V : Nat) (hV : V ≤ spF K n + 1) : ctN (ccF K n cc) tn V = tcN K n tn (cnt (ltN (kdF K (leastF K n)) V) n) ∧ ctF (ccF K n cc) (leastF K n) tn tf V = tcF K n tn tf (cnt (ltN (kdF K (leastF K n)) V) n) := by
  induction V with
  | zero =>
    have h : cnt (ltN (kdF K (leastF K n)) 0) n = 0 := cnt_0 (fun i _ => by simp [ltN])
    rw [h]; exact ⟨rfl, rfl⟩
  | succ V ih =>
    obtain ⟨i1, i2⟩ := ih (by omega)
    have h := cg_in hf tn tf (V := V) (cnt (eqN (kdF K (leastF K n)) V) n) (Nat.le_refl _)
    rw [ltN_s, h.1, h.2, ctN, ctF, i1, i2, ccF_eq cc (by omega)]
    by_cases c : 1 < cnt (eqN (kdF K (leastF K n)) V) n
    · rw [if_pos c, if_pos c, if_pos ⟨by omega, c⟩, if_pos ⟨by omega, c⟩]; exact ⟨rfl, rfl⟩
    · rw [if_neg c, if_neg c, if_neg (by omega), if_neg (by omega)]; exact ⟨rfl, rfl⟩
theorem tc_congr (hk : ∀ x, x < n → K x = k x) {i : Nat} (hi : i < n) : tcB K n i = tcB k n i ∧ K (odF (kI K) n i) = k (odF (kI k) n i) ∧ cnt (eqB K (K (odF (kI K) n i))) n = cnt (eqB k (k (odF (kI k) n i))) n := by
  have eo : odF (kI K) n i = odF (kI k) n i := od_congr (fun a b ha hb => by simp only [gB, kI, hk a ha, hk b hb]) i
  have ho := (od_ok (x := kI k) hi).1
  have ek : K (odF (kI K) n i) = k (odF (kI k) n i) := by rw [eo, hk _ ho]
  have c1 : ∀ x, cnt (ltB K x) n = cnt (ltB k x) n := fun x => cnt_congr (fun a ha => by simp only [ltB, hk a ha])
  have c2 : ∀ x, cnt (eqB K x) n = cnt (eqB k x) n := fun x => cnt_congr (fun a ha => by simp only [eqB, hk a ha])
  refine ⟨?_, ek, ?_⟩
  · rw [tcB, tcB, ek, c1, c2]
  · rw [ek, c2]
theorem tc_all (hk : ∀ x, x < n → K x = k x) (tn : Nat) (tf : Nat → Int32) (i : Nat) (hi : i ≤ n) : tcN K n tn i = tcN k n tn i ∧ tcF K n tn tf i = tcF k n tn tf i := by
  induction i with
  | zero => exact ⟨rfl, rfl⟩
  | succ i ih =>
    obtain ⟨i1, i2⟩ := ih (by omega)
    obtain ⟨a1, a2, a3⟩ := tc_congr hk (i := i) (by omega)
    rw [tcN, tcN, tcF, tcF, i1, i2, a1, a3, a2]; exact ⟨rfl, rfl⟩
theorem count_rel (hk : ∀ x, x < n → K x = k x) (hf : cntB K n = true) (cc : Nat → Nat) (tn : Nat) (tf : Nat → Int32) : ctN (ccF K n cc) tn (spF K n + 1) = tcN k n tn n ∧ ctF (ccF K n cc) (leastF K n) tn tf (spF K n + 1) = tcF k n tn tf n := by
  have h := cg_rel hf cc tn tf (spF K n + 1) (Nat.le_refl _)
  have e : cnt (ltN (kdF K (leastF K n)) (spF K n + 1)) n = n := cnt_all (fun i hi => by simp only [ltN, decide_eq_true_eq]; have := (kd_ok hf i hi).2; omega)
  rw [e, (tc_all hk tn tf n (Nat.le_refl _)).1, (tc_all hk tn tf n (Nat.le_refl _)).2] at h
  exact h
-- by bytes
theorem cnt_one {a N : Nat} (h : a < N) : cnt (fun v => decide (v = a)) N = 1 := by
  induction N with
  | zero => exact absurd h (Nat.not_lt_zero a)
  | succ N ih =>
    rw [cnt]
    by_cases c : N = a
    · rw [if_pos (decide_eq_true c), cnt_0 (fun i hi => decide_eq_false (by omega))]
    · rw [if_neg (by simp [c]), ih (by omega)]
theorem dist_eq {d : Nat → Nat} {N : Nat} (hd : ∀ i, d i < N) (n : Nat) : cnt (fun v => decide (0 < cnt (eqN d v) n)) N = cnt (fun i => decide (cnt (eqN d (d i)) i = 0)) n := by
  induction n with
  | zero => exact cnt_0 (fun i _ => by simp [cnt])
  | succ n ih =>
    rw [cnt.eq_2 (fun i => decide (cnt (eqN d (d i)) i = 0)), ← ih]
    by_cases c : cnt (eqN d (d n)) n = 0
    · have h : cnt (fun v => decide (0 < cnt (eqN d v) n)) N + cnt (fun v => decide (v = d n)) N = cnt (fun v => decide (0 < cnt (eqN d v) (n + 1))) N := by
        refine cnt_or (fun v _ => ?_)
        simp only [decide_eq_true_eq]
        by_cases e : v = d n
        · have h2 := cnt_t (P := eqN d v) (i := n) rfl (by simp [eqN, e])
          rw [← e] at c
          rw [if_neg (by omega), if_pos e, if_pos (by omega)]
        · have h2 := cnt_f (P := eqN d v) (i := n) rfl (by simp [eqN]; exact fun q => e q.symm)
          rw [← h2, if_neg e]; rfl
      rw [cnt_one (hd n)] at h
      rw [if_pos (decide_eq_true c), h]
    · rw [if_neg (by simp [c]), Nat.add_zero]
      refine cnt_congr (fun v _ => decide_eq_decide.mpr ?_)
      rw [cnt]
      by_cases e : v = d n
      · rw [e]; omega
      · rw [if_neg (show ¬ eqN d v n = true by simp [eqN]; exact fun q => e q.symm)]; rfl
theorem xor_in : ∀ i, i < 256 → ∀ j, j < 256 → (i ^^^ 128 = j ^^^ 128 ↔ i = j) := by
  intro i hi j hj
  rw [xor_m i hi, xor_m j hj]; omega
theorem dig_eq (x y : Int32) (b : Nat) : dig x b = dig y b ↔ dgR x b = dgR y b := by
  have e : dgN x b = dgN y b ↔ dgR x b = dgR y b := by
    rw [dgR_eq x b, dgR_eq y b]
    exact (nI_eq (by have := dgN_lt x b; omega) (by have := dgN_lt y b; omega)).symm
  rw [← e, dig, dig]
  split
  · exact xor_in _ (dgN_lt x b) _ (dgN_lt y b)
  · exact Iff.rfl
theorem df_rel (hk : ∀ x, x < n → K x = k x) (b : Nat) (s : Nat → Nat) : byDf K b n s = tbD k n b := by
  have h := dist_eq (d := dgF K b) (N := 256) (fun i => dig_lt _ _) n
  rw [byDf, tbD, cnt_congr (P := posB (byC K b n s)) (Q := fun v => decide (0 < cnt (eqN (dgF K b) v) n)) (fun v hv => by rw [posB, byC_eq s hv]), h]
  refine cnt_congr (fun i hi => ?_)
  simp only [firstB]
  refine decide_eq_decide.mpr ?_
  rw [cnt_congr (P := eqN (dgF K b) (dgF K b i)) (Q := eqB (dgK k b) (dgK k b i)) (fun j hj => by
    simp only [eqN, eqB, dgF, dgK, hk i hi, hk j (by omega)]
    exact decide_eq_decide.mpr (dig_eq _ _ b))]
theorem by_rel (hk : ∀ x, x < n → K x = k x) (S0 : byT) (b : Nat) : (byS K n S0 b).2.2.2.1 = tbN k n S0.2.2.2.1 b ∧ (byS K n S0 b).2.2.2.2 = tbF k n S0.2.2.2.1 S0.2.2.2.2 b := by
  induction b with
  | zero => exact ⟨rfl, rfl⟩
  | succ b ih =>
    obtain ⟨i1, i2⟩ := ih
    have e := df_rel hk b (byS K n S0 b).2.2.1
    rcases Nat.lt_or_ge 1 (byDf K b n (byS K n S0 b).2.2.1) with h | h
    · rw [byS_t h, tbN, tbF, ← e, if_pos h, if_pos h]; dsimp only; rw [i1, i2]; exact ⟨rfl, rfl⟩
    · rw [byS_f h, tbN, tbF, ← e, if_neg (by omega), if_neg (by omega)]; exact ⟨i1, i2⟩
-- the figures speak of the keys below n alone
theorem drop_congr (hk : ∀ x, x < n → K x = k x) {i : Nat} (hi : i < n) : dropB K i = dropB k i := by
  rw [dropB, dropB, hk i hi, hk (i - 1) (by omega)]
theorem minF_congr (hk : ∀ x, x < n → K x = k x) (i : Nat) (hi : i < n) : minF K i = minF k i ∧ maxF K i = maxF k i := by
  induction i with
  | zero => exact ⟨hk 0 hi, hk 0 hi⟩
  | succ i ih =>
    obtain ⟨h1, h2⟩ := ih (by omega)
    rw [minF, minF, maxF, maxF, h1, h2, hk (i + 1) hi]; exact ⟨rfl, rfl⟩
theorem su_congr (hk : ∀ x, x < n → K x = k x) (w : Nat) : suB K n w = suB k n w := by
  have hlg : leastF K n = leastF k n ∧ greatF K n = greatF k n := by
    rw [leastF, leastF, greatF, greatF]
    by_cases z : n = 0
    · rw [if_pos z, if_pos z, if_pos z, if_pos z]; exact ⟨rfl, rfl⟩
    · rw [if_neg z, if_neg z, if_neg z, if_neg z]; exact minF_congr hk (n - 1) (by omega)
  match w with
  | 0 => show turnB K n = turnB k n; rw [turnB, turnB, cnt_congr (fun i hi => drop_congr hk hi)]
  | 1 => rfl
  | 2 => rfl
  | 3 => show cntB K n = cntB k n; rw [cntB, cntB, hlg.1, hlg.2]
  | _ + 4 => rfl
theorem od_kcongr (hk : ∀ x, x < n → K x = k x) (i : Nat) : odF (kI K) n i = odF (kI k) n i := od_congr (fun a b ha hb => by simp only [gB, kI, hk a ha, hk b hb]) i
end Rel
