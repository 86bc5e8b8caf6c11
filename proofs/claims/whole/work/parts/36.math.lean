-- the ways bring the places into order
theorem goesB_eq (k : Nat → Int32) (a b : Nat) : goesB k a b = gB (kI k) a b := by
  simp only [goesB, gB, kI, Int32.lt_iff_toInt_lt, ← Int32.toInt_inj]
theorem cnt_full {P : Nat → Bool} (h0 : P 0 = false) : ∀ n, n ≤ cnt P n + 1 → ∀ i, 1 ≤ i → i < n → P i = true := by
  intro n
  induction n with
  | zero => intro _ i _ hi; exact absurd hi (Nat.not_lt_zero i)
  | succ n ih =>
    intro h i h1 hi
    rcases Nat.eq_zero_or_pos n with hz | hz
    · omega
    · have hc := cnt_lt1 h0 hz
      rw [cnt] at h
      by_cases hp : P n = true
      · rw [if_pos hp] at h
        rcases Nat.lt_or_ge i n with q | q
        · exact ih (by omega) i h1 q
        · rw [show i = n by omega]; exact hp
      · rw [if_neg hp] at h; omega
theorem swF_eq (p : Nat → Nat) (n i : Nat) (hi : i ≤ n / 2) : ∀ j, j < n → swF p n i j = if j < i ∨ n - 1 - j < i then p (n - 1 - j) else p j := by
  induction i with
  | zero => intro j _; rw [swF, if_neg (by omega)]
  | succ i ih =>
    intro j hj
    have ih := ih (by omega)
    rw [swF]; unfold va_up
    by_cases h1 : j = n - 1 - i
    · rw [if_pos h1, ih i (by omega), if_neg (by omega), if_pos (by omega)]
      exact congrArg p (by omega)
    · rw [if_neg h1]
      by_cases h2 : j = i
      · rw [if_pos h2, ih _ (by omega), if_neg (by omega), if_pos (by omega), h2]
      · rw [if_neg h2, ih j hj]
        by_cases h3 : j < i ∨ n - 1 - j < i
        · rw [if_pos h3, if_pos (by omega)]
        · rw [if_neg h3, if_neg (by omega)]
theorem turn_srt {k : Nat → Int32} {n : Nat} {p : Nat → Nat} (hid : ∀ i, i < n → p i = i) (ht : turnB k n = true) : SrtP (kI k) n (if n < 2 then p else swF p n (n / 2)) := by
  by_cases h2 : n < 2
  · rw [if_pos h2]; exact ⟨fun i hi => by rw [hid i hi]; exact hi, fun i hi => by omega⟩
  · rw [if_neg h2]
    have hv : ∀ j, j < n → swF p n (n / 2) j = n - 1 - j := by
      intro j hj
      rw [swF_eq p n (n / 2) (Nat.le_refl _) j hj]
      split
      · exact hid _ (by omega)
      · rw [hid j hj]; omega
    refine ⟨fun i hi => by rw [hv i hi]; omega, fun i hi => ?_⟩
    rw [hv i (by omega), hv (i + 1) hi]
    have hd := cnt_full (dropB_0 k) n (of_decide_eq_true ht) (n - 1 - i) (by omega) (by omega)
    simp only [dropB, Bool.and_eq_true, decide_eq_true_eq] at hd
    have h3 := Int32.lt_iff_toInt_lt.mp hd.2
    refine gB_iff.mpr (Or.inl ?_)
    show (k (n - 1 - i)).toInt < (k (n - 1 - (i + 1))).toInt
    rw [show n - 1 - (i + 1) = n - 1 - i - 1 by omega]; exact h3
-- putting in
theorem tgt_ge (k : Nat → Int32) (p : Nat → Nat) (x : Int32) (i : Nat) : (∀ j, tgtF k p x i ≤ j → j < i → ¬ k (p j) ≤ x) ∧ (0 < tgtF k p x i → k (p (tgtF k p x i - 1)) ≤ x) := by
  induction i with
  | zero => exact ⟨fun j _ h => absurd h (Nat.not_lt_zero j), fun h => absurd h (Nat.lt_irrefl 0)⟩
  | succ i ih =>
    rw [tgtF]
    by_cases h : k (p i) ≤ x
    · rw [if_pos h]; exact ⟨fun j h1 h2 => by omega, fun _ => h⟩
    · rw [if_neg h]
      refine ⟨fun j h1 h2 => ?_, ih.2⟩
      rcases Nat.lt_or_ge j i with q | q
      · exact ih.1 j h1 q
      · rw [show j = i by omega]; exact h
theorem movF_eq (p : Nat → Nat) {j i : Nat} (h : i ≤ j) (x : Nat) : movF p j i x = if x = i then p j else if i < x ∧ x ≤ j then p (x - 1) else p x := by
  unfold movF va_up va_cpy
  by_cases h1 : x = i
  · rw [if_pos h1, if_pos h1]
  · rw [if_neg h1, if_neg h1]
    by_cases h2 : i < x ∧ x ≤ j
    · rw [if_pos h2, if_pos (by omega), show i + (x - (i + 1)) = x - 1 by omega]
    · rw [if_neg h2, if_neg (by omega)]
theorem pP_ok {k : Nat → Int32} {p : Nat → Nat} {n : Nat} (hid : ∀ i, i < n → p i = i) (i : Nat) (hi : i ≤ n) : (∀ j, j < i → pP k p i j < i) ∧ (∀ j, i ≤ j → j < n → pP k p i j = j) ∧ ∀ j, j + 1 < i → gB (kI k) (pP k p i j) (pP k p i (j + 1)) = true := by
  induction i with
  | zero => exact ⟨fun j h => absurd h (Nat.not_lt_zero j), fun j _ h => hid j h, fun j h => absurd h (Nat.not_lt_zero _)⟩
  | succ i ih =>
    obtain ⟨h1, h2, h3⟩ := ih (by omega)
    have hpi : pP k p i i = i := h2 i (Nat.le_refl _) (by omega)
    obtain ⟨t1, t2⟩ := tgt_ge k (pP k p i) (k (pP k p i i)) i
    have hle := tgtF_le k (pP k p i) (k (pP k p i i)) i
    have key : pP k p (i + 1) = movF (pP k p i) i (tgtF k (pP k p i) (k (pP k p i i)) i) := by
      rw [pP]; split
      · rfl
      · funext x
        rw [movF_eq _ hle]
        split
        · rename_i q z; rw [z]; exact congrArg _ (by omega)
        · rw [if_neg (by omega)]
    generalize tgtF k (pP k p i) (k (pP k p i i)) i = to at t1 t2 hle key
    rw [hpi] at t1 t2
    have ev : ∀ x, pP k p (i + 1) x = if x = to then i else if to < x ∧ x ≤ i then pP k p i (x - 1) else pP k p i x := by
      intro x; rw [key, movF_eq _ hle, hpi]
    refine ⟨fun j hj => ?_, fun j hj hjn => ?_, fun j hj => ?_⟩
    · rw [ev]; split
      · omega
      · split
        · exact Nat.lt_succ_of_lt (h1 _ (by omega))
        · exact Nat.lt_succ_of_lt (h1 j (by omega))
    · rw [ev, if_neg (by omega), if_neg (by omega)]; exact h2 j (by omega) hjn
    · rw [ev j, ev (j + 1)]
      by_cases a1 : j = to
      · rw [if_pos a1, if_neg (by omega), if_pos (by omega)]
        have h9 := t1 j (by omega) (by omega)
        have h8 := Int32.lt_iff_toInt_lt.mp (Int32.not_le.mp h9)
        exact gB_iff.mpr (Or.inl (by rw [show j + 1 - 1 = j by omega]; exact h8))
      · rw [if_neg a1]
        by_cases a2 : to < j ∧ j ≤ i
        · rw [if_pos a2, if_neg (by omega), if_pos (by omega)]
          have h9 := h3 (j - 1) (by omega)
          rw [show j - 1 + 1 = j by omega] at h9
          rw [show j + 1 - 1 = j by omega]; exact h9
        · rw [if_neg a2]
          by_cases a3 : j + 1 = to
          · rw [if_pos a3]
            have h9 := t2 (by omega)
            rw [show to - 1 = j by omega] at h9
            have h8 := Int32.le_iff_toInt_le.mp h9
            have h7 := h1 j (by omega)
            refine gB_iff.mpr ?_
            show (k (pP k p i j)).toInt < (k i).toInt ∨ ((k (pP k p i j)).toInt = (k i).toInt ∧ pP k p i j < i)
            omega
          · rw [if_neg a3, if_neg (by omega)]; exact h3 j (by omega)
theorem put_srt {k : Nat → Int32} {p : Nat → Nat} {n : Nat} (hid : ∀ i, i < n → p i = i) : SrtP (kI k) n (pP k p n) := ⟨(pP_ok hid n (Nat.le_refl n)).1, (pP_ok hid n (Nat.le_refl n)).2.2⟩
-- counting
theorem find_congr {P Q : Nat → Bool} {n : Nat} (h : ∀ i, i < n → P i = Q i) : findL P n = findL Q n := by
  induction n with
  | zero => rfl
  | succ n ih => rw [findL, findL, ih (fun i hi => h i (by omega)), h n (by omega)]
theorem rk_congr {x y : Nat → Int} {n : Nat} (h : ∀ i j, i < n → j < n → gB x i j = gB y i j) {p : Nat} (hp : p < n) : rkF x n p = rkF y n p := cnt_congr (fun i hi => h i p hi hp)
theorem od_congr {x y : Nat → Int} {n : Nat} (h : ∀ i j, i < n → j < n → gB x i j = gB y i j) (r : Nat) : odF x n r = odF y n r := find_congr (fun i hi => by rw [rk_congr h hi])
theorem cnt_srt {k : Nat → Int32} {n : Nat} (hf : cntB k n = true) (b cc cn : Nat → Nat) {r : Nat} (hr : r < n) : (dlS (kdF k (leastF k n)) (fun x => x) b (cnN k n cc cn) n).1 r = odF (kI k) n r := by
  rw [deal_od (fun i hi => cnN_eq hf cc cn hi) hr]
  refine od_congr (fun i j hi hj => ?_) r
  have h1 := least_le (k := k) hi
  have h2 := least_le (k := k) hj
  have e : (gB (nI' (kdF k (leastF k n))) i j = true) ↔ (gB (kI k) i j = true) := by
    rw [gB_iff, gB_iff]; unfold nI' kdF kI; omega
  cases h3 : gB (kI k) i j with
  | true => exact e.mpr h3
  | false => exact zb_nf (fun q => by rw [e.mp q] at h3; cases h3)
-- by bytes
theorem srt_lt {x : Nat → Int} {n : Nat} {p : Nat → Nat} (h : SrtP x n p) {i : Nat} : ∀ j, i < j → j < n → gB x (p i) (p j) = true := by
  intro j
  induction j with
  | zero => intro h1 _; exact absurd h1 (Nat.not_lt_zero i)
  | succ j ih =>
    intro h1 h2
    rcases Nat.lt_or_ge i j with q | q
    · exact gB_trans (ih q (by omega)) (h.2 j h2)
    · rw [show i = j by omega]; exact h.2 j h2
def lwF (x : Int32) : Nat → Nat
  | 0 => 0
  | b + 1 => dig x b * 256 ^ b + lwF x b
theorem lw_lt (x : Int32) (b : Nat) : lwF x b < 256 ^ b := by
  induction b with
  | zero => exact Nat.lt_succ_self 0
  | succ b ih =>
    have h := dig_lt x b
    have h2 : dig x b * 256 ^ b ≤ 255 * 256 ^ b := Nat.mul_le_mul_right _ (by omega)
    rw [lwF, Nat.pow_succ]; omega
theorem lw_cmp {x y : Int32} {b : Nat} (h : dig x b < dig y b) : lwF x (b + 1) < lwF y (b + 1) := by
  have h1 := lw_lt x b
  have h2 : (dig x b + 1) * 256 ^ b ≤ dig y b * 256 ^ b := Nat.mul_le_mul_right _ h
  rw [Nat.add_mul] at h2
  rw [lwF, lwF]; omega
theorem cnt_uni {P : Nat → Bool} {N : Nat} (h : cnt P N ≤ 1) {a b : Nat} (ha : a < N) (hb : b < N) (pa : P a = true) (pb : P b = true) : a = b := by
  rcases Nat.lt_trichotomy a b with q | q | q
  · have h1 := cnt_t (P := P) (i := a) rfl pa
    have h2 := cnt_t (P := P) (i := b) rfl pb
    have h3 : cnt P (a + 1) ≤ cnt P b := cnt_mono q
    have h4 : cnt P (b + 1) ≤ cnt P N := cnt_mono hb
    omega
  · exact q
  · have h1 := cnt_t (P := P) (i := a) rfl pa
    have h2 := cnt_t (P := P) (i := b) rfl pb
    have h3 : cnt P (b + 1) ≤ cnt P a := cnt_mono q
    have h4 : cnt P (a + 1) ≤ cnt P N := cnt_mono ha
    omega
theorem df_same {k : Nat → Int32} {b n : Nat} {s : Nat → Nat} (h : byDf k b n s ≤ 1) {i j : Nat} (hi : i < n) (hj : j < n) : dig (k i) b = dig (k j) b := by
  have pos : ∀ a, a < n → posB (byC k b n s) (dig (k a) b) = true := by
    intro a ha
    have h1 := cnt_t (P := eqN (dgF k b) (dig (k a) b)) (i := a) rfl (by simp [eqN, dgF])
    have h2 : cnt (eqN (dgF k b) (dig (k a) b)) (a + 1) ≤ cnt (eqN (dgF k b) (dig (k a) b)) n := cnt_mono ha
    simp only [posB, decide_eq_true_eq]
    rw [byC_eq s (dig_lt _ _)]; omega
  exact cnt_uni h (dig_lt _ _) (dig_lt _ _) (pos i hi) (pos j hj)
abbrev lwI (k : Nat → Int32) (b : Nat) : Nat → Int := fun i => (lwF (k i) b : Int)
theorem byS_srt {k : Nat → Int32} {n : Nat} {S0 : byT} (hn : n ≤ 150) (h1 : ∀ x, S0.1 x < 150) (h2 : ∀ x, S0.2.1 x < 150) (hid : ∀ i, i < n → S0.1 i = i) (b : Nat) : SrtP (lwI k b) n (byS k n S0 b).1 := by
  have hinj : injF S0.1 n := ⟨fun i hi => by rw [hid i hi]; exact hi, fun i j hi hj q => by rw [hid i hi, hid j hj] at q; exact q⟩
  induction b with
  | zero => exact ⟨fun i hi => hinj.1 i hi, fun i hi => gB_iff.mpr (Or.inr ⟨rfl, by show S0.1 i < S0.1 (i + 1); rw [hid i (by omega), hid (i + 1) hi]; omega⟩)⟩
  | succ b ih =>
    have hO := byS_ok (k := k) hn h1 h2 hinj b
    rcases Nat.lt_or_ge 1 (byDf k b n (byS k n S0 b).2.2.1) with h | h
    · rw [byS_t h]
      show SrtP (lwI k (b + 1)) n (va_cpy (byD k b n (byS k n S0 b).1 (byS k n S0 b).2.1 (byS k n S0 b).2.2.1).1 (byS k n S0 b).1 0 0 n)
      have hv := byD_eq (k := k) (b := b) (e := (byS k n S0 b).2.1) (s := (byS k n S0 b).2.2.1) hO.2.2.1
      have hs := od_srt (nI' (dgP k (byS k n S0 b).1 b)) n
      generalize (byS k n S0 b).1 = P at ih hv hs hO
      refine ⟨fun i hi => by rw [hv i hi]; exact ih.1 _ (hs.1 i hi), fun i hi => ?_⟩
      rw [hv i (by omega), hv (i + 1) hi]
      have hg := gB_iff.mp (hs.2 i hi)
      generalize ha : odF (nI' (dgP k P b)) n i = a at hg
      generalize hc : odF (nI' (dgP k P b)) n (i + 1) = c at hg
      have hcn : c < n := by rw [← hc]; exact hs.1 (i + 1) hi
      rcases hg with hg | ⟨hg, hac⟩
      · refine gB_iff.mpr (Or.inl ?_)
        have h9 : dig (k (P a)) b < dig (k (P c)) b := by unfold nI' dgP at hg; omega
        have h8 := lw_cmp h9
        show (lwF (k (P a)) (b + 1) : Int) < (lwF (k (P c)) (b + 1) : Int)
        omega
      · have h9 : dig (k (P a)) b = dig (k (P c)) b := by unfold nI' dgP at hg; omega
        have h8 := gB_iff.mp (srt_lt ih c hac hcn)
        refine gB_iff.mpr ?_
        show (lwF (k (P a)) (b + 1) : Int) < (lwF (k (P c)) (b + 1) : Int) ∨ ((lwF (k (P a)) (b + 1) : Int) = (lwF (k (P c)) (b + 1) : Int) ∧ P a < P c)
        have h7 : ((lwF (k (P a)) b : Int) < (lwF (k (P c)) b : Int)) ∨ ((lwF (k (P a)) b : Int) = (lwF (k (P c)) b : Int) ∧ P a < P c) := h8
        rw [lwF, lwF, h9]
        omega
    · rw [byS_f h]
      refine ⟨ih.1, fun i hi => ?_⟩
      have h8 := gB_iff.mp (ih.2 i hi)
      generalize (byS k n S0 b).1 = P at ih h8 hO
      have h9 : dig (k (P i)) b = dig (k (P (i + 1))) b := df_same h (ih.1 i (by omega)) (ih.1 (i + 1) hi)
      refine gB_iff.mpr ?_
      show (lwF (k (P i)) (b + 1) : Int) < (lwF (k (P (i + 1))) (b + 1) : Int) ∨ ((lwF (k (P i)) (b + 1) : Int) = (lwF (k (P (i + 1))) (b + 1) : Int) ∧ P i < P (i + 1))
      have h7 : ((lwF (k (P i)) b : Int) < (lwF (k (P (i + 1))) b : Int)) ∨ ((lwF (k (P i)) b : Int) = (lwF (k (P (i + 1))) b : Int) ∧ P i < P (i + 1)) := h8
      rw [lwF, lwF, h9]
      omega
