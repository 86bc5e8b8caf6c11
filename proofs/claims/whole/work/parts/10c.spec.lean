-- counting and dealing out
def zeF (c : Nat → Nat) (i : Nat) : Nat → Nat := fun j => if j < i then 0 else c j
theorem zeF_0 (c : Nat → Nat) : c = zeF c 0 := by funext j; simp [zeF]
theorem zeF_s (c : Nat → Nat) (i : Nat) : va_up (zeF c i) i 0 = zeF c (i + 1) := by
  funext j
  simp only [va_up, zeF]
  by_cases h : j = i
  · rw [if_pos h, if_pos (by omega)]
  · rw [if_neg h]
    by_cases h2 : j < i
    · rw [if_pos h2, if_pos (by omega)]
    · rw [if_neg h2, if_neg (by omega)]
def coF (c d : Nat → Nat) : Nat → Nat → Nat
  | 0 => c
  | i + 1 => va_up (coF c d i) (d i) (coF c d i (d i) + 1)
def eqN (d : Nat → Nat) (v j : Nat) : Bool := decide (d j = v)
def ltN (d : Nat → Nat) (v j : Nat) : Bool := decide (d j < v)
theorem coF_eq (c d : Nat → Nat) (i v : Nat) : coF c d i v = c v + cnt (eqN d v) i := by
  induction i with
  | zero => rfl
  | succ i ih =>
    rw [coF, cnt]
    unfold va_up
    by_cases h : v = d i
    · rw [if_pos h, if_pos (by simp [eqN, h]), ← h, ih]; omega
    · rw [if_neg h, if_neg (by simp [eqN]; exact fun q => h q.symm), ih]; omega
def sumF (c : Nat → Nat) : Nat → Nat
  | 0 => 0
  | i + 1 => sumF c i + c i
theorem sumF_congr {c c' : Nat → Nat} {i : Nat} (h : ∀ v, v < i → c v = c' v) : sumF c i = sumF c' i := by
  induction i with
  | zero => rfl
  | succ i ih => rw [sumF, sumF, ih (fun v hv => h v (by omega)), h i (by omega)]
theorem cnt_or {P Q R : Nat → Bool} {n : Nat} (h : ∀ i, i < n → (if P i = true then 1 else 0) + (if Q i = true then 1 else 0) = (if R i = true then 1 else 0)) : cnt P n + cnt Q n = cnt R n := by
  induction n with
  | zero => rfl
  | succ n ih =>
    have h1 := ih (fun i hi => h i (by omega))
    have h2 := h n (by omega)
    rw [cnt, cnt, cnt]; omega
theorem cnt_0 {P : Nat → Bool} {n : Nat} (h : ∀ i, i < n → P i = false) : cnt P n = 0 := by
  induction n with
  | zero => rfl
  | succ n ih => rw [cnt, ih (fun i hi => h i (by omega)), h n (by omega)]; rfl
theorem sum_cnt (d : Nat → Nat) (n w : Nat) : sumF (fun v => cnt (eqN d v) n) w = cnt (ltN d w) n := by
  induction w with
  | zero => rw [sumF, cnt_0]; intro i _; simp [ltN]
  | succ w ih =>
    rw [sumF, ih]
    refine cnt_or (fun i _ => ?_)
    simp only [ltN, eqN, decide_eq_true_eq]
    by_cases h1 : d i < w
    · rw [if_pos h1, if_neg (by omega), if_pos (by omega)]
    · rw [if_neg h1]
      by_cases h2 : d i = w
      · rw [if_pos h2, if_pos (by omega)]
      · rw [if_neg h2, if_neg (by omega)]
-- dealing out: rows (target, nexts), by the digits d of the places p
def dlS (d p : Nat → Nat) (b c : Nat → Nat) : Nat → (Nat → Nat) × (Nat → Nat)
  | 0 => (b, c)
  | i + 1 => (va_up (dlS d p b c i).1 ((dlS d p b c i).2 (d i)) (p i), va_up (dlS d p b c i).2 (d i) ((dlS d p b c i).2 (d i) + 1))
theorem dlS_2 (d p b c : Nat → Nat) (i v : Nat) : (dlS d p b c i).2 v = c v + cnt (eqN d v) i := by
  induction i generalizing v with
  | zero => rfl
  | succ i ih =>
    rw [dlS, cnt]
    dsimp only
    unfold va_up
    by_cases h : v = d i
    · rw [if_pos h, if_pos (by simp [eqN, h]), ih, ← h]; omega
    · rw [if_neg h, if_neg (by simp [eqN]; exact fun q => h q.symm), ih]; omega
theorem deal_lt {d c : Nat → Nat} {n i : Nat} (p b : Nat → Nat) (hi : i < n) (hc : c (d i) = cnt (ltN d (d i)) n) : (dlS d p b c i).2 (d i) < n := by
  rw [dlS_2, hc]
  have h1 : cnt (eqN d (d i)) i + 1 ≤ cnt (eqN d (d i)) n := by
    have h2 : cnt (eqN d (d i)) (i + 1) ≤ cnt (eqN d (d i)) n := cnt_mono hi
    rw [cnt, if_pos (by simp [eqN])] at h2
    exact h2
  have h3 : cnt (ltN d (d i)) n + cnt (eqN d (d i)) n = cnt (ltN d (d i + 1)) n := by
    refine cnt_or (fun j _ => ?_)
    simp only [ltN, eqN, decide_eq_true_eq]
    by_cases h1 : d j < d i
    · rw [if_pos h1, if_neg (by omega), if_pos (by omega)]
    · rw [if_neg h1]
      by_cases h2 : d j = d i
      · rw [if_pos h2, if_pos (by omega)]
      · rw [if_neg h2, if_neg (by omega)]
  have h4 := cnt_le (ltN d (d i + 1)) n
  omega
theorem dl1_lt {d p b c : Nat → Nat} {N : Nat} (hp : ∀ x, p x < N) (hb : ∀ x, b x < N) (i : Nat) : ∀ x, (dlS d p b c i).1 x < N := by
  induction i with
  | zero => exact hb
  | succ i ih => exact up_lt ih (hp _)
-- figures of a row that fits counting
theorem i32_sub {a b : Int32} {d : Nat} (h : a.toInt - b.toInt = d) (hd : d ≤ 500) : a - b = nI d := by
  apply Int32.toInt_inj.mp
  rw [Int32.toInt_sub, h, nI_toInt (by omega)]
  have h2 : ((d : Int)).bmod (2 ^ 32) = d := by
    rw [Int.bmod_def]
    split <;> omega
  exact h2
def kdF (k : Nat → Int32) (lx : Int32) (i : Nat) : Nat := ((k i).toInt - lx.toInt).toNat
def spF (k : Nat → Int32) (n : Nat) : Nat := ((greatF k n).toInt - (leastF k n).toInt).toNat
theorem minF_le (k : Nat → Int32) (i : Nat) : ∀ j, j ≤ i → (minF k i).toInt ≤ (k j).toInt := by
  induction i with
  | zero => intro j hj; rw [Nat.le_zero.mp hj]; exact Int.le_refl _
  | succ i ih =>
    intro j hj
    rw [minF]
    split
    · rename_i h
      have h := Int32.lt_iff_toInt_lt.mp h
      rcases Nat.lt_or_ge j (i + 1) with q | q
      · have := ih j (by omega); omega
      · rw [show j = i + 1 by omega]; exact Int.le_refl _
    · rename_i h
      have h : ¬ (k (i + 1)).toInt < (minF k i).toInt := fun q => h (Int32.lt_iff_toInt_lt.mpr q)
      rcases Nat.lt_or_ge j (i + 1) with q | q
      · exact ih j (by omega)
      · rw [show j = i + 1 by omega]; omega
theorem maxF_ge (k : Nat → Int32) (i : Nat) : ∀ j, j ≤ i → (k j).toInt ≤ (maxF k i).toInt := by
  induction i with
  | zero => intro j hj; rw [Nat.le_zero.mp hj]; exact Int.le_refl _
  | succ i ih =>
    intro j hj
    rw [maxF]
    split
    · rename_i h
      have h := Int32.lt_iff_toInt_lt.mp h
      rcases Nat.lt_or_ge j (i + 1) with q | q
      · have := ih j (by omega); omega
      · rw [show j = i + 1 by omega]; exact Int.le_refl _
    · rename_i h
      have h : ¬ (maxF k i).toInt < (k (i + 1)).toInt := fun q => h (Int32.lt_iff_toInt_lt.mpr q)
      rcases Nat.lt_or_ge j (i + 1) with q | q
      · exact ih j (by omega)
      · rw [show j = i + 1 by omega]; omega
theorem least_le {k : Nat → Int32} {n i : Nat} (h : i < n) : (leastF k n).toInt ≤ (k i).toInt := by
  rw [leastF, if_neg (by omega)]; exact minF_le k (n - 1) i (by omega)
theorem great_ge {k : Nat → Int32} {n i : Nat} (h : i < n) : (k i).toInt ≤ (greatF k n).toInt := by
  rw [greatF, if_neg (by omega)]; exact maxF_ge k (n - 1) i (by omega)
theorem lg_le (k : Nat → Int32) (n : Nat) : (leastF k n).toInt ≤ (greatF k n).toInt := by
  rcases Nat.eq_zero_or_pos n with h | h
  · rw [leastF, greatF, if_pos h, if_pos h]; exact Int.le_refl _
  · exact Int.le_trans (least_le h) (great_ge h)
theorem i64_sub (a b : Int32) : (a.toInt64 - b.toInt64).toInt = a.toInt - b.toInt := by
  rw [Int64.toInt_sub, Int32.toInt_toInt64, Int32.toInt_toInt64]
  have h1 := Int32.toInt_lt a
  have h2 := Int32.toInt_lt b
  have h3 := Int32.le_toInt a
  have h4 := Int32.le_toInt b
  rw [Int.bmod_def]
  split <;> omega
theorem cntB_iff (k : Nat → Int32) (n : Nat) : cntB k n = true ↔ (greatF k n).toInt - (leastF k n).toInt ≤ 500 := by
  unfold cntB
  simp only [Bool.not_eq_true', decide_eq_false_iff_not]
  rw [Int64.lt_iff_toInt_lt, i64_sub]
  have : (500 : Int64).toInt = 500 := rfl
  rw [this]; omega
theorem sp_le {k : Nat → Int32} {n : Nat} (h : cntB k n = true) : spF k n ≤ 500 := by
  have := (cntB_iff k n).mp h
  unfold spF; omega
theorem sp_eq {k : Nat → Int32} {n : Nat} (h : cntB k n = true) : greatF k n - leastF k n = nI (spF k n) := by
  have h1 := lg_le k n
  exact i32_sub (by unfold spF; omega) (sp_le h)
theorem kd_ok {k : Nat → Int32} {n : Nat} (h : cntB k n = true) : ∀ i, i < n → k i - leastF k n = nI (kdF k (leastF k n) i) ∧ kdF k (leastF k n) i ≤ spF k n := by
  intro i hi
  have h1 := least_le (k := k) hi
  have h2 := great_ge (k := k) hi
  have h3 := (cntB_iff k n).mp h
  have h4 : kdF k (leastF k n) i ≤ spF k n := by unfold kdF spF; omega
  exact ⟨i32_sub (by unfold kdF; omega) (Nat.le_trans h4 (sp_le h)), h4⟩
-- the steps of counting
def ccF (k : Nat → Int32) (n : Nat) (cc : Nat → Nat) : Nat → Nat := coF (zeF cc (spF k n + 1)) (kdF k (leastF k n)) n
def neF (c : Nat → Nat) (s : Nat → Nat) : Nat → Nat → Nat
  | 0 => s
  | i + 1 => va_up (neF c s i) i (sumF c i)
theorem neF_eq (c s : Nat → Nat) (i v : Nat) (h : v < i) : neF c s i v = sumF c v := by
  induction i with
  | zero => exact absurd h (Nat.not_lt_zero v)
  | succ i ih =>
    rw [neF]; unfold va_up
    by_cases h1 : v = i
    · rw [if_pos h1, h1]
    · rw [if_neg h1]; exact ih (by omega)
def ctN (c : Nat → Nat) (tn : Nat) : Nat → Nat
  | 0 => tn
  | i + 1 => if 1 < c i then ctN c tn i + 1 else ctN c tn i
def ctF (c : Nat → Nat) (lx : Int32) (tn : Nat) (tf : Nat → Int32) : Nat → Nat → Int32
  | 0 => tf
  | i + 1 => if 1 < c i then tadd (ctF c lx tn tf i) (ctN c tn i) (nI 3) (lx + nI i) (nI (c i)) else ctF c lx tn tf i
theorem ctN_le (c : Nat → Nat) (tn i : Nat) : ctN c tn i ≤ tn + sumF c i := by
  induction i with
  | zero => exact Nat.le_refl _
  | succ i ih => rw [ctN, sumF]; split <;> omega
theorem ccF_eq {k : Nat → Int32} {n : Nat} (cc : Nat → Nat) {v : Nat} (hv : v ≤ spF k n) : ccF k n cc v = cnt (eqN (kdF k (leastF k n)) v) n := by
  rw [ccF, coF_eq, zeF, if_pos (by omega)]; omega
theorem cc_sum {k : Nat → Int32} {n : Nat} (cc : Nat → Nat) {v : Nat} (hv : v ≤ spF k n + 1) : sumF (ccF k n cc) v = cnt (ltN (kdF k (leastF k n)) v) n := by
  rw [← sum_cnt]; exact sumF_congr (fun w hw => ccF_eq cc (by omega))
def cnN (k : Nat → Int32) (n : Nat) (cc cn : Nat → Nat) : Nat → Nat := neF (ccF k n cc) cn (spF k n + 1)
theorem cnN_eq {k : Nat → Int32} {n : Nat} (h : cntB k n = true) (cc cn : Nat → Nat) {i : Nat} (hi : i < n) : cnN k n cc cn (kdF k (leastF k n) i) = cnt (ltN (kdF k (leastF k n)) (kdF k (leastF k n) i)) n := by
  have := (kd_ok h i hi).2
  rw [cnN, neF_eq _ _ _ _ (by omega), cc_sum cc (by omega)]
