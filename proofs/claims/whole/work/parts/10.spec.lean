-- the five ways, as the class goes them: which places, which steps, how many comparisons
def turnB (k : Nat → Int32) (n : Nat) : Bool := decide (n ≤ cnt (dropB k) n + 1)
theorem turn_t {k : Nat → Int32} {n : Nat} (hn : n ≤ 150) (h : ¬ nI (cnt (dropB k) n) < nI n - nI 1) : nI 1 = zb (turnB k n) := zb_t (by
  have hc := cnt_le (dropB k) n
  have h1 : ¬ (nI (cnt (dropB k) n)).toInt < (nI n - nI 1).toInt := fun q => h (Int32.lt_iff_toInt_lt.mpr q)
  rw [nI_toInt (by omega), pk_sub_toInt (by omega) (by omega)] at h1
  simp only [turnB, decide_eq_true_eq]; omega)
theorem turn_f {k : Nat → Int32} {n : Nat} (hn : n ≤ 150) (h : nI (cnt (dropB k) n) < nI n - nI 1) : nI 0 = zb (turnB k n) := zb_f (by
  have hc := cnt_le (dropB k) n
  have h1 : (nI (cnt (dropB k) n)).toInt < (nI n - nI 1).toInt := Int32.lt_iff_toInt_lt.mp h
  rw [nI_toInt (by omega), pk_sub_toInt (by omega) (by omega)] at h1
  simp only [turnB, decide_eq_false_iff_not]; omega)
def cntB (k : Nat → Int32) (n : Nat) : Bool := !decide (500 < (greatF k n).toInt64 - (leastF k n).toInt64)
theorem cntB_t {k : Nat → Int32} {n : Nat} (h : ¬ 500 < (greatF k n).toInt64 - (leastF k n).toInt64) : nI 1 = zb (cntB k n) := zb_t (by simp [cntB, h])
theorem cntB_f {k : Nat → Int32} {n : Nat} (h : 500 < (greatF k n).toInt64 - (leastF k n).toInt64) : nI 0 = zb (cntB k n) := zb_f (by simp [cntB, h])
-- turning
def swF (p : Nat → Nat) (n : Nat) : Nat → Nat → Nat
  | 0 => p
  | i + 1 => va_up (va_up (swF p n i) i (swF p n i (n - 1 - i))) (n - 1 - i) (swF p n i i)
theorem swF_s (p : Nat → Nat) (n i : Nat) : va_up (va_up (swF p n i) i (swF p n i (n - 1 - i))) (n - 1 - i) (swF p n i i) = swF p n (i + 1) := rfl
-- putting in
def tgtF (k : Nat → Int32) (p : Nat → Nat) (x : Int32) : Nat → Nat
  | 0 => 0
  | i + 1 => if k (p i) ≤ x then i + 1 else tgtF k p x i
theorem tgtF_le (k : Nat → Int32) (p : Nat → Nat) (x : Int32) (i : Nat) : tgtF k p x i ≤ i := by
  induction i with
  | zero => exact Nat.le_refl 0
  | succ i ih => rw [tgtF]; split <;> omega
theorem tgt_0 {k : Nat → Int32} {p : Nat → Nat} {x : Int32} {i j : Nat} (h : tgtF k p x j = tgtF k p x i) (h0 : i = 0) : i = tgtF k p x j := by rw [h, h0]; rfl
theorem tgt_x {k : Nat → Int32} {p : Nat → Nat} {x : Int32} {i j : Nat} (h : tgtF k p x j = tgtF k p x i) (h0 : 0 < i) (hp : k (p (i - 1)) ≤ x) : i = tgtF k p x j := by
  obtain ⟨a, rfl⟩ : ∃ a, i = a + 1 := ⟨i - 1, by omega⟩
  have hp : k (p a) ≤ x := hp
  rw [h, tgtF, if_pos hp]
theorem tgt_s {k : Nat → Int32} {p : Nat → Nat} {x : Int32} {i j : Nat} (h : tgtF k p x j = tgtF k p x i) (h0 : 0 < i) (hp : ¬ k (p (i - 1)) ≤ x) : tgtF k p x j = tgtF k p x (i - 1) := by
  obtain ⟨a, rfl⟩ : ∃ a, i = a + 1 := ⟨i - 1, by omega⟩
  have hp : ¬ k (p a) ≤ x := hp
  rw [h, tgtF, if_neg hp]; rfl
def movF (p : Nat → Nat) (j i : Nat) : Nat → Nat := va_up (va_cpy p p i (i + 1) (j - i)) i (p j)
def pP (k : Nat → Int32) (p : Nat → Nat) : Nat → Nat → Nat
  | 0 => p
  | i + 1 => if tgtF k (pP k p i) (k (pP k p i i)) i < i then movF (pP k p i) i (tgtF k (pP k p i) (k (pP k p i i)) i) else pP k p i
def pTo (k : Nat → Int32) (p : Nat → Nat) (i : Nat) : Nat := tgtF k (pP k p i) (k (pP k p i i)) i
def pT (k : Nat → Int32) (p : Nat → Nat) (tn : Nat) : Nat → Nat
  | 0 => tn
  | i + 1 => if pTo k p i < i then pT k p tn i + 1 else pT k p tn i
def pF (k : Nat → Int32) (p : Nat → Nat) (tn : Nat) (tf : Nat → Int32) : Nat → Nat → Int32
  | 0 => tf
  | i + 1 => if pTo k p i < i then tadd (pF k p tn tf i) (pT k p tn i) (nI 1) (nI i) (nI (pTo k p i)) else pF k p tn tf i
def pC (k : Nat → Int32) (p : Nat → Nat) : Nat → Nat
  | 0 => 0
  | i + 1 => pC k p i + (i - pTo k p i + (if 0 < pTo k p i then 1 else 0))
theorem pTo_le (k : Nat → Int32) (p : Nat → Nat) (i : Nat) : pTo k p i ≤ i := tgtF_le _ _ _ i
theorem pTo_0 (k : Nat → Int32) (p : Nat → Nat) : pTo k p 0 = 0 := rfl
theorem pP_1 (k : Nat → Int32) (p : Nat → Nat) : p = pP k p 1 := rfl
theorem pT_1 (k : Nat → Int32) (p : Nat → Nat) (tn : Nat) : tn = pT k p tn 1 := rfl
theorem pF_1 (k : Nat → Int32) (p : Nat → Nat) (tn : Nat) (tf : Nat → Int32) : tf = pF k p tn tf 1 := rfl
theorem pT_le (k : Nat → Int32) (p : Nat → Nat) (tn i : Nat) : pT k p tn i ≤ tn + i := by
  induction i with
  | zero => exact Nat.le_refl _
  | succ i ih => rw [pT]; split <;> omega
theorem movF_lt {p : Nat → Nat} {j i N : Nat} (hp : ∀ x, p x < N) : ∀ x, movF p j i x < N := by
  intro x
  unfold movF va_up va_cpy
  split
  · exact hp _
  · split <;> exact hp _
theorem pP_lt {k : Nat → Int32} {p : Nat → Nat} {N : Nat} (hp : ∀ x, p x < N) (i : Nat) : ∀ x, pP k p i x < N := by
  induction i with
  | zero => exact hp
  | succ i ih => rw [pP]; split; exact movF_lt ih; exact ih
