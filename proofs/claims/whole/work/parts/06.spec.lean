-- what the figures of a row are
def cnt (P : Nat → Bool) : Nat → Nat
  | 0 => 0
  | n + 1 => cnt P n + (if P n = true then 1 else 0)
theorem cnt_t {P : Nat → Bool} {i c : Nat} (h : c = cnt P i) (hp : P i = true) : c + 1 = cnt P (i + 1) := by rw [h, cnt, if_pos hp]
theorem cnt_f {P : Nat → Bool} {i c : Nat} (h : c = cnt P i) (hp : P i = false) : c = cnt P (i + 1) := by rw [h, cnt, if_neg (by rw [hp]; decide)]; rfl
theorem cnt_le (P : Nat → Bool) (n : Nat) : cnt P n ≤ n := by
  induction n with
  | zero => exact Nat.le_refl 0
  | succ n ih => rw [cnt]; split <;> omega
theorem cnt_congr {P Q : Nat → Bool} {n : Nat} (h : ∀ i, i < n → P i = Q i) : cnt P n = cnt Q n := by
  induction n with
  | zero => rfl
  | succ n ih => rw [cnt, cnt, ih (fun i hi => h i (Nat.lt_succ_of_lt hi)), h n (Nat.lt_succ_self n)]
def dropB (k : Nat → Int32) (i : Nat) : Bool := decide (0 < i) && decide (k i < k (i - 1))
def hasB (x : Int32) (n : Nat) : Bool := decide (0 ≤ x.toInt) && decide (x.toInt < n)
theorem one_exit {P : Nat → Bool} (h0 : P 0 = false) {n i c : Nat} (hc : c = cnt P i) (h : n ≤ i) (hin : i ≤ n ∨ (i = 1 ∧ n = 0)) : c = cnt P n := by
  rcases hin with h1 | ⟨h1, h2⟩
  · rw [hc, Nat.le_antisymm h1 h]
  · rw [hc, h1, h2]; simp [cnt, h0]
theorem dropB_0 (k : Nat → Int32) : dropB k 0 = false := rfl
theorem dropB_f0 {k : Nat → Int32} {i : Nat} (h : i = 0) : nI 0 = zb (dropB k i) := by rw [h]; rfl
theorem dropB_f {k : Nat → Int32} {i : Nat} (h : k (i - 1) ≤ k i) : nI 0 = zb (dropB k i) := zb_f (by
  have : ¬ k i < k (i - 1) := Int32.not_lt.mpr h
  simp [dropB, this])
theorem dropB_t {k : Nat → Int32} {i : Nat} (h0 : 0 < i) (h : ¬ k (i - 1) ≤ k i) : nI 1 = zb (dropB k i) := zb_t (by
  have : k i < k (i - 1) := Int32.not_le.mp h
  simp [dropB, this, h0])
theorem hasB_f1 {x : Int32} {n : Nat} (h : x < 0) : nI 0 = zb (hasB x n) := zb_f (by
  have : x.toInt < 0 := Int32.lt_iff_toInt_lt.mp h
  have : ¬ 0 ≤ x.toInt := by omega
  simp [hasB, this])
theorem hasB_f2 {x : Int32} {n : Nat} (hn : n < 2 ^ 31) (h : nI n ≤ x) : nI 0 = zb (hasB x n) := zb_f (by
  have h1 : (nI n).toInt ≤ x.toInt := Int32.le_iff_toInt_le.mp h
  rw [nI_toInt hn] at h1
  have : ¬ x.toInt < n := by omega
  simp [hasB, this])
theorem hasB_t {x : Int32} {n : Nat} (hn : n < 2 ^ 31) (h0 : ¬ x < 0) (h : ¬ nI n ≤ x) : nI 1 = zb (hasB x n) := zb_t (by
  have h1 : ¬ (nI n).toInt ≤ x.toInt := fun q => h (Int32.le_iff_toInt_le.mpr q)
  have h2 : ¬ x.toInt < (0 : Int32).toInt := fun q => h0 (Int32.lt_iff_toInt_lt.mpr q)
  rw [nI_toInt hn] at h1
  have h3 : (0 : Int32).toInt = 0 := rfl
  have h4 : 0 ≤ x.toInt := by omega
  have h5 : x.toInt < n := by omega
  simp [hasB, h4, h5])
theorem hasB_of {x : Int32} {n : Nat} (hn : n < 2 ^ 31) (h : hasB x n = true) : ∃ j, j < n ∧ x = nI j := by
  simp only [hasB, Bool.and_eq_true, decide_eq_true_eq] at h
  refine ⟨x.toInt.toNat, by omega, Int32.toInt_inj.mp ?_⟩
  rw [nI_toInt (by omega)]
  omega
theorem hasB_nI {j n : Nat} (hj : j < 2 ^ 31) (h : j < n) : hasB (nI j) n = true := by
  simp only [hasB, nI_toInt hj, Bool.and_eq_true, decide_eq_true_eq]; omega
