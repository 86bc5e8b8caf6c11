-- what the figures of a row are
def cnt (P : Nat → Bool) : Nat → Nat
  | 0 => 0
  | n + 1 => cnt P n + (if P n = true then 1 else 0)
theorem cnt_t {P : Nat → Bool} {i c : Nat} (h : c = cnt P i) (hp : P i = true) : c + 1 = cnt P (i + 1) := by rw [h, cnt, if_pos hp]
theorem cnt_f {P : Nat → Bool} {i c : Nat} (h : c = cnt P i) (hp : P i = false) : c = cnt P (i + 1) := by rw [h, cnt, if_neg (by rw [hp]; decide)]; rfl
theorem cnt_le (P : Nat → Bool) (n : Nat) : cnt P n ≤ n := by
  induction n with
  | zero => exact Nat.le_refl 0
  | succ n ih => rw [cnt]; split <;> omega
theorem cnt_congr {P Q : Nat → Bool} {n : Nat} (h : ∀ i, i < n → P i = Q i) : cnt P n = cnt Q n := by
  induction n with
  | zero => rfl
  | succ n ih => rw [cnt, cnt, ih (fun i hi => h i (Nat.lt_succ_of_lt hi)), h n (Nat.lt_succ_self n)]
def dropB (k : Nat → Int32) (i : Nat) : Bool := decide (0 < i) && decide (k i < k (i - 1))
def hasB (x : Int32) (n : Nat) : Bool := decide (0 ≤ x.toInt) && decide (x.toInt < n)
theorem one_exit {P : Nat → Bool} (h0 : P 0 = false) {n i c : Nat} (hc : c = cnt P i) (h : n ≤ i) (hin : i ≤ n ∨ (i = 1 ∧ n = 0)) : c = cnt P n := by
  rcases hin with h1 | ⟨h1, h2⟩
  · rw [hc, Nat.le_antisymm h1 h]
  · rw [hc, h1, h2]; simp [cnt, h0]
theorem dropB_0 (k : Nat → Int32) : dropB k 0 = false := rfl
theorem dropB_f0 {k : Nat → Int32} {i : Nat} (h : i = 0) : nI 0 = zb (dropB k i) := by rw [h]; rfl
theorem dropB_f {k : Nat → Int32} {i : Nat} (h : k (i - 1) ≤ k i) : nI 0 = zb (dropB k i) := zb_f (by
  have : ¬ k i < k (i - 1) := Int32.not_lt.mpr h
  simp [dropB, this])
theorem dropB_t {k : Nat → Int32} {i : Nat} (h0 : 0 < i) (h : ¬ k (i - 1) ≤ k i) : nI 1 = zb (dropB k i) := zb_t (by
  have : k i < k (i - 1) := Int32.not_le.mp h
  simp [dropB, this, h0])
theorem hasB_f1 {x : Int32} {n : Nat} (h : x < 0) : nI 0 = zb (hasB x n) := zb_f (by
  have : x.toInt < 0 := Int32.lt_iff_toInt_lt.mp h
  have : ¬ 0 ≤ x.toInt := by omega
  simp [hasB, this])
theorem hasB_f2 {x : Int32} {n : Nat} (hn : n < 2 ^ 31) (h : nI n ≤ x) : nI 0 = zb (hasB x n) := zb_f (by
  have h1 : (nI n).toInt ≤ x.toInt := Int32.le_iff_toInt_le.mp h
  rw [nI_toInt hn] at h1
  have : ¬ x.toInt < n := by omega
  simp [hasB, this])
theorem hasB_t {x : Int32} {n : Nat} (hn : n < 2 ^ 31) (h0 : ¬ x < 0) (h : ¬ nI n ≤ x) : nI 1 = zb (hasB x n) := zb_t (by
  have h1 : ¬ (nI n).toInt ≤ x.toInt := fun q => h (Int32.le_iff_toInt_le.mpr q)
  have h2 : ¬ x.toInt < (0 : Int32).toInt := fun q => h0 (Int32.lt_iff_toInt_lt.mpr q)
  rw [nI_toInt hn] at h1
  have h3 : (0 : Int32).toInt = 0 := rfl
  have h4 : 0 ≤ x.toInt := by omega
  have h5 : x.toInt < n := by omega
  simp [hasB, h4, h5])
theorem hasB_of {x : Int32} {n : Nat} (hn : n < 2 ^ 31) (h : hasB x n = true) : ∃ j, j < n ∧ x = nI j := by
  simp only [hasB, Bool.and_eq_true, decide_eq_true_eq] at h
  refine ⟨x.toInt.toNat, by omega, Int32.toInt_inj.mp ?_⟩
  rw [nI_toInt (by omega)]
  omega
theorem hasB_nI {j n : Nat} (hj : j < 2 ^ 31) (h : j < n) : hasB (nI j) n = true := by
  simp only [hasB, nI_toInt hj, Bool.and_eq_true, decide_eq_true_eq]; omega
def runsF (k : Nat → Int32) (n : Nat) : Nat := if n = 0 then 0 else cnt (dropB k) n + 1
theorem runs_0 {k : Nat → Int32} {n : Nat} (h : n = 0) : 0 = runsF k n := by rw [runsF, if_pos h]
theorem runs_p {k : Nat → Int32} {n : Nat} (h : 0 < n) : cnt (dropB k) n + 1 = runsF k n := by rw [runsF, if_neg (by omega)]
def fallB (k : Nat → Int32) (i : Nat) : Bool := dropB k i && !dropB k (i - 1)
theorem fallB_t {k : Nat → Int32} {i : Nat} (h1 : dropB k i = true) (h2 : dropB k (i - 1) = false) : fallB k i = true := by rw [fallB, h1, h2]; rfl
theorem fallB_f2 {k : Nat → Int32} {i : Nat} (h2 : dropB k (i - 1) = true) : fallB k i = false := by rw [fallB, h2]; simp
theorem fallB_f1 {k : Nat → Int32} {i : Nat} (h1 : dropB k i = false) : fallB k i = false := by rw [fallB, h1]; rfl
def minF (k : Nat → Int32) : Nat → Int32
  | 0 => k 0
  | i + 1 => if k (i + 1) < minF k i then k (i + 1) else minF k i
def maxF (k : Nat → Int32) : Nat → Int32
  | 0 => k 0
  | i + 1 => if maxF k i < k (i + 1) then k (i + 1) else maxF k i
def leastF (k : Nat → Int32) (n : Nat) : Int32 := if n = 0 then 0 else minF k (n - 1)
def greatF (k : Nat → Int32) (n : Nat) : Int32 := if n = 0 then 0 else maxF k (n - 1)
theorem min_s {k : Nat → Int32} {i n : Nat} {x : Int32} (hi : 1 ≤ i) (hn : i < n) (h : (n = 0 ∧ x = 0) ∨ (0 < n ∧ x = minF k (i - 1))) : (n = 0 ∧ (if k i < x then k i else x) = 0) ∨ (0 < n ∧ (if k i < x then k i else x) = minF k (i + 1 - 1)) := by
  rcases h with ⟨h, -⟩ | ⟨h, h2⟩
  · omega
  · right
    obtain ⟨j, rfl⟩ : ∃ j, i = j + 1 := ⟨i - 1, by omega⟩
    exact ⟨h, by rw [h2]; rfl⟩
theorem max_s {k : Nat → Int32} {i n : Nat} {x : Int32} (hi : 1 ≤ i) (hn : i < n) (h : (n = 0 ∧ x = 0) ∨ (0 < n ∧ x = maxF k (i - 1))) : (n = 0 ∧ (if x < k i then k i else x) = 0) ∨ (0 < n ∧ (if x < k i then k i else x) = maxF k (i + 1 - 1)) := by
  rcases h with ⟨h, -⟩ | ⟨h, h2⟩
  · omega
  · right
    obtain ⟨j, rfl⟩ : ∃ j, i = j + 1 := ⟨i - 1, by omega⟩
    exact ⟨h, by rw [h2]; rfl⟩
theorem min_x {k : Nat → Int32} {i n : Nat} {x : Int32} (he : n ≤ i) (hin : i ≤ n ∨ (i = 1 ∧ n = 0)) (h : (n = 0 ∧ x = 0) ∨ (0 < n ∧ x = minF k (i - 1))) : x = leastF k n := by
  rcases h with ⟨h, h2⟩ | ⟨h, h2⟩
  · rw [leastF, if_pos h, h2]
  · rw [leastF, if_neg (by omega), h2, show i = n by omega]
theorem max_x {k : Nat → Int32} {i n : Nat} {x : Int32} (he : n ≤ i) (hin : i ≤ n ∨ (i = 1 ∧ n = 0)) (h : (n = 0 ∧ x = 0) ∨ (0 < n ∧ x = maxF k (i - 1))) : x = greatF k n := by
  rcases h with ⟨h, h2⟩ | ⟨h, h2⟩
  · rw [greatF, if_pos h, h2]
  · rw [greatF, if_neg (by omega), h2, show i = n by omega]
def invB (k : Nat → Int32) (i j : Nat) : Bool := decide (k i < k j)
def invF (k : Nat → Int32) : Nat → Nat
  | 0 => 0
  | i + 1 => invF k i + cnt (invB k i) i
theorem inv_t {k : Nat → Int32} {i j q : Nat} (h : q = invF k i + cnt (invB k i) j) (hp : ¬ k j ≤ k i) : q + 1 = invF k i + cnt (invB k i) (j + 1) := by
  rw [cnt, if_pos (by simp [invB, Int32.not_le.mp hp]), h]; omega
theorem inv_f {k : Nat → Int32} {i j q : Nat} (h : q = invF k i + cnt (invB k i) j) (hp : k j ≤ k i) : q = invF k i + cnt (invB k i) (j + 1) := by
  rw [cnt, if_neg (by simp [invB, Int32.not_lt.mpr hp]), h]; omega
theorem inv_x {k : Nat → Int32} {i j q : Nat} (h : q = invF k i + cnt (invB k i) j) (h1 : i ≤ j) (h2 : j ≤ i) : q = invF k (i + 1) := by
  rw [invF, h, Nat.le_antisymm h2 h1]
theorem inv_e {k : Nat → Int32} {n i q : Nat} (hc : q = invF k i) (h : n ≤ i) (hin : i ≤ n ∨ (i = 1 ∧ n = 0)) : q = invF k n := by
  rcases hin with h1 | ⟨h1, h2⟩
  · rw [hc, Nat.le_antisymm h1 h]
  · rw [hc, h1, h2]; rfl
def eqB (k : Nat → Int32) (x : Int32) (j : Nat) : Bool := decide (k j = x)
def firstB (k : Nat → Int32) (i : Nat) : Bool := decide (cnt (eqB k (k i)) i = 0)
theorem eq_f {k : Nat → Int32} {x : Int32} {j : Nat} (h : 0 = cnt (eqB k x) j) (hp : ¬ k j = x) : 0 = cnt (eqB k x) (j + 1) := cnt_f h (by simp [eqB, hp])
theorem cnt_mono {P : Nat → Bool} {a b : Nat} (h : a ≤ b) : cnt P a ≤ cnt P b := by
  induction b with
  | zero => rw [Nat.le_zero.mp h]; exact Nat.le_refl _
  | succ b ih =>
    rcases Nat.lt_or_ge a (b + 1) with q | q
    · exact Nat.le_trans (ih (by omega)) (by rw [cnt]; exact Nat.le_add_right _ _)
    · rw [show a = b + 1 by omega]; exact Nat.le_refl _
theorem first_f {k : Nat → Int32} {i j : Nat} (hj : j < i) (hp : k j = k i) : nI 0 = zb (firstB k i) := zb_f (by
  have h1 : cnt (eqB k (k i)) (j + 1) ≤ cnt (eqB k (k i)) i := cnt_mono hj
  rw [cnt, if_pos (by simp [eqB, hp])] at h1
  simp only [firstB, decide_eq_false_iff_not]; omega)
theorem first_t {k : Nat → Int32} {i j : Nat} (h : 0 = cnt (eqB k (k i)) j) (h1 : i ≤ j) (h2 : j ≤ i) : nI 1 = zb (firstB k i) := zb_t (by
  rw [Nat.le_antisymm h2 h1] at h
  simp only [firstB, decide_eq_true_eq]; exact h.symm)
def ltB (k : Nat → Int32) (x : Int32) (j : Nat) : Bool := decide (k j < x)
theorem lt_t {k : Nat → Int32} {x : Int32} {j q : Nat} (h : q = cnt (ltB k x) j) (hp : ¬ x ≤ k j) : q + 1 = cnt (ltB k x) (j + 1) := cnt_t h (by simp [ltB, Int32.not_le.mp hp])
theorem lt_f {k : Nat → Int32} {x : Int32} {j q : Nat} (h : q = cnt (ltB k x) j) (hp : x ≤ k j) : q = cnt (ltB k x) (j + 1) := cnt_f h (by simp [ltB, Int32.not_lt.mpr hp])
def goesB (k : Nat → Int32) (a b : Nat) : Bool := decide (k a < k b) || (decide (k a = k b) && decide (a < b))
theorem goes_1 {k : Nat → Int32} {a b : Nat} (h : k a < k b) : nI 1 = zb (goesB k a b) := zb_t (by simp [goesB, h])
theorem goes_2 {k : Nat → Int32} {a b : Nat} (h : k a = k b) (h2 : a < b) : nI 1 = zb (goesB k a b) := zb_t (by simp [goesB, h, h2])
theorem goes_3 {k : Nat → Int32} {a b : Nat} (h1 : ¬ k a < k b) (h : b ≤ a) : nI 0 = zb (goesB k a b) := zb_f (by simp [goesB, h1]; intro _; omega)
theorem goes_4 {k : Nat → Int32} {a b : Nat} (h1 : ¬ k a < k b) (h : ¬ k a = k b) : nI 0 = zb (goesB k a b) := zb_f (by simp [goesB, h1, h])
def rankF (k : Nat → Int32) (n p : Nat) : Nat := cnt (fun i => goesB k i p) n
def findL (P : Nat → Bool) : Nat → Nat
  | 0 => 0
  | i + 1 => if P i = true then i else findL P i
def rankB (k : Nat → Int32) (n r i : Nat) : Bool := decide (rankF k n i = r)
theorem find_t {P : Nat → Bool} {i : Nat} (hp : P i = true) : i = findL P (i + 1) := by rw [findL, if_pos hp]
theorem find_f {P : Nat → Bool} {i c : Nat} (h : c = findL P i) (hp : P i = false) : c = findL P (i + 1) := by rw [findL, if_neg (by rw [hp]; decide), h]
def figN (k : Nat → Int32) (n : Nat) : Nat → Int32
  | 0 => nI n
  | 1 => nI (runsF k n)
  | 2 => nI (cnt (fallB k) n)
  | 3 => leastF k n
  | 4 => greatF k n
  | 5 => nI (cnt (dropB k) n)
  | 6 => nI (invF k n)
  | _ + 7 => nI (cnt (firstB k) n)
theorem fig_7 {k : Nat → Int32} {n w : Nat} (h : 7 ≤ w) : nI (cnt (firstB k) n) = figN k n w := by
  obtain ⟨j, rfl⟩ : ∃ j, w = j + 7 := ⟨w - 7, by omega⟩
  rfl
def shF {α : Type} (f : Nat → α) (j i : Nat) : Nat → α := fun x => if j ≤ x ∧ x < i then f (x + 1) else f x
theorem shF_0 {α : Type} (f : Nat → α) (j : Nat) : f = shF f j j := by funext x; rw [shF, if_neg (by omega)]
theorem shF_x {α : Type} (f : Nat → α) {j i : Nat} (h : j ≤ i) : (fun x => if x = i then shF f j i (i + 1) else shF f j i x) = shF f j (i + 1) := by
  funext x
  by_cases h1 : x = i
  · rw [if_pos h1, h1]
    simp only [shF]
    rw [if_neg (by omega), if_pos (by omega)]
  · rw [if_neg h1]
    simp only [shF]
    by_cases h2 : j ≤ x ∧ x < i
    · rw [if_pos h2, if_pos (by omega)]
    · rw [if_neg h2, if_neg (by omega)]
theorem shF_n (f : Nat → Nat) {j i : Nat} (h : j ≤ i) : va_up (shF f j i) i (shF f j i (i + 1)) = shF f j (i + 1) := shF_x f h
theorem shF_l (f : Nat → Int64) {j i : Nat} (h : j ≤ i) : vp_updL (shF f j i) i (shF f j i (i + 1)) = shF f j (i + 1) := shF_x f h
theorem shF_i (f : Nat → Int32) {j i : Nat} (h : j ≤ i) : upd (shF f j i) i (shF f j i (i + 1)) = shF f j (i + 1) := shF_x f h
def admB (le mo : Nat → Int64) (v : Int64) (j : Nat) : Bool := !decide (v < le j) && !decide (mo j < v)
theorem adm_t {le mo : Nat → Int64} {v : Int64} {j : Nat} (h1 : ¬ v < le j) (h2 : ¬ mo j < v) : nI 1 = zb (admB le mo v j) := zb_t (by simp [admB, h1, h2])
theorem adm_f2 {le mo : Nat → Int64} {v : Int64} {j : Nat} (h2 : mo j < v) : nI 0 = zb (admB le mo v j) := zb_f (by simp [admB, h2])
theorem adm_f1 {le mo : Nat → Int64} {v : Int64} {j : Nat} (h1 : v < le j) : nI 0 = zb (admB le mo v j) := zb_f (by simp [admB, h1])
def tadd (f : Nat → Int32) (n : Nat) (x y z : Int32) : Nat → Int32 := upd (upd (upd f (n * 3) x) (n * 3 + 1) y) (n * 3 + 2) z
