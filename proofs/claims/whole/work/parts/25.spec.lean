-- the model's writes
def opF (k : Nat → Int32) (n i : Nat) : Nat → Int32 := fun x => if i < x ∧ x ≤ n then k (x - 1) else k x
theorem opF_0 (k : Nat → Int32) (n : Nat) : k = opF k n n := by funext x; rw [opF, if_neg (by omega)]
theorem opF_s (k : Nat → Int32) {n i : Nat} (h0 : 0 < i) (hi : i ≤ n) : upd (opF k n i) i (opF k n i (i - 1)) = opF k n (i - 1) := by
  funext x
  simp only [upd, opF]
  by_cases h : x = i
  · rw [if_pos h, if_neg (by omega), if_pos (by omega), h]
  · rw [if_neg h]
    by_cases h2 : i < x ∧ x ≤ n
    · rw [if_pos h2, if_pos (by omega)]
    · rw [if_neg h2, if_neg (by omega)]
theorem opF_c (k : Nat → Int32) {n j : Nat} (h : j ≤ n) : opF k n j = va_cpy k k j (j + 1) (n - j) := by
  funext x
  simp only [opF, va_cpy]
  by_cases h2 : j < x ∧ x ≤ n
  · rw [if_pos h2, if_pos (by omega), show j + (x - (j + 1)) = x - 1 by omega]
  · rw [if_neg h2, if_neg (by omega)]
theorem shF_c {α : Type} (f : Nat → α) {n j : Nat} (h : j < n) : shF f j (n - 1) = va_cpy f f (j + 1) j (n - 1 - j) := by
  funext x
  simp only [shF, va_cpy]
  by_cases h2 : j ≤ x ∧ x < n - 1
  · rw [if_pos h2, if_pos (by omega), show j + 1 + (x - j) = x + 1 by omega]
  · rw [if_neg h2, if_neg (by omega)]
def cpF (f g : Nat → Int32) (i : Nat) : Nat → Int32 := fun x => if x < i then f x else g x
theorem cpF_0 (f g : Nat → Int32) : g = cpF f g 0 := by funext x; simp [cpF]
theorem cpF_s (f g : Nat → Int32) (i : Nat) : upd (cpF f g i) i (f i) = cpF f g (i + 1) := by
  funext x
  simp only [upd, cpF]
  by_cases h : x = i
  · rw [if_pos h, if_pos (by omega), h]
  · rw [if_neg h]
    by_cases h2 : x < i
    · rw [if_pos h2, if_pos (by omega)]
    · rw [if_neg h2, if_neg (by omega)]
theorem cpF_c (f g : Nat → Int32) (n : Nat) : cpF f g n = va_cpy f g 0 0 n := by
  funext x
  simp only [cpF, va_cpy]
  by_cases h : x < n
  · rw [if_pos h, if_pos (by omega), show 0 + (x - 0) = x by omega]
  · rw [if_neg h, if_neg (by omega)]
theorem tadd_m (f : Nat → Int32) (n : Nat) (x y z : Int32) : upd (upd (upd f (3 * n) x) ((3 * n) + 1) y) ((3 * n) + 2) z = tadd f n x y z := by rw [Nat.mul_comm]; rfl
/-- who comes where: the model's findOrder -/
def foF (k : Nat → Int32) (n : Nat) (o : Nat → Int32) : Nat → Nat → Int32
  | 0 => o
  | i + 1 => upd (foF k n o i) (rankF k n i) (nI i)
theorem rankF_eq (k : Nat → Int32) (n p : Nat) : rankF k n p = rkF (fun i => (k i).toInt) n p := by
  unfold rankF rkF
  refine cnt_congr (fun i _ => ?_)
  simp only [goesB, gB, Int32.lt_iff_toInt_lt, ← Int32.toInt_inj]
theorem rankF_lt {k : Nat → Int32} {n p : Nat} (hp : p < n) : rankF k n p < n := by rw [rankF_eq]; exact rk_n hp
theorem go_t1 {k : Nat → Int32} {i j : Nat} (h : k j < k i) : goesB k j i = true := by simp [goesB, h]
theorem go_t2 {k : Nat → Int32} {i j : Nat} (h : k j = k i) (h2 : j < i) : goesB k j i = true := by simp [goesB, h, h2]
theorem go_f1 {k : Nat → Int32} {i j : Nat} (h1 : ¬ k j < k i) (h : ¬ k j = k i) : goesB k j i = false := by simp [goesB, h1, h]
theorem go_f2 {k : Nat → Int32} {i j : Nat} (h1 : ¬ k j < k i) (h : i ≤ j) : goesB k j i = false := by simp [goesB, h1]; intro _; omega
theorem hasB_8 {v : Int32} (h0 : ¬ v < 0) (h : v ≤ nI 7) : hasB v 8 = true := by
  have h1 : ¬ v.toInt < (0 : Int32).toInt := fun q => h0 (Int32.lt_iff_toInt_lt.mpr q)
  have h2 := Int32.le_iff_toInt_le.mp h
  rw [nI_toInt (by decide)] at h2
  have h3 : (0 : Int32).toInt = 0 := rfl
  simp only [hasB, Bool.and_eq_true, decide_eq_true_eq]; omega
theorem hasB_2 {v : Int32} (h0 : ¬ v < 0) (h : v ≤ nI 2) : hasB v 3 = true := by
  have h1 : ¬ v.toInt < (0 : Int32).toInt := fun q => h0 (Int32.lt_iff_toInt_lt.mpr q)
  have h2 := Int32.le_iff_toInt_le.mp h
  rw [nI_toInt (by decide)] at h2
  have h3 : (0 : Int32).toInt = 0 := rfl
  simp only [hasB, Bool.and_eq_true, decide_eq_true_eq]; omega
theorem hasB_nle {v : Int32} {n : Nat} (hn : n < 2 ^ 31) (h0 : ¬ v < 0) (h : ¬ nI n ≤ v) : hasB v n = true := hasB_lt hn h0 (Int32.not_le.mp h)
