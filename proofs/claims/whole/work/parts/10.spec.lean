-- the five ways, as the class goes them: which places, which steps, how many comparisons
def turnB (k : Nat → Int32) (n : Nat) : Bool := decide (n ≤ cnt (dropB k) n + 1)
theorem turn_t {k : Nat → Int32} {n : Nat} (hn : n ≤ 150) (h : ¬ nI (cnt (dropB k) n) < nI n - nI 1) : nI 1 = zb (turnB k n) := zb_t (by
  have hc := cnt_le (dropB k) n
  have h1 : ¬ (nI (cnt (dropB k) n)).toInt < (nI n - nI 1).toInt := fun q => h (Int32.lt_iff_toInt_lt.mpr q)
  rw [nI_toInt (by omega), pk_sub_toInt (by omega) (by omega)] at h1
  simp only [turnB, decide_eq_true_eq]; omega)
theorem turn_f {k : Nat → Int32} {n : Nat} (hn : n ≤ 150) (h : nI (cnt (dropB k) n) < nI n - nI 1) : nI 0 = zb (turnB k n) := zb_f (by
  have hc := cnt_le (dropB k) n
  have h1 : (nI (cnt (dropB k) n)).toInt < (nI n - nI 1).toInt := Int32.lt_iff_toInt_lt.mp h
  rw [nI_toInt (by omega), pk_sub_toInt (by omega) (by omega)] at h1
  simp only [turnB, decide_eq_false_iff_not]; omega)
def cntB (k : Nat → Int32) (n : Nat) : Bool := !decide (500 < (greatF k n).toInt64 - (leastF k n).toInt64)
theorem cntB_t {k : Nat → Int32} {n : Nat} (h : ¬ 500 < (greatF k n).toInt64 - (leastF k n).toInt64) : nI 1 = zb (cntB k n) := zb_t (by simp [cntB, h])
theorem cntB_f {k : Nat → Int32} {n : Nat} (h : 500 < (greatF k n).toInt64 - (leastF k n).toInt64) : nI 0 = zb (cntB k n) := zb_f (by simp [cntB, h])
-- turning
def swF (p : Nat → Nat) (n : Nat) : Nat → Nat → Nat
  | 0 => p
  | i + 1 => va_up (va_up (swF p n i) i (swF p n i (n - 1 - i))) (n - 1 - i) (swF p n i i)
theorem swF_s (p : Nat → Nat) (n i : Nat) : va_up (va_up (swF p n i) i (swF p n i (n - 1 - i))) (n - 1 - i) (swF p n i i) = swF p n (i + 1) := rfl
-- putting in
def tgtF (k : Nat → Int32) (p : Nat → Nat) (x : Int32) : Nat → Nat
  | 0 => 0
  | i + 1 => if k (p i) ≤ x then i + 1 else tgtF k p x i
theorem tgtF_le (k : Nat → Int32) (p : Nat → Nat) (x : Int32) (i : Nat) : tgtF k p x i ≤ i := by
  induction i with
  | zero => exact Nat.le_refl 0
  | succ i ih => rw [tgtF]; split <;> omega
theorem tgt_0 {k : Nat → Int32} {p : Nat → Nat} {x : Int32} {i j : Nat} (h : tgtF k p x j = tgtF k p x i) (h0 : i = 0) : i = tgtF k p x j := by rw [h, h0]; rfl
theorem tgt_x {k : Nat → Int32} {p : Nat → Nat} {x : Int32} {i j : Nat} (h : tgtF k p x j = tgtF k p x i) (h0 : 0 < i) (hp : k (p (i - 1)) ≤ x) : i = tgtF k p x j := by
  obtain ⟨a, rfl⟩ : ∃ a, i = a + 1 := ⟨i - 1, by omega⟩
  have hp : k (p a) ≤ x := hp
  rw [h, tgtF, if_pos hp]
theorem tgt_s {k : Nat → Int32} {p : Nat → Nat} {x : Int32} {i j : Nat} (h : tgtF k p x j = tgtF k p x i) (h0 : 0 < i) (hp : ¬ k (p (i - 1)) ≤ x) : tgtF k p x j = tgtF k p x (i - 1) := by
  obtain ⟨a, rfl⟩ : ∃ a, i = a + 1 := ⟨i - 1, by omega⟩
  have hp : ¬ k (p a) ≤ x := hp
  rw [h, tgtF, if_neg hp]; rfl
def movF (p : Nat → Nat) (j i : Nat) : Nat → Nat := va_up (va_cpy p p i (i + 1) (j - i)) i (p j)
def pP (k : Nat → Int32) (p : Nat → Nat) : Nat → Nat → Nat
  | 0 => p
  | i + 1 => if tgtF k (pP k p i) (k (pP k p i i)) i < i then movF (pP k p i) i (tgtF k (pP k p i) (k (pP k p i i)) i) else pP k p i
def pTo (k : Nat → Int32) (p : Nat → Nat) (i : Nat) : Nat := tgtF k (pP k p i) (k (pP k p i i)) i
def pT (k : Nat → Int32) (p : Nat → Nat) (tn : Nat) : Nat → Nat
  | 0 => tn
  | i + 1 => if pTo k p i < i then pT k p tn i + 1 else pT k p tn i
def pF (k : Nat → Int32) (p : Nat → Nat) (tn : Nat) (tf : Nat → Int32) : Nat → Nat → Int32
  | 0 => tf
  | i + 1 => if pTo k p i < i then tadd (pF k p tn tf i) (pT k p tn i) (nI 1) (nI i) (nI (pTo k p i)) else pF k p tn tf i
def pC (k : Nat → Int32) (p : Nat → Nat) : Nat → Nat
  | 0 => 0
  | i + 1 => pC k p i + (i - pTo k p i + (if 0 < pTo k p i then 1 else 0))
theorem pTo_le (k : Nat → Int32) (p : Nat → Nat) (i : Nat) : pTo k p i ≤ i := tgtF_le _ _ _ i
theorem pTo_0 (k : Nat → Int32) (p : Nat → Nat) : pTo k p 0 = 0 := rfl
theorem pP_1 (k : Nat → Int32) (p : Nat → Nat) : p = pP k p 1 := rfl
theorem pT_1 (k : Nat → Int32) (p : Nat → Nat) (tn : Nat) : tn = pT k p tn 1 := rfl
theorem pF_1 (k : Nat → Int32) (p : Nat → Nat) (tn : Nat) (tf : Nat → Int32) : tf = pF k p tn tf 1 := rfl
theorem pT_le (k : Nat → Int32) (p : Nat → Nat) (tn i : Nat) : pT k p tn i ≤ tn + i := by
  induction i with
  | zero => exact Nat.le_refl _
  | succ i ih => rw [pT]; split <;> omega
theorem movF_lt {p : Nat → Nat} {j i N : Nat} (hp : ∀ x, p x < N) : ∀ x, movF p j i x < N := by
  intro x
  unfold movF va_up va_cpy
  split
  · exact hp _
  · split <;> exact hp _
theorem pP_lt {k : Nat → Int32} {p : Nat → Nat} {N : Nat} (hp : ∀ x, p x < N) (i : Nat) : ∀ x, pP k p i x < N := by
  induction i with
  | zero => exact hp
  | succ i ih => rw [pP]; split; exact movF_lt ih; exact ih
theorem one_eq {α : Type} {f : Nat → α} (h01 : f 1 = f 0) {n i : Nat} (h : n ≤ i) (hin : i ≤ n ∨ (i = 1 ∧ n = 0)) : f i = f n := by
  rcases hin with h1 | ⟨h1, h2⟩
  · rw [Nat.le_antisymm h1 h]
  · rw [h1, h2, h01]
theorem pC_t {k : Nat → Int32} {p : Nat → Nat} {i q : Nat} (h : q = pC k p i) (h0 : 0 < pTo k p i) : q + ((i - pTo k p i) + 1) = pC k p (i + 1) := by rw [pC, if_pos h0, h]
theorem pC_f {k : Nat → Int32} {p : Nat → Nat} {i q : Nat} (h : q = pC k p i) (h0 : pTo k p i = 0) : q + ((i - pTo k p i) + 0) = pC k p (i + 1) := by rw [pC, if_neg (by omega), h]
-- joining
def stB (k : Nat → Int32) (i : Nat) : Bool := decide (i = 0) || dropB k i
theorem stB_0 {k : Nat → Int32} {i : Nat} (h : i = 0) : stB k i = true := by simp [stB, h]
theorem stB_d {k : Nat → Int32} {i : Nat} (h : dropB k i = true) : stB k i = true := by simp [stB, h]
theorem stB_f {k : Nat → Int32} {i : Nat} (h0 : 0 < i) (h : dropB k i = false) : stB k i = false := by simp [stB, h]; omega
def frF (k : Nat → Int32) (s : Nat → Nat) : Nat → Nat → Nat
  | 0 => s
  | i + 1 => if stB k i = true then va_up (frF k s i) (cnt (stB k) i) i else frF k s i
theorem frF_t {k : Nat → Int32} {s : Nat → Nat} {i q : Nat} (hq : q = cnt (stB k) i) (h : stB k i = true) : va_up (frF k s i) q i = frF k s (i + 1) := by rw [frF, if_pos h, hq]
theorem frF_f {k : Nat → Int32} {s : Nat → Nat} {i : Nat} (h : stB k i = false) : frF k s i = frF k s (i + 1) := by rw [frF, if_neg (by rw [h]; decide)]
def fRun (k : Nat → Int32) (n : Nat) (s : Nat → Nat) : Nat → Nat := va_up (frF k s n) (cnt (stB k) n) n
def keF (s : Nat → Nat) : Nat → Nat → Nat
  | 0 => s
  | i + 1 => if i = 0 then s else va_up (keF s i) i (keF s i (2 * i))
def keS (s : Nat → Nat) (r : Nat) : Nat → Nat := va_up (keF s ((r + 1) / 2)) ((r + 1) / 2) (s r)
def jL (k : Nat → Int32) (p : Nat → Nat) (m e : Nat) : Nat → Nat → Nat → (Nat → Nat) → Nat × Nat × (Nat → Nat)
  | 0, a, d, j => (a, d, j)
  | f + 1, a, d, j => if a < m ∧ d < e then (if k (p a) ≤ k (p d) then jL k p m e f (a + 1) d (va_up j (a + d - m) (p a)) else jL k p m e f a (d + 1) (va_up j (a + d - m) (p d))) else (a, d, j)
theorem jL_a {k : Nat → Int32} {p : Nat → Nat} {m e f a d t : Nat} {j : Nat → Nat} {X : Nat × Nat × (Nat → Nat)} (h : X = jL k p m e f a d j) (hf : (m - a) + (e - d) ≤ f) (ht : t = a + d - m) (h1 : a < m) (h2 : d < e) (hk : k (p a) ≤ k (p d)) : X = jL k p m e (f - 1) (a + 1) d (va_up j t (p a)) := by
  obtain ⟨g, rfl⟩ : ∃ g, f = g + 1 := ⟨f - 1, by omega⟩
  rw [h, jL, if_pos ⟨h1, h2⟩, if_pos hk, ht]; rfl
theorem jL_d {k : Nat → Int32} {p : Nat → Nat} {m e f a d t : Nat} {j : Nat → Nat} {X : Nat × Nat × (Nat → Nat)} (h : X = jL k p m e f a d j) (hf : (m - a) + (e - d) ≤ f) (ht : t = a + d - m) (h1 : a < m) (h2 : d < e) (hk : ¬ k (p a) ≤ k (p d)) : X = jL k p m e (f - 1) a (d + 1) (va_up j t (p d)) := by
  obtain ⟨g, rfl⟩ : ∃ g, f = g + 1 := ⟨f - 1, by omega⟩
  rw [h, jL, if_pos ⟨h1, h2⟩, if_neg hk, ht]; rfl
theorem jL_x {k : Nat → Int32} {p : Nat → Nat} {m e f a d : Nat} {j : Nat → Nat} {X : Nat × Nat × (Nat → Nat)} (h : X = jL k p m e f a d j) (hx : m ≤ a ∨ e ≤ d) : X = (a, d, j) := by
  cases f with
  | zero => exact h
  | succ f => rw [h, jL, if_neg (by omega)]
def jn (k : Nat → Int32) (p : Nat → Nat) (b m e : Nat) (j : Nat → Nat) : Nat × Nat × (Nat → Nat) := jL k p m e (e - b) b m j
def jnJ (k : Nat → Int32) (p : Nat → Nat) (b m e : Nat) (j : Nat → Nat) : Nat → Nat := va_cpy p (va_cpy p (jn k p b m e j).2.2 (jn k p b m e j).1 ((jn k p b m e j).1 + (jn k p b m e j).2.1 - m) (m - (jn k p b m e j).1)) (jn k p b m e j).2.1 ((jn k p b m e j).1 + (jn k p b m e j).2.1 - m + m - (jn k p b m e j).1) (e - (jn k p b m e j).2.1)
def jnP (k : Nat → Int32) (p : Nat → Nat) (b m e : Nat) (j : Nat → Nat) : Nat → Nat := va_cpy (jnJ k p b m e j) p b b (e - b)
def jnC (k : Nat → Int32) (p : Nat → Nat) (b m e : Nat) (j : Nat → Nat) : Nat := (jn k p b m e j).1 + (jn k p b m e j).2.1 - m - b
theorem jnJ_of {k : Nat → Int32} {p j jx : Nat → Nat} {b m e a d t : Nat} (hX : jn k p b m e j = (a, d, jx)) (ht : t = a + d - m) : va_cpy p (va_cpy p jx a t (m - a)) d (t + m - a) (e - d) = jnJ k p b m e j := by
  rw [jnJ, hX, ht]
theorem jnC_of {k : Nat → Int32} {p j jx : Nat → Nat} {b m e a d t : Nat} (hX : jn k p b m e j = (a, d, jx)) (ht : t = a + d - m) : t - b = jnC k p b m e j := by
  rw [jnC, hX, ht]
theorem cpy_lt {f g : Nat → Nat} {sp dp n N : Nat} (hf : ∀ x, f x < N) (hg : ∀ x, g x < N) : ∀ x, va_cpy f g sp dp n x < N := by
  intro x; unfold va_cpy; split; exact hf _; exact hg _
theorem up_lt {f : Nat → Nat} {i v N : Nat} (hf : ∀ x, f x < N) (hv : v < N) : ∀ x, va_up f i v x < N := by
  intro x; unfold va_up; split; exact hv; exact hf _
theorem jL_lt {k : Nat → Int32} {p : Nat → Nat} {m e N : Nat} (hp : ∀ x, p x < N) : ∀ (f a d : Nat) (j : Nat → Nat), (∀ x, j x < N) → ∀ x, (jL k p m e f a d j).2.2 x < N := by
  intro f
  induction f with
  | zero => intro a d j hj; exact hj
  | succ f ih =>
    intro a d j hj
    rw [jL]
    split
    · split
      · exact ih _ _ _ (up_lt hj (hp _))
      · exact ih _ _ _ (up_lt hj (hp _))
    · exact hj
theorem jnJ_lt {k : Nat → Int32} {p : Nat → Nat} {b m e N : Nat} {j : Nat → Nat} (hp : ∀ x, p x < N) (hj : ∀ x, j x < N) : ∀ x, jnJ k p b m e j x < N := cpy_lt hp (cpy_lt hp (jL_lt hp _ _ _ _ hj))
theorem jnP_lt {k : Nat → Int32} {p : Nat → Nat} {b m e N : Nat} {j : Nat → Nat} (hp : ∀ x, p x < N) (hj : ∀ x, j x < N) : ∀ x, jnP k p b m e j x < N := cpy_lt (jnJ_lt hp hj) hp
-- the pairs of one round: places, scratch, how many steps, the steps, comparisons
abbrev jpT : Type := (Nat → Nat) × (Nat → Nat) × Nat × (Nat → Int32) × Nat
def jpS (k : Nat → Int32) (s : Nat → Nat) (S0 : jpT) : Nat → jpT
  | 0 => S0
  | x + 1 => (jnP k (jpS k s S0 x).1 (s (2 * x)) (s (2 * x + 1)) (s (2 * x + 2)) (jpS k s S0 x).2.1, jnJ k (jpS k s S0 x).1 (s (2 * x)) (s (2 * x + 1)) (s (2 * x + 2)) (jpS k s S0 x).2.1, (jpS k s S0 x).2.2.1 + 1, tadd (jpS k s S0 x).2.2.2.1 (jpS k s S0 x).2.2.1 (nI 2) (nI (s (2 * x))) (nI (s (2 * x + 2))), (jpS k s S0 x).2.2.2.2 + jnC k (jpS k s S0 x).1 (s (2 * x)) (s (2 * x + 1)) (s (2 * x + 2)) (jpS k s S0 x).2.1)
theorem jpS_lt {k : Nat → Int32} {s : Nat → Nat} {S0 : jpT} {N : Nat} (hp : ∀ x, S0.1 x < N) (hj : ∀ x, S0.2.1 x < N) (x : Nat) : (∀ y, (jpS k s S0 x).1 y < N) ∧ (∀ y, (jpS k s S0 x).2.1 y < N) ∧ (jpS k s S0 x).2.2.1 = S0.2.2.1 + x := by
  induction x with
  | zero => exact ⟨hp, hj, rfl⟩
  | succ x ih => exact ⟨jnP_lt ih.1 ih.2.1, jnJ_lt ih.1 ih.2.1, by rw [jpS]; dsimp only; rw [ih.2.2]; omega⟩
