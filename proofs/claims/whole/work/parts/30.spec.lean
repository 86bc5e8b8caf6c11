-- joining two, on the keys alone
def jM (w : Nat → Int32) (m e : Nat) : Nat → Nat → Nat → Nat → (Nat → Int32) → Nat × (Nat → Int32)
  | 0, _, _, q, o => (q, o)
  | f + 1, a, d, q, o => if a < m ∧ d < e then (if w d < w a then jM w m e f a (d + 1) (q + 1) (upd o (a + d - m) (w d)) else jM w m e f (a + 1) d (q + 1) (upd o (a + d - m) (w a))) else if a < m then jM w m e f (a + 1) d q (upd o (a + d - m) (w a)) else jM w m e f a (d + 1) q (upd o (a + d - m) (w d))
section JM
variable {w : Nat → Int32} {m e f a d q t : Nat} {o : Nat → Int32} {X : Nat × (Nat → Int32)}
theorem jM_1 (h : X = jM w m e f a d q o) (hf : (m - a) + (e - d) = f) (ht : t = a + d - m) (h1 : a < m) (h2 : d < e) (hk : ¬ w d < w a) : X = jM w m e (f - 1) (a + 1) d (q + 1) (upd o t (w a)) := by
  obtain ⟨g, rfl⟩ : ∃ g, f = g + 1 := ⟨f - 1, by omega⟩
  rw [h, jM, if_pos ⟨h1, h2⟩, if_neg hk, ht]; rfl
theorem jM_2 (h : X = jM w m e f a d q o) (hf : (m - a) + (e - d) = f) (ht : t = a + d - m) (h1 : a < m) (h2 : d < e) (hk : w d < w a) : X = jM w m e (f - 1) a (d + 1) (q + 1) (upd o t (w d)) := by
  obtain ⟨g, rfl⟩ : ∃ g, f = g + 1 := ⟨f - 1, by omega⟩
  rw [h, jM, if_pos ⟨h1, h2⟩, if_pos hk, ht]; rfl
theorem jM_3 (h : X = jM w m e f a d q o) (hf : (m - a) + (e - d) = f) (ht : t = a + d - m) (h1 : a < m) (h2 : e ≤ d) : X = jM w m e (f - 1) (a + 1) d q (upd o t (w a)) := by
  obtain ⟨g, rfl⟩ : ∃ g, f = g + 1 := ⟨f - 1, by omega⟩
  rw [h, jM, if_neg (by omega), if_pos h1, ht]; rfl
theorem jM_4 (h : X = jM w m e f a d q o) (hf : (m - a) + (e - d) = f) (ht : t = a + d - m) (h1 : m ≤ a) (h2 : d < e) : X = jM w m e (f - 1) a (d + 1) q (upd o t (w d)) := by
  obtain ⟨g, rfl⟩ : ∃ g, f = g + 1 := ⟨f - 1, by omega⟩
  rw [h, jM, if_neg (by omega), if_neg (by omega), ht]; rfl
theorem jM_x (h : X = jM w m e f a d q o) (hf : f = 0) : X = (q, o) := by rw [h, hf]; rfl
end JM
def jmR (w : Nat → Int32) (b m e : Nat) (o : Nat → Int32) : Nat × (Nat → Int32) := jM w m e (e - b) b m 0 o
def cpR (o w : Nat → Int32) (b i : Nat) : Nat → Int32 := fun x => if b ≤ x ∧ x < i then o x else w x
theorem cpR_0 (o w : Nat → Int32) (b : Nat) : w = cpR o w b b := by funext x; rw [cpR, if_neg (by omega)]
theorem cpR_s (o w : Nat → Int32) {b i : Nat} (h : b ≤ i) : upd (cpR o w b i) i (o i) = cpR o w b (i + 1) := by
  funext x
  simp only [upd, cpR]
  by_cases h1 : x = i
  · rw [if_pos h1, if_pos (by omega), h1]
  · rw [if_neg h1]
    by_cases h2 : b ≤ x ∧ x < i
    · rw [if_pos h2, if_pos (by omega)]
    · rw [if_neg h2, if_neg (by omega)]
def jmW (w : Nat → Int32) (b m e : Nat) (o : Nat → Int32) : Nat → Int32 := cpR (jmR w b m e o).2 w b e
-- counting, by bytes: what the model tells
abbrev kI (k : Nat → Int32) : Nat → Int := fun i => (k i).toInt
theorem foF_ok (k : Nat → Int32) (n : Nat) (o : Nat → Int32) (i : Nat) (hi : i ≤ n) : ∀ j, j < i → foF k n o i (rankF k n j) = nI j := by
  induction i with
  | zero => intro j hj; exact absurd hj (Nat.not_lt_zero j)
  | succ i ih =>
    intro j hj
    rw [foF]; unfold upd
    by_cases h : j = i
    · rw [h, if_pos rfl]
    · rw [if_neg (fun q => h (by rw [rankF_eq, rankF_eq] at q; exact (rk_inj (kI k) n).2 j i (by omega) (by omega) q))]
      exact ih (by omega) j (by omega)
theorem foF_od {k : Nat → Int32} {n : Nat} (o : Nat → Int32) {i : Nat} (hi : i < n) : foF k n o n i = nI (odF (kI k) n i) := by
  have h := od_ok (x := kI k) hi
  have h2 := foF_ok k n o n (Nat.le_refl n) (odF (kI k) n i) h.1
  rw [rankF_eq] at h2
  rw [show rkF (fun i => (k i).toInt) n (odF (kI k) n i) = i from h.2] at h2
  exact h2
def tcB (k : Nat → Int32) (n i : Nat) : Bool := decide (cnt (ltB k (k (odF (kI k) n i))) n = i) && decide (1 < cnt (eqB k (k (odF (kI k) n i))) n)
theorem tcB_t {k : Nat → Int32} {n i : Nat} (h1 : cnt (ltB k (k (odF (kI k) n i))) n = i) (h2 : 1 < cnt (eqB k (k (odF (kI k) n i))) n) : tcB k n i = true := by simp [tcB, h1, h2]
theorem tcB_f1 {k : Nat → Int32} {n i : Nat} (h1 : ¬ cnt (ltB k (k (odF (kI k) n i))) n = i) : tcB k n i = false := by simp [tcB, h1]
theorem tcB_f2 {k : Nat → Int32} {n i : Nat} (h2 : cnt (eqB k (k (odF (kI k) n i))) n ≤ 1) : tcB k n i = false := by
  have : ¬ 1 < cnt (eqB k (k (odF (kI k) n i))) n := by omega
  simp [tcB, this]
def tcN (k : Nat → Int32) (n tn : Nat) : Nat → Nat
  | 0 => tn
  | i + 1 => if tcB k n i = true then tcN k n tn i + 1 else tcN k n tn i
def tcF (k : Nat → Int32) (n tn : Nat) (tf : Nat → Int32) : Nat → Nat → Int32
  | 0 => tf
  | i + 1 => if tcB k n i = true then tadd (tcF k n tn tf i) (tcN k n tn i) (nI 3) (k (odF (kI k) n i)) (nI (cnt (eqB k (k (odF (kI k) n i))) n)) else tcF k n tn tf i
theorem tcN_le (k : Nat → Int32) (n tn i : Nat) : tcN k n tn i ≤ tn + i := by
  induction i with
  | zero => exact Nat.le_refl _
  | succ i ih => rw [tcN]; split <;> omega
theorem eq_t' {k : Nat → Int32} {x : Int32} {j q : Nat} (h : q = cnt (eqB k x) j) (hp : k j = x) : q + 1 = cnt (eqB k x) (j + 1) := cnt_t h (by simp [eqB, hp])
theorem eq_f' {k : Nat → Int32} {x : Int32} {j q : Nat} (h : q = cnt (eqB k x) j) (hp : ¬ k j = x) : q = cnt (eqB k x) (j + 1) := cnt_f h (by simp [eqB, hp])
def dgK (k : Nat → Int32) (b : Nat) : Nat → Int32 := fun i => dgR (k i) b
def tbD (k : Nat → Int32) (n b : Nat) : Nat := cnt (firstB (dgK k b)) n
def tbN (k : Nat → Int32) (n tn : Nat) : Nat → Nat
  | 0 => tn
  | b + 1 => if 1 < tbD k n b then tbN k n tn b + 1 else tbN k n tn b
def tbF (k : Nat → Int32) (n tn : Nat) (tf : Nat → Int32) : Nat → Nat → Int32
  | 0 => tf
  | b + 1 => if 1 < tbD k n b then tadd (tbF k n tn tf b) (tbN k n tn b) (nI 4) (nI b) (nI (tbD k n b)) else tbF k n tn tf b
theorem tbN_le (k : Nat → Int32) (n tn i : Nat) : tbN k n tn i ≤ tn + i := by
  induction i with
  | zero => exact Nat.le_refl _
  | succ i ih => rw [tbN]; split <;> omega
