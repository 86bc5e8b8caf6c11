-- putting in, on the keys alone
def tgW (w : Nat → Int32) (x : Int32) : Nat → Nat
  | 0 => 0
  | i + 1 => if w i ≤ x then i + 1 else tgW w x i
theorem tgW_le (w : Nat → Int32) (x : Int32) (i : Nat) : tgW w x i ≤ i := by
  induction i with
  | zero => exact Nat.le_refl 0
  | succ i ih => rw [tgW]; split <;> omega
theorem tgW_0 {w : Nat → Int32} {x : Int32} {i j : Nat} (h : tgW w x j = tgW w x i) (h0 : i = 0) : i = tgW w x j := by rw [h, h0]; rfl
theorem tgW_x {w : Nat → Int32} {x : Int32} {i j : Nat} (h : tgW w x j = tgW w x i) (h0 : 0 < i) (hp : w (i - 1) ≤ x) : i = tgW w x j := by
  obtain ⟨a, rfl⟩ : ∃ a, i = a + 1 := ⟨i - 1, by omega⟩
  have hp : w a ≤ x := hp
  rw [h, tgW, if_pos hp]
theorem tgW_s {w : Nat → Int32} {x : Int32} {i j : Nat} (h : tgW w x j = tgW w x i) (h0 : 0 < i) (hp : ¬ w (i - 1) ≤ x) : tgW w x j = tgW w x (i - 1) := by
  obtain ⟨a, rfl⟩ : ∃ a, i = a + 1 := ⟨i - 1, by omega⟩
  have hp : ¬ w a ≤ x := hp
  rw [h, tgW, if_neg hp]; rfl
def mvW (w : Nat → Int32) (j i : Nat) : Nat → Int32 := upd (va_cpy w w i (i + 1) (j - i)) i (w j)
def mP (w : Nat → Int32) : Nat → Nat → Int32
  | 0 => w
  | i + 1 => if tgW (mP w i) (mP w i i) i < i then mvW (mP w i) i (tgW (mP w i) (mP w i i) i) else mP w i
def mTo (w : Nat → Int32) (i : Nat) : Nat := tgW (mP w i) (mP w i i) i
def mT (w : Nat → Int32) (tn : Nat) : Nat → Nat
  | 0 => tn
  | i + 1 => if mTo w i < i then mT w tn i + 1 else mT w tn i
def mF (w : Nat → Int32) (tn : Nat) (tf : Nat → Int32) : Nat → Nat → Int32
  | 0 => tf
  | i + 1 => if mTo w i < i then tadd (mF w tn tf i) (mT w tn i) (nI 1) (nI i) (nI (mTo w i)) else mF w tn tf i
def mC (w : Nat → Int32) : Nat → Nat
  | 0 => 0
  | i + 1 => mC w i + (i - mTo w i + (if 0 < mTo w i then 1 else 0))
theorem opF_p (w : Nat → Int32) {n z : Nat} (h : 0 < z) : opF w n z (z - 1) = w (z - 1) := by rw [opF, if_neg (by omega)]
theorem upd_self (w : Nat → Int32) (i : Nat) : upd w i (w i) = w := by
  funext x; unfold upd; split
  · rename_i h; rw [h]
  · rfl
theorem mP_s {w : Nat → Int32} {i z : Nat} (hz : z ≤ i) (h : z = mTo w i) : upd (opF (mP w i) i z) z (mP w i i) = mP w (i + 1) := by
  rw [mP]
  by_cases h1 : z < i
  · rw [if_pos (show tgW (mP w i) (mP w i i) i < i by rw [show tgW (mP w i) (mP w i i) i = z from h.symm]; exact h1), show tgW (mP w i) (mP w i i) i = z from h.symm, mvW, opF_c _ hz]
  · have e : z = i := by omega
    rw [if_neg (show ¬ tgW (mP w i) (mP w i i) i < i by rw [show tgW (mP w i) (mP w i i) i = z from h.symm]; exact h1), e, ← opF_0]
    exact upd_self _ i
theorem mF_t {w : Nat → Int32} {tn : Nat} {tf : Nat → Int32} {i z : Nat} (h : mTo w i < i) (hz : z = mTo w i) : tadd (mF w tn tf i) (mT w tn i) (nI 1) (nI i) (nI z) = mF w tn tf (i + 1) := by rw [mF, if_pos h, hz]
theorem mF_f {w : Nat → Int32} {tn : Nat} {tf : Nat → Int32} {i : Nat} (h : i ≤ mTo w i) : mF w tn tf i = mF w tn tf (i + 1) := by rw [mF, if_neg (by omega)]
theorem mT_t {w : Nat → Int32} {tn i : Nat} (h : mTo w i < i) : mT w tn i + 1 = mT w tn (i + 1) := by rw [mT, if_pos h]
theorem mT_f {w : Nat → Int32} {tn i : Nat} (h : i ≤ mTo w i) : mT w tn i = mT w tn (i + 1) := by rw [mT, if_neg (by omega)]
theorem mT_le (w : Nat → Int32) (tn i : Nat) : mT w tn i ≤ tn + i := by
  induction i with
  | zero => exact Nat.le_refl _
  | succ i ih => rw [mT]; split <;> omega
theorem mC_t {w : Nat → Int32} {i q q2 z : Nat} (h : q = mC w i) (hz : z = mTo w i) (h2 : q2 = q + (i - z)) (h0 : 0 < z) : q2 + 1 = mC w (i + 1) := by rw [mC, if_pos (by omega), h2, h, hz]; omega
theorem mC_f {w : Nat → Int32} {i q q2 z : Nat} (h : q = mC w i) (hz : z = mTo w i) (h2 : q2 = q + (i - z)) (h0 : z = 0) : q2 = mC w (i + 1) := by rw [mC, if_neg (by omega), h2, h, hz]; omega
