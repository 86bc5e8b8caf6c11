-- by bytes
def dgR (x : Int32) (b : Nat) : Int32 := (x >>> (nI (8 * b) &&& 31)) &&& nI 255
def dgN (x : Int32) (b : Nat) : Nat := (dgR x b).toInt.toNat
theorem dgR_ex (x : Int32) (b : Nat) : ∃ j : Nat, j < 256 ∧ dgR x b = nI j := pk_andE _ 8 rfl
theorem dgN_lt (x : Int32) (b : Nat) : dgN x b < 256 := by
  obtain ⟨j, hj, h⟩ := dgR_ex x b
  rw [dgN, h, nI_toInt (by omega)]; omega
theorem dgR_eq (x : Int32) (b : Nat) : dgR x b = nI (dgN x b) := by
  obtain ⟨j, hj, h⟩ := dgR_ex x b
  rw [dgN, h, nI_toInt (by omega)]; rfl
theorem xor_128 : ∀ j, j < 256 → nI j ^^^ nI 128 = nI (j ^^^ 128) := by decide +kernel
theorem xor_lt : ∀ j, j < 256 → j ^^^ 128 < 256 := by decide +kernel
def dig (x : Int32) (b : Nat) : Nat := if b = 3 then dgN x b ^^^ 128 else dgN x b
theorem dig_lt (x : Int32) (b : Nat) : dig x b < 256 := by
  rw [dig]; split
  · exact xor_lt _ (dgN_lt x b)
  · exact dgN_lt x b
def dgF (k : Nat → Int32) (b : Nat) : Nat → Nat := fun i => dig (k i) b
def dgP (k : Nat → Int32) (p : Nat → Nat) (b : Nat) : Nat → Nat := fun i => dig (k (p i)) b
def byC (k : Nat → Int32) (b n : Nat) (s : Nat → Nat) : Nat → Nat := coF (zeF s 256) (dgF k b) n
theorem byC_eq {k : Nat → Int32} {b n : Nat} (s : Nat → Nat) {v : Nat} (hv : v < 256) : byC k b n s v = cnt (eqN (dgF k b) v) n := by
  rw [byC, coF_eq, zeF, if_pos hv]; omega
theorem by_sum {k : Nat → Int32} {b n : Nat} (s : Nat → Nat) {v : Nat} (hv : v ≤ 256) : sumF (byC k b n s) v = cnt (ltN (dgF k b) v) n := by
  rw [← sum_cnt]; exact sumF_congr (fun w hw => byC_eq s (by omega))
def posB (c : Nat → Nat) (v : Nat) : Bool := decide (0 < c v)
def pfF (c : Nat → Nat) (i : Nat) : Nat → Nat := fun v => if v < i then sumF c v else c v
theorem pfF_0 (c : Nat → Nat) : c = pfF c 0 := by funext v; simp [pfF]
theorem pfF_i (c : Nat → Nat) (i : Nat) : nI (pfF c i i) = nI (c i) := by rw [pfF, if_neg (Nat.lt_irrefl i)]
theorem pfF_s (c : Nat → Nat) (i : Nat) : va_up (pfF c i) i (sumF c i) = pfF c (i + 1) := by
  funext v
  simp only [va_up, pfF]
  by_cases h : v = i
  · rw [if_pos h, if_pos (by omega), h]
  · rw [if_neg h]
    by_cases h2 : v < i
    · rw [if_pos h2, if_pos (by omega)]
    · rw [if_neg h2, if_neg (by omega)]
