-- what the model tells of a way: how many steps, the steps, how often compared
def tlN (k : Nat → Int32) (n : Nat) (wk ot tf : Nat → Int32) (en : Nat → Nat) : Nat → Nat
  | 0 => if n < 2 then 0 else 0 + 1
  | 1 => mT (cpF k wk n) 0 n
  | 2 => (toF k n wk ot 0 tf en).2.2.1
  | 3 => tcN k n 0 n
  | _ + 4 => tbN k n 0 4
def tlF (k : Nat → Int32) (n : Nat) (wk ot tf : Nat → Int32) (en : Nat → Nat) : Nat → Nat → Int32
  | 0 => if n < 2 then tf else tadd tf 0 (nI 0) (nI 0) (nI n)
  | 1 => mF (cpF k wk n) 0 tf n
  | 2 => (toF k n wk ot 0 tf en).2.2.2.1
  | 3 => tcF k n 0 tf n
  | _ + 4 => tbF k n 0 tf 4
def tlC (k : Nat → Int32) (n : Nat) (wk ot tf : Nat → Int32) (en : Nat → Nat) : Nat → Nat
  | 0 => n - 1
  | 1 => mC (cpF k wk n) n
  | 2 => (toF k n wk ot 0 tf en).2.2.2.2.1
  | _ + 3 => 0
theorem planF_lt {k : Nat → Int32} {n : Nat} {fg : Nat → Nat} {le mo : Nat → Int64} {wy : Nat → Nat} {rn : Nat} (h : ∀ i, i < rn → wy i < 5) (f : Nat) (hf : f ≤ rn) : planF k n fg le mo wy rn f < 5 := by
  induction f with
  | zero => exact (by decide : 2 < 5)
  | succ f ih =>
    rw [planF]; split
    · exact h _ (by omega)
    · exact ih (by omega)
theorem nI_m1 {w : Nat} (h : w < 2 ^ 31) : ¬ nI w = -1 := by
  intro q
  have := congrArg Int32.toInt q
  rw [nI_toInt h] at this
  have h2 : (-1 : Int32).toInt = -1 := rfl
  omega
