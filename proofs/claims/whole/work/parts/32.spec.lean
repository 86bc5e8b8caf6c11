-- the model's joining
def enB (k : Nat → Int32) (n i : Nat) : Bool := decide (i + 1 = n) || decide (k (i + 1) < k i)
theorem enB_t1 {k : Nat → Int32} {n i : Nat} (h : i + 1 = n) : enB k n i = true := by simp [enB, h]
theorem enB_t2 {k : Nat → Int32} {n i : Nat} (h : ¬ k i ≤ k (i + 1)) : enB k n i = true := by simp [enB, Int32.not_le.mp h]
theorem enB_f {k : Nat → Int32} {n i : Nat} (h1 : ¬ i + 1 = n) (h : k i ≤ k (i + 1)) : enB k n i = false := by simp [enB, h1, Int32.not_lt.mpr h]
def teE (k : Nat → Int32) (n : Nat) (en : Nat → Nat) : Nat → Nat → Nat
  | 0 => en
  | i + 1 => if enB k n i = true then va_up (teE k n en i) (cnt (enB k n) i) (i + 1) else teE k n en i
theorem teE_t {k : Nat → Int32} {n i : Nat} {en : Nat → Nat} (h : enB k n i = true) : va_up (teE k n en i) (cnt (enB k n) i) (i + 1) = teE k n en (i + 1) := by rw [teE, if_pos h]
theorem teE_f {k : Nat → Int32} {n i : Nat} {en : Nat → Nat} (h : enB k n i = false) : teE k n en i = teE k n en (i + 1) := by rw [teE, if_neg (by rw [h]; decide)]
theorem teE_ok (k : Nat → Int32) (n : Nat) (en : Nat → Nat) (i : Nat) : (∀ x, x < cnt (enB k n) i → teE k n en i x ≤ i) ∧ ∀ x, x + 1 < cnt (enB k n) i → teE k n en i x ≤ teE k n en i (x + 1) := by
  induction i with
  | zero => exact ⟨fun x h => absurd h (Nat.not_lt_zero x), fun x h => absurd h (Nat.not_lt_zero _)⟩
  | succ i ih =>
    by_cases hb : enB k n i = true
    · have e2 : cnt (enB k n) (i + 1) = cnt (enB k n) i + 1 := (cnt_t rfl hb).symm
      rw [← teE_t hb, e2]
      unfold va_up
      refine ⟨fun x hx => ?_, fun x hx => ?_⟩
      · split
        · omega
        · exact Nat.le_succ_of_le (ih.1 x (by omega))
      · rw [if_neg (by omega)]
        split
        · exact Nat.le_succ_of_le (ih.1 x (by omega))
        · exact ih.2 x (by omega)
    · have hb : enB k n i = false := zb_nf hb
      rw [← teE_f hb, ← cnt_f rfl hb]
      exact ⟨fun x hx => Nat.le_succ_of_le (ih.1 x hx), ih.2⟩
def tjV (en : Nat → Nat) (ru y : Nat) : Nat := if 2 * y + 1 < ru then en (2 * y + 1) else en (2 * y)
def tjE (en : Nat → Nat) (ru x : Nat) : Nat → Nat := fun y => if y < x then tjV en ru y else en y
def tjB (en : Nat → Nat) (ru x : Nat) : Nat := if x = 0 then 0 else tjV en ru (x - 1)
theorem tjE_0 (en : Nat → Nat) (ru : Nat) : en = tjE en ru 0 := by funext y; simp [tjE]
theorem tjE_r {en : Nat → Nat} {ru x y : Nat} (h : x ≤ y) : nI (tjE en ru x y) = nI (en y) := by rw [tjE, if_neg (by omega)]
theorem tjE_s (en : Nat → Nat) {ru x v : Nat} (h : v = tjV en ru x) : va_up (tjE en ru x) x v = tjE en ru (x + 1) := by
  funext y
  simp only [va_up, tjE]
  by_cases h1 : y = x
  · rw [if_pos h1, if_pos (by omega), h, h1]
  · rw [if_neg h1]
    by_cases h2 : y < x
    · rw [if_pos h2, if_pos (by omega)]
    · rw [if_neg h2, if_neg (by omega)]
abbrev tjT : Type := (Nat → Int32) × (Nat → Int32) × Nat × (Nat → Int32) × Nat
def tjS (en : Nat → Nat) (ru : Nat) (S0 : tjT) : Nat → tjT
  | 0 => S0
  | x + 1 => if 2 * x + 1 < ru then (jmW (tjS en ru S0 x).1 (tjB en ru x) (en (2 * x)) (en (2 * x + 1)) (tjS en ru S0 x).2.1, (jmR (tjS en ru S0 x).1 (tjB en ru x) (en (2 * x)) (en (2 * x + 1)) (tjS en ru S0 x).2.1).2, (tjS en ru S0 x).2.2.1 + 1, tadd (tjS en ru S0 x).2.2.2.1 (tjS en ru S0 x).2.2.1 (nI 2) (nI (tjB en ru x)) (nI (en (2 * x + 1))), (tjS en ru S0 x).2.2.2.2 + (jmR (tjS en ru S0 x).1 (tjB en ru x) (en (2 * x)) (en (2 * x + 1)) (tjS en ru S0 x).2.1).1) else tjS en ru S0 x
theorem tjS_t {en : Nat → Nat} {ru x : Nat} {S0 : tjT} (h : 2 * x + 1 < ru) : tjS en ru S0 (x + 1) = (jmW (tjS en ru S0 x).1 (tjB en ru x) (en (2 * x)) (en (2 * x + 1)) (tjS en ru S0 x).2.1, (jmR (tjS en ru S0 x).1 (tjB en ru x) (en (2 * x)) (en (2 * x + 1)) (tjS en ru S0 x).2.1).2, (tjS en ru S0 x).2.2.1 + 1, tadd (tjS en ru S0 x).2.2.2.1 (tjS en ru S0 x).2.2.1 (nI 2) (nI (tjB en ru x)) (nI (en (2 * x + 1))), (tjS en ru S0 x).2.2.2.2 + (jmR (tjS en ru S0 x).1 (tjB en ru x) (en (2 * x)) (en (2 * x + 1)) (tjS en ru S0 x).2.1).1) := by rw [tjS, if_pos h]
theorem tjS_f {en : Nat → Nat} {ru x : Nat} {S0 : tjT} (h : ru ≤ 2 * x + 1) : tjS en ru S0 (x + 1) = tjS en ru S0 x := by rw [tjS, if_neg (by omega)]
theorem tjS_tn (en : Nat → Nat) (ru : Nat) (S0 : tjT) (x : Nat) : (tjS en ru S0 x).2.2.1 ≤ S0.2.2.1 + x ∧ (tjS en ru S0 x).2.2.1 ≤ S0.2.2.1 + ru / 2 := by
  induction x with
  | zero => exact ⟨Nat.le_refl _, by rw [tjS]; omega⟩
  | succ x ih =>
    rcases Nat.lt_or_ge (2 * x + 1) ru with h | h
    · rw [tjS_t h]; dsimp only; omega
    · rw [tjS_f h]; omega
theorem emon {en : Nat → Nat} {r : Nat} (h : ∀ x, x + 1 < r → en x ≤ en (x + 1)) (a : Nat) : ∀ b, a ≤ b → b < r → en a ≤ en b := by
  intro b
  induction b with
  | zero => intro h1 _; rw [Nat.le_zero.mp h1]; exact Nat.le_refl _
  | succ b ih =>
    intro h1 h2
    rcases Nat.lt_or_ge a (b + 1) with q | q
    · exact Nat.le_trans (ih (by omega) (by omega)) (h b (by omega))
    · rw [show a = b + 1 by omega]; exact Nat.le_refl _
theorem tjB_le {en : Nat → Nat} {ru x : Nat} (h : ∀ x, x + 1 < ru → en x ≤ en (x + 1)) (hx : 2 * x < ru) : tjB en ru x ≤ en (2 * x) := by
  rw [tjB]; split
  · exact Nat.zero_le _
  · rw [tjV, if_pos (by omega)]; exact emon h _ _ (by omega) hx
theorem tjV_le {en : Nat → Nat} {ru y N : Nat} (h : ∀ x, x < ru → en x ≤ N) (hy : 2 * y < ru) : tjV en ru y ≤ N := by
  rw [tjV]; split
  · exact h _ (by omega)
  · exact h _ hy
theorem tjE_mon {en : Nat → Nat} {ru : Nat} (h : ∀ x, x + 1 < ru → en x ≤ en (x + 1)) : ∀ x, x + 1 < (ru + 1) / 2 → tjE en ru ((ru + 1) / 2) x ≤ tjE en ru ((ru + 1) / 2) (x + 1) := by
  intro x hx
  rw [tjE, tjE, if_pos (by omega), if_pos hx, tjV, if_pos (by omega), tjV]
  split
  · exact emon h _ _ (by omega) (by omega)
  · exact emon h _ _ (by omega) (by omega)
theorem tjE_le {en : Nat → Nat} {ru N : Nat} (h : ∀ x, x < ru → en x ≤ N) : ∀ x, x < (ru + 1) / 2 → tjE en ru ((ru + 1) / 2) x ≤ N := by
  intro x hx
  rw [tjE, if_pos hx]; exact tjV_le h (by omega)
abbrev toT : Type := (Nat → Int32) × (Nat → Int32) × Nat × (Nat → Int32) × Nat × (Nat → Nat) × Nat
def toR (w o : Nat → Int32) (tn : Nat) (tf : Nat → Int32) (q : Nat) (en : Nat → Nat) (ru : Nat) : toT := ((tjS en ru (w, o, tn, tf, q) ((ru + 1) / 2)).1, (tjS en ru (w, o, tn, tf, q) ((ru + 1) / 2)).2.1, (tjS en ru (w, o, tn, tf, q) ((ru + 1) / 2)).2.2.1, (tjS en ru (w, o, tn, tf, q) ((ru + 1) / 2)).2.2.2.1, (tjS en ru (w, o, tn, tf, q) ((ru + 1) / 2)).2.2.2.2, tjE en ru ((ru + 1) / 2), (ru + 1) / 2)
def toL : Nat → toT → toT
  | 0, S => S
  | f + 1, (w, o, tn, tf, q, en, ru) => if ru ≤ 1 then (w, o, tn, tf, q, en, ru) else toL f (toR w o tn tf q en ru)
theorem toL_s {X : toT} {f tn q ru : Nat} {w o tf : Nat → Int32} {en : Nat → Nat} (h : X = toL f (w, o, tn, tf, q, en, ru)) (hf : ru ≤ f) (hr : 1 < ru) : X = toL (f - 1) (toR w o tn tf q en ru) := by
  obtain ⟨g, rfl⟩ : ∃ g, f = g + 1 := ⟨f - 1, by omega⟩
  rw [h, toL, if_neg (by omega)]; rfl
theorem toL_x {X : toT} {f tn q ru : Nat} {w o tf : Nat → Int32} {en : Nat → Nat} (h : X = toL f (w, o, tn, tf, q, en, ru)) (hr : ru ≤ 1) : X = (w, o, tn, tf, q, en, ru) := by
  cases f with
  | zero => exact h
  | succ f => rw [h, toL, if_pos hr]
def toF (k : Nat → Int32) (n : Nat) (wk o : Nat → Int32) (tn : Nat) (tf : Nat → Int32) (en : Nat → Nat) : toT := toL 150 (cpF k wk n, o, tn, tf, 0, teE k n en n, cnt (enB k n) n)
