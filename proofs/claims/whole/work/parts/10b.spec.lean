-- joining: rounds
theorem keF_eq (s : Nat → Nat) (i x : Nat) : keF s i x = if 1 ≤ x ∧ x < i then s (2 * x) else s x := by
  induction i generalizing x with
  | zero => rw [keF, if_neg (by omega)]
  | succ i ih =>
    rw [keF]
    by_cases h0 : i = 0
    · rw [if_pos h0, if_neg (by omega)]
    · rw [if_neg h0]
      unfold va_up
      by_cases h1 : x = i
      · rw [if_pos h1, ih, if_neg (by omega), if_pos (by omega), h1]
      · rw [if_neg h1, ih]
        by_cases h2 : 1 ≤ x ∧ x < i
        · rw [if_pos h2, if_pos (by omega)]
        · rw [if_neg h2, if_neg (by omega)]
theorem keS_eq (s : Nat → Nat) (r x : Nat) (hx : x ≤ (r + 1) / 2) : keS s r x = if x = (r + 1) / 2 then s r else s (2 * x) := by
  unfold keS va_up
  by_cases h1 : x = (r + 1) / 2
  · rw [if_pos h1, if_pos h1]
  · rw [if_neg h1, if_neg h1, keF_eq]
    by_cases h2 : 1 ≤ x ∧ x < (r + 1) / 2
    · rw [if_pos h2]
    · rw [if_neg h2, show x = 0 by omega]
theorem mon_le {s : Nat → Nat} {r : Nat} (h : ∀ x, x < r → s x ≤ s (x + 1)) (a : Nat) : ∀ b, a ≤ b → b ≤ r → s a ≤ s b := by
  intro b
  induction b with
  | zero => intro h1 _; rw [Nat.le_zero.mp h1]; exact Nat.le_refl _
  | succ b ih =>
    intro h1 h2
    rcases Nat.lt_or_ge a (b + 1) with q | q
    · exact Nat.le_trans (ih (by omega) (by omega)) (h b (by omega))
    · rw [show a = b + 1 by omega]; exact Nat.le_refl _
theorem keS_mon {s : Nat → Nat} {r : Nat} (h : ∀ x, x < r → s x ≤ s (x + 1)) : ∀ x, x < (r + 1) / 2 → keS s r x ≤ keS s r (x + 1) := by
  intro x hx
  rw [keS_eq s r x (by omega), keS_eq s r (x + 1) (by omega), if_neg (by omega)]
  split
  · exact mon_le h _ _ (by omega) (Nat.le_refl _)
  · exact mon_le h _ _ (by omega) (by omega)
theorem keS_le {s : Nat → Nat} {r N : Nat} (h : ∀ x, x ≤ r → s x ≤ N) : ∀ x, x ≤ (r + 1) / 2 → keS s r x ≤ N := by
  intro x hx
  rw [keS_eq s r x hx]
  split
  · exact h r (Nat.le_refl _)
  · exact h _ (by omega)
theorem frF_ok (k : Nat → Int32) (s : Nat → Nat) (i : Nat) : (∀ x, x < cnt (stB k) i → frF k s i x < i) ∧ ∀ x, x + 1 < cnt (stB k) i → frF k s i x < frF k s i (x + 1) := by
  induction i with
  | zero => exact ⟨fun x h => absurd h (Nat.not_lt_zero x), fun x h => absurd h (Nat.not_lt_zero _)⟩
  | succ i ih =>
    by_cases hb : stB k i = true
    · have e1 : frF k s (i + 1) = va_up (frF k s i) (cnt (stB k) i) i := by rw [frF, if_pos hb]
      have e2 : cnt (stB k) (i + 1) = cnt (stB k) i + 1 := (cnt_t rfl hb).symm
      rw [e1, e2]
      unfold va_up
      refine ⟨fun x hx => ?_, fun x hx => ?_⟩
      · split
        · omega
        · exact Nat.lt_succ_of_lt (ih.1 x (by omega))
      · rw [if_neg (by omega)]
        split
        · exact ih.1 x (by omega)
        · exact ih.2 x (by omega)
    · have hb : stB k i = false := zb_nf hb
      rw [← frF_f hb, ← cnt_f rfl hb]
      exact ⟨fun x hx => Nat.lt_succ_of_lt (ih.1 x hx), ih.2⟩
theorem fRun_mon (k : Nat → Int32) (n : Nat) (s : Nat → Nat) : ∀ x, x < cnt (stB k) n → fRun k n s x ≤ fRun k n s (x + 1) := by
  intro x hx
  have h := frF_ok k s n
  unfold fRun va_up
  rw [if_neg (by omega)]
  split
  · exact Nat.le_of_lt (h.1 x hx)
  · exact Nat.le_of_lt (h.2 x (by omega))
theorem fRun_le (k : Nat → Int32) (n : Nat) (s : Nat → Nat) : ∀ x, x ≤ cnt (stB k) n → fRun k n s x ≤ n := by
  intro x hx
  unfold fRun va_up
  split
  · exact Nat.le_refl _
  · exact Nat.le_of_lt ((frF_ok k s n).1 x (by omega))
abbrev joT : Type := (Nat → Nat) × (Nat → Nat) × Nat × (Nat → Int32) × Nat × (Nat → Nat) × Nat
def joR (k : Nat → Int32) (p j : Nat → Nat) (tn : Nat) (tf : Nat → Int32) (q : Nat) (s : Nat → Nat) (r : Nat) : joT := ((jpS k s (p, j, tn, tf, 0) (r / 2)).1, (jpS k s (p, j, tn, tf, 0) (r / 2)).2.1, (jpS k s (p, j, tn, tf, 0) (r / 2)).2.2.1, (jpS k s (p, j, tn, tf, 0) (r / 2)).2.2.2.1, q + (jpS k s (p, j, tn, tf, 0) (r / 2)).2.2.2.2, keS s r, (r + 1) / 2)
def joL (k : Nat → Int32) : Nat → joT → joT
  | 0, S => S
  | f + 1, (p, j, tn, tf, q, s, r) => if r ≤ 1 then (p, j, tn, tf, q, s, r) else joL k f (joR k p j tn tf q s r)
theorem joL_s {k : Nat → Int32} {X : joT} {f tn q r : Nat} {p j s : Nat → Nat} {tf : Nat → Int32} (h : X = joL k f (p, j, tn, tf, q, s, r)) (hf : r ≤ f) (hr : 1 < r) : X = joL k (f - 1) (joR k p j tn tf q s r) := by
  obtain ⟨g, rfl⟩ : ∃ g, f = g + 1 := ⟨f - 1, by omega⟩
  rw [h, joL, if_neg (by omega)]; rfl
theorem joL_x {k : Nat → Int32} {X : joT} {f tn q r : Nat} {p j s : Nat → Nat} {tf : Nat → Int32} (h : X = joL k f (p, j, tn, tf, q, s, r)) (hr : r ≤ 1) : X = (p, j, tn, tf, q, s, r) := by
  cases f with
  | zero => exact h
  | succ f => rw [h, joL, if_pos hr]
def joF (k : Nat → Int32) (n : Nat) (p j : Nat → Nat) (tn : Nat) (tf : Nat → Int32) (s : Nat → Nat) : joT := joL k 150 (p, j, tn, tf, 0, fRun k n s, cnt (stB k) n)
