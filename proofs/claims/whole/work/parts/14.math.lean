-- counting: one to one is onto
theorem sumF_le1 {c : Nat → Nat} {n : Nat} (h : ∀ r, r < n → c r ≤ 1) : sumF c n ≤ n := by
  induction n with
  | zero => exact Nat.le_refl _
  | succ n ih =>
    have h1 := ih (fun r hr => h r (by omega))
    have h2 := h n (by omega)
    rw [sumF]; omega
theorem sum_one {c : Nat → Nat} {n : Nat} (h : ∀ r, r < n → c r ≤ 1) (hs : sumF c n = n) : ∀ r, r < n → c r = 1 := by
  induction n with
  | zero => intro r hr; exact absurd hr (Nat.not_lt_zero r)
  | succ n ih =>
    have h1 := sumF_le1 (fun r hr => h r (Nat.lt_succ_of_lt hr))
    have h2 := h n (by omega)
    rw [sumF] at hs
    intro r hr
    rcases Nat.lt_or_ge r n with q | q
    · exact ih (fun r hr => h r (by omega)) (by omega) r q
    · rw [show r = n by omega]; omega
theorem cnt_le1 {P : Nat → Bool} {n : Nat} (h : ∀ i j, i < n → j < n → P i = true → P j = true → i = j) : cnt P n ≤ 1 := by
  induction n with
  | zero => exact Nat.zero_le _
  | succ n ih =>
    rw [cnt]
    by_cases hp : P n = true
    · rw [if_pos hp, cnt_0 (fun i hi => zb_nf (fun q => by have := h i n (by omega) (by omega) q hp; omega))]
      exact Nat.le_refl _
    · rw [if_neg hp]; exact ih (fun i j hi hj => h i j (by omega) (by omega))
theorem cnt_all {P : Nat → Bool} {n : Nat} (h : ∀ i, i < n → P i = true) : cnt P n = n := by
  induction n with
  | zero => rfl
  | succ n ih => rw [cnt, ih (fun i hi => h i (by omega)), if_pos (h n (by omega))]
theorem cnt_pos {P : Nat → Bool} {n : Nat} (h : 0 < cnt P n) : ∃ i, i < n ∧ P i = true := by
  induction n with
  | zero => exact absurd h (Nat.lt_irrefl 0)
  | succ n ih =>
    by_cases hp : P n = true
    · exact ⟨n, by omega, hp⟩
    · rw [cnt, if_neg hp] at h
      obtain ⟨i, hi, q⟩ := ih h
      exact ⟨i, by omega, q⟩
def injF (f : Nat → Nat) (n : Nat) : Prop := (∀ i, i < n → f i < n) ∧ ∀ i j, i < n → j < n → f i = f j → i = j
theorem inj_one {f : Nat → Nat} {n : Nat} (h : injF f n) : ∀ r, r < n → cnt (eqN f r) n = 1 := by
  refine sum_one (fun r _ => cnt_le1 (fun i j hi hj h1 h2 => ?_)) ?_
  · simp only [eqN, decide_eq_true_eq] at h1 h2
    exact h.2 i j hi hj (h1.trans h2.symm)
  · rw [sum_cnt]
    exact cnt_all (fun i hi => by simp only [ltN, decide_eq_true_eq]; exact h.1 i hi)
theorem inj_sur {f : Nat → Nat} {n : Nat} (h : injF f n) : ∀ r, r < n → ∃ i, i < n ∧ f i = r := by
  intro r hr
  obtain ⟨i, hi, q⟩ := cnt_pos (P := eqN f r) (n := n) (by rw [inj_one h r hr]; decide)
  exact ⟨i, hi, by simpa [eqN] using q⟩
theorem sum_cntQ (f : Nat → Nat) (Q : Nat → Bool) (n w : Nat) : sumF (fun r => if Q r = true then cnt (eqN f r) n else 0) w = cnt (fun j => ltN f w j && Q (f j)) n := by
  induction w with
  | zero => rw [sumF, cnt_0]; intro i _; simp [ltN]
  | succ w ih =>
    rw [sumF, ih]
    by_cases hq : Q w = true
    · rw [if_pos hq]
      refine cnt_or (fun i _ => ?_)
      simp only [ltN, eqN, Bool.and_eq_true, decide_eq_true_eq]
      by_cases h1 : f i < w
      · rw [if_neg (show ¬ f i = w by omega)]
        by_cases h2 : Q (f i) = true
        · rw [if_pos ⟨h1, h2⟩, if_pos ⟨by omega, h2⟩]
        · rw [if_neg (fun q => h2 q.2), if_neg (fun q => h2 q.2)]
      · rw [if_neg (fun q => h1 q.1)]
        by_cases h2 : f i = w
        · rw [if_pos h2, if_pos ⟨by omega, by rw [h2]; exact hq⟩]
        · rw [if_neg h2, if_neg (fun q => by omega)]
    · rw [if_neg hq, Nat.add_zero]
      refine cnt_congr (fun i _ => ?_)
      simp only [ltN]
      by_cases h2 : f i = w
      · rw [h2, zb_nf hq]; simp
      · congr 1
        exact decide_eq_decide.mpr (by omega)
theorem sum_ind (Q : Nat → Bool) (n : Nat) : sumF (fun r => if Q r = true then 1 else 0) n = cnt Q n := by
  induction n with
  | zero => rfl
  | succ n ih => rw [sumF, cnt, ih]
theorem cnt_bij {f : Nat → Nat} {n : Nat} (h : injF f n) (Q : Nat → Bool) : cnt (fun j => Q (f j)) n = cnt Q n := by
  have h1 := sum_cntQ f Q n n
  rw [← sum_ind Q n, sumF_congr (c' := fun r => if Q r = true then cnt (eqN f r) n else 0) (fun r hr => by rw [inj_one h r hr]), h1]
  exact cnt_congr (fun i hi => by simp [ltN, h.1 i hi])
theorem cnt_sub {P Q : Nat → Bool} {n : Nat} (h : ∀ i, i < n → P i = true → Q i = true) : cnt P n ≤ cnt Q n := by
  induction n with
  | zero => exact Nat.le_refl _
  | succ n ih =>
    have h1 := ih (fun i hi => h i (by omega))
    have h2 := h n (by omega)
    rw [cnt, cnt]
    by_cases hp : P n = true
    · rw [if_pos hp, if_pos (h2 hp)]; omega
    · rw [if_neg hp]; omega
theorem cnt_subs {P Q : Nat → Bool} {n a : Nat} (h : ∀ i, i < n → P i = true → Q i = true) (ha : a < n) (h1 : P a = false) (h2 : Q a = true) : cnt P n < cnt Q n := by
  induction n with
  | zero => exact absurd ha (Nat.not_lt_zero a)
  | succ n ih =>
    rw [cnt, cnt]
    rcases Nat.lt_or_ge a n with q | q
    · have h3 := ih (fun i hi => h i (by omega)) q
      by_cases hp : P n = true
      · rw [if_pos hp, if_pos (h n (by omega) hp)]; omega
      · rw [if_neg hp]; omega
    · have h3 := cnt_sub (fun i hi => h i (Nat.lt_succ_of_lt hi))
      have e : a = n := by omega
      subst e
      rw [if_neg (by rw [h1]; decide), if_pos h2]; omega
theorem cnt_cut {P : Nat → Bool} {j n : Nat} (h : j ≤ n) : cnt P j = cnt (fun i => P i && decide (i < j)) n := by
  induction n with
  | zero => rw [Nat.le_zero.mp h]; rfl
  | succ n ih =>
    rcases Nat.lt_or_ge j (n + 1) with q | q
    · rw [cnt, ← ih (by omega), if_neg (by simp; intro _; omega)]; rfl
    · rw [show j = n + 1 by omega]
      exact cnt_congr (fun i hi => by simp [hi])
-- the order by a figure, then by place
def gB (x : Nat → Int) (a b : Nat) : Bool := decide (x a < x b) || (decide (x a = x b) && decide (a < b))
theorem gB_iff {x : Nat → Int} {a b : Nat} : gB x a b = true ↔ x a < x b ∨ (x a = x b ∧ a < b) := by simp [gB]
theorem gB_irr (x : Nat → Int) (a : Nat) : gB x a a = false := zb_nf (fun h => by have := gB_iff.mp h; omega)
theorem gB_trans {x : Nat → Int} {a b c : Nat} (h1 : gB x a b = true) (h2 : gB x b c = true) : gB x a c = true := by
  have h1 := gB_iff.mp h1; have h2 := gB_iff.mp h2
  exact gB_iff.mpr (by omega)
theorem gB_tot {x : Nat → Int} {a b : Nat} (h : ¬ a = b) : gB x a b = true ∨ gB x b a = true := by
  rw [gB_iff, gB_iff]; omega
def rkF (x : Nat → Int) (n p : Nat) : Nat := cnt (fun i => gB x i p) n
theorem rk_lt {x : Nat → Int} {n a b : Nat} (ha : a < n) (h : gB x a b = true) : rkF x n a < rkF x n b :=
  cnt_subs (fun _ _ q => gB_trans q h) ha (gB_irr x a) h
theorem rk_n {x : Nat → Int} {n a : Nat} (ha : a < n) : rkF x n a < n := by
  have h := cnt_subs (P := fun i => gB x i a) (Q := fun _ => true) (n := n) (a := a) (fun _ _ _ => rfl) ha (gB_irr x a) rfl
  rw [cnt_all (P := fun _ => true) (fun _ _ => rfl)] at h
  exact h
theorem rk_inj (x : Nat → Int) (n : Nat) : injF (rkF x n) n := by
  refine ⟨fun i hi => rk_n hi, fun i j hi hj h => ?_⟩
  rcases Nat.decEq i j with q | q
  · rcases gB_tot (x := x) q with z | z
    · have := rk_lt hi z; omega
    · have := rk_lt hj z; omega
  · exact q
def odF (x : Nat → Int) (n r : Nat) : Nat := findL (fun i => decide (rkF x n i = r)) n
theorem find_of {P : Nat → Bool} {n : Nat} (h : ∃ i, i < n ∧ P i = true) : findL P n < n ∧ P (findL P n) = true := by
  induction n with
  | zero => obtain ⟨i, hi, -⟩ := h; exact absurd hi (Nat.not_lt_zero i)
  | succ n ih =>
    rw [findL]
    by_cases hp : P n = true
    · rw [if_pos hp]; exact ⟨by omega, hp⟩
    · rw [if_neg hp]
      obtain ⟨i, hi, q⟩ := h
      have h2 := ih ⟨i, by
        rcases Nat.lt_or_ge i n with z | z
        · exact z
        · exact absurd q (by rw [show i = n by omega]; exact hp), q⟩
      exact ⟨by omega, h2.2⟩
theorem od_ok {x : Nat → Int} {n r : Nat} (hr : r < n) : odF x n r < n ∧ rkF x n (odF x n r) = r := by
  obtain ⟨i, hi, h⟩ := inj_sur (rk_inj x n) r hr
  have h2 := find_of (P := fun i => decide (rkF x n i = r)) (n := n) ⟨i, hi, decide_eq_true h⟩
  exact ⟨h2.1, of_decide_eq_true h2.2⟩
theorem od_rk {x : Nat → Int} {n i : Nat} (hi : i < n) : odF x n (rkF x n i) = i := by
  have h := od_ok (x := x) (rk_n (x := x) hi)
  exact (rk_inj x n).2 _ _ h.1 hi h.2
theorem od_inj (x : Nat → Int) (n : Nat) : injF (odF x n) n := ⟨fun r hr => (od_ok hr).1, fun r s hr hs h => by rw [← (od_ok (x := x) hr).2, ← (od_ok (x := x) hs).2, h]⟩
theorem rk_back {x : Nat → Int} {n a b : Nat} (ha : a < n) (hb : b < n) (h : rkF x n a < rkF x n b) : gB x a b = true := by
  rcases Nat.decEq a b with q | q
  · rcases gB_tot (x := x) q with z | z
    · exact z
    · have := rk_lt hb z; omega
  · rw [q] at h; omega
/-- in order: strictly, one behind the other -/
def SrtP (x : Nat → Int) (n : Nat) (p : Nat → Nat) : Prop := (∀ i, i < n → p i < n) ∧ ∀ i, i + 1 < n → gB x (p i) (p (i + 1)) = true
theorem mono_id {f : Nat → Nat} {n : Nat} (h1 : ∀ i, i < n → f i < n) (h2 : ∀ i, i + 1 < n → f i < f (i + 1)) : ∀ i, i < n → f i = i := by
  have lo : ∀ i, i < n → i ≤ f i := by
    intro i
    induction i with
    | zero => intro _; exact Nat.zero_le _
    | succ i ih => intro hi; have := ih (by omega); have := h2 i hi; omega
  have hi : ∀ m i, i + m < n → f i + m ≤ f (i + m) := by
    intro m
    induction m with
    | zero => intro i _; exact Nat.le_refl _
    | succ m ih => intro i him; have := ih i (by omega); have := h2 (i + m) (by omega); have e : i + (m + 1) = i + m + 1 := by omega
                   rw [e]; omega
  intro i hin
  have a := lo i hin
  have b := hi (n - 1 - i) i (by omega)
  have c := h1 (i + (n - 1 - i)) (by omega)
  omega
theorem srt_eq {x : Nat → Int} {n : Nat} {p : Nat → Nat} (h : SrtP x n p) : ∀ i, i < n → p i = odF x n i := by
  intro i hi
  have h3 := mono_id (f := fun i => rkF x n (p i)) (fun i hi => rk_n (h.1 i hi)) (fun i hi => rk_lt (h.1 i (by omega)) (h.2 i hi)) i hi
  have h4 := od_rk (x := x) (h.1 i hi)
  rw [← h4]; exact congrArg (odF x n) h3
theorem od_srt (x : Nat → Int) (n : Nat) : SrtP x n (odF x n) := ⟨fun r hr => (od_ok hr).1, fun r hr => rk_back (od_ok (by omega)).1 (od_ok hr).1 (by rw [(od_ok (by omega)).2, (od_ok hr).2]; omega)⟩
-- dealing out brings it about
def nI' (d : Nat → Nat) : Nat → Int := fun i => (d i : Int)
theorem pos_eq {d : Nat → Nat} {n j : Nat} (hj : j < n) : cnt (ltN d (d j)) n + cnt (eqN d (d j)) j = rkF (nI' d) n j := by
  rw [cnt_cut (P := eqN d (d j)) (Nat.le_of_lt hj)]
  refine cnt_or (fun i _ => ?_)
  have key : gB (nI' d) i j = true ↔ (d i < d j ∨ (d i = d j ∧ i < j)) := by
    rw [gB_iff]; unfold nI'; omega
  simp only [ltN, eqN, Bool.and_eq_true, decide_eq_true_eq]
  by_cases h1 : d i < d j
  · rw [if_pos h1, if_neg (by omega), if_pos (key.mpr (Or.inl h1))]
  · rw [if_neg h1]
    by_cases h2 : d i = d j ∧ i < j
    · rw [if_pos h2, if_pos (key.mpr (Or.inr h2))]
    · rw [if_neg h2, if_neg (fun q => by have := key.mp q; omega)]
theorem deal_ok {d p b c : Nat → Nat} {n : Nat} (hc : ∀ i, i < n → c (d i) = cnt (ltN d (d i)) n) : ∀ i, i ≤ n → ∀ j, j < i → (dlS d p b c i).1 (rkF (nI' d) n j) = p j := by
  intro i
  induction i with
  | zero => intro _ j hj; exact absurd hj (Nat.not_lt_zero j)
  | succ i ih =>
    intro hi j hj
    rw [dlS]
    have e : (dlS d p b c i).2 (d i) = rkF (nI' d) n i := by rw [dlS_2, hc i (by omega), pos_eq (by omega)]
    dsimp only
    rw [e]
    unfold va_up
    by_cases h : j = i
    · rw [h, if_pos rfl]
    · rw [if_neg (fun q => h ((rk_inj (nI' d) n).2 j i (by omega) (by omega) q))]
      exact ih (by omega) j (by omega)
theorem deal_od {d p b c : Nat → Nat} {n : Nat} (hc : ∀ i, i < n → c (d i) = cnt (ltN d (d i)) n) {r : Nat} (hr : r < n) : (dlS d p b c n).1 r = p (odF (nI' d) n r) := by
  have h := od_ok (x := nI' d) hr
  have h2 := deal_ok (p := p) (b := b) hc n (Nat.le_refl n) (odF (nI' d) n r) h.1
  rw [h.2] at h2
  exact h2
