-- the model's figures
theorem dropB_tt {k : Nat → Int32} {i : Nat} (h0 : 1 ≤ i) (h : ¬ k (i - 1) ≤ k i) : dropB k i = true := by
  have : k i < k (i - 1) := Int32.not_le.mp h
  simp [dropB, this]; omega
theorem dropB_ff {k : Nat → Int32} {i : Nat} (h : k (i - 1) ≤ k i) : dropB k i = false := by
  have : ¬ k i < k (i - 1) := Int32.not_lt.mpr h
  simp [dropB, this]
theorem fl_t1 {k : Nat → Int32} {i : Nat} (h0 : 1 ≤ i) (h : ¬ k (i - 1) ≤ k i) (h1 : i ≤ 1) : fallB k i = true := fallB_t (dropB_tt h0 h) (by rw [show i - 1 = 0 by omega]; rfl)
theorem fl_t2 {k : Nat → Int32} {i : Nat} (h0 : 1 ≤ i) (h : ¬ k (i - 1) ≤ k i) (h1 : k (i - 2) ≤ k (i - 1)) : fallB k i = true := fallB_t (dropB_tt h0 h) (dropB_ff (by rw [show i - 1 - 1 = i - 2 by omega]; exact h1))
theorem fl_f2 {k : Nat → Int32} {i : Nat} (h0 : 1 < i) (h1 : ¬ k (i - 2) ≤ k (i - 1)) : fallB k i = false := fallB_f2 (dropB_tt (by omega) (by rw [show i - 1 - 1 = i - 2 by omega]; exact h1))
theorem fl_f1 {k : Nat → Int32} {i : Nat} (h : k (i - 1) ≤ k i) : fallB k i = false := fallB_f1 (dropB_ff h)
def exF (k : Nat → Int32) (g i : Nat) : Int32 := if g = 0 then maxF k i else minF k i
theorem i64_lt {a b : Int32} : a.toInt64 < b.toInt64 ↔ a < b := by
  rw [Int64.lt_iff_toInt_lt, Int32.toInt_toInt64, Int32.toInt_toInt64, Int32.lt_iff_toInt_lt]
abbrev exI (k : Nat → Int32) (n g i : Nat) (v : Int64) : Prop := (n = 0 ∧ v = 0) ∨ (0 < n ∧ v = (exF k g (i - 1)).toInt64)
theorem ex_0 {k : Nat → Int32} {n g : Nat} (h : n = 0) : exI k n g 1 0 := Or.inl ⟨h, rfl⟩
theorem ex_1 {k : Nat → Int32} {n g : Nat} (h : 0 < n) : exI k n g 1 (k 0).toInt64 := Or.inr ⟨h, by unfold exF; split <;> rfl⟩
theorem ex_s {k : Nat → Int32} {n g i : Nat} {v v' : Int64} (hi : 1 ≤ i) (hn : i < n) (h : exI k n g i v) (hv : v' = if (if g = 0 then v < (k i).toInt64 else (k i).toInt64 < v) then (k i).toInt64 else v) : exI k n g (i + 1) v' := by
  rcases h with ⟨h, -⟩ | ⟨h, h2⟩
  · omega
  · refine Or.inr ⟨h, ?_⟩
    obtain ⟨j, rfl⟩ : ∃ j, i = j + 1 := ⟨i - 1, by omega⟩
    rw [hv, h2]
    simp only [Nat.add_sub_cancel, exF]
    by_cases hg : g = 0
    · simp only [if_pos hg, i64_lt, maxF]
      split <;> rfl
    · simp only [if_neg hg, i64_lt, minF]
      split <;> rfl
theorem ex_x {k : Nat → Int32} {n g i : Nat} {v : Int64} (he : n ≤ i) (hin : i ≤ n ∨ (i = 1 ∧ n = 0)) (h : exI k n g i v) : v = (if g = 0 then greatF k n else leastF k n).toInt64 := by
  rcases h with ⟨h, h2⟩ | ⟨h, h2⟩
  · rw [h2, greatF, leastF, if_pos h, if_pos h]; split <;> rfl
  · have hz : ¬ n = 0 := by omega
    rw [h2, greatF, leastF, if_neg hz, if_neg hz, show i = n by omega]; rfl
theorem df_t {k : Nat → Int32} {i j b : Nat} (h : b = if cnt (eqB k (k i)) j = 0 then 1 else 0) (h0 : 0 < b) (hp : ¬ k j = k i) : 1 = if cnt (eqB k (k i)) (j + 1) = 0 then 1 else 0 := by
  have hz : cnt (eqB k (k i)) j = 0 := by
    by_cases q : cnt (eqB k (k i)) j = 0
    · exact q
    · rw [if_neg q] at h; omega
  rw [← cnt_f rfl (show eqB k (k i) j = false by simp [eqB, hp]), if_pos hz]
theorem df_f1 {k : Nat → Int32} {i j b : Nat} (h : b = if cnt (eqB k (k i)) j = 0 then 1 else 0) (h0 : b = 0) : 0 = if cnt (eqB k (k i)) (j + 1) = 0 then 1 else 0 := by
  have hz : ¬ cnt (eqB k (k i)) j = 0 := fun q => by rw [if_pos q] at h; omega
  have h9 : cnt (eqB k (k i)) j ≤ cnt (eqB k (k i)) (j + 1) := cnt_mono (Nat.le_succ j)
  rw [if_neg (by omega)]
theorem df_f2 {k : Nat → Int32} {i j : Nat} (hp : k j = k i) : 0 = if cnt (eqB k (k i)) (j + 1) = 0 then 1 else 0 := by
  have h := cnt_t (P := eqB k (k i)) (i := j) rfl (by simp [eqB, hp])
  rw [if_neg (by omega)]
theorem df_x {k : Nat → Int32} {i j b : Nat} (h : b = if cnt (eqB k (k i)) j = 0 then 1 else 0) (h1 : i ≤ j) (h2 : j ≤ i) : firstB k i = decide (0 < b) := by
  rw [Nat.le_antisymm h2 h1] at h
  unfold firstB
  by_cases q : cnt (eqB k (k i)) i = 0
  · rw [if_pos q] at h; rw [h, decide_eq_true q]; rfl
  · rw [if_neg q] at h; rw [h, decide_eq_false q]; rfl
theorem run_l {k : Nat → Int32} {n : Nat} (hn : n ≤ 150) (h : 0 < n) : 1 + (nI (cnt (dropB k) n)).toInt64 = (nI (runsF k n)).toInt64 := by
  have hc := cnt_le (dropB k) n
  rw [← runs_p h, nI_l (by omega), nI_l (by omega)]
  have := lN_add 1 (cnt (dropB k) n)
  rw [show cnt (dropB k) n + 1 = 1 + cnt (dropB k) n by omega, ← this]; rfl
theorem run_0 {k : Nat → Int32} {n : Nat} (h : n = 0) : 0 = (nI (runsF k n)).toInt64 := by rw [← runs_0 h]; rfl
theorem cnt_lt1 {P : Nat → Bool} (h0 : P 0 = false) {n : Nat} (hn : 0 < n) : cnt P n ≤ n - 1 := by
  have h := cnt_subs (P := P) (Q := fun _ => true) (n := n) (a := 0) (fun _ _ _ => rfl) hn h0 rfl
  rw [cnt_all (P := fun _ => true) (fun _ _ => rfl)] at h
  omega
theorem su_00 {k : Nat → Int32} {n w : Nat} (hw : w = 0) (h : n = 0) : nI 1 = zb (suB k n w) := zb_t (by rw [hw, h]; rfl)
theorem su_01 {k : Nat → Int32} {n w : Nat} (hw : w = 0) (h0 : 0 < n) (h : cnt (dropB k) n = n - 1) : nI 1 = zb (suB k n w) := zb_t (by rw [hw]; simp only [suB, turnB, decide_eq_true_eq]; omega)
theorem su_02 {k : Nat → Int32} {n w : Nat} (hw : w = 0) (h0 : 0 < n) (h : ¬ cnt (dropB k) n = n - 1) : nI 0 = zb (suB k n w) := zb_f (by
  have := cnt_lt1 (dropB_0 k) h0
  rw [hw]; simp only [suB, turnB, decide_eq_false_iff_not]; omega)
theorem su_11 {k : Nat → Int32} {n w : Nat} (hw : w = 1) (h : n ≤ 60) : nI 1 = zb (suB k n w) := zb_t (by rw [hw]; exact decide_eq_true h)
theorem su_12 {k : Nat → Int32} {n w : Nat} (hw : w = 1) (h : 60 < n) : nI 0 = zb (suB k n w) := zb_f (by rw [hw]; exact decide_eq_false (by omega))
theorem su_31 {k : Nat → Int32} {n w : Nat} (hw : w = 3) (h : ¬ 500 < (greatF k n).toInt64 - (leastF k n).toInt64) : nI 1 = zb (suB k n w) := by rw [hw]; exact cntB_t h
theorem su_32 {k : Nat → Int32} {n w : Nat} (hw : w = 3) (h : 500 < (greatF k n).toInt64 - (leastF k n).toInt64) : nI 0 = zb (suB k n w) := by rw [hw]; exact cntB_f h
theorem su_o {k : Nat → Int32} {n w : Nat} (h0 : 0 < w) (h1 : ¬ w = 1) (h3 : ¬ w = 3) : nI 1 = zb (suB k n w) := zb_t (by
  match w, h0, h1, h3 with
  | 1, _, h1, _ => exact absurd rfl h1
  | 2, _, _, _ => rfl
  | 3, _, _, h3 => exact absurd rfl h3
  | _ + 4, _, _, _ => rfl)
theorem planF_f' {k : Nat → Int32} {n : Nat} {fg : Nat → Nat} {le mo : Nat → Int64} {wy : Nat → Nat} {rn i P : Nat} (h : P = planF k n fg le mo wy rn (rn - i)) (hi : i < rn) (h1 : (figN k n (fg i)).toInt64 < le i ∨ mo i < (figN k n (fg i)).toInt64) : P = planF k n fg le mo wy rn (rn - (i + 1)) :=
  planF_f h hi (Or.inr (by rcases h1 with q | q <;> simp [admB, q]))
theorem adm_of {le mo : Nat → Int64} {v : Int64} {j : Nat} (h1 : ¬ v < le j) (h2 : ¬ mo j < v) : admB le mo v j = true := by simp [admB, h1, h2]
theorem ex_a {k : Nat → Int32} {n g i : Nat} {v : Int64} (hi : 1 ≤ i) (hn : i < n) (h : exI k n g i v) (hg : 0 < g) (hc : (k i).toInt64 < v) : exI k n g (i + 1) (k i).toInt64 := ex_s hi hn h (by simp [Nat.pos_iff_ne_zero.mp hg, hc])
theorem ex_b {k : Nat → Int32} {n g i : Nat} {v : Int64} (hi : 1 ≤ i) (hn : i < n) (h : exI k n g i v) (hg : 0 < g) (hc : ¬ (k i).toInt64 < v) : exI k n g (i + 1) v := ex_s hi hn h (by simp [Nat.pos_iff_ne_zero.mp hg, hc])
theorem ex_c {k : Nat → Int32} {n g i : Nat} {v : Int64} (hi : 1 ≤ i) (hn : i < n) (h : exI k n g i v) (hg : g = 0) (hc : v < (k i).toInt64) : exI k n g (i + 1) (k i).toInt64 := ex_s hi hn h (by simp [hg, hc])
theorem ex_d {k : Nat → Int32} {n g i : Nat} {v : Int64} (hi : 1 ≤ i) (hn : i < n) (h : exI k n g i v) (hg : g = 0) (hc : ¬ v < (k i).toInt64) : exI k n g (i + 1) v := ex_s hi hn h (by simp [hg, hc])
