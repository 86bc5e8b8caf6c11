abbrev byT : Type := (Nat → Nat) × (Nat → Nat) × (Nat → Nat) × Nat × (Nat → Int32)
def byN (k : Nat → Int32) (b n : Nat) (s : Nat → Nat) : Nat → Nat := pfF (byC k b n s) 256
def byDf (k : Nat → Int32) (b n : Nat) (s : Nat → Nat) : Nat := cnt (posB (byC k b n s)) 256
def byD (k : Nat → Int32) (b n : Nat) (p e s : Nat → Nat) : (Nat → Nat) × (Nat → Nat) := dlS (dgP k p b) p e (byN k b n s) n
def byS (k : Nat → Int32) (n : Nat) (S0 : byT) : Nat → byT
  | 0 => S0
  | b + 1 => if 1 < byDf k b n (byS k n S0 b).2.2.1 then (va_cpy (byD k b n (byS k n S0 b).1 (byS k n S0 b).2.1 (byS k n S0 b).2.2.1).1 (byS k n S0 b).1 0 0 n, (byD k b n (byS k n S0 b).1 (byS k n S0 b).2.1 (byS k n S0 b).2.2.1).1, (byD k b n (byS k n S0 b).1 (byS k n S0 b).2.1 (byS k n S0 b).2.2.1).2, (byS k n S0 b).2.2.2.1 + 1, tadd (byS k n S0 b).2.2.2.2 (byS k n S0 b).2.2.2.1 (nI 4) (nI b) (nI (byDf k b n (byS k n S0 b).2.2.1))) else ((byS k n S0 b).1, (byS k n S0 b).2.1, byN k b n (byS k n S0 b).2.2.1, (byS k n S0 b).2.2.2.1, (byS k n S0 b).2.2.2.2)
theorem byS_t {k : Nat → Int32} {n b : Nat} {S0 : byT} (h : 1 < byDf k b n (byS k n S0 b).2.2.1) : byS k n S0 (b + 1) = (va_cpy (byD k b n (byS k n S0 b).1 (byS k n S0 b).2.1 (byS k n S0 b).2.2.1).1 (byS k n S0 b).1 0 0 n, (byD k b n (byS k n S0 b).1 (byS k n S0 b).2.1 (byS k n S0 b).2.2.1).1, (byD k b n (byS k n S0 b).1 (byS k n S0 b).2.1 (byS k n S0 b).2.2.1).2, (byS k n S0 b).2.2.2.1 + 1, tadd (byS k n S0 b).2.2.2.2 (byS k n S0 b).2.2.2.1 (nI 4) (nI b) (nI (byDf k b n (byS k n S0 b).2.2.1))) := by rw [byS, if_pos h]
theorem byS_f {k : Nat → Int32} {n b : Nat} {S0 : byT} (h : byDf k b n (byS k n S0 b).2.2.1 ≤ 1) : byS k n S0 (b + 1) = ((byS k n S0 b).1, (byS k n S0 b).2.1, byN k b n (byS k n S0 b).2.2.1, (byS k n S0 b).2.2.2.1, (byS k n S0 b).2.2.2.2) := by rw [byS, if_neg (by omega)]
theorem byN_eq {k : Nat → Int32} {b n : Nat} (s : Nat → Nat) {p : Nat → Nat} (hp : injF p n) (i : Nat) : byN k b n s (dgP k p b i) = cnt (ltN (dgP k p b) (dgP k p b i)) n := by
  have h : dgP k p b i < 256 := dig_lt _ _
  rw [byN, pfF, if_pos h, by_sum s (by omega)]
  exact (cnt_bij hp (ltN (dgF k b) (dgP k p b i))).symm
theorem injF_congr {f g : Nat → Nat} {n : Nat} (h : ∀ i, i < n → f i = g i) (hf : injF g n) : injF f n := ⟨fun i hi => by rw [h i hi]; exact hf.1 i hi, fun i j hi hj q => hf.2 i j hi hj (by rw [← h i hi, ← h j hj]; exact q)⟩
theorem injF_comp {f g : Nat → Nat} {n : Nat} (hf : injF f n) (hg : injF g n) : injF (fun i => f (g i)) n := ⟨fun i hi => hf.1 _ (hg.1 i hi), fun i j hi hj q => hg.2 i j hi hj (hf.2 _ _ (hg.1 i hi) (hg.1 j hj) q)⟩
theorem byD_eq {k : Nat → Int32} {b n : Nat} {p e s : Nat → Nat} (hp : injF p n) : ∀ r, r < n → va_cpy (byD k b n p e s).1 p 0 0 n r = p (odF (nI' (dgP k p b)) n r) := by
  intro r hr
  unfold va_cpy
  rw [if_pos (by omega), show 0 + (r - 0) = r by omega]
  exact deal_od (fun i _ => byN_eq s hp i) hr
theorem byS_ok {k : Nat → Int32} {n : Nat} {S0 : byT} (hn : n ≤ 150) (h1 : ∀ x, S0.1 x < 150) (h2 : ∀ x, S0.2.1 x < 150) (h3 : injF S0.1 n) (b : Nat) : (∀ x, (byS k n S0 b).1 x < 150) ∧ (∀ x, (byS k n S0 b).2.1 x < 150) ∧ injF (byS k n S0 b).1 n ∧ (byS k n S0 b).2.2.2.1 ≤ S0.2.2.2.1 + b := by
  induction b with
  | zero => exact ⟨h1, h2, h3, Nat.le_refl _⟩
  | succ b ih =>
    rcases Nat.lt_or_ge 1 (byDf k b n (byS k n S0 b).2.2.1) with h | h
    · rw [byS_t h]
      have hd : ∀ x, (byD k b n (byS k n S0 b).1 (byS k n S0 b).2.1 (byS k n S0 b).2.2.1).1 x < 150 := dl1_lt ih.1 ih.2.1 n
      exact ⟨cpy_lt hd ih.1, hd, injF_congr (byD_eq ih.2.2.1) (injF_comp ih.2.2.1 (od_inj _ n)), by have := ih.2.2.2; dsimp only; omega⟩
    · rw [byS_f h]
      exact ⟨ih.1, ih.2.1, ih.2.2.1, by have := ih.2.2.2; dsimp only; omega⟩
