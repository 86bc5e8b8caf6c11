-- four bytes make the key
theorem bv_int (y : Int32) : (y.toBitVec.toNat : Int) = y.toInt % 4294967296 := by
  have h := BitVec.toInt_eq_toNat_cond y.toBitVec
  have e : y.toBitVec.toInt = y.toInt := rfl
  have h2 := y.toBitVec.isLt
  rw [e] at h
  split at h <;> omega
theorem dg_int (x : Int32) : ∀ b, b < 4 → (dgN x b : Int) = x.toInt / 2 ^ (8 * b) % 256 := by
  intro b hb
  have hs : ((nI (8 * b) &&& 31 : Int32).toBitVec.smod 32).toNat = 8 * b := by
    match b, hb with
    | 0, _ => decide
    | 1, _ => decide
    | 2, _ => decide
    | 3, _ => decide
  have h1 := pk_shr x (nI (8 * b) &&& 31) (8 * b) hs
  rw [Int.shiftRight_eq_div_pow] at h1
  have h2 : dgR x b = nI ((x >>> (nI (8 * b) &&& 31)).toBitVec.toNat % 2 ^ 8) := pk_and _ 8 rfl
  have h3 := bv_int (x >>> (nI (8 * b) &&& 31))
  rw [h1] at h3
  rw [dgN, h2, nI_toInt (by omega)]
  have h4 : ((2 ^ (8 * b) : Nat) : Int) = (2 : Int) ^ (8 * b) := by simp
  rw [h4] at h3
  generalize x.toInt / 2 ^ (8 * b) = v at h3 ⊢
  omega
theorem xor_m : ∀ j, j < 256 → j ^^^ 128 = (j + 128) % 256 := by decide +kernel
theorem lw_4 (x : Int32) : (lwF x 4 : Int) = x.toInt + 2147483648 := by
  have e : lwF x 4 = dig x 3 * 256 ^ 3 + (dig x 2 * 256 ^ 2 + (dig x 1 * 256 ^ 1 + (dig x 0 * 256 ^ 0 + 0))) := rfl
  have d0 := dg_int x 0 (by decide)
  have d1 := dg_int x 1 (by decide)
  have d2 := dg_int x 2 (by decide)
  have d3 := dg_int x 3 (by decide)
  have l3 := dgN_lt x 3
  have e3 : dig x 3 = (dgN x 3 + 128) % 256 := by rw [dig, if_pos rfl, xor_m _ l3]
  have e2 : dig x 2 = dgN x 2 := by rw [dig, if_neg (by decide)]
  have e1 : dig x 1 = dgN x 1 := by rw [dig, if_neg (by decide)]
  have e0 : dig x 0 = dgN x 0 := by rw [dig, if_neg (by decide)]
  rw [e, e3, e2, e1, e0]
  have h1 := Int32.toInt_lt x
  have h2 := Int32.le_toInt x
  generalize dgN x 0 = a0 at *
  generalize dgN x 1 = a1 at *
  generalize dgN x 2 = a2 at *
  generalize dgN x 3 = a3 at *
  generalize x.toInt = v at *
  simp only [Nat.mul_zero, Nat.mul_one, Int.pow_zero, Int.ediv_one, show (2 : Int) ^ (8 * 1) = 256 from rfl, show (2 : Int) ^ (8 * 2) = 65536 from rfl, show (2 : Int) ^ (8 * 3) = 16777216 from rfl] at d0 d1 d2 d3
  omega
theorem lw_gB (k : Nat → Int32) (i j : Nat) : gB (lwI k 4) i j = gB (kI k) i j := by
  have e : (gB (lwI k 4) i j = true) ↔ (gB (kI k) i j = true) := by
    rw [gB_iff, gB_iff, lwI, lwI, lw_4, lw_4]; unfold kI; omega
  cases h : gB (kI k) i j with
  | true => exact e.mpr h
  | false => exact zb_nf (fun q => by rw [e.mp q] at h; cases h)
theorem by_srt {k : Nat → Int32} {n : Nat} {S0 : byT} (hn : n ≤ 150) (h1 : ∀ x, S0.1 x < 150) (h2 : ∀ x, S0.2.1 x < 150) (hid : ∀ i, i < n → S0.1 i = i) : SrtP (kI k) n (byS k n S0 4).1 := by
  have h := byS_srt (k := k) hn h1 h2 hid 4
  exact ⟨h.1, fun i hi => by rw [← lw_gB]; exact h.2 i hi⟩
-- joining brings the places into order
def Blk (k : Nat → Int32) (p : Nat → Nat) (lo hi : Nat) : Prop := (∀ i, lo ≤ i → i < hi → lo ≤ p i ∧ p i < hi) ∧ ∀ i, lo ≤ i → i + 1 < hi → gB (kI k) (p i) (p (i + 1)) = true
theorem Blk.congr {k : Nat → Int32} {p q : Nat → Nat} {lo hi : Nat} (h : Blk k p lo hi) (e : ∀ i, lo ≤ i → i < hi → q i = p i) : Blk k q lo hi := ⟨fun i h1 h2 => by rw [e i h1 h2]; exact h.1 i h1 h2, fun i h1 h2 => by rw [e i h1 (by omega), e (i + 1) (by omega) h2]; exact h.2 i h1 h2⟩
def fin3 (p : Nat → Nat) (m e : Nat) (X : Nat × Nat × (Nat → Nat)) : Nat → Nat := va_cpy p (va_cpy p X.2.2 X.1 (X.1 + X.2.1 - m) (m - X.1)) X.2.1 (X.1 + X.2.1 - m + m - X.1) (e - X.2.1)
theorem fin3_eq {p j : Nat → Nat} {m e a d : Nat} (ha : a ≤ m) (hd : m ≤ d) (hde : d ≤ e) {x : Nat} (hx : x < e) : fin3 p m e (a, d, j) x = if x < a + d - m then j x else if x < d then p (a + (x - (a + d - m))) else p x := by
  unfold fin3 va_cpy
  dsimp only
  by_cases h1 : x < a + d - m
  · rw [if_pos h1, if_neg (by omega), if_neg (by omega)]
  · rw [if_neg h1]
    by_cases h2 : x < d
    · rw [if_pos h2, if_neg (by omega), if_pos (by omega)]
    · rw [if_neg h2, if_pos (by omega)]; exact congrArg p (by omega)
theorem jL_srt {k : Nat → Int32} {p : Nat → Nat} {b m e : Nat} (h1 : Blk k p b m) (h2 : Blk k p m e) : ∀ (f a d : Nat) (j : Nat → Nat), b ≤ a → a ≤ m → m ≤ d → d ≤ e → (m - a) + (e - d) ≤ f →
    (∀ x, b ≤ x → x < a + d - m → b ≤ j x ∧ j x < e) → (∀ x, b ≤ x → x + 1 < a + d - m → gB (kI k) (j x) (j (x + 1)) = true) →
    (∀ x, x + 1 = a + d - m → b ≤ x → (a < m → gB (kI k) (j x) (p a) = true) ∧ (d < e → gB (kI k) (j x) (p d) = true)) → Blk k (fin3 p m e (jL k p m e f a d j)) b e := by
  have step : ∀ (a d : Nat) (j : Nat → Nat), b ≤ a → a ≤ m → m ≤ d → d ≤ e → (m ≤ a ∨ e ≤ d) →
      (∀ x, b ≤ x → x < a + d - m → b ≤ j x ∧ j x < e) → (∀ x, b ≤ x → x + 1 < a + d - m → gB (kI k) (j x) (j (x + 1)) = true) →
      (∀ x, x + 1 = a + d - m → b ≤ x → (a < m → gB (kI k) (j x) (p a) = true) ∧ (d < e → gB (kI k) (j x) (p d) = true)) → Blk k (fin3 p m e (a, d, j)) b e := by
    intro a d j ha0 ha hd hde hx g1 g2 g3
    refine ⟨fun i hi hie => ?_, fun i hi hie => ?_⟩
    · rw [fin3_eq ha hd hde hie]
      split
      · exact g1 i hi (by assumption)
      · split
        · have := h1.1 (a + (i - (a + d - m))) (by omega) (by omega); omega
        · have := h2.1 i (by omega) hie; omega
    · rw [fin3_eq ha hd hde (by omega), fin3_eq ha hd hde hie]
      by_cases c1 : i + 1 < a + d - m
      · rw [if_pos (by omega), if_pos c1]; exact g2 i hi c1
      · rw [if_neg c1]
        by_cases c2 : i < a + d - m
        · rw [if_pos c2]
          have g := g3 i (by omega) hi
          by_cases c3 : i + 1 < d
          · rw [if_pos c3, show a + (i + 1 - (a + d - m)) = a by omega]; exact g.1 (by omega)
          · rw [if_neg c3, show i + 1 = d by omega]; exact g.2 (by omega)
        · rw [if_neg c2]
          by_cases c3 : i + 1 < d
          · rw [if_pos (by omega), if_pos c3, show a + (i + 1 - (a + d - m)) = a + (i - (a + d - m)) + 1 by omega]; exact h1.2 _ (by omega) (by omega)
          · rw [if_neg c3]
            by_cases c4 : i < d
            · rw [if_pos c4]
              -- only where all of the second run is through: then i + 1 = d = e
              omega
            · rw [if_neg c4]; exact h2.2 i (by omega) hie
  intro f
  induction f with
  | zero => intro a d j ha0 ha hd hde hf g1 g2 g3; rw [jL]; exact step a d j ha0 ha hd hde (by omega) g1 g2 g3
  | succ f ih =>
    intro a d j ha0 ha hd hde hf g1 g2 g3
    rw [jL]
    by_cases hc : a < m ∧ d < e
    · rw [if_pos hc]
      have pa := h1.1 a ha0 hc.1
      have pd := h2.1 d hd hc.2
      have up1 : ∀ (v x : Nat), x < a + d - m → va_up j (a + d - m) v x = j x := fun v x hx => by unfold va_up; rw [if_neg (by omega)]
      have up2 : ∀ (v : Nat), va_up j (a + d - m) v (a + d - m) = v := fun v => by unfold va_up; rw [if_pos rfl]
      by_cases hk : k (p a) ≤ k (p d)
      · rw [if_pos hk]
        have hk' := Int32.le_iff_toInt_le.mp hk
        refine ih (a + 1) d _ (by omega) hc.1 hd hde (by omega) (fun x hx hx2 => ?_) (fun x hx hx2 => ?_) (fun x hx hx2 => ?_)
        · by_cases q : x < a + d - m
          · rw [up1 _ x q]; exact g1 x hx q
          · rw [show x = a + d - m by omega, up2]; omega
        · rw [up1 _ x (by omega)]
          by_cases q : x + 1 < a + d - m
          · rw [up1 _ _ q]; exact g2 x hx q
          · rw [show x + 1 = a + d - m by omega, up2]; exact (g3 x (by omega) hx).1 hc.1
        · rw [show x = a + d - m by omega, up2]
          refine ⟨fun q => h1.2 a ha0 q, fun _ => gB_iff.mpr ?_⟩
          show (k (p a)).toInt < (k (p d)).toInt ∨ ((k (p a)).toInt = (k (p d)).toInt ∧ p a < p d)
          omega
      · rw [if_neg hk]
        have hk' := Int32.lt_iff_toInt_lt.mp (Int32.not_le.mp hk)
        refine ih a (d + 1) _ ha0 ha (by omega) hc.2 (by omega) (fun x hx hx2 => ?_) (fun x hx hx2 => ?_) (fun x hx hx2 => ?_)
        · by_cases q : x < a + d - m
          · rw [up1 _ x q]; exact g1 x hx q
          · rw [show x = a + d - m by omega, up2]; omega
        · rw [up1 _ x (by omega)]
          by_cases q : x + 1 < a + d - m
          · rw [up1 _ _ q]; exact g2 x hx q
          · rw [show x + 1 = a + d - m by omega, up2]; exact (g3 x (by omega) hx).2 hc.2
        · rw [show x = a + d - m by omega, up2]
          exact ⟨fun _ => gB_iff.mpr (Or.inl hk'), fun q => h2.2 d hd q⟩
    · rw [if_neg hc]; exact step a d j ha0 ha hd hde (by omega) g1 g2 g3
theorem jnJ_fin (k : Nat → Int32) (p : Nat → Nat) (b m e : Nat) (j : Nat → Nat) : jnJ k p b m e j = fin3 p m e (jL k p m e (e - b) b m j) := rfl
theorem jnP_in {k : Nat → Int32} {p j : Nat → Nat} {b m e x : Nat} (h1 : b ≤ x) (h2 : x < e) : jnP k p b m e j x = jnJ k p b m e j x := by
  unfold jnP va_cpy; rw [if_pos (by omega)]; exact congrArg _ (by omega)
theorem jnP_out {k : Nat → Int32} {p j : Nat → Nat} {b m e x : Nat} (h : x < b ∨ e ≤ x) : jnP k p b m e j x = p x := by
  unfold jnP va_cpy; rw [if_neg (by omega)]
theorem jnP_srt {k : Nat → Int32} {p : Nat → Nat} {b m e : Nat} (j : Nat → Nat) (hbm : b ≤ m) (hme : m ≤ e) (h1 : Blk k p b m) (h2 : Blk k p m e) : Blk k (jnP k p b m e j) b e := by
  have h := jL_srt h1 h2 (e - b) b m j (Nat.le_refl _) hbm (Nat.le_refl _) hme (by omega) (fun x _ _ => by omega) (fun x _ _ => by omega) (fun x _ _ => by omega)
  rw [← jnJ_fin] at h
  exact h.congr (fun i a c => jnP_in a c)
theorem jp_srt {k : Nat → Int32} {s p : Nat → Nat} {S0 : jpT} {r : Nat} (h0 : S0.1 = p) (hm : ∀ x, x < r → s x ≤ s (x + 1)) (hB : ∀ x, x < r → Blk k p (s x) (s (x + 1))) (x : Nat) (hx : 2 * x ≤ r) : (∀ y, y < x → Blk k (jpS k s S0 x).1 (s (2 * y)) (s (2 * y + 2))) ∧ ∀ z, s (2 * x) ≤ z → (jpS k s S0 x).1 z = p z := by
  induction x with
  | zero => exact ⟨fun y h => absurd h (Nat.not_lt_zero y), fun z _ => by rw [jpS, h0]⟩
  | succ x ih =>
    obtain ⟨i1, i2⟩ := ih (by omega)
    have m1 := hm (2 * x) (by omega)
    have m2 : s (2 * x + 1) ≤ s (2 * x + 2) := hm (2 * x + 1) (by omega)
    rw [jpS]
    dsimp only
    refine ⟨fun y hy => ?_, fun z hz => ?_⟩
    · rcases Nat.lt_or_ge y x with q | q
      · have m3 := mon_le hm (2 * y + 2) (2 * x) (by omega) (by omega)
        exact (i1 y q).congr (fun i _ h => jnP_out (Or.inl (by omega)))
      · rw [show y = x by omega]
        exact jnP_srt _ m1 m2 ((hB (2 * x) (by omega)).congr (fun i h _ => i2 i h)) ((hB (2 * x + 1) (by omega)).congr (fun i h _ => i2 i (by omega)))
    · rw [show 2 * (x + 1) = 2 * x + 2 by omega] at hz
      rw [jnP_out (Or.inr hz)]; exact i2 z (by omega)
theorem jr_srt {k : Nat → Int32} {s p j : Nat → Nat} {tn q : Nat} {tf : Nat → Int32} {r : Nat} (hm : ∀ x, x < r → s x ≤ s (x + 1)) (hB : ∀ x, x < r → Blk k p (s x) (s (x + 1))) : ∀ x, x < (r + 1) / 2 → Blk k (joR k p j tn tf q s r).1 (keS s r x) (keS s r (x + 1)) := by
  intro x hx
  obtain ⟨i1, i2⟩ := jp_srt (k := k) (S0 := (p, j, tn, tf, 0)) rfl hm hB (r / 2) (by omega)
  show Blk k (jpS k s (p, j, tn, tf, 0) (r / 2)).1 (keS s r x) (keS s r (x + 1))
  rw [keS_eq s r x (by omega), keS_eq s r (x + 1) (by omega), if_neg (by omega)]
  by_cases h1 : x + 1 = (r + 1) / 2
  · rw [if_pos h1]
    by_cases h2 : 2 * x + 2 = r
    · have h9 := i1 x (by omega)
      rw [h2] at h9; exact h9
    · have e : r = 2 * x + 1 := by omega
      have hb := hB (2 * x) (by omega)
      rw [e]; rw [e] at i2
      exact hb.congr (fun i h _ => i2 i (by rw [show (2 * x + 1) / 2 = x by omega]; exact h))
  · rw [if_neg h1, show 2 * (x + 1) = 2 * x + 2 by omega]; exact i1 x (by omega)
theorem jo_srt {k : Nat → Int32} {n : Nat} : ∀ (f : Nat) (p j : Nat → Nat) (tn : Nat) (tf : Nat → Int32) (q : Nat) (s : Nat → Nat) (r : Nat), r ≤ f + 1 → s 0 = 0 → s r = n → (∀ x, x < r → s x ≤ s (x + 1)) → (∀ x, x < r → Blk k p (s x) (s (x + 1))) → SrtP (kI k) n (joL k f (p, j, tn, tf, q, s, r)).1 := by
  have fin : ∀ (p : Nat → Nat) (s : Nat → Nat) (r : Nat), r ≤ 1 → s 0 = 0 → s r = n → (∀ x, x < r → Blk k p (s x) (s (x + 1))) → SrtP (kI k) n p := by
    intro p s r hr h0 hn hB
    rcases Nat.eq_zero_or_pos r with z | z
    · rw [z, h0] at hn; rw [← hn]; exact ⟨fun i h => absurd h (Nat.not_lt_zero i), fun i h => absurd h (Nat.not_lt_zero _)⟩
    · have e : r = 1 := by omega
      have h := hB 0 z
      rw [e] at hn
      rw [h0, show s (0 + 1) = n from hn] at h
      exact ⟨fun i hi => (h.1 i (Nat.zero_le _) hi).2, fun i hi => h.2 i (Nat.zero_le _) hi⟩
  intro f
  induction f with
  | zero => intro p j tn tf q s r hr h0 hn hm hB; rw [joL]; exact fin p s r hr h0 hn hB
  | succ f ih =>
    intro p j tn tf q s r hr h0 hn hm hB
    rw [joL]
    by_cases h1 : r ≤ 1
    · rw [if_pos h1]; exact fin p s r h1 h0 hn hB
    · rw [if_neg h1]
      exact ih _ _ _ _ _ _ _ (by omega) (by rw [keS_eq s r 0 (by omega), if_neg (by omega)]; exact h0) (by rw [keS_eq s r _ (Nat.le_refl _), if_pos rfl]; exact hn) (keS_mon hm) (jr_srt (q := q) hm hB)
theorem fr_blk {k : Nat → Int32} {s p : Nat → Nat} {n : Nat} (hid : ∀ i, i < n → p i = i) (i : Nat) (hi : i ≤ n) : ∀ x, x < cnt (stB k) i → Blk k p (frF k s i x) (if x + 1 < cnt (stB k) i then frF k s i (x + 1) else i) := by
  induction i with
  | zero => intro x h; exact absurd h (Nat.not_lt_zero x)
  | succ i ih =>
    have ih := ih (by omega)
    intro x hx
    have one : Blk k p i (i + 1) := ⟨fun y h1 h2 => by rw [hid y (by omega)]; exact ⟨h1, h2⟩, fun y h1 h2 => by omega⟩
    by_cases hb : stB k i = true
    · have e1 : frF k s (i + 1) = va_up (frF k s i) (cnt (stB k) i) i := by rw [frF, if_pos hb]
      have e2 : cnt (stB k) (i + 1) = cnt (stB k) i + 1 := (cnt_t rfl hb).symm
      rw [e2] at hx ⊢
      rw [e1]
      unfold va_up
      by_cases c1 : x = cnt (stB k) i
      · rw [if_pos c1, if_neg (by omega)]; exact one
      · rw [if_neg c1, if_pos (by omega)]
        have h := ih x (by omega)
        by_cases c2 : x + 1 = cnt (stB k) i
        · rw [if_pos c2]; rw [if_neg (by omega)] at h; exact h
        · rw [if_neg c2]; rw [if_pos (by omega)] at h; exact h
    · have hb : stB k i = false := zb_nf hb
      rw [← frF_f hb, ← cnt_f rfl hb]
      rw [← cnt_f rfl hb] at hx
      have h := ih x hx
      by_cases c1 : x + 1 < cnt (stB k) i
      · rw [if_pos c1] at h ⊢; exact h
      · rw [if_neg c1] at h ⊢
        have hlo := (frF_ok k s i).1 x hx
        have hd : dropB k i = false := by
          cases h9 : dropB k i with
          | false => rfl
          | true => rw [stB_d h9] at hb; cases hb
        have hle : (k (i - 1)).toInt ≤ (k i).toInt := by
          have h8 : ¬ k i < k (i - 1) := fun q => by
            have : dropB k i = true := by simp [dropB, q]; omega
            rw [hd] at this; cases this
          have h7 : ¬ (k i).toInt < (k (i - 1)).toInt := fun q => h8 (Int32.lt_iff_toInt_lt.mpr q)
          omega
        refine ⟨fun y h1 h2 => by rw [hid y (by omega)]; omega, fun y h1 h2 => ?_⟩
        rcases Nat.lt_or_ge (y + 1) i with c | c
        · exact h.2 y h1 c
        · have e : i = y + 1 := by omega
          rw [hid y (by omega), hid (y + 1) (by omega)]
          rw [e] at hle
          refine gB_iff.mpr ?_
          show (k y).toInt < (k (y + 1)).toInt ∨ ((k y).toInt = (k (y + 1)).toInt ∧ y < y + 1)
          have : (k (y + 1 - 1)).toInt = (k y).toInt := rfl
          omega
theorem fr_0 (k : Nat → Int32) (s : Nat → Nat) : ∀ i, 0 < i → frF k s i 0 = 0 ∧ 0 < cnt (stB k) i := by
  intro i
  induction i with
  | zero => intro h; exact absurd h (Nat.lt_irrefl 0)
  | succ i ih =>
    intro _
    rcases Nat.eq_zero_or_pos i with z | z
    · subst z
      have h := cnt_t (P := stB k) (i := 0) rfl (stB_0 rfl)
      rw [← h, frF, if_pos (stB_0 rfl)]
      exact ⟨rfl, by omega⟩
    · obtain ⟨h1, h2⟩ := ih z
      have h3 : cnt (stB k) i ≤ cnt (stB k) (i + 1) := cnt_mono (Nat.le_succ i)
      refine ⟨?_, by omega⟩
      rw [frF]; split
      · unfold va_up; rw [if_neg (by omega)]; exact h1
      · exact h1
theorem fRun_0 (k : Nat → Int32) (n : Nat) (s : Nat → Nat) : fRun k n s 0 = 0 := by
  unfold fRun va_up
  rcases Nat.eq_zero_or_pos n with z | z
  · subst z; rfl
  · obtain ⟨h1, h2⟩ := fr_0 k s n z
    rw [if_neg (by omega)]; exact h1
theorem fRun_r (k : Nat → Int32) (n : Nat) (s : Nat → Nat) : fRun k n s (cnt (stB k) n) = n := by unfold fRun va_up; rw [if_pos rfl]
theorem join_srt {k : Nat → Int32} {n : Nat} {p : Nat → Nat} (hid : ∀ i, i < n → p i = i) (hn : n ≤ 150) (j : Nat → Nat) (tn : Nat) (tf : Nat → Int32) (s : Nat → Nat) : SrtP (kI k) n (joF k n p j tn tf s).1 := by
  have hc := cnt_le (stB k) n
  refine jo_srt 150 p j tn tf 0 (fRun k n s) (cnt (stB k) n) (by omega) (fRun_0 k n s) (fRun_r k n s) (fRun_mon k n s) (fun x hx => ?_)
  have h := fr_blk (k := k) (s := s) hid n (Nat.le_refl n) x hx
  unfold fRun va_up
  rw [if_neg (by omega)]
  by_cases c : x + 1 = cnt (stB k) n
  · rw [if_pos c]; rw [if_neg (by omega)] at h; exact h
  · rw [if_neg c]; rw [if_pos (by omega)] at h; exact h
