-- an ordering: what each way leaves, in the model's words
def zI : Nat → Int32 := fun _ => 0
def zN : Nat → Nat := fun _ => 0
def idF (p : Nat → Nat) (i : Nat) : Nat → Nat := fun x => if x < i then x else p x
theorem idF_0 (p : Nat → Nat) : p = idF p 0 := by funext x; simp [idF]
theorem idF_s (p : Nat → Nat) (i : Nat) : va_up (idF p i) i i = idF p (i + 1) := by
  funext x
  simp only [va_up, idF]
  by_cases h : x = i
  · rw [if_pos h, if_pos (by omega), h]
  · rw [if_neg h]
    by_cases h2 : x < i
    · rw [if_pos h2, if_pos (by omega)]
    · rw [if_neg h2, if_neg (by omega)]
theorem idF_id (p : Nat → Nat) {n x : Nat} (h : x < n) : idF p n x = x := by rw [idF, if_pos h]
theorem idF_lt {p : Nat → Nat} {n : Nat} (hn : n ≤ 150) (hp : ∀ x, p x < 150) : ∀ x, idF p n x < 150 := by
  intro x; rw [idF]; split
  · omega
  · exact hp x
theorem idF_inj (p : Nat → Nat) (n : Nat) : injF (idF p n) n := ⟨fun i hi => by rw [idF_id p hi]; exact hi, fun i j hi hj q => by rw [idF_id p hi, idF_id p hj] at q; exact q⟩
theorem cpy_k (k k1 : Nat → Int32) (n : Nat) : ∀ x, x < n → va_cpy k k1 0 0 n x = k x := by
  intro x hx; rw [← cpF_c, cpF, if_pos hx]
theorem arrF_od {K k : Nat → Int32} {p q : Nat → Nat} {n : Nat} (h : ∀ i, i < n → p i = q i) : arrF K p k n = arrF K q k n := by
  funext x; simp only [arrF]; split
  · rename_i c; rw [h x c]
  · rfl
theorem go_od {K k : Nat → Int32} {n : Nat} {p : Nat → Nat} (hk : ∀ x, x < n → K x = k x) (h : ∀ i, i < n → p i = odF (kI k) n i) : ∀ i, i + 1 < n → goesB K (p i) (p (i + 1)) = true := by
  intro i hi
  have hs := od_srt (kI k) n
  rw [h i (by omega), h (i + 1) hi, goesB, hk _ (hs.1 i (by omega)), hk _ (hs.1 (i + 1) hi)]
  have h2 := hs.2 i hi
  rw [← goesB_eq, goesB] at h2
  exact h2
theorem planF_su {k : Nat → Int32} {n : Nat} {fg : Nat → Nat} {le mo : Nat → Int64} {wy : Nat → Nat} {rn : Nat} (f : Nat) : suB k n (planF k n fg le mo wy rn f) = true := by
  induction f with
  | zero => rfl
  | succ f ih =>
    rw [planF]; split
    · rename_i h; exact (Bool.and_eq_true _ _ ▸ h).1
    · exact ih
theorem swF_lt {p : Nat → Nat} {n N : Nat} (hp : ∀ x, p x < N) (i : Nat) : ∀ x, swF p n i x < N := by
  induction i with
  | zero => exact hp
  | succ i ih => exact up_lt (up_lt ih (ih _)) (ih _)
theorem dlI_lt {d b c : Nat → Nat} (hb : ∀ x, b x < 150) (i : Nat) (hi : i ≤ 150) : ∀ x, (dlS d (fun x => x) b c i).1 x < 150 := by
  induction i with
  | zero => exact hb
  | succ i ih => exact up_lt (ih (by omega)) (by omega)
theorem joL_lt {k : Nat → Int32} : ∀ (f : Nat) (p j : Nat → Nat) (tn : Nat) (tf : Nat → Int32) (q : Nat) (s : Nat → Nat) (r : Nat), (∀ x, p x < 150) → (∀ x, j x < 150) → (∀ x, (joL k f (p, j, tn, tf, q, s, r)).1 x < 150) ∧ ∀ x, (joL k f (p, j, tn, tf, q, s, r)).2.1 x < 150 := by
  intro f
  induction f with
  | zero => intro p j tn tf q s r hp hj; exact ⟨hp, hj⟩
  | succ f ih =>
    intro p j tn tf q s r hp hj
    rw [joL]
    by_cases h : r ≤ 1
    · rw [if_pos h]; exact ⟨hp, hj⟩
    · rw [if_neg h]
      have h2 := jpS_lt (k := k) (s := s) (S0 := (p, j, tn, tf, 0)) hp hj (r / 2)
      exact ih _ _ _ _ _ _ _ h2.1 h2.2.1
theorem toL_tn : ∀ (f : Nat) (w o : Nat → Int32) (tn : Nat) (tf : Nat → Int32) (q : Nat) (en : Nat → Nat) (r : Nat), (toL f (w, o, tn, tf, q, en, r)).2.2.1 ≤ tn + r := by
  intro f
  induction f with
  | zero => intro w o tn tf q en r; exact Nat.le_add_right _ _
  | succ f ih =>
    intro w o tn tf q en r
    rw [toL]
    by_cases h : r ≤ 1
    · rw [if_pos h]; exact Nat.le_add_right _ _
    · rw [if_neg h]
      have h2 := (tjS_tn en r (w, o, tn, tf, q) ((r + 1) / 2)).2
      have h2' : (tjS en r (w, o, tn, tf, q) ((r + 1) / 2)).2.2.1 ≤ tn + r / 2 := h2
      exact Nat.le_trans (ih _ _ _ _ _ _ _) (by omega)
theorem toF_tn {k : Nat → Int32} {n : Nat} (hn : n ≤ 150) (wk ot tf : Nat → Int32) (en : Nat → Nat) : (toF k n wk ot 0 tf en).2.2.1 ≤ 150 := by
  have h := toL_tn 150 (cpF k wk n) ot 0 tf 0 (teE k n en n) (cnt (enB k n) n)
  have h2 := cnt_le (enB k n) n
  exact Nat.le_trans h (by omega)
section Wy
variable {k K : Nat → Int32} {p : Nat → Nat} {n : Nat}
theorem wy_0 (hk : ∀ x, x < n → K x = k x) (hid : ∀ x, x < n → p x = x) (hp : ∀ x, p x < 150) (hsu : suB k n 0 = true) : (∀ i, i < n → (if n < 2 then p else swF p n (n / 2)) i = odF (kI k) n i) ∧ ∀ x, (if n < 2 then p else swF p n (n / 2)) x < 150 := by
  refine ⟨fun i hi => ?_, ?_⟩
  · rw [srt_eq (turn_srt (k := K) hid (by rw [← su_congr hk 0] at hsu; exact hsu)) i hi]; exact od_kcongr hk i
  · split
    · exact hp
    · exact swF_lt hp _
theorem wy_1 (hk : ∀ x, x < n → K x = k x) (hid : ∀ x, x < n → p x = x) (hp : ∀ x, p x < 150) (wk ot tf : Nat → Int32) (en : Nat → Nat) : pT K p 0 n = tlN k n wk ot tf en 1 ∧ pF K p 0 tf n = tlF k n wk ot tf en 1 ∧ pC K p n = tlC k n wk ot tf en 1 ∧ (∀ i, i < n → pP K p n i = odF (kI k) n i) ∧ ∀ x, pP K p n x < 150 := by
  obtain ⟨h1, h2, h3⟩ := put_rel (K := K) (p := p) (w := cpF k wk n) (n := n) (fun x hx => by rw [cpF, if_pos hx, hid x hx, hk x hx]) 0 tf n (Nat.le_refl n)
  exact ⟨h1, h2, h3, fun i hi => by rw [srt_eq (put_srt (k := K) hid) i hi]; exact od_kcongr hk i, pP_lt hp n⟩
theorem wy_2 (hn : n ≤ 150) (hk : ∀ x, x < n → K x = k x) (hid : ∀ x, x < n → p x = x) (hp : ∀ x, p x < 150) (wk ot tf : Nat → Int32) (en js : Nat → Nat) {jj : Nat → Nat} (hj : ∀ x, jj x < 150) : (joF K n p jj 0 tf js).2.2.1 = tlN k n wk ot tf en 2 ∧ (joF K n p jj 0 tf js).2.2.2.1 = tlF k n wk ot tf en 2 ∧ (joF K n p jj 0 tf js).2.2.2.2.1 = tlC k n wk ot tf en 2 ∧ (∀ i, i < n → (joF K n p jj 0 tf js).1 i = odF (kI k) n i) ∧ (∀ x, (joF K n p jj 0 tf js).1 x < 150) ∧ ∀ x, (joF K n p jj 0 tf js).2.1 x < 150 := by
  obtain ⟨h1, h2, h3⟩ := join_rel hk hid wk ot tf jj en js 0
  have h4 := joL_lt (k := K) 150 p jj 0 tf 0 (fRun K n js) (cnt (stB K) n) hp hj
  exact ⟨h1, h2, h3, fun i hi => by rw [srt_eq (join_srt (k := K) hid hn jj 0 tf js) i hi]; exact od_kcongr hk i, h4.1, h4.2⟩
theorem wy_3 (hn : n ≤ 150) (hk : ∀ x, x < n → K x = k x) (hp : ∀ x, p x < 150) (hsu : suB k n 3 = true) (wk ot tf : Nat → Int32) (en cc cn : Nat → Nat) : ctN (ccF K n cc) 0 (spF K n + 1) = tlN k n wk ot tf en 3 ∧ ctF (ccF K n cc) (leastF K n) 0 tf (spF K n + 1) = tlF k n wk ot tf en 3 ∧ (∀ i, i < n → (dlS (kdF K (leastF K n)) (fun x => x) p (cnN K n cc cn) n).1 i = odF (kI k) n i) ∧ ∀ x, (dlS (kdF K (leastF K n)) (fun x => x) p (cnN K n cc cn) n).1 x < 150 := by
  have hf : cntB K n = true := by rw [← su_congr hk 3] at hsu; exact hsu
  obtain ⟨h1, h2⟩ := count_rel hk hf cc 0 tf
  exact ⟨h1, h2, fun i hi => by rw [cnt_srt hf p cc cn hi]; exact od_kcongr hk i, dlI_lt hp n hn⟩
theorem wy_4 (hn : n ≤ 150) (hk : ∀ x, x < n → K x = k x) (hid : ∀ x, x < n → p x = x) (hp : ∀ x, p x < 150) (wk ot tf : Nat → Int32) (en bn : Nat → Nat) {bd : Nat → Nat} (hb : ∀ x, bd x < 150) : (byS K n (p, bd, bn, 0, tf) 4).2.2.2.1 = tlN k n wk ot tf en 4 ∧ (byS K n (p, bd, bn, 0, tf) 4).2.2.2.2 = tlF k n wk ot tf en 4 ∧ (∀ i, i < n → (byS K n (p, bd, bn, 0, tf) 4).1 i = odF (kI k) n i) ∧ (∀ x, (byS K n (p, bd, bn, 0, tf) 4).1 x < 150) ∧ ∀ x, (byS K n (p, bd, bn, 0, tf) 4).2.1 x < 150 := by
  have h1 := by_rel (K := K) hk (p, bd, bn, 0, tf) 4
  have hinj : injF p n := ⟨fun i hi => by rw [hid i hi]; exact hi, fun i j hi hj q => by rw [hid i hi, hid j hj] at q; exact q⟩
  have h2 := byS_ok (k := K) (S0 := (p, bd, bn, 0, tf)) hn hp hb hinj 4
  exact ⟨h1.1, h1.2, fun i hi => by rw [srt_eq (by_srt (k := K) (S0 := (p, bd, bn, 0, tf)) hn hp hb hid) i hi]; exact od_kcongr hk i, h2.1, h2.2.1⟩
/-- what the model's scratch rows hold does not matter -/
theorem tl_free (hn : n ≤ 150) {w : Nat} (hw : w < 5) (hsu : suB k n w = true) (wk ot wk' ot' tf : Nat → Int32) (en en' : Nat → Nat) : tlN k n wk ot tf en w = tlN k n wk' ot' tf en' w ∧ tlF k n wk ot tf en w = tlF k n wk' ot' tf en' w ∧ tlC k n wk ot tf en w = tlC k n wk' ot' tf en' w := by
  have hk : ∀ x, x < n → k x = k x := fun _ _ => rfl
  have hid : ∀ x, x < n → idF zN n x = x := fun x hx => idF_id zN hx
  have hp : ∀ x, idF zN n x < 150 := idF_lt hn (fun _ => (by decide : (0 : Nat) < 150))
  have hz : ∀ x, zN x < 150 := fun _ => (by decide : (0 : Nat) < 150)
  match w, hw with
  | 0, _ => exact ⟨rfl, rfl, rfl⟩
  | 1, _ =>
    have a := wy_1 hk hid hp wk ot tf en
    have b := wy_1 hk hid hp wk' ot' tf en'
    exact ⟨a.1.symm.trans b.1, a.2.1.symm.trans b.2.1, a.2.2.1.symm.trans b.2.2.1⟩
  | 2, _ =>
    have a := wy_2 hn hk hid hp wk ot tf en zN hz
    have b := wy_2 hn hk hid hp wk' ot' tf en' zN hz
    exact ⟨a.1.symm.trans b.1, a.2.1.symm.trans b.2.1, a.2.2.1.symm.trans b.2.2.1⟩
  | 3, _ => exact ⟨rfl, rfl, rfl⟩
  | 4, _ => exact ⟨rfl, rfl, rfl⟩
theorem tlN_le (hn : n ≤ 150) {w : Nat} (hw : w < 5) (wk ot tf : Nat → Int32) (en : Nat → Nat) : tlN k n wk ot tf en w ≤ 150 := by
  match w, hw with
  | 0, _ => show (if n < 2 then 0 else 0 + 1) ≤ 150; split <;> omega
  | 1, _ => have := mT_le (cpF k wk n) 0 n; exact Nat.le_trans this (by omega)
  | 2, _ => exact toF_tn hn wk ot tf en
  | 3, _ => have := tcN_le k n 0 n; exact Nat.le_trans this (by omega)
  | 4, _ => have := tbN_le k n 0 4; exact Nat.le_trans this (by omega)
end Wy
