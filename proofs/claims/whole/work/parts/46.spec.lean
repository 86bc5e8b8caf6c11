-- for the law
section ZLaw
variable {p : Program} {l : Launch} {e : Env} {R : Room} {s : State} {m : MethodId} {args : Array Value} {below : List Frame} {meth : Method} {c : Code} {H : Heap} {locs : List Loc} {cells slots : Nat} {Q : State → Prop}
variable {cc : ByteArray} {pc : Nat} {ls : Array Slot} {rest : List Value} {A : Nat → Prop} {H0 : Heap}
theorem z_sld (hexec : p.tables.exec = Jvm.exec) (hb : c.code = cc) {b L : Nat} {xs : Nat → Int32} (hX : va_X b L xs s H0) (hbl : b < H0.size) (hbA : ¬ A b) (hS : va_S A H0 H locs) {k : Nat} (hk : k < L) (hL : L < 2 ^ 31) (hdg : decode cc pc = .ok (.iaload, 1))
    (kk : W p l e R s m args below meth c H locs cells slots Q (F0 m (pc + 1) ls (.int (xs k) :: rest))) : W p l e R s m args below meth c H locs cells slots Q (F0 m pc ls (.int (nI k) :: .ref b :: rest)) :=
  va_sld hexec hb hX hbl hbA hS (vp_in_nI hk hL) hdg (by rw [nI_clamp (Nat.lt_trans hk hL)]; exact kk)
end ZLaw
theorem or_eq (k : Nat → Int32) (n j : Nat) : findL (rankB k n j) n = odF (kI k) n j := find_congr (fun i _ => by simp only [rankB, rankF_eq])
theorem or_l {k : Nat → Int32} {n j : Nat} (o : Nat → Int32) (hj : j < n) : (nI (findL (rankB k n j) n)).toInt64 = (foF k n o n j).toInt64 := by rw [or_eq, foF_od o hj]
theorem up_0 (f : Nat → Int64) (x : Int64) : vp_updL f 0 x 0 = x := rfl
theorem va_up_lt {f : Nat → Nat} {n v N : Nat} (h : ∀ i, i < n → f i < N) (hv : v < N) : ∀ i, i < n + 1 → va_up f n v i < N := by
  intro i hi; unfold va_up; split
  · exact hv
  · exact h i (by omega)
theorem sh_lt {f : Nat → Nat} {n j N : Nat} (h : ∀ i, i < n → f i < N) : ∀ i, i < n - 1 → shF f j (n - 1) i < N := by
  intro i hi; unfold shF; split
  · exact h _ (by omega)
  · exact h i (by omega)
