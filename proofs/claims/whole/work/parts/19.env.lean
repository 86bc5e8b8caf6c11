theorem zb_nar (b : Bool) : narrow .boolean (.int (zb b)) = .int (zb b) := by cases b <;> rfl
section ZEnv
variable {p : Program} {l : Launch} {e : Env} {R : Room} {s : State} {m : MethodId} {args : Array Value} {below : List Frame} {meth : Method} {c : Code} {H : Heap} {locs : List Loc} {cells slots : Nat} {Q : State → Prop}
variable {cc : ByteArray} {pc : Nat} {ls : Array Slot} {rest : List Value} {D : va_G} {cl : List vw_C} {A : Nat → Prop} {a : Nat} {tys : List (ClassId × FieldType)} {ws : va_W} {H0 : Heap} {EX : State → Prop}
theorem z_blindE {av : List Value} (hE : ∀ (U : State) (g : JFrame) (mk : MethodId) (a : Array Value), EX U → EX (U.calling g mk a)) : FrameBlind (va_Pc av (fun U => va_P D cl ws U.heap ∧ va_K D cl tys U ∧ EX U)) := fun a U g mk q => ⟨q.1, q.2.1, va_K.moved (u := U) (U := U.calling g mk a) (Vm.Alike.refl U.vm) q.2.2.1, hE U g mk a q.2.2.2⟩
theorem z_preE {av : List Value} (hP : va_P D cl ws H) (hK : va_K D cl tys s) (hE : ∀ U : State, U.heap = H → s.WarmedH U.vm → EX U) : ∀ U : State, U.heap = H → s.WarmedH U.vm → va_Pc av (fun U => va_P D cl ws U.heap ∧ va_K D cl tys U ∧ EX U) av.toArray U := fun U hU hW => ⟨rfl, by rw [hU]; exact hP, va_K.moved hW.alike hK, hE U hU hW⟩
theorem z_blindQE {av : List Value} {sz : Nat} (hE : ∀ (U : State) (g : JFrame) (mk : MethodId) (a : Array Value), EX U → EX (U.calling g mk a)) : FrameBlind (va_Pc av (fun U => U.heap.size = sz ∧ va_P D cl ws U.heap ∧ va_K D cl tys U ∧ va_D (fun _ => True) ws ∧ EX U)) := fun a U g mk q => ⟨q.1, q.2.1, q.2.2.1, va_K.moved (u := U) (U := U.calling g mk a) (Vm.Alike.refl U.vm) q.2.2.2.1, q.2.2.2.2.1, hE U g mk a q.2.2.2.2.2⟩
theorem z_preQE {av : List Value} (hP : va_P D cl ws H) (hK : va_K D cl tys s) (hD : va_D A ws) (hE : ∀ U : State, U.heap = H → s.WarmedH U.vm → EX U) : ∀ U : State, U.heap = H → s.WarmedH U.vm → va_Pc av (fun U => U.heap.size = H.size ∧ va_P D cl ws U.heap ∧ va_K D cl tys U ∧ va_D (fun _ => True) ws ∧ EX U) av.toArray U := fun U hU hW => ⟨rfl, by rw [hU], by rw [hU]; exact hP, va_K.moved hW.alike hK, hD.weaken (fun _ _ _ _ => trivial), hE U hU hW⟩
theorem z_aald (hexec : p.tables.exec = Jvm.exec) (hb : c.code = cc) (hK : va_K D cl tys s) (hP : va_P D cl ws H) (q0 t0 : Nat) {cA : ClassId} {C : String} {n : Nat} {f : Nat → Option Nat} (ha : ws[q0]? = some (a, .inl (cA, n, .inr (.inr (.inr (.inr f)))))) (ht : tys[t0]? = some (cA, .object C)) {k : Nat} (hk : k < n) (hn : n < 2 ^ 31) (hdg : decode cc pc = .ok (.aaload, 1)) (kk : W p l e R s m args below meth c H locs cells slots Q (F0 m (pc + 1) ls (va_rf (f k) :: rest))) : W p l e R s m args below meth c H locs cells slots Q (F0 m pc ls (.int (nI k) :: .ref a :: rest)) :=
  va_aldq hexec hb hK hP q0 t0 ha ht (vp_in_nI hk hn) hdg (by rw [nI_clamp (Nat.lt_trans hk hn)]; exact kk)
end ZEnv
def wayF (a b c d e : Nat) : Nat → Option Nat
  | 0 => some a
  | 1 => some b
  | 2 => some c
  | 3 => some d
  | 4 => some e
  | _ + 5 => none
theorem xk_bl : ∀ (U : State) (g : JFrame) (mk : MethodId) (a : Array Value), XK U → XK (U.calling g mk a) := fun _ _ _ _ h => h.same rfl
theorem gi_U {own C owner : String} {idx : Nat} {x y : MethodName} {b : Cond} (h1 : .methodLink own idx x ∈ ALLG) (h2 : .sameMethod x.cls owner x.name x.desc ∈ ALLG) (h3 : .selects C x y ∈ ALLG) (h4 : .instanceMethod y ∈ ALLG) (h6 : .initialized y.cls ∈ ALLG) (h5 : b ∈ ALLG) : GoodIn ALLG (va_wsU own idx C owner x y (b :: ALLG)) := by
  intro w h
  simp only [va_wsU, List.cons_append, List.nil_append, List.mem_cons] at h
  rcases h with rfl | rfl | rfl | rfl | rfl | rfl | h
  all_goals first | exact good_g h1 | exact good_g h2 | exact good_g h3 | exact good_g h4 | exact good_g h6 | exact good_g h5 | exact good_g h
/-- whether a way is fit -/
def suB (k : Nat → Int32) (n : Nat) : Nat → Bool
  | 0 => turnB k n
  | 1 => decide (n ≤ 60)
  | 2 => true
  | 3 => cntB k n
  | _ + 4 => true
/-- the plan -/
def planF (k : Nat → Int32) (n : Nat) (fg : Nat → Nat) (le mo : Nat → Int64) (wy : Nat → Nat) (rn : Nat) : Nat → Nat
  | 0 => 2
  | f + 1 => if suB k n (wy (rn - (f + 1))) && admB le mo (figN k n (fg (rn - (f + 1)))).toInt64 (rn - (f + 1)) then wy (rn - (f + 1)) else planF k n fg le mo wy rn f
theorem planF_t {k : Nat → Int32} {n : Nat} {fg : Nat → Nat} {le mo : Nat → Int64} {wy : Nat → Nat} {rn i P : Nat} (h : P = planF k n fg le mo wy rn (rn - i)) (hi : i < rn) (h1 : suB k n (wy i) = true) (h2 : admB le mo (figN k n (fg i)).toInt64 i = true) : wy i = P := by
  obtain ⟨f, hf⟩ : ∃ f, rn - i = f + 1 := ⟨rn - i - 1, by omega⟩
  rw [hf, planF, show rn - (f + 1) = i by omega, h1, h2] at h
  exact h.symm
theorem planF_f {k : Nat → Int32} {n : Nat} {fg : Nat → Nat} {le mo : Nat → Int64} {wy : Nat → Nat} {rn i P : Nat} (h : P = planF k n fg le mo wy rn (rn - i)) (hi : i < rn) (h1 : suB k n (wy i) = false ∨ admB le mo (figN k n (fg i)).toInt64 i = false) : P = planF k n fg le mo wy rn (rn - (i + 1)) := by
  obtain ⟨f, hf⟩ : ∃ f, rn - i = f + 1 := ⟨rn - i - 1, by omega⟩
  rw [hf, planF, show rn - (f + 1) = i by omega] at h
  rw [show rn - (i + 1) = f by omega]
  rcases h1 with h1 | h1
  · rw [h1] at h; exact h
  · rw [h1, Bool.and_false] at h; exact h
theorem planF_x {k : Nat → Int32} {n : Nat} {fg : Nat → Nat} {le mo : Nat → Int64} {wy : Nat → Nat} {rn i P : Nat} (h : P = planF k n fg le mo wy rn (rn - i)) (hi : rn ≤ i) : 2 = P := by
  rw [h, show rn - i = 0 by omega]; rfl
