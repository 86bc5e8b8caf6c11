-- what the tables say beyond the good words, and where it stays
def xDe : List MethodName := [⟨"SortDesk$Way", "suits", "(LSortDesk$Row;)Z"⟩, ⟨"java/lang/RuntimeException", "<init>", "()V"⟩, ⟨"java/lang/RuntimeException", "<init>", "(Ljava/lang/String;)V"⟩, ⟨"java/lang/Exception", "<init>", "()V"⟩, ⟨"java/lang/Exception", "<init>", "(Ljava/lang/String;)V"⟩, ⟨"java/lang/Throwable", "<init>", "()V"⟩, ⟨"java/lang/Throwable", "<init>", "(Ljava/lang/String;)V"⟩, ⟨"SortDesk$Way", "arrange", "(LSortDesk$Row;[ILSortDesk$Trail;)I"⟩]
def xNe : List (String × Nat × MethodName × String) := [("SortDesk", 11, ⟨"SortDesk$Row", "<init>", "()V"⟩, "SortDesk"), ("SortDesk", 21, ⟨"SortDesk$RuleTable", "<init>", "()V"⟩, "SortDesk"), ("SortDesk", 28, ⟨"SortDesk$Trail", "<init>", "()V"⟩, "SortDesk"), ("SortDesk", 48, ⟨"SortDesk$Turning", "<init>", "()V"⟩, "SortDesk"), ("SortDesk$Turning", 3, ⟨"SortDesk$Way", "<init>", "()V"⟩, "SortDesk"), ("SortDesk", 51, ⟨"SortDesk$PuttingIn", "<init>", "()V"⟩, "SortDesk"), ("SortDesk$PuttingIn", 3, ⟨"SortDesk$Way", "<init>", "()V"⟩, "SortDesk"), ("SortDesk", 54, ⟨"SortDesk$Joining", "<init>", "()V"⟩, "SortDesk"), ("SortDesk$Joining", 3, ⟨"SortDesk$Way", "<init>", "()V"⟩, "SortDesk"), ("SortDesk", 57, ⟨"SortDesk$Counting", "<init>", "()V"⟩, "SortDesk"), ("SortDesk$Counting", 3, ⟨"SortDesk$Way", "<init>", "()V"⟩, "SortDesk"), ("SortDesk", 60, ⟨"SortDesk$ByBytes", "<init>", "()V"⟩, "SortDesk"), ("SortDesk$ByBytes", 3, ⟨"SortDesk$Way", "<init>", "()V"⟩, "SortDesk")]
def xCa : List (String × String) := [("java/lang/UnsupportedOperationException", "java/lang/UnsupportedOperationException"), ("java/lang/IndexOutOfBoundsException", "java/lang/IndexOutOfBoundsException"), ("java/lang/IllegalArgumentException", "java/lang/IllegalArgumentException"), ("java/lang/IllegalStateException", "java/lang/IllegalStateException"), ("SortDesk$ByBytes", "SortDesk$Way"), ("SortDesk$Counting", "SortDesk$Way"), ("SortDesk$Joining", "SortDesk$Way"), ("SortDesk$PuttingIn", "SortDesk$Way"), ("SortDesk$Turning", "SortDesk$Way")]
def xSt : List (Nat × String) := [(67, "the row is full"), (86, "no such place"), (109, "no such figure"), (119, "no such figure or way"), (122, "the table of rules is full"), (129, "no such rule"), (146, "no such way"), (153, "the way is not fit"), (159, "no ordering to put back"), (170, "no such step or number of it")]
def xNc : List (String × String) := [("java/lang/UnsupportedOperationException", "java/lang/IndexOutOfBoundsException"), ("java/lang/UnsupportedOperationException", "java/lang/IllegalArgumentException"), ("java/lang/UnsupportedOperationException", "java/lang/IllegalStateException"), ("java/lang/IndexOutOfBoundsException", "java/lang/UnsupportedOperationException"), ("java/lang/IndexOutOfBoundsException", "java/lang/IllegalArgumentException"), ("java/lang/IndexOutOfBoundsException", "java/lang/IllegalStateException"), ("java/lang/IllegalArgumentException", "java/lang/UnsupportedOperationException"), ("java/lang/IllegalArgumentException", "java/lang/IndexOutOfBoundsException"), ("java/lang/IllegalArgumentException", "java/lang/IllegalStateException"), ("java/lang/IllegalStateException", "java/lang/UnsupportedOperationException"), ("java/lang/IllegalStateException", "java/lang/IndexOutOfBoundsException"), ("java/lang/IllegalStateException", "java/lang/IllegalArgumentException")]
def XK (U : State) : Prop := (∀ x ∈ xDe, va_Nw (.declares x) U) ∧ (∀ q ∈ xNe, va_Nw (.methodLinkNest q.1 q.2.1 q.2.2.1 q.2.2.2) U) ∧ (∀ q ∈ xCa, va_Nw (.castable q.1 q.2) U) ∧ va_AO "SortDesk$Way" U ∧ (∀ q ∈ xSt, ∃ a, vk_R "SortDesk" q.1 q.2 a U) ∧ (∀ q ∈ xNc, va_Nc q.1 q.2 U)
theorem XK.warm {s U : State} (hW : s.WarmedH U.vm) (h : XK s) : XK U := by
  obtain ⟨h1, h2, h3, h4, h5, h6⟩ := h
  exact ⟨fun x hx => va_Nw.warmD hW (h1 x hx), fun q hq => va_Nw.warmM hW (h2 q hq), fun q hq => va_Nw.warmC hW (h3 q hq), va_AO.moved hW.alike h4, fun q hq => by obtain ⟨a, ha⟩ := h5 q hq; exact ⟨a, vk_R.warm hW ha⟩, fun q hq => va_Nc.moved hW.alike (h6 q hq)⟩
theorem XK.same {s U : State} (hv : s.vm = U.vm) (h : XK s) : XK U := by
  obtain ⟨h1, h2, h3, h4, h5, h6⟩ := h
  have ha : s.vm.Alike U.vm := by rw [hv]; exact Vm.Alike.refl _
  exact ⟨fun x hx => (h1 x hx).same rfl hv, fun q hq => (h2 q hq).same rfl hv, fun q hq => (h3 q hq).same rfl hv, va_AO.moved ha h4, fun q hq => by obtain ⟨a, hx⟩ := h5 q hq; exact ⟨a, vk_R.same hv.symm hx⟩, fun q hq => va_Nc.moved ha (h6 q hq)⟩
-- the two statics that a new Throwable reads
def th4 : List Cond := [.laysStatic Bundle.tN "UNASSIGNED_STACK" Bundle.steD, .laysStatic Bundle.tN "SUPPRESSED_SENTINEL" Bundle.listD, .isRef (.static Bundle.tN "UNASSIGNED_STACK" Bundle.steD), .isRef (.static Bundle.tN "SUPPRESSED_SENTINEL" Bundle.listD)]
def thO (U : State) : Prop := ∃ s0 : State, (∀ w ∈ th4, w.before #[] s0 = true) ∧ s0.vm.Alike U.vm ∧ ∀ q : Nat, q < s0.heap.size → U.heap[q]? = s0.heap[q]?
theorem st_lays {C n d : String} {s0 U : State} {a a' : Array Value} (hv : s0.vm.Alike U.vm) (hh : ∀ q : Nat, q < s0.heap.size → U.heap[q]? = s0.heap[q]?) (h : (Cond.laysStatic C n d).before a s0 = true) : (Cond.laysStatic C n d).before a' U = true := by
  obtain ⟨c, k, i, f, ad, cell, hc, hi, hst, ha, hcell, hs, hcls, hlt, hty⟩ := Cond.laysStatic_spec h
  obtain ⟨k', hi', he⟩ := State.fieldFound?_setVm hv hi
  exact Cond.laysStatic_of (by rw [hv.findClass]; exact hc) hi' hst (by rw [he]; exact ha) (by rw [hh ad (Array.getElem?_eq_some_iff.mp hcell).1]; exact hcell) hs hcls hlt (by rw [he]; exact hty)
theorem st_isRef {C n d : String} {s0 U : State} {a a' : Array Value} (hv : s0.vm.Alike U.vm) (hh : ∀ q : Nat, q < s0.heap.size → U.heap[q]? = s0.heap[q]?) (hl : (Cond.laysStatic C n d).before a s0 = true) (h : (Cond.isRef (.static C n d)).before a s0 = true) : (Cond.isRef (.static C n d)).before a' U = true := by
  obtain ⟨c, k, i, f, ad, cell, hc, hi, hst, ha, hcell, hs, hcls, hlt, hty⟩ := Cond.laysStatic_spec hl
  obtain ⟨v, hev, hvr⟩ := Cond.isRef_spec h
  obtain ⟨hst', ad', cell', ha', hcell', -, hslot⟩ := Term.static_spec hi hev
  cases ha.symm.trans ha'
  cases hcell.symm.trans hcell'
  obtain ⟨k', hi', he⟩ := State.fieldFound?_setVm hv hi
  have hev' : (Term.static C n d).eval a' U none [] U = some v := Term.static_eval hi' hst (by rw [he]; exact ha) (by rw [hh ad (Array.getElem?_eq_some_iff.mp hcell).1]; exact hcell) hs hslot
  simp [Cond.before, Cond.holds, Cond.value, hev']
  cases v <;> first | rfl | cases hvr
theorem thO.use {U : State} (h : thO U) (a : Array Value) : ∀ w ∈ th4, w.before a U = true := by
  obtain ⟨s0, h4, hv, hh⟩ := h
  have l1 := h4 _ (List.mem_of_getElem? (i := 0) rfl)
  have l2 := h4 _ (List.mem_of_getElem? (i := 1) rfl)
  have r1 := h4 _ (List.mem_of_getElem? (i := 2) rfl)
  have r2 := h4 _ (List.mem_of_getElem? (i := 3) rfl)
  intro w hw
  simp only [th4, List.mem_cons, List.not_mem_nil, or_false] at hw
  rcases hw with rfl | rfl | rfl | rfl
  · exact st_lays hv hh l1
  · exact st_lays hv hh l2
  · exact st_isRef hv hh l1 r1
  · exact st_isRef hv hh l2 r2
theorem thO.moved {s U : State} (hv : s.vm.Alike U.vm) (hh : ∀ q : Nat, q < s.heap.size → U.heap[q]? = s.heap[q]?) (h : thO s) : thO U := by
  obtain ⟨s0, h4, hv0, hh0⟩ := h
  refine ⟨s0, h4, hv0.trans hv, fun q hq => ?_⟩
  have h1 := hh0 q hq
  have hlt : q < s.heap.size := by
    rcases Nat.lt_or_ge q s.heap.size with z | z
    · exact z
    · rw [Array.getElem?_eq_none z, Array.getElem?_eq_getElem hq] at h1; cases h1
  rw [hh q hlt, h1]
-- the words that a throw asks
def exN : List String := ["java/lang/RuntimeException", "java/lang/Exception"]
def xAll (L : List Cond) : Bool := L.all (fun w => (goodWord w && decide (w ∈ tables_1)) || decide (w ∈ xDe.map Cond.declares) || decide (w ∈ xCa.map (fun q => Cond.castable q.1 q.2)) || decide (w ∈ th4))
theorem own_of {L : List Cond} (hL : xAll L = true) {args : Array Value} {s : State} (hg : ∀ w ∈ ALLG, w.before args s = true) (hX : XK s) (hT : thO s) : ∀ w ∈ L, w.before args s = true := by
  intro w hw
  have h := List.all_eq_true.mp hL w hw
  simp only [Bool.or_eq_true, Bool.and_eq_true, decide_eq_true_eq] at h
  rcases h with ((⟨h1, h2⟩ | h) | h) | h
  · exact hg w (List.mem_filter.mpr ⟨List.mem_append_right _ h2, h1⟩)
  · obtain ⟨x, hx, rfl⟩ := List.mem_map.mp h
    exact (hX.1 x hx).use rfl
  · obtain ⟨q, hq, rfl⟩ := List.mem_map.mp h
    exact (hX.2.2.1 q hq).use rfl
  · exact hT.use args w h
theorem oa_UnsupportedOperation : xAll (Bundle.ownAtoms "SortDesk" 69 "java/lang/UnsupportedOperationException" exN) = true := by decide +kernel
theorem oa_IndexOutOfBounds : xAll (Bundle.ownAtoms "SortDesk" 88 "java/lang/IndexOutOfBoundsException" exN) = true := by decide +kernel
theorem oa_IllegalArgument : xAll (Bundle.ownAtoms "SortDesk" 111 "java/lang/IllegalArgumentException" exN) = true := by decide +kernel
theorem oa_IllegalState : xAll (Bundle.ownAtoms "SortDesk" 155 "java/lang/IllegalStateException" exN) = true := by decide +kernel
