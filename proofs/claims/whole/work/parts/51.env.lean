theorem mem_t {w : Cond} (h : w ∈ tables_1) : w ∈ lw_tbl := List.mem_append_right _ h
theorem xk_de : ∀ x ∈ xDe, Cond.declares x ∈ tables_1 := by decide +kernel
theorem xk_ne : ∀ q ∈ xNe, Cond.methodLinkNest q.1 q.2.1 q.2.2.1 q.2.2.2 ∈ tables_1 := by decide +kernel
theorem xk_ca : ∀ q ∈ xCa, Cond.castable q.1 q.2 ∈ tables_1 := by decide +kernel
theorem xk_ao : Cond.arrayOver (.object "SortDesk$Way") ∈ tables_1 := List.mem_of_getElem? (i := 83) (by decide +kernel)
theorem xk_st : ∀ q ∈ xSt, Cond.stringRef "SortDesk" q.1 q.2 ∈ tables_1 := by decide +kernel
theorem xk_nc : ∀ q ∈ xNc, Cond.not (.castable q.1 q.2) ∈ flatC (Jvm.Cond.and given_1 narrow_1) := by decide +kernel
theorem xk_l1 : Cond.laysStatic Bundle.tN "UNASSIGNED_STACK" Bundle.steD ∈ tables_1 := List.mem_of_getElem? (i := 324) (by decide +kernel)
theorem xk_l2 : Cond.laysStatic Bundle.tN "SUPPRESSED_SENTINEL" Bundle.listD ∈ tables_1 := List.mem_of_getElem? (i := 326) (by decide +kernel)
theorem xk_r1 : Cond.isRef (.static Bundle.tN "UNASSIGNED_STACK" Bundle.steD) ∈ flatC (Jvm.Cond.and given_1 narrow_1) := by decide +kernel
theorem xk_r2 : Cond.isRef (.static Bundle.tN "SUPPRESSED_SENTINEL" Bundle.listD) ∈ flatC (Jvm.Cond.and given_1 narrow_1) := by decide +kernel
theorem xk_of {a : Array Value} {s : State} {cD : ClassId} (hcD : s.vm.findClass "SortDesk" = some cD) (hts : ∀ w ∈ lw_tbl, w.before a s = true) (hgv : (Jvm.Cond.and given_1 narrow_1).before a s = true) : XK s := by
  refine ⟨fun x hx => va_Nw.of rfl (hts _ (mem_t (xk_de x hx))), fun q hq => va_Nw.of rfl (hts _ (mem_t (xk_ne q hq))), fun q hq => va_Nw.of rfl (hts _ (mem_t (xk_ca q hq))), va_AO.of (hts _ (mem_t xk_ao)), fun q hq => ?_, fun q hq => va_Nc.of (flat_of_before _ hgv _ (xk_nc q hq))⟩
  have h1 := hts _ (mem_t (xk_st q hq))
  obtain ⟨-, -, -, sa, -, -, -, -, -, hev⟩ := Cond.stringRef_spec hcD h1
  exact ⟨sa, vk_R.of h1 hev⟩
theorem th_of {a : Array Value} {s : State} (hts : ∀ w ∈ lw_tbl, w.before a s = true) (hgv : (Jvm.Cond.and given_1 narrow_1).before a s = true) : thO s := by
  have l1 := hts _ (mem_t xk_l1)
  have l2 := hts _ (mem_t xk_l2)
  have r1 := flat_of_before _ hgv _ xk_r1
  have r2 := flat_of_before _ hgv _ xk_r2
  refine ⟨s, fun w hw => ?_, Vm.Alike.refl _, fun _ _ => rfl⟩
  simp only [th4, List.mem_cons, List.not_mem_nil, or_false] at hw
  rcases hw with rfl | rfl | rfl | rfl
  · exact st_lays (Vm.Alike.refl _) (fun _ _ => rfl) l1
  · exact st_lays (Vm.Alike.refl _) (fun _ _ => rfl) l2
  · exact st_isRef (Vm.Alike.refl _) (fun _ _ => rfl) l1 r1
  · exact st_isRef (Vm.Alike.refl _) (fun _ _ => rfl) l2 r2
