-- throwing and catching: a method that throws before it has written anything, and its caller's handler
/-- what such a throw leaves: a new cell of the class E, nothing old is written -/
def xT (E : String) (st : State) (q : Addr) (t : State) : Prop := ∃ ce : Cell, t.heap[q]? = some ce ∧ ce.vm = .none ∧ st.vm.findClass E = some ce.cls ∧ st.WarmedH t.vm ∧ st.sameButNew ({ t with vm := st.vm } : State) [] 1 6
def xQ (E : String) : Array Value → State → Outcome → State → Prop := fun _ st o t => ∃ q, o = .threw q ∧ xT E st q t
/-- the contract: the method throws an E -/
def MetT (l : Launch) (y : MethodName) (ws : List Cond) (rm : Room) (Pc : Array Value → State → Prop) (E : String) : Prop := MetFree l y (headSpec ws rm) Pc (fun _ _ _ _ _ => True) (xQ E)
def xM (below : List Frame) (E : String) (a : Array Value) (s : State) : State → Prop := fun t => ∃ o, t.status = .running ∧ Ended t below o ∧ xQ E a s o t
theorem MetT.ofW {l : Launch} {y : MethodName} {ws ws' : List Cond} {rm : Room} {Pc : Array Value → State → Prop} {E : String} {cc : ByteArray} {maxL : Nat} {ret : Option FieldType} (hy : plainName y.cls = true) (hw : ws = Cond.code y cc maxL ret :: ws')
    (body : ∀ p e s m args below meth c s₁, BodyLoose p l y (headSpec ws rm) cc maxL ret e s m args below meth c s₁ → c.maxLocals = maxL → Pc args s → W p l e (headSpec ws rm).room s m args below meth c s.heap [] 0 0 (xM below E args s) (entryFrame m args maxL)) : MetT l y ws rm Pc E := by
  refine MetFree.of_bodyS (code := cc) (maxLocals := maxL) (ret := ret) hy ?_ ?_
  · intro args s m h hn
    obtain ⟨meth, c, h1, h2, h3, h4, h5, h6, -, -⟩ := Cond.code_spec hn (atoms_spec (ws := ws) h _ (by rw [hw]; exact List.mem_cons_self))
    exact ⟨meth, c, h1, h2, h3, h4, h5, h6⟩
  · intro p e s m args below meth c s₁ B hml hP _
    obtain ⟨t, a1, o, b1, b2, b3⟩ := body p e s m args below meth c s₁ B hml hP s₁ (by rw [B.state]; rfl) (Stand.of_body B)
    exact ⟨t, o, a1, b1, b2, b3⟩
section XRows
variable {p : Program} {l : Launch} {e : Env} {R : Room} {s : State} {m : MethodId} {args : Array Value} {below : List Frame} {meth : Method} {c : Code} {H : Heap} {locs : List Loc} {cells slots : Nat} {Q : State → Prop}
variable {cc : ByteArray} {pc : Nat} {ls : Array Slot} {rest : List Value}
/-- throw new E("text"), with nothing on the stack, nothing written -/
theorem x_throw (hexec : p.tables.exec = Jvm.exec) (hb : c.code = cc) (hl : l.stackTraces = false) {own E text : String} {names : List String} {ik is ic sa : Nat}
    (hown : s.vm.findClass own = some m.cls) (hE : Bundle.fit E = true) (hnames : ∀ n ∈ names, Bundle.fit n = true)
    (hk : (Cond.classLink own ik E).before args s = true) (hini : (Cond.initialized E).before args s = true) (hstr : vk_R own is text sa s) (hat : ∀ w ∈ Bundle.ownAtoms own ic E names, w.before args s = true) (hsize : ls.size = c.maxLocals)
    (d0 : decode cc pc = .ok (.new ik, 3)) (d3 : decode cc (pc + 3) = .ok (.dup, 1)) (d4 : decode cc (pc + 4) = .ok (.ldc is, 2)) (d6 : decode cc (pc + 6) = .ok (.invokespecial ic, 3)) (d9 : decode cc (pc + 9) = .ok (.athrow, 1))
    (hout : ∀ x ∈ c.exceptionTable.toList, covers x (pc + 9) = false) (hRf : names.length + 3 < R.frames) (hRl : 13 * (names.length + 1) + 43 ≤ R.locals) (hRc : 1 ≤ R.cells) (hRs : 6 ≤ R.slots) (hlocks : meth.locks = false) :
    W p l e R s m args below meth c s.heap [] 0 0 (xM below E args s) (F0 m pc ls []) := by
  intro T hT X
  have htr : e.platform.stackTraces = false := (show e.platform.stackTraces = l.stackTraces by rw [X.admits.platform]).trans hl
  have hins : (Cond.instantiable E 6).before args s = true := hat _ (by simp [Bundle.ownAtoms])
  obtain ⟨vm₁, cX, kX, hfX, hkX, -, -, X₁, st1⟩ := X.newCold hexec (own := own) (C := E) (index := ik) (n := 6) hown hk hins hini (g := F0 m pc ls []) rfl (by rw [hb]; exact d0) (by omega) (by omega)
  generalize hT1 : (T.setVm vm₁).pushCell { cls := cX, slots := kX.instanceTypes.map defaultValue, vm := .none } = T1 at X₁ st1
  have hcellA : T1.heap[T.heap.size]? = some (freshCell cX kX) := by rw [← hT1]; exact State.heap_pushCell_size _ _
  have d3' : decode c.code (pc + 3) = .ok (.dup, 1) := by rw [hb]; exact d3
  have d4' : decode c.code (pc + 4) = .ok (.ldc is, 2) := by rw [hb]; exact d4
  obtain ⟨U, hsteps, hrun, hend, hW, hsame, ce, hce, hO⟩ := X₁.ctorThrowS hexec htr (own := own) (cls := E) (names := names) (ic := ic) hown hE hnames hat (fun x hx => nomatch hx) hfX hkX hcellA (by rw [hT]; exact Nat.le_refl _) (msg := .ref sa) rfl
    (g := { method := m, pc := pc + 6, locals := ls, stack := [.ref sa, .ref T.heap.size, .ref T.heap.size], locked := none }) rfl hsize rfl rfl (rest := []) rfl (by rw [hb]; exact d6) (by rw [hb]; exact d9) hout hRf (by
      have h1 : (Value.ref T.heap.size).category = 1 := rfl
      simp only [List.map_cons, List.map_nil, List.sum_cons, List.sum_nil, h1, JFrame.monitorRoom]
      simp
      omega) hlocks
  refine ⟨U, ?_, .threw T.heap.size, hrun, hend, T.heap.size, rfl, ce, hce, hO.vm, hO.cls, hW, hsame⟩
  refine st1 _ ?_
  show Steps p.tables e below (T1.setTop { method := m, pc := pc + 3, locals := ls, stack := [.ref T.heap.size], locked := none }) _
  jvm_step X₁.here [X₁.here.top, hexec, d3', Value.category]
  exact X₁.ldcString hexec (own := own) (text := text) (index := is) (a := sa) hown hstr.1 hstr.2 (g := { method := m, pc := pc + 4, locals := ls, stack := [.ref T.heap.size, .ref T.heap.size], locked := none }) rfl d4' _ hsteps
/-- a row of the handlers' table that an E passes, or that takes it -/
def xPass (s : State) (args : Array Value) (own E : String) (pc : Nat) (z : ExceptionTableEntry) : Prop := covers z pc = false ∨ (z.catchType ≠ 0 ∧ ∃ nm : String, (Cond.classLink own z.catchType nm).before args s = true ∧ va_Nc E nm s)
end XRows
theorem x_search {e : Env} {s₀ : State} {f : JFrame} {a : Addr} {ce : Cell} (hobj : ∀ k, ce.vm ≠ .statics k) (hk0 : ∃ k, s₀.vm.classes[ce.cls]? = some k) (x : ExceptionTableEntry) (suf : List ExceptionTableEntry) (hx : covers x f.pc = true) (h0 : x.catchType ≠ 0)
    {cT : ClassId} (hlT : s₀.vm.ClassLinks e.platform f.method.cls x.catchType cT) (hfit : s₀.vm.assignable ce.cls cT = true) :
    ∀ (pre : List ExceptionTableEntry) (S : State), s₀.WarmedH S.vm → S.heap[a]? = some ce → (∀ z ∈ pre, covers z f.pc = false ∨ (z.catchType ≠ 0 ∧ ∃ c', s₀.vm.ClassLinks e.platform f.method.cls z.catchType c' ∧ s₀.vm.assignable ce.cls c' = false)) →
      ∃ vm', s₀.WarmedH vm' ∧ ∀ (Q : Handler → Pre) (E : CtlPost) (d : Bool) (acts : List Action), wp (findHandler.go f a (pre ++ x :: suf)) Q E e d acts S ↔ Q (.found x.handlerPc) d acts (S.setVm vm') := by
  obtain ⟨k0, hk0⟩ := hk0
  have row : ∀ (z : ExceptionTableEntry) (c' : ClassId) (S : State), covers z f.pc = true → z.catchType ≠ 0 → s₀.vm.ClassLinks e.platform f.method.cls z.catchType c' → s₀.WarmedH S.vm → S.heap[a]? = some ce →
      s₀.WarmedH (S.vm.noted f.method.cls z.catchType (.cls c')) ∧ ∀ (t : List ExceptionTableEntry) (Q : Handler → Pre) (E : CtlPost) (d : Bool) (acts : List Action),
        (s₀.vm.assignable ce.cls c' = true → (wp (findHandler.go f a (z :: t)) Q E e d acts S ↔ Q (.found z.handlerPc) d acts (S.setVm (S.vm.noted f.method.cls z.catchType (.cls c'))))) ∧
        (s₀.vm.assignable ce.cls c' = false → (wp (findHandler.go f a (z :: t)) Q E e d acts S ↔ wp (findHandler.go f a t) Q E e d acts (S.setVm (S.vm.noted f.method.cls z.catchType (.cls c'))))) := by
    intro z c' S hz hz0 hl hW hcell
    obtain ⟨dk, _, _, kt, hd, _, _, _, _, hkt, _, hopen⟩ := hl.here
    refine ⟨hW.noted hd hopen (State.rightAt_cls hl), fun t Q E d acts => ?_⟩
    have hlS := hW.classLinks hl
    have hz' := hz
    simp only [covers] at hz'
    obtain ⟨ha, ht⟩ := (resolveClass_links e.toSetting hlS).op (op := VmOp.resolveClass f.method.cls z.catchType) rfl
    have hal : s₀.vm.Alike (S.vm.noted f.method.cls z.catchType (.cls c')) := hW.alike.noted _ _ _
    obtain ⟨k1, hk1, -⟩ := hal.2.2 _ _ hk0
    obtain ⟨k2, hk2, -⟩ := hal.2.2 _ _ hkt
    have has := hal.assignable (s := ce.cls) (t := c')
    refine ⟨fun hy => ?_, fun hn => ?_⟩
    · rw [hy] at has
      simp [findHandler.go, hz', hz0, ha, ht, hcell, hobj, hk1, hk2, has, VmOp.dirties, VmOp.acts]
    · rw [hn] at has
      simp [findHandler.go, hz', hz0, ha, ht, hcell, hobj, hk1, hk2, has, VmOp.dirties, VmOp.acts]
  intro pre
  induction pre with
  | nil =>
    intro S hW hcell _
    obtain ⟨hW', h⟩ := row x cT S hx h0 hlT hW hcell
    exact ⟨_, hW', fun Q E d acts => (h suf Q E d acts).1 hfit⟩
  | cons z zs ih =>
    intro S hW hcell hp
    have hps : ∀ y ∈ zs, covers y f.pc = false ∨ (y.catchType ≠ 0 ∧ ∃ c', s₀.vm.ClassLinks e.platform f.method.cls y.catchType c' ∧ s₀.vm.assignable ce.cls c' = false) := fun y hy => hp y (List.mem_cons_of_mem _ hy)
    cases hz : covers z f.pc with
    | false =>
      obtain ⟨vm', hW', h⟩ := ih S hW hcell hps
      exact ⟨vm', hW', fun Q E d acts => by rw [List.cons_append, W.findHandler_go_skip hz]; exact h Q E d acts⟩
    | true =>
      rcases hp z List.mem_cons_self with q | ⟨hz0, c', hl, hno⟩
      · rw [hz] at q; cases q
      · obtain ⟨hW1, h1⟩ := row z c' S hz hz0 hl hW hcell
        obtain ⟨vm', hW', h⟩ := ih (S.setVm (S.vm.noted f.method.cls z.catchType (.cls c'))) hW1 hcell hps
        exact ⟨vm', hW', fun Q E d acts => by rw [List.cons_append]; exact ((h1 (zs ++ x :: suf) Q E d acts).2 hno).trans (h Q E d acts)⟩
/-- one step: from the note over the frame g to g's handler -/
theorem x_step {tb : Tables} {e : Env} {S target : State} {g : JFrame} {c : Code} {below : List Frame} {a : Addr} (h : At S g.method c below) {hp : Nat} {vm' : Vm}
    (hfind : ∀ (Q : Handler → Pre) (E : CtlPost) (d : Bool) (acts : List Action), wp (findHandler g a) Q E e d acts ((S.setTop g).pushFrame (.throwing a)) ↔ Q (.found hp) d acts (((S.setTop g).pushFrame (.throwing a)).setVm vm'))
    (hrest : Steps tb e below ((S.setVm vm').setTop { g with pc := hp, stack := [.ref a] }) target) : Steps tb e below ((S.setTop g).pushFrame (.throwing a)) target := by
  obtain ⟨hgo, hw⟩ := h.throwing a
  refine Steps.head hgo hw ?_
  have hst : ∀ r : List Frame, (stepThrowing e ((S.setTop g).pushFrame (.throwing a)) a (.java g :: r)).1 = (((S.setTop g).pushFrame (.throwing a)).setVm vm').setFrames (.java { g with pc := hp, stack := [.ref a] } :: r) := by
    intro r
    simp only [stepThrowing, searchFrame, vmDo]
    generalize hr : Sem.go _ e false [] ((S.setTop g).pushFrame (.throwing a)) = res
    obtain ⟨as, rfl, ha⟩ := Sem.eq_ok_of hr (a := Handler.found hp) (s' := ((S.setTop g).pushFrame (.throwing a)).setVm vm') (acts' := []) (by simp [hfind _ _ _ _])
    rfl
  rw [stepThread_throwing (frames_entered h.top _), hst]
  obtain ⟨g₀, hg⟩ := Option.isSome_iff_exists.mp h.top
  obtain ⟨r, hr⟩ := State.topJava?_eq_some.mp hg
  have hr' : (S.setVm vm').frames = .java g₀ :: r := hr
  rw [State.setTop_of_frames _ hr'] at hrest
  have e1 : (((S.setTop g).pushFrame (.throwing a)).setVm vm') = (((S.setVm vm').setTop g).pushFrame (.throwing a)) := by
    rw [State.pushFrame, State.pushFrame, State.setTop_of_frames _ hr, State.setTop_of_frames _ hr', State.setFrames_setFrames, State.setFrames_setFrames]
    rfl
  rw [e1, hr, List.tail_cons, State.pushFrame, State.setTop_of_frames _ hr', State.setFrames_setFrames, State.setFrames_setFrames]
  exact hrest
section XCall
variable {p : Program} {l : Launch} {e : Env} {R : Room} {s : State} {m : MethodId} {args : Array Value} {below : List Frame} {meth : Method} {c : Code} {H : Heap} {locs : List Loc} {cells slots : Nat} {Q : State → Prop}
variable {y : MethodName} {bytes cc : ByteArray} {maxL nL n index pc : Nat} {ret : Option FieldType} {ws : List Cond} {rm : Room} {Pc : Array Value → State → Prop} {Ts : List Cond} {own C E name : String} {b : Addr} {As rest st0 : List Value} {ls : Array Slot}
/-- a call whose callee throws an E, which a row x of this method's handlers takes -/
theorem x_catchV (S : CallFix p m c cc nL s args Ts own) (hM : MetT l y ws rm Pc E) (cw : CallW R s args own C index y bytes maxL ret ws rm 1 6 n) (hp : PreV s H C b Pc As)
    (hn : As.length = n) (hsize : ls.size = nL) (hstack : st0 = As.reverse ++ .ref b :: rest) (hW8 : (rest.map fun v => v.category).sum ≤ 8) (hdg : decode cc pc = .ok (.invokevirtual index, 3)) (hf : cells + 1 ≤ R.cells ∧ slots + 6 ≤ R.slots)
    (pre : List ExceptionTableEntry) (x : ExceptionTableEntry) (suf : List ExceptionTableEntry) (hsplit : c.exceptionTable.toList = pre ++ x :: suf) (hpass : ∀ z ∈ pre, xPass s args own E pc z) (hx : covers x pc = true) (h0 : x.catchType ≠ 0)
    (hlink : (Cond.classLink own x.catchType name).before args s = true) (hcast : (Cond.castable E name).before args s = true)
    (kk : ∀ (q : Addr) (H1 : Heap), H.size ≤ H1.size → (∀ z : Nat, z < H.size → H1[z]? = H[z]?) → W p l e R s m args below meth c H1 locs (cells + 1) (slots + 6) Q (F0 m x.handlerPc ls [.ref q])) :
    W p l e R s m args below meth c H locs cells slots Q (F0 m pc ls st0) := by
  obtain ⟨⟨hrc, hrs, hfr0, hlo0, hws, hcw, hcode, hini, hy, hlen, hl⟩, hin, hse⟩ := cw
  obtain ⟨hexec, hb, hml, hown, -⟩ := S
  obtain ⟨hblind, ⟨cellB, hcB, hoB, hclB⟩, hPc⟩ := hp
  intro T hT X
  have hpl : e.platform.magicAccessors = ({} : Platform).magicAccessors := by rw [X.admits.platform]
  -- the machine comes to the callee
  obtain ⟨mk, methM, hnamed, hmethM, hstM, habM⟩ := Cond.instanceMethod_spec hin
  obtain ⟨methM', cM, hmethM', hcM, -, hlM, -, -, -, hsigM⟩ := Cond.code_spec hnamed hcode
  cases hmethM.symm.trans hmethM'
  obtain ⟨c2, r2, m2, q1, q2, q3, q4, kP, hkP, hkPi⟩ := Cond.selects_spec hse
  cases hclB.symm.trans q1
  cases (State.methodFound?_of_named hnamed hy).symm.trans q2
  cases hnamed.symm.trans q3
  have hsel : selectMethod e.platform s.vm cellB.cls mk = .method mk := by rw [Launch.admits_selectMethod X.admits]; exact q4
  obtain ⟨vm₁, X₁, hstep₁⟩ := X.invokevirtual hexec hown hl hnamed hmethM hstM hkP hkPi hy (a := b) (cell := cellB) (by rw [hT]; exact hcB)
    (fun z h => by rw [h] at hoB; cases hoB) hsel hmethM habM hkP hkPi (g := F0 m pc ls st0) rfl (argsL := As) (rest := rest) (hn.trans (hlen _ hsigM)) hstack (by rw [hb]; exact hdg)
  generalize hU : T.setVm vm₁ = U at X₁ hstep₁
  have hUh : U.heap = H := by rw [← hU]; exact hT
  -- it ends there with a throw
  have h : At U (F0 m pc ls rest).method c below := X₁.here
  have hnU := X₁.named hnamed
  have hcodeU : (Cond.code y bytes maxL ret).before (Value.ref b :: As).toArray U = true := hws _ hcw _ _ X₁.warmed
  obtain ⟨methY, cY, hmY, hcY, -, hlY, -, -, -, -⟩ := Cond.code_spec hnU hcodeU
  obtain ⟨kY, hkY, -⟩ := className_of_methodNamed hnU
  have hiniU : (Cond.initialized y.cls).before (Value.ref b :: As).toArray U = true := word_at X₁.warmed (Or.inl (by first | rfl | simp [Cond.onTables, Cond.keeps, Cond.steady])) hini
  have hinitY : kY.init = .initialized := Cond.initialized_spec (findClass_of_methodNamed hnU) hkY hiniU
  have hpreU : (headSpec ws rm).pre.before (Value.ref b :: As).toArray U = true := atoms_intro fun w hw => hws w hw _ _ X₁.warmed
  have happ : (headSpec ws rm).appliesLoose y e.platform (U.calling (F0 m pc ls rest) mk (Value.ref b :: As).toArray) = true :=
    Spec.appliesLoose_calling (g := F0 m pc ls rest) h (by rw [hb]; exact hdg) hnU hkY hinitY
      (X₁.room_calling (g := F0 m pc ls rest) (R' := (headSpec ws rm).room) (hsize.trans hml.symm) hmY hcY hfr0 (by
        rw [hlY]
        have h8 : 2 * (F0 m pc ls rest).monitorRoom + ((F0 m pc ls rest).stack.map fun v => v.category).sum ≤ 8 := lv_room hW8
        have h9 : 8 + (maxL + 11) + (headSpec ws rm).room.locals ≤ R.locals := hlo0
        omega) (by rw [show (headSpec ws rm).room.cells = 1 from hrc]; exact hf.1) (by rw [show (headSpec ws rm).room.slots = 6 from hrs]; exact hf.2)) hpreU
  obtain ⟨mid, hmid⟩ := h.above
  have hfr : (U.setTop (F0 m pc ls rest)).frames = (.java (F0 m pc ls rest) :: mid) ++ below := by rw [State.frames_setTop' _ h.top, hmid]; rfl
  have hPcU : Pc (Value.ref b :: As).toArray (U.calling (F0 m pc ls rest) mk (Value.ref b :: As).toArray) := hblind _ _ _ _ (by rw [← hU]; exact hPc (T.setVm vm₁) hT (by have := X₁.warmed; rw [← hU] at this; exact this))
  obtain ⟨o, s₂, hsteps, -, hend, hq⟩ := Steps.callFree hM p X₁.admits X₁.cas X₁.clock (acts := []) hfr happ hPcU trivial
  obtain ⟨q, rfl, ce, hce, hcv, hcl, hW₂, hsm⟩ : xQ E (Value.ref b :: As).toArray (U.calling (F0 m pc ls rest) mk (Value.ref b :: As).toArray) o s₂ := hq
  rw [State.frames_setTop' _ h.top] at hend
  obtain ⟨e2, r2', r3, r4, r5, r6⟩ := id hsm
  have hW' : U.WarmedH s₂.vm := hW₂
  obtain ⟨g₀, hg0⟩ := Option.isSome_iff_exists.mp h.top
  obtain ⟨r, hr⟩ := State.topJava?_eq_some.mp hg0
  generalize hV : ({ U with heap := s₂.heap, slotsUsed := s₂.slotsUsed } : State).setVm s₂.vm = V
  have hrV : V.frames = .java g₀ :: r := by rw [← hV]; exact hr
  have e3 : s₂ = ({ (U.calling (F0 m pc ls rest) mk (Value.ref b :: As).toArray).setFrames s₂.frames with heap := s₂.heap, slotsUsed := s₂.slotsUsed } : State).setVm s₂.vm := by
    have h9 : s₂ = ({ s₂ with vm := (U.calling (F0 m pc ls rest) mk (Value.ref b :: As).toArray).vm } : State).setVm s₂.vm := rfl
    rw [e2] at h9
    exact h9
  have hf₂ : s₂.frames = .throwing q :: .java (F0 m pc ls rest) :: U.frames.tail := hend
  have hs₂ : s₂ = (V.setTop (F0 m pc ls rest)).pushFrame (.throwing q) := by
    rw [State.pushFrame, State.frames_setTop _ hrV, State.setTop_of_frames _ hrV, State.setFrames_setFrames]
    refine e3.trans ?_
    rw [hf₂, State.calling_eq h.top, State.setFrames_setFrames, hr, ← hV]
    rfl
  have hsame : U.sameButNew ({ U with heap := s₂.heap, slotsUsed := s₂.slotsUsed } : State) [] 1 6 := by
    refine ⟨?_, r2', r3, r4, r5, r6⟩
    obtain ⟨t, ht, -⟩ := State.frames_cons hr
    show ({ U with heap := s₂.heap, slotsUsed := s₂.slotsUsed } : State) = { U.setFrames U.frames with heap := s₂.heap, slotsUsed := s₂.slotsUsed }
    rw [State.setFrames_self ht]
  have XV : Stand p l e R s m args below meth c V (locs ++ []) (cells + 1) (slots + 6) := by
    rw [← hV]
    exact ⟨X₁.admits, X₁.cas, X₁.clock, X₁.frames, X₁.room, X₁.hears, X₁.method, X₁.code, (X₁.here.setHeapUsed s₂.heap s₂.slotsUsed).setVm hW'.alike, X₁.tail, State.WarmedH.trans X₁.warmed hW', X₁.limits, X₁.bytes, X₁.same.trans (hsame.setVm s.vm)⟩
  rw [List.append_nil] at XV
  -- the search for the handler
  have hclS : s.vm.findClass E = some ce.cls := by
    have h9 : U.vm.findClass E = some ce.cls := hcl
    rw [X₁.warmed.alike.findClass] at h9
    exact h9
  obtain ⟨c3, cT, hc3, hcT, hasg⟩ := Cond.castable_spec hcast
  cases Option.some.inj (hc3.symm.trans hclS)
  obtain ⟨c5, hc5, hl5⟩ := Cond.classLink_spec hown hlink e.platform hpl
  cases Option.some.inj (hcT.symm.trans hc5)
  have hceV : ((V.setTop (F0 m pc ls rest)).pushFrame (.throwing q)).heap[q]? = some ce := by rw [← hs₂]; exact hce
  have hwV : s.WarmedH ((V.setTop (F0 m pc ls rest)).pushFrame (.throwing q)).vm := by rw [← hs₂]; exact State.WarmedH.trans X₁.warmed hW'
  obtain ⟨vm', hWm, hfind⟩ := x_search (e := e) (s₀ := s) (f := F0 m pc ls rest) (a := q) (ce := ce) (fun k hk => by rw [hcv] at hk; cases hk) (by obtain ⟨k9, h9, -⟩ := Vm.findClass_spec hclS; exact ⟨k9, h9⟩) x suf hx h0 hl5 hasg pre _ hwV hceV
    (fun z hz => by
      rcases hpass z hz with h9 | ⟨hz0, nm, hl1, hn1⟩
      · exact Or.inl h9
      · obtain ⟨c6, hc6, hcl6⟩ := Cond.classLink_spec hown hl1 e.platform hpl
        obtain ⟨a8, b8, h1, h2, h3⟩ := hn1
        cases Option.some.inj (h1.symm.trans hclS)
        cases Option.some.inj (h2.symm.trans hc6)
        exact Or.inr ⟨hz0, _, hcl6, h3⟩)
  obtain ⟨t, a1, b1⟩ := kk q s₂.heap (by rw [← hUh]; exact r2') (fun z hz => by
    have hz' : z < U.heap.size := by rw [hUh]; exact hz
    obtain ⟨c9, e1, e2', e3', e4⟩ := r6 z _ (Array.getElem?_eq_getElem hz')
    have hs9 : c9.slots = (U.heap[z]'hz').slots := Array.ext_getElem? fun i => e4 i (fun hm => nomatch hm)
    have h9 : c9 = U.heap[z]'hz' := by rw [hs9] at e2'; exact e2'
    have e5 : s₂.heap[z]? = some c9 := e1
    rw [e5, h9, ← Array.getElem?_eq_getElem hz', hUh]) (V.setVm vm') (by rw [← hV]; rfl) (XV.noted hWm)
  refine ⟨t, ?_, b1⟩
  refine hstep₁ _ fun acts => ?_
  rw [doInvoke_state]
  refine hsteps.trans ?_
  rw [hs₂]
  exact x_step (g := F0 m pc ls rest) XV.here (hp := x.handlerPc) (vm' := vm') (fun Q E d acts => by
    rw [W.findHandler_eq (meth := meth) (code := c) (by exact XV.method') XV.code, hsplit]
    exact hfind Q E d acts) a1
end XCall
