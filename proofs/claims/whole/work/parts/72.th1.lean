/-! a method that throws; a call that is caught where it stands -/
def QT (XN : String) (mc ms : Nat) : Array Value → State → Outcome → State → Prop := fun _ st o t => ∃ q : Nat, o = .threw q ∧ st.WarmedH t.vm ∧ st.sameButNew ({ t with vm := st.vm } : State) [] mc ms ∧ ∃ ce : Cell, t.heap[q]? = some ce ∧ st.vm.findClass XN = some ce.cls ∧ ce.vm = .none ∧ st.vm.assignable ce.cls ce.cls = true
def MetT (l : Launch) (y : MethodName) (ws : List Cond) (rm : Room) (Pc : Array Value → State → Prop) (XN : String) : Prop := MetFree l y (headSpec ws rm) Pc (fun _ _ _ _ _ => True) (QT XN rm.cells rm.slots)
theorem MetT.ofW {l : Launch} {y : MethodName} {ws ws' : List Cond} {rm : Room} {Pc : Array Value → State → Prop} {XN : String} {cc : ByteArray} {maxL : Nat} {ret : Option FieldType}
    (hy : plainName y.cls = true) (hw : ws = Cond.code y cc maxL ret :: ws')
    (body : ∀ p e s m args below meth c s₁, BodyLoose p l y (headSpec ws rm) cc maxL ret e s m args below meth c s₁ → c.maxLocals = maxL → c.exceptionTable.isEmpty = true → Pc args s →
      W p l e (headSpec ws rm).room s m args below meth c s.heap [] 0 0 (fun t => ∃ o, t.status = .running ∧ Ended t below o ∧ QT XN rm.cells rm.slots args s o t) (entryFrame m args maxL)) : MetT l y ws rm Pc XN := by
  refine MetFree.of_bodyS (code := cc) (maxLocals := maxL) (ret := ret) hy ?_ ?_
  · intro args s m h hn
    obtain ⟨meth, c, h1, h2, h3, h4, h5, h6, -, -⟩ := Cond.code_spec hn (atoms_spec (ws := ws) h _ (by rw [hw]; exact List.mem_cons_self))
    exact ⟨meth, c, h1, h2, h3, h4, h5, h6⟩
  · intro p e s m args below meth c s₁ B hml hP _
    have hh0 : s₁.heap = s.heap := by rw [B.state]; rfl
    have hcode : (Cond.code y cc maxL ret).before args s = true := atoms_spec (ws := ws) B.pre _ (by rw [hw]; exact List.mem_cons_self)
    obtain ⟨t, a1, o, b1, b2, b3⟩ := body p e s m args below meth c s₁ B hml (B.noHandlers hcode) hP s₁ hh0 (Stand.of_body B)
    exact ⟨t, o, a1, b1, b2, b3⟩
section TCALL
variable {p : Program} {l : Launch} {e : Env} {R : Room} {s : State} {m : MethodId} {args : Array Value} {below : List Frame} {meth : Method} {c : Code} {T : State} {locs : List Loc} {cells slots : Nat}
/-- the callee throws: the note lies over the caller's frame -/
theorem th_call (X : Stand p l e R s m args below meth c T locs cells slots) {y : MethodName} {ws : List Cond} {rm : Room} {Pc : Array Value → State → Prop} {XN : String} {bytes : ByteArray} {maxL : Nat} {ret : Option FieldType}
    (hM : MetT l y ws rm Pc XN) (hblind : FrameBlind Pc) (hframes : rm.frames + 1 ≤ R.frames) (hlocals : 8 + (maxL + 11) + rm.locals ≤ R.locals) (hcells : cells + rm.cells ≤ R.cells) (hslots : slots + rm.slots ≤ R.slots)
    (hws : ∀ w ∈ ws, ∀ (a' : Array Value) (U : State), s.WarmedH U.vm → w.before a' U = true) (hcode : Cond.code y bytes maxL ret ∈ ws) (hinit : ∀ (a' : Array Value) (U : State), s.WarmedH U.vm → (Cond.initialized y.cls).before a' U = true)
    {g : JFrame} (hg : g.method = m) (hsize : g.locals.size = c.maxLocals) {ig : Instr} (hdg : decode c.code g.pc = .ok (ig, 3)) (hW : 2 * g.monitorRoom + (g.stack.map fun v => v.category).sum ≤ 8) {mk : MethodId} (hn : T.methodNamed? y = some mk) {a : Array Value} (hP : Pc a T) :
    ∃ (q : Nat) (T' : State), Stand p l e R s m args below meth c T' locs (cells + rm.cells) (slots + rm.slots) ∧ T.heap.size ≤ T'.heap.size ∧ (∀ x : Nat, x < T.heap.size → T'.heap[x]? = T.heap[x]?) ∧ (∃ ce : Cell, T'.heap[q]? = some ce ∧ T.vm.findClass XN = some ce.cls ∧ ce.vm = .none ∧ T.vm.assignable ce.cls ce.cls = true) ∧ T.WarmedH T'.vm ∧
      ∀ acts, Steps p.tables e below (doInvoke e (T.setTop g) acts mk a).1 ((T'.setTop g).pushFrame (.throwing q)) := by
  have h1 : (headSpec ws rm).pre.before a T = true := atoms_intro fun w hw => hws w hw _ _ X.warmed
  have h2 := hws _ hcode a T X.warmed
  have h3 := hinit a T X.warmed
  obtain ⟨methY, cY, hmY, hcY, -, hlY, -⟩ := Cond.code_spec hn h2
  obtain ⟨kY, hkY, -⟩ := className_of_methodNamed hn
  have hinitY : kY.init = .initialized := Cond.initialized_spec (findClass_of_methodNamed hn) hkY h3
  have h : At T g.method c below := by rw [hg]; exact X.here
  have happ : (headSpec ws rm).appliesLoose y e.platform (T.calling g mk a) = true :=
    Spec.appliesLoose_calling (g := g) h hdg hn hkY hinitY
      (X.room_calling (g := g) (R' := (headSpec ws rm).room) hsize hmY hcY hframes (by rw [hlY]; show _ + rm.locals ≤ _; omega) hcells hslots) h1
  obtain ⟨mid, hmid⟩ := h.above
  have hfr : (T.setTop g).frames = (.java g :: mid) ++ below := by rw [State.frames_setTop' g h.top, hmid]; rfl
  obtain ⟨o, s₂, hsteps, -, hend, hq⟩ := Steps.callFree hM p X.admits X.cas X.clock (acts := []) hfr happ (hblind _ _ _ _ hP) trivial
  obtain ⟨q, rfl, hW₂, ⟨e2, q2, q3, q4, q5, q6⟩, ce, hce, hce2, hce3, hce4⟩ := hq
  rw [State.frames_setTop' g h.top] at hend
  have hf₂ : s₂.frames = .throwing q :: .java g :: T.frames.tail := hend
  have e3 : s₂ = ({ (T.calling g mk a).setFrames s₂.frames with heap := s₂.heap, slotsUsed := s₂.slotsUsed } : State).setVm s₂.vm := by
    have : s₂ = ({ s₂ with vm := (T.calling g mk a).vm } : State).setVm s₂.vm := rfl
    rw [show ({ s₂ with vm := (T.calling g mk a).vm } : State) = _ from e2] at this
    exact this
  have hW' : T.WarmedH s₂.vm := hW₂
  obtain ⟨g₀, hg0⟩ := Option.isSome_iff_exists.mp h.top
  obtain ⟨r, hr⟩ := State.topJava?_eq_some.mp hg0
  have hs₂ : s₂ = ((({ T with heap := s₂.heap, slotsUsed := s₂.slotsUsed } : State).setVm s₂.vm).setTop g).pushFrame (.throwing q) := by
    have hr' : (({ T with heap := s₂.heap, slotsUsed := s₂.slotsUsed } : State).setVm s₂.vm).frames = .java g₀ :: r := hr
    refine e3.trans ?_
    rw [hf₂, State.calling_eq h.top, State.setFrames_setFrames, State.pushFrame, State.frames_setTop _ hr', State.setTop_of_frames _ hr', State.setFrames_setFrames, hr]
    rfl
  have hsame : T.sameButNew ({ T with heap := s₂.heap, slotsUsed := s₂.slotsUsed } : State) [] rm.cells rm.slots := by
    refine ⟨?_, q2, q3, q4, q5, q6⟩
    obtain ⟨t, ht, -⟩ := State.frames_cons hr
    show ({ T with heap := s₂.heap, slotsUsed := s₂.slotsUsed } : State) = { T.setFrames T.frames with heap := s₂.heap, slotsUsed := s₂.slotsUsed }
    rw [State.setFrames_self ht]
  have hst : Stand p l e R s m args below meth c (({ T with heap := s₂.heap, slotsUsed := s₂.slotsUsed } : State).setVm s₂.vm) (locs ++ []) (cells + rm.cells) (slots + rm.slots) := by
    subst hg
    exact ⟨X.admits, X.cas, X.clock, X.frames, X.room, X.hears, X.method, X.code, (X.here.setHeapUsed s₂.heap s₂.slotsUsed).setVm hW'.alike, X.tail, State.WarmedH.trans X.warmed hW', X.limits, X.bytes, X.same.trans (hsame.setVm s.vm)⟩
  rw [List.append_nil] at hst
  refine ⟨q, _, hst, q2, fun x hx => same_cells hsame hx, ⟨ce, hce, hce2, hce3, hce4⟩, hW', fun acts => ?_⟩
  rw [← hs₂, doInvoke_state]
  exact hsteps
/-- the handler is found, its class being resolved on the way if need be -/
theorem th_finds {S0 : State} {f : JFrame} {q : Nat} {meth' : Method} {code' : Code} {x : ExceptionTableEntry} {cX : ClassId} {ce : Cell} {vm' : Vm} (hm : S0.vm.method? f.method = some meth') (hc : meth'.code = some code') (ht : code'.exceptionTable.toList = [x]) (hx : covers x f.pc = true) (h0 : x.catchType ≠ 0)
    (hg : (Jvm.resolveClass f.method.cls x.catchType).Gives e.toSetting S0.vm (.ok cX) vm') (hsz : vm'.classes.size ≤ S0.vm.classes.size) (hcell : S0.heap[q]? = some ce) (hobj : ∀ k, ce.vm ≠ .statics k) (hk : ∃ k, vm'.classes[ce.cls]? = some k) (hcl : ∃ k, vm'.classes[cX]? = some k) (hfit : vm'.assignable ce.cls cX = true)
    (Q : Handler → Jvm.Pre) (E : Jvm.CtlPost) (d : Bool) (acts : List Action) : Sem.wp (findHandler f q) Q E e d acts S0 ↔ Q (.found x.handlerPc) d acts (S0.setVm vm') := by
  rw [W.findHandler_eq hm hc, ht]
  simp only [covers] at hx
  obtain ⟨ha, ht⟩ := hg.op (op := VmOp.resolveClass f.method.cls x.catchType) rfl
  simp [findHandler.go, hx, h0, ha, ht, hsz, hcell, hobj, hk, hcl, hfit, VmOp.dirties, VmOp.acts]
end TCALL
/-- the step into the handler -/
theorem th_step {e : Env} {S0 S1 : State} {q : Nat} {f : JFrame} {r : List Frame} {pc : Nat} (hfind : ∀ (Q : Handler → Jvm.Pre) (E : Jvm.CtlPost) (d : Bool) (acts : List Action), wp (findHandler f q) Q E e d acts S0 ↔ Q (.found pc) d acts S1) :
    (stepThrowing e S0 q (.java f :: r)).Is (S1.setFrames (.java { f with pc := pc, stack := [.ref q] } :: r)) [] := by
  simp only [stepThrowing, searchFrame, vmDo]
  generalize hr : Sem.go _ e false [] S0 = res
  obtain ⟨as, rfl, ha⟩ := Sem.eq_ok_of hr (a := Handler.found pc) (s' := S1) (acts' := []) (by simp [hfind _ _ _ _])
  exact ⟨rfl, ha⟩
theorem th_caught {tb : Tables} {e : Env} {s target : State} {g : JFrame} {c : Code} {below : List Frame} {q : Nat} (h : At s g.method c below) {pc : Nat} {vm' : Vm} (hfind : ∀ (Q : Handler → Jvm.Pre) (E : Jvm.CtlPost) (d : Bool) (acts : List Action), wp (findHandler g q) Q E e d acts ((s.setTop g).pushFrame (.throwing q)) ↔ Q (.found pc) d acts (((s.setTop g).pushFrame (.throwing q)).setVm vm'))
    (hrest : Steps tb e below ((s.setVm vm').setTop { g with pc := pc, stack := [.ref q] }) target) :
    Steps tb e below ((s.setTop g).pushFrame (.throwing q)) target := by
  obtain ⟨hgo, hw⟩ := h.throwing q
  refine Steps.head hgo hw ?_
  rw [stepThread_throwing (frames_entered h.top _), (th_step (S0 := (s.setTop g).pushFrame (.throwing q)) hfind).1]
  obtain ⟨g₀, hg⟩ := Option.isSome_iff_exists.mp h.top
  obtain ⟨r, hr⟩ := State.topJava?_eq_some.mp hg
  have hr' : (s.setVm vm').frames = .java g₀ :: r := hr
  rw [State.setTop_of_frames _ hr'] at hrest
  have e9 : ∀ F : List Frame, (s.setFrames F).setVm vm' = (s.setVm vm').setFrames F := fun _ => rfl
  rw [State.pushFrame, State.setTop_of_frames _ hr, State.setFrames_setFrames, hr, e9, State.setFrames_setFrames]
  exact hrest
section TCATCH
variable {p : Program} {l : Launch} {e : Env} {R : Room} {s : State} {m : MethodId} {args : Array Value} {below : List Frame} {meth : Method} {c : Code} {T : State} {locs : List Loc} {cells slots : Nat}
/-- the note over the frame, a handler of the exception's own class: the walk goes on there -/
theorem th_catch (X : Stand p l e R s m args below meth c T locs cells slots) {own XN : String} {q : Nat} {x : ExceptionTableEntry} {ce : Cell} (hown : s.vm.findClass own = some m.cls) (hcl : (Cond.classLink own x.catchType XN).before args s = true) (ht : c.exceptionTable.toList = [x]) {g : JFrame} (hg : g.method = m) (hx : covers x g.pc = true) (h0 : x.catchType ≠ 0) (hcell : T.heap[q]? = some ce) (hce : s.vm.findClass XN = some ce.cls) (hvm : ce.vm = .none) (hfit : s.vm.assignable ce.cls ce.cls = true) :
    ∃ vm' : Vm, Stand p l e R s m args below meth c (T.setVm vm') locs cells slots ∧ ∀ target, Steps p.tables e below ((T.setVm vm').setTop { g with pc := x.handlerPc, stack := [.ref q] }) target → Steps p.tables e below ((T.setTop g).pushFrame (.throwing q)) target := by
  have hpl : e.platform.magicAccessors = ({} : Platform).magicAccessors := by rw [X.admits.platform]
  obtain ⟨cX, hfX, hlk⟩ := Cond.classLink_spec hown hcl e.platform hpl
  cases hce.symm.trans hfX
  have hlk0 := X.warmed.classLinks hlk
  obtain ⟨dk', _, _, _, hd', _, _, _, _, _, _, hopen⟩ := hlk.here
  have hW₁ : s.WarmedH (T.vm.noted m.cls x.catchType (.cls ce.cls)) := X.warmed.noted hd' hopen (State.rightAt_cls hlk)
  have hgv := resolveClass_links e.toSetting hlk0
  refine ⟨_, X.noted hW₁, fun target hrest => ?_⟩
  have h : At T g.method c below := by rw [hg]; exact X.here
  have hk1 : ∃ k, (T.vm.noted m.cls x.catchType (.cls ce.cls)).classes[ce.cls]? = some k := Vm.classAt_of_findClass (name := XN) (by rw [hW₁.alike.findClass]; exact hce)
  have hmeth : T.vm.method? m = some meth := X.method'
  have hcode : meth.code = some c := X.code
  refine th_caught h (fun Q E d acts => ?_) hrest
  have hvm0 : ((T.setTop g).pushFrame (.throwing q)).vm = T.vm := Stand.throwing_vm T g q
  have hheap0 : ((T.setTop g).pushFrame (.throwing q)).heap = T.heap := Stand.throwing_heap T g q
  exact th_finds (by rw [hvm0, hg]; exact hmeth) hcode ht hx h0 (by rw [hvm0, hg]; exact hgv) (by rw [hvm0]; no_record) (by rw [hheap0]; exact hcell) (fun k hk => by rw [hvm] at hk; cases hk) hk1 hk1 (by rw [hW₁.alike.assignable]; exact hfit) Q E d acts
end TCATCH
