/-! methods with a handler: their contracts; a throwing call in one of them -/
def wzW (y : MethodName) (cc : ByteArray) (maxL : Nat) (ret : Option FieldType) (hh : List (Nat × Nat × Nat × Nat)) : List Cond := Cond.codeWith y cc maxL ret hh :: bw
theorem gWW {y : MethodName} {cc : ByteArray} {maxL : Nat} {ret : Option FieldType} {hh : List (Nat × Nat × Nat × Nat)} (h : Cond.codeWith y cc maxL ret hh ∈ bw) : GoodIn bw (wzW y cc maxL ret hh) := fun w hw => (List.mem_cons.mp hw).elim (fun e => by rw [e]; exact bw_good h) bw_good
def CWi {S : Type} (E : (Nat → Prop) → State → Heap → Prop) (l : Launch) (G : va_G) (tys : List (ClassId × FieldType)) (y : MethodName) (cc : ByteArray) (maxL : Nat) (hh : List (Nat × Nat × Nat × Nat)) (ty : FieldType) (rm : Room) (av : List Value) (W0 : va_W) (post : Int32 → S → Prop) (W1 : S → va_W) : Prop := ∀ sz : Nat, Met l y (wzW y cc maxL (some ty) hh) rm (va_Pc av (cPE E G tys sz W0)) (va_Qi post (cB G tys (va_A W0 sz) W1) (va_A W0 sz)) rm.cells rm.slots (va_A W0 sz)
section HWW
variable {S : Type} {E : (Nat → Prop) → State → Heap → Prop} {l : Launch} {G : va_G} {tys : List (ClassId × FieldType)} {y : MethodName} {rm : Room} {av : List Value} {W0 : va_W} {W1 : S → va_W}
theorem mkIW {post : Int32 → S → Prop} (cc : ByteArray) (maxL : Nat) (hh : List (Nat × Nat × Nat × Nat)) (own : String) (ty : FieldType) (hy : plainName y.cls = true) (hyo : y.cls = own) (hlen : (lg_sl av).length ≤ maxL)
    (body : ∀ (p : Program) (e : Env) (s : State) (m : MethodId) (args : Array Value) (below : List Frame) (meth : Method) (c : Code) (A : Nat → Prop) (Q : State → Prop) (ls : Array Slot), p.tables.exec = Jvm.exec → c.code = cc → c.maxLocals = maxL → c.exceptionTable.toList.map (fun h => (h.startPc, h.endPc, h.handlerPc, h.catchType)) = hh → (∀ w ∈ bw, w.before args s = true) → s.vm.findClass own = some m.cls → va_K G vwCl tys s → va_P G vwCl W0 s.heap → va_D A W0 → (∀ q : Nat, s.heap.size ≤ q → A q) → E A s s.heap → lv_has ls maxL (lv_args 0 av) →
      (∀ (r : Int32) (u : S) (H : Heap) (locs : List Loc) (pc : Nat) (ls : Array Slot), decode cc pc = .ok (.ireturn, 1) → narrow ty (.int r) = .int r → post r u → va_P G vwCl (W1 u) H → va_D A (W1 u) → va_S A s.heap H locs → W p l e rm s m args below meth c H locs rm.cells rm.slots Q (F0 m pc ls [.int r])) →
      W p l e rm s m args below meth c s.heap [] 0 0 Q (F0 m 0 ls [])) : CWi E l G tys y cc maxL hh ty rm av W0 post W1 := by
  intro sz
  refine va_MetW (cc := cc) (maxL := maxL) (ret := some ty) (hh := hh) hy rfl ?_
  intro p e s m args below meth c s₁ B hml hv
  obtain ⟨rfl, ⟨hsz, hP, hK, hD0⟩, hE⟩ := hv
  subst hsz
  have hown : s.vm.findClass y.cls = some m.cls := findClass_of_methodNamed B.named
  rw [hyo] at hown
  have hlocks := B.notSynchronized
  have htab : c.exceptionTable.toList.map (fun h => (h.startPc, h.endPc, h.handlerPc, h.catchType)) = hh := by
    obtain ⟨m9, meth9, c9, hn9, h1, h2, -, -, h3, -⟩ := Cond.codeWith_spec (atoms_spec (ws := wzW y cc maxL (some ty) hh) B.pre _ List.mem_cons_self)
    cases B.named.symm.trans hn9
    cases B.method.symm.trans h1
    cases (Stand.of_body B).code.symm.trans h2
    exact h3
  have hD := hD0.self (sz := s.heap.size)
  have hl := lv_entry av (n := maxL) hlen
  rw [lg_entry_eq]
  exact body p e s m av.toArray below meth c (va_A W0 s.heap.size) _ _ B.exec B.bytes hml htab (fun w h => atoms_spec B.pre w (List.mem_cons_of_mem _ h)) hown hK hP hD (fun q h => Or.inr h) hE hl (fun r u H locs pc ls hdg hnar hpost hP hD hS => W.zret B.exec B.bytes B.returns hnar (fun t ht hW => ⟨⟨r, u, rfl, hpost, by rw [ht]; exact hP, va_K.moved hW.alike hK, hD⟩, hS.F ht⟩) hS.2.2 hdg)
end HWW
section HWC
variable {p : Program} {l : Launch} {e : Env} {R : Room} {s : State} {m : MethodId} {args : Array Value} {below : List Frame} {meth : Method} {c : Code} {H : Heap} {locs : List Loc} {cells slots : Nat} {Q : State → Prop}
variable {pc : Nat} {ls : Array Slot} {rest st0 : List Value} {A : Nat → Prop} {H0 : Heap} {G : va_G} {tys : List (ClassId × FieldType)} {ws Wc Wr : va_W} {a : Array Value} {mc ms : Nat} {S : Type} {W1 W2 : S → va_W} {E : (Nat → Prop) → State → Heap → Prop}
/-- a virtual call that throws what a handler here takes -/
theorem th_W {y : MethodName} {cc bytes : ByteArray} {maxL nL n index b : Nat} {ret : Option FieldType} {rm : Room} {Pc : Array Value → State → Prop} {own C XN : String} {As : List Value} {x : ExceptionTableEntry} (hx : p.tables.exec = Jvm.exec) (hb : c.code = cc) (hml : c.maxLocals = nL) (hown : s.vm.findClass own = some m.cls) (hts : ∀ w ∈ bw, w.before args s = true) (hM : MetT l y (wz y bytes maxL ret) rm Pc XN) (kc : Cond.code y bytes maxL ret ∈ bw) (kl : Cond.methodLink own index y ∈ bw) (ki : Cond.instanceMethod y ∈ bw) (ks : Cond.selects C y y ∈ bw) (kn : Cond.initialized y.cls ∈ bw) (kx : Cond.classLink own x.catchType XN ∈ bw) (hd : y.cls ≠ "java/lang/invoke/MethodHandle" ∧ y.cls ≠ "java/lang/invoke/VarHandle" ∧ (parseMethodDescriptor y.desc).map (fun d => d.parameters.length) = some n) (hR : rm.frames + 1 ≤ R.frames ∧ 8 + (maxL + 11) + rm.locals ≤ R.locals) (hp : PreS s H Pc (.ref b :: As)) (hrec : ∃ cell : Cell, H[b]? = some cell ∧ cell.vm.isStatics = false ∧ s.vm.findClass C = some cell.cls)
    (ht : c.exceptionTable.toList = [x]) (hcv : covers x pc = true) (h0 : x.catchType ≠ 0) (hn : As.length = n) (hsize : ls.size = nL) (hW : (rest.map fun v => v.category).sum ≤ 8) (hdg : decode cc pc = .ok (.invokevirtual index, 3)) (hf : cells + rm.cells ≤ R.cells ∧ slots + rm.slots ≤ R.slots)
    (kk : ∀ (q : Nat) (H1 : Heap), H.size ≤ H1.size → (∀ z : Nat, z < H.size → H1[z]? = H[z]?) → W p l e R s m args below meth c H1 locs (cells + rm.cells) (slots + rm.slots) Q (F0 m x.handlerPc ls [.ref q])) : W p l e R s m args below meth c H locs cells slots Q (F0 m pc ls (As.reverse ++ .ref b :: rest)) := by
  intro T hT X
  obtain ⟨cellB, hcB, hoB, hclB⟩ := hrec
  have hcode := hts _ kc
  have hinst := hts _ ki
  obtain ⟨mk, methM, hnamed, hmethM, hstM, habM⟩ := Cond.instanceMethod_spec hinst
  obtain ⟨methM', cM, hmethM', -, -, -, -, -, -, hsigM⟩ := Cond.code_spec hnamed hcode
  cases hmethM.symm.trans hmethM'
  obtain ⟨c2, r2, m2, q1, q2, q3, q4, kP, hkP, hkPi⟩ := Cond.selects_spec (hts _ ks)
  cases hclB.symm.trans q1
  cases (State.methodFound?_of_named hnamed ⟨hd.1, hd.2.1⟩).symm.trans q2
  cases hnamed.symm.trans q3
  have hselP : selectMethod e.platform s.vm cellB.cls mk = .method mk := by rw [Launch.admits_selectMethod X.admits]; exact q4
  have hlen : As.length = methM.sig.parameters.length := by
    have h2 := hd.2.2
    rw [hsigM] at h2
    rw [hn]
    exact (Option.some.inj h2).symm
  obtain ⟨vm₁, X₁, hstep₁⟩ := X.invokevirtual hx hown (hts _ kl) hnamed hmethM hstM hkP hkPi ⟨hd.1, hd.2.1⟩ (a := b) (cell := cellB) (by rw [hT]; exact hcB)
    (fun z h => by rw [h] at hoB; cases hoB) hselP hmethM habM hkP hkPi (g := F0 m pc ls (As.reverse ++ .ref b :: rest)) rfl (argsL := As) (rest := rest) hlen rfl (by rw [hb]; exact hdg)
  obtain ⟨q, T', X', hz1, hk1, ⟨ce, c1, c2', c3, c4⟩, hW', hst⟩ := th_call X₁ (bytes := bytes) (maxL := maxL) (ret := ret) hM hp.1 hR.1 hR.2 hf.1 hf.2 (pay_in hts (gW kc)) List.mem_cons_self (fun a' U hU => word_at hU (bw_good kn).2 (hts _ kn)) (g := F0 m pc ls rest) rfl (hsize.trans hml.symm) (by rw [hb]; exact hdg) (by simpa using hW) (X₁.named hnamed) (hp.2 _ hT X₁.warmed)
  obtain ⟨vm', X'', hst2⟩ := th_catch X' (own := own) (XN := XN) (q := q) (x := x) (ce := ce) hown (hts _ kx) ht (g := F0 m pc ls rest) rfl hcv h0 c1 (by rw [← X₁.warmed.alike.findClass]; exact c2') c3 (by rw [← X₁.warmed.alike.assignable]; exact c4)
  obtain ⟨t, st, hQ⟩ := kk q T'.heap (by rw [← hT]; exact hz1) (fun z hz => by rw [hk1 z (by show z < T.heap.size; rw [hT]; exact hz)]; show T.heap[z]? = H[z]?; rw [hT]) (T'.setVm vm') rfl X''
  exact ⟨t, hstep₁ _ fun acts => (hst acts).trans (hst2 _ st), hQ⟩
/-- a static call of a method with a handler -/
theorem th_callS {T : State} (X : Stand p l e R s m args below meth c T locs cells slots) (hexec : p.tables.exec = Jvm.exec) {own : String} {index : Nat} {y : MethodName} {bytes : ByteArray} {maxL : Nat} {ret : Option FieldType} {hh : List (Nat × Nat × Nat × Nat)}
    (hown : s.vm.findClass own = some m.cls) (hlink : (Cond.methodLink own index y).before args s = true) (hstat : (Cond.static y).before args s = true) (hinit : (Cond.initialized y.cls).before args s = true)
    (hcode : (Cond.codeWith y bytes maxL ret hh).before args s = true) (hy : y.cls ≠ "java/lang/invoke/MethodHandle" ∧ y.cls ≠ "java/lang/invoke/VarHandle")
    {W : Nat} {Pre : Pt → Array Value → Prop} {Post : Pt → Array Value → Option Value → Pt → Prop} (hK : Back l R p e below s args y 3 W Pre Post)
    {g : JFrame} (hg : g.method = m) (hsize : g.locals.size = c.maxLocals) {argsL rest : List Value} (hlen : ∀ sig, parseMethodDescriptor y.desc = some sig → argsL.length = sig.parameters.length)
    (hstack : g.stack = argsL.reverse ++ rest) (hW : 2 * g.monitorRoom + (rest.map fun v => v.category).sum ≤ W) (hdg : decode c.code g.pc = .ok (.invokestatic index, 3))
    (hpre : ∀ vm₁, s.WarmedH vm₁ → Pre ⟨T.setVm vm₁, locs, cells, slots⟩ argsL.toArray) :
    ∃ (v : Option Value) (vm₁ : Vm) (B : Pt), s.WarmedH vm₁ ∧ Stand p l e R s m args below meth c B.U B.locs B.cells B.slots ∧ Post ⟨T.setVm vm₁, locs, cells, slots⟩ argsL.toArray v B ∧
      ∀ target, Steps p.tables e below (B.U.setTop { g with pc := g.pc + 3, stack := v.toList ++ rest }) target → Steps p.tables e below (T.setTop g) target := by
  obtain ⟨mk, methM, cM, hnamed, hmethM, -, -, -, -, -, -, hsigM⟩ := Cond.codeWith_spec hcode
  have hstatic : methM.isStatic = true := Cond.static_spec hnamed hmethM hstat
  obtain ⟨kP, hkP, -⟩ := className_of_methodNamed hnamed
  have hinitP : kP.init = .initialized := Cond.initialized_spec (findClass_of_methodNamed hnamed) hkP hinit
  obtain ⟨vm₁, X₁, hstep₁⟩ := X.invokestatic hexec hown hlink hnamed hmethM hstatic hkP hinitP hy (g := g) hg (argsL := argsL) (rest := rest) (hlen _ hsigM) hstack hdg
  obtain ⟨v, B, X', hpost, hsteps⟩ := hK m meth c ⟨T.setVm vm₁, locs, cells, slots⟩ { g with stack := rest } (.invokestatic index) mk argsL.toArray X₁ hg hsize hdg hW (X₁.named hnamed) (hpre vm₁ X₁.warmed)
  exact ⟨v, vm₁, B, X₁.warmed, X', hpost, fun target h => hstep₁ _ fun acts => by rw [doInvoke_state]; exact hsteps.trans h⟩
theorem rSW {y : MethodName} {cc bytes : ByteArray} {maxL nL n index : Nat} {ret : Option FieldType} {hh : List (Nat × Nat × Nat × Nat)} {rm : Room} {Qc : Array Value → State → Outcome → State → Prop} {free : Addr → Prop} {own : String} {As : List Value} {g : JFrame} {Pc : Array Value → State → Prop} (hx : p.tables.exec = Jvm.exec) (hb : c.code = cc) (hml : c.maxLocals = nL) (hown : s.vm.findClass own = some m.cls) (hts : ∀ w ∈ bw, w.before args s = true) (hM : Met l y (wzW y bytes maxL ret hh) rm Pc Qc rm.cells rm.slots free) (kc : Cond.codeWith y bytes maxL ret hh ∈ bw) (kl : Cond.methodLink own index y ∈ bw) (ki : Cond.static y ∈ bw) (kn : Cond.initialized y.cls ∈ bw) (hd : y.cls ≠ "java/lang/invoke/MethodHandle" ∧ y.cls ≠ "java/lang/invoke/VarHandle" ∧ (parseMethodDescriptor y.desc).map (fun d => d.parameters.length) = some n) (hR : rm.frames + 1 ≤ R.frames ∧ 8 + (maxL + 11) + rm.locals ≤ R.locals) (hp : PreS s H Pc As)
    (hg : g.method = m) (hn : As.length = n) (hsize : g.locals.size = nL) (hstack : g.stack = As.reverse ++ rest) (hW : 2 * g.monitorRoom + (rest.map fun v => v.category).sum ≤ 8) (hdg : decode cc g.pc = .ok (.invokestatic index, 3)) (hf : cells + rm.cells ≤ R.cells ∧ slots + rm.slots ≤ R.slots) : va_Run p l e R s m args below meth c H locs cells slots rm.cells rm.slots g rest (Qc As.toArray) free := by
  have hK : Back l R p e below s args y 3 8 (PreOf R rm.cells rm.slots Pc) (PostOf Qc rm.cells rm.slots free) := va_backW (hh := hh) (bytes := bytes) (maxL := maxL) (ret := ret) hM hp.1 rfl rfl hR.1 hR.2 (pay_in hts (gWW kc)) List.mem_cons_self (fun a' U hU => word_at hU (bw_good kn).2 (hts _ kn))
  intro T hT X
  obtain ⟨v, vm₁, ⟨U', l2, c2, s2⟩, hW₁, X', ⟨g', mk, t, L, e1, e2, hq, h1, hL, h2, h3⟩, st⟩ := th_callS X hx (hh := hh) (bytes := bytes) (maxL := maxL) (ret := ret) hown (hts _ kl) (hts _ ki) (hts _ kn) (hts _ kc) ⟨hd.1, hd.2.1⟩ hK hg (hsize.trans hml.symm) (argsL := As) (rest := rest) (fun sig h => by have h9 := hd.2.2; rw [h] at h9; rw [hn]; exact (Option.some.inj h9).symm) hstack hW (by rw [hb]; exact hdg)
    (fun vm₁ hW₁ => ⟨hf.1, hf.2, hp.2 (T.setVm vm₁) hT hW₁⟩)
  dsimp only [Pt.U, Pt.locs, Pt.cells, Pt.slots] at X' e1 e2 h1 h2 h3 st
  subst h1; subst h2; subst h3
  exact ⟨v, (T.setVm vm₁).calling g' mk As.toArray, t, U', L, hT, X', hL, e1, e2, hq, st⟩
end HWC
