/-! the throwing road: a new IndexOutOfBoundsException, thrown and caught -/
abbrev xN : String := "java/lang/IndexOutOfBoundsException"
abbrev xR : String := "java/lang/RuntimeException"
abbrev xE : String := "java/lang/Exception"
theorem same_cells {s t : State} {cells slots : Nat} (h : s.sameButNew t [] cells slots) {q : Nat} (hq : q < s.heap.size) : t.heap[q]? = s.heap[q]? := by
  have e0 : s.heap[q]? = some s.heap[q] := Array.getElem?_eq_getElem hq
  obtain ⟨c', h1, h2, h3, h4⟩ := h.2.2.2.2.2 q _ e0
  have h5 : c'.slots = (s.heap[q]).slots := Array.ext_getElem? (fun i => h4 i List.not_mem_nil)
  rw [h1, e0, h2, h5]
/-- cells that are read, not written -/
def roE (G : va_G) (ws : va_W) : (Nat → Prop) → State → Heap → Prop := fun A _ H => va_P G vwCl ws H ∧ ∀ (k : Nat) (q : Nat × va_E), ws[k]? = some q → ¬ A q.1
theorem roE_ok (G : va_G) (ws : va_W) : EOk (roE G ws) := ⟨fun _ _ _ _ _ h => h, fun _ _ _ _ _ h => h, fun A U H H1 hq h => ⟨h.1.kept (fun k x hx => hq x.1 ((h.1 k x hx).lt) (h.2 k x hx)), h.2⟩, fun A B U H hAB h => ⟨h.1, fun k q hk hb => h.2 k q hk (hAB _ hb)⟩⟩
/-- a static of Throwable that holds a reference -/
def stR (n d : String) : (Nat → Prop) → State → Heap → Prop := fun A U H => ∃ (c : ClassId) (k : Class) (i : Nat) (f : Field) (a : Nat) (cell : Cell) (v : Value), U.vm.findClass Bundle.tN = some c ∧ U.fieldFound? Bundle.tN n d = some (c, k, i, f) ∧ f.isStatic = true ∧ k.statics = some a ∧ H[a]? = some cell ∧ cell.vm.isStatics = true ∧ cell.cls = c ∧ f.slot < cell.slots.size ∧ k.staticTypes[f.slot]? = some f.type ∧ cell.slots[f.slot]? = some v ∧ v.isRef = true ∧ ¬ A a
theorem stR.moved {n d : String} {A : Nat → Prop} {u U : State} {H : Heap} (hvm : u.vm.Alike U.vm) (h : stR n d A u H) : stR n d A U H := by
  obtain ⟨c, k, i, f, a, cell, v, h1, h2, h3, h4, h5, h6, h7, h8, h9, h10⟩ := h
  obtain ⟨k', hi', he⟩ := State.fieldFound?_setVm hvm h2
  exact ⟨c, k', i, f, a, cell, v, by rw [hvm.findClass]; exact h1, hi', h3, by rw [he]; exact h4, h5, h6, h7, h8, by rw [he]; exact h9, h10⟩
theorem stR_ok (n d : String) : EOk (stR n d) := by
  refine ⟨fun _ _ _ _ w k => k.moved w.alike, fun _ _ _ _ w k => k.moved (al_of w), fun A U H H1 hq h => ?_, fun A B U H hAB h => ?_⟩
  · obtain ⟨c, k, i, f, a, cell, v, h1, h2, h3, h4, h5, h6, h7, h8, h9, h10, h11, h12⟩ := h
    exact ⟨c, k, i, f, a, cell, v, h1, h2, h3, h4, by rw [hq a (Array.getElem?_eq_some_iff.mp h5).1 h12]; exact h5, h6, h7, h8, h9, h10, h11, h12⟩
  · obtain ⟨c, k, i, f, a, cell, v, h1, h2, h3, h4, h5, h6, h7, h8, h9, h10, h11, h12⟩ := h
    exact ⟨c, k, i, f, a, cell, v, h1, h2, h3, h4, h5, h6, h7, h8, h9, h10, h11, fun z => h12 (hAB a z)⟩
theorem stR.lays {n d : String} {A : Nat → Prop} {s : State} {args : Array Value} (h : stR n d A s s.heap) : (Cond.laysStatic Bundle.tN n d).before args s = true := by
  obtain ⟨c, k, i, f, a, cell, v, h1, h2, h3, h4, h5, h6, h7, h8, h9, h10⟩ := h
  exact Cond.laysStatic_of h1 h2 h3 h4 h5 h6 h7 h8 h9
theorem stR.isRef {n d : String} {A : Nat → Prop} {s : State} {args : Array Value} (h : stR n d A s s.heap) : (Cond.isRef (.static Bundle.tN n d)).before args s = true := by
  obtain ⟨c, k, i, f, a, cell, v, h1, h2, h3, h4, h5, h6, h7, h8, h9, h10, h11, h12⟩ := h
  have hv := Term.static_eval (args := args) (first := s) (o := none) (idx := []) h2 h3 h4 h5 h6 h10
  cases v <;> first | (cases h11; done) | simp [Cond.before, Cond.holds, Cond.value, hv]
theorem stR.of {n d : String} {A : Nat → Prop} {s : State} {args : Array Value} (hl : (Cond.laysStatic Bundle.tN n d).before args s = true) (hr : (Cond.isRef (.static Bundle.tN n d)).before args s = true) (hA : ∀ a : Nat, a < s.heap.size → ¬ A a) : stR n d A s s.heap := by
  obtain ⟨c, k, i, f, a, cell, hc, hi, hst, ha, hcell, hs, hcls, hlt, hty⟩ := Cond.laysStatic_spec hl
  obtain ⟨v, hv, hv2⟩ := Cond.isRef_spec hr
  obtain ⟨-, a', cell', ha', hcell', -, hslot⟩ := Term.static_spec hi hv
  cases ha.symm.trans ha'
  cases hcell.symm.trans hcell'
  exact ⟨c, k, i, f, a, cell, v, hc, hi, hst, ha, hcell, hs, hcls, hlt, hty, hslot, hv2, hA a (Array.getElem?_eq_some_iff.mp hcell).1⟩
/-- what a new exception rests on, beside the tables' words that every call keeps -/
def thE : (Nat → Prop) → State → Heap → Prop := fun A U H => va_Nw (.declares (Bundle.init0 xR)) U ∧ va_Nw (.declares (Bundle.init0 xE)) U ∧ va_Nw (.declares (Bundle.init0 Bundle.tN)) U ∧ va_Nw (.castable xN xN) U ∧ stR "UNASSIGNED_STACK" Bundle.steD A U H ∧ stR "SUPPRESSED_SENTINEL" Bundle.listD A U H
theorem EOk_decl (x : MethodName) : EOk (fun _ U _ => va_Nw (.declares x) U) := ⟨fun _ _ _ _ w k => va_Nw.warmD w k, fun _ _ _ _ w k => va_Nw.same rfl w.symm k, fun _ _ _ _ _ k => k, fun _ _ _ _ _ k => k⟩
theorem EOk_cast (a b : String) : EOk (fun _ U _ => va_Nw (.castable a b) U) := ⟨fun _ _ _ _ w k => va_Nw.warmC w k, fun _ _ _ _ w k => va_Nw.same rfl w.symm k, fun _ _ _ _ _ k => k, fun _ _ _ _ _ k => k⟩
theorem thE_ok : EOk thE := (EOk_decl _).and ((EOk_decl _).and ((EOk_decl _).and ((EOk_cast _ _).and ((stR_ok _ _).and (stR_ok _ _)))))
set_option maxRecDepth 100000 in
set_option maxHeartbeats 4000000 in
theorem own_atoms {A : Nat → Prop} {s : State} {args : Array Value} (hts : ∀ w ∈ bw, w.before args s = true) (h : thE A s s.heap) : ∀ a ∈ Bundle.ownAtoms0 "ShortestPrinter" 40 xN [xR, xE], a.before args s = true := by
  obtain ⟨e1, e2, e3, e4, e5, e6⟩ := h
  have d1 : (Cond.declares (Bundle.init0 xR)).before args s = true := va_Nw.use rfl e1
  have d2 : (Cond.declares (Bundle.init0 xE)).before args s = true := va_Nw.use rfl e2
  have d3 : (Cond.declares (Bundle.init0 Bundle.tN)).before args s = true := va_Nw.use rfl e3
  have c1 : (Cond.castable xN xN).before args s = true := va_Nw.use rfl e4
  have u1 : (Cond.laysStatic Bundle.tN "UNASSIGNED_STACK" Bundle.steD).before args s = true := e5.lays
  have u2 : (Cond.laysStatic Bundle.tN "SUPPRESSED_SENTINEL" Bundle.listD).before args s = true := e6.lays
  have v1 : (Cond.isRef (.static Bundle.tN "UNASSIGNED_STACK" Bundle.steD)).before args s = true := e5.isRef
  have v2 : (Cond.isRef (.static Bundle.tN "SUPPRESSED_SENTINEL" Bundle.listD)).before args s = true := e6.isRef
  have g1 : ∀ a ∈ Bundle.throwableAtoms, a.before args s = true := List.forall_mem_cons.mpr ⟨hts _ kw_1_14, List.forall_mem_cons.mpr ⟨hts _ kw_2_86, List.forall_mem_cons.mpr ⟨hts _ kw_2_95, List.forall_mem_cons.mpr ⟨hts _ kw_2_97, List.forall_mem_cons.mpr ⟨hts _ kw_2_100, List.forall_mem_cons.mpr ⟨hts _ kw_2_102, List.forall_mem_cons.mpr ⟨hts _ kw_2_87, List.forall_mem_cons.mpr ⟨hts _ kw_2_88, List.forall_mem_cons.mpr ⟨hts _ kw_1_24, List.forall_mem_cons.mpr ⟨hts _ kw_1_25, List.forall_mem_cons.mpr ⟨hts _ kw_2_89, List.forall_mem_cons.mpr ⟨hts _ kw_2_94, List.forall_mem_cons.mpr ⟨hts _ kw_2_98, List.forall_mem_cons.mpr ⟨hts _ kw_2_114, List.forall_mem_cons.mpr ⟨hts _ kw_2_76, List.forall_mem_cons.mpr ⟨hts _ kw_2_115, List.forall_mem_cons.mpr ⟨hts _ kw_2_78, List.forall_mem_cons.mpr ⟨hts _ kw_2_116, List.forall_mem_cons.mpr ⟨hts _ kw_2_80, List.forall_mem_cons.mpr ⟨hts _ kw_2_90, List.forall_mem_cons.mpr ⟨u1, List.forall_mem_cons.mpr ⟨hts _ kw_2_92, List.forall_mem_cons.mpr ⟨u2, List.forall_mem_cons.mpr ⟨hts _ kw_2_82, fun _ h => absurd h List.not_mem_nil⟩⟩⟩⟩⟩⟩⟩⟩⟩⟩⟩⟩⟩⟩⟩⟩⟩⟩⟩⟩⟩⟩⟩⟩
  have g2 : ∀ a ∈ Bundle.passAtoms xN xR 1 Bundle.five, a.before args s = true := List.forall_mem_cons.mpr ⟨hts _ kw_2_104, List.forall_mem_cons.mpr ⟨hts _ kw_2_105, List.forall_mem_cons.mpr ⟨hts _ kw_2_106, List.forall_mem_cons.mpr ⟨hts _ kw_2_107, List.forall_mem_cons.mpr ⟨d1, fun _ h => absurd h List.not_mem_nil⟩⟩⟩⟩⟩
  have g3 : ∀ a ∈ Bundle.passAtoms xR xE 1 Bundle.five, a.before args s = true := List.forall_mem_cons.mpr ⟨hts _ kw_2_107, List.forall_mem_cons.mpr ⟨hts _ kw_2_108, List.forall_mem_cons.mpr ⟨hts _ kw_2_109, List.forall_mem_cons.mpr ⟨hts _ kw_2_110, List.forall_mem_cons.mpr ⟨d2, fun _ h => absurd h List.not_mem_nil⟩⟩⟩⟩⟩
  have g4 : ∀ a ∈ Bundle.passAtoms xE Bundle.tN 1 Bundle.five, a.before args s = true := List.forall_mem_cons.mpr ⟨hts _ kw_2_110, List.forall_mem_cons.mpr ⟨hts _ kw_2_111, List.forall_mem_cons.mpr ⟨hts _ kw_2_112, List.forall_mem_cons.mpr ⟨hts _ kw_2_87, List.forall_mem_cons.mpr ⟨d3, fun _ h => absurd h List.not_mem_nil⟩⟩⟩⟩⟩
  have g5 := (show ∀ a ∈ ([.methodLink "ShortestPrinter" 40 (Bundle.init0 xN), .instantiable xN 6, .castable xN xN, .selects xN Bundle.tFill0 Bundle.tFill0, .selects xN Bundle.tFill Bundle.tFill, .lays xN Bundle.tN "cause" "Ljava/lang/Throwable;", .lays xN Bundle.tN "stackTrace" Bundle.steD, .lays xN Bundle.tN "suppressedExceptions" Bundle.listD, .lays xN Bundle.tN "detailMessage" "Ljava/lang/String;", .isRef (.static Bundle.tN "UNASSIGNED_STACK" Bundle.steD), .isRef (.static Bundle.tN "SUPPRESSED_SENTINEL" Bundle.listD), .fieldLink Bundle.tN 198 Bundle.tN "backtrace" "Ljava/lang/Object;", .lays Bundle.tN Bundle.tN "backtrace" "Ljava/lang/Object;", .lays xN Bundle.tN "backtrace" "Ljava/lang/Object;"] : List Cond), a.before args s = true from List.forall_mem_cons.mpr ⟨hts _ kw_2_103, List.forall_mem_cons.mpr ⟨hts _ kw_2_65, List.forall_mem_cons.mpr ⟨c1, List.forall_mem_cons.mpr ⟨hts _ kw_2_73, List.forall_mem_cons.mpr ⟨hts _ kw_2_74, List.forall_mem_cons.mpr ⟨hts _ kw_2_75, List.forall_mem_cons.mpr ⟨hts _ kw_2_77, List.forall_mem_cons.mpr ⟨hts _ kw_2_79, List.forall_mem_cons.mpr ⟨hts _ kw_2_81, List.forall_mem_cons.mpr ⟨v1, List.forall_mem_cons.mpr ⟨v2, List.forall_mem_cons.mpr ⟨hts _ kw_2_85, List.forall_mem_cons.mpr ⟨hts _ kw_2_84, List.forall_mem_cons.mpr ⟨hts _ kw_2_83, fun _ h => absurd h List.not_mem_nil⟩⟩⟩⟩⟩⟩⟩⟩⟩⟩⟩⟩⟩⟩)
  exact List.forall_mem_append.mpr ⟨List.forall_mem_append.mpr ⟨g1, List.forall_mem_append.mpr ⟨g2, List.forall_mem_append.mpr ⟨g3, g4⟩⟩⟩, g5⟩
