/-! contracts that rest on things outside of their cells: statics, constants, texts -/
def EOk (E : (Nat → Prop) → State → Heap → Prop) : Prop := (∀ (A : Nat → Prop) (u U : State) (H : Heap), u.WarmedH U.vm → E A u H → E A U H) ∧ (∀ (A : Nat → Prop) (u U : State) (H : Heap), U.vm = u.vm → E A u H → E A U H) ∧ (∀ (A : Nat → Prop) (U : State) (H H1 : Heap), (∀ q : Nat, q < H.size → ¬ A q → H1[q]? = H[q]?) → E A U H → E A U H1) ∧ (∀ (A B : Nat → Prop) (U : State) (H : Heap), (∀ q, B q → A q) → E A U H → E B U H)
theorem EOk.and {E F : (Nat → Prop) → State → Heap → Prop} (h : EOk E) (g : EOk F) : EOk (fun A U H => E A U H ∧ F A U H) :=
  ⟨fun A u U H w k => ⟨h.1 A u U H w k.1, g.1 A u U H w k.2⟩, fun A u U H w k => ⟨h.2.1 A u U H w k.1, g.2.1 A u U H w k.2⟩, fun A U H H1 w k => ⟨h.2.2.1 A U H H1 w k.1, g.2.2.1 A U H H1 w k.2⟩, fun A B U H w k => ⟨h.2.2.2 A B U H w k.1, g.2.2.2 A B U H w k.2⟩⟩
theorem al_of {u U : State} (h : U.vm = u.vm) : u.vm.Alike U.vm := by rw [h]; exact Vm.Alike.refl u.vm
theorem EOk_O (n : String) (q : Nat) : EOk (fun A U H => va_O n q A U H) := ⟨fun _ _ _ _ w k => va_O.moved w.alike k, fun _ _ _ _ w k => va_O.moved (al_of w) k, fun _ _ _ _ w k => va_O.kept k w, fun _ _ _ _ w k => va_O.narrow k w⟩
theorem EOk_OF (o n d : String) (v : Value) (q : Nat) : EOk (fun A U H => va_OF o n d v q A U H) := ⟨fun _ _ _ _ w k => va_OF.moved w.alike k, fun _ _ _ _ w k => va_OF.moved (al_of w) k, fun _ _ _ _ w k => va_OF.kept k w, fun _ _ _ _ w k => va_OF.narrow k w⟩
theorem EOk_T (ty : FieldType) (q n : Nat) (f : Nat → Value) : EOk (fun A U H => va_T ty q n f A U H) := ⟨fun _ _ _ _ w k => va_T.moved w.alike k, fun _ _ _ _ w k => va_T.moved (al_of w) k, fun _ _ _ _ w k => va_T.kept k w, fun _ _ _ _ w k => va_T.narrow k w⟩
theorem EOk_Z (o n d : String) (v : Value) : EOk (fun A U H => va_Z o n d v A U H) := ⟨fun _ _ _ _ w k => va_Z.moved w.alike k, fun _ _ _ _ w k => va_Z.moved (al_of w) k, fun _ _ _ _ w k => va_Z.kept k w, fun _ _ _ _ w k => va_Z.narrow k w⟩
theorem EOk_R (own : String) (k : Nat) (tx : String) (a : Nat) : EOk (fun _ U _ => vk_R own k tx a U) := ⟨fun _ _ _ _ w k => vk_R.warm w k, fun _ _ _ _ w k => vk_R.same w k, fun _ _ _ _ _ k => k, fun _ _ _ _ _ k => k⟩
theorem EOk_N (a : String) (i : Nat) (x : MethodName) (h : String) : EOk (fun _ U _ => va_Nw (.methodLinkNest a i x h) U) := ⟨fun _ _ _ _ w k => va_Nw.warmM w k, fun _ _ _ _ w k => va_Nw.same rfl w.symm k, fun _ _ _ _ _ k => k, fun _ _ _ _ _ k => k⟩
abbrev cPE (E : (Nat → Prop) → State → Heap → Prop) (G : va_G) (tys : List (ClassId × FieldType)) (sz : Nat) (ws : va_W) : State → Prop := fun U => cP G tys sz ws U ∧ E (va_A ws sz) U U.heap
def CEv {S : Type} (E : (Nat → Prop) → State → Heap → Prop) (l : Launch) (G : va_G) (tys : List (ClassId × FieldType)) (y : MethodName) (cc : ByteArray) (maxL : Nat) (rm : Room) (av : List Value) (W0 : va_W) (post : S → Prop) (W1 : S → va_W) : Prop := ∀ sz : Nat, Met l y (wz y cc maxL none) rm (va_Pc av (cPE E G tys sz W0)) (va_Qv post (cB G tys (va_A W0 sz) W1) (va_A W0 sz)) rm.cells rm.slots (va_A W0 sz)
def CEi {S : Type} (E : (Nat → Prop) → State → Heap → Prop) (l : Launch) (G : va_G) (tys : List (ClassId × FieldType)) (y : MethodName) (cc : ByteArray) (maxL : Nat) (ty : FieldType) (rm : Room) (av : List Value) (W0 : va_W) (post : Int32 → S → Prop) (W1 : S → va_W) : Prop := ∀ sz : Nat, Met l y (wz y cc maxL (some ty)) rm (va_Pc av (cPE E G tys sz W0)) (va_Qi post (cB G tys (va_A W0 sz) W1) (va_A W0 sz)) rm.cells rm.slots (va_A W0 sz)
section HPD
variable {S : Type} {E : (Nat → Prop) → State → Heap → Prop} {l : Launch} {G : va_G} {tys : List (ClassId × FieldType)} {y : MethodName} {rm : Room} {av : List Value} {W0 : va_W} {W1 : S → va_W}
theorem mkVE {post : S → Prop} (cc : ByteArray) (maxL : Nat) (own : String) (hy : plainName y.cls = true) (hyo : y.cls = own) (hlen : (lg_sl av).length ≤ maxL)
    (body : ∀ (p : Program) (e : Env) (s : State) (m : MethodId) (args : Array Value) (below : List Frame) (meth : Method) (c : Code) (A : Nat → Prop) (Q : State → Prop) (ls : Array Slot), p.tables.exec = Jvm.exec → c.code = cc → c.maxLocals = maxL → (∀ w ∈ bw, w.before args s = true) → s.vm.findClass own = some m.cls → meth.name = y.name → va_K G vwCl tys s → va_P G vwCl W0 s.heap → va_D A W0 → (∀ q : Nat, s.heap.size ≤ q → A q) → E A s s.heap → lv_has ls maxL (lv_args 0 av) →
      (∀ (u : S) (H : Heap) (locs : List Loc) (pc : Nat) (ls : Array Slot), decode cc pc = .ok (.return_, 1) → post u → va_P G vwCl (W1 u) H → va_D A (W1 u) → va_S A s.heap H locs → W p l e rm s m args below meth c H locs rm.cells rm.slots Q (F0 m pc ls [])) →
      W p l e rm s m args below meth c s.heap [] 0 0 Q (F0 m 0 ls [])) : CEv E l G tys y cc maxL rm av W0 post W1 := by
  intro sz
  refine Met.ofW (cc := cc) (maxL := maxL) (ret := none) hy rfl ?_
  intro p e s m args below meth c s₁ B hml hv
  obtain ⟨rfl, ⟨hsz, hP, hK, hD0⟩, hE⟩ := hv
  subst hsz
  have hown : s.vm.findClass y.cls = some m.cls := findClass_of_methodNamed B.named
  rw [hyo] at hown
  have hlocks := B.notSynchronized
  have hD := hD0.self (sz := s.heap.size)
  have hl := lv_entry av (n := maxL) hlen
  rw [lg_entry_eq]
  exact body p e s m av.toArray below meth c (va_A W0 s.heap.size) _ _ B.exec B.bytes hml (fun w h => atoms_spec B.pre w (List.mem_cons_of_mem _ h)) hown (name_of_methodNamed B.named B.method).1 hK hP hD (fun q h => Or.inr h) hE hl (fun u H locs pc ls hdg hpost hP hD hS => W.vret B.exec B.bytes B.returns (fun t ht hW => ⟨⟨u, rfl, hpost, by rw [ht]; exact hP, va_K.moved hW.alike hK, hD⟩, hS.F ht⟩) hS.2.2 hdg)
theorem mkIE {post : Int32 → S → Prop} (cc : ByteArray) (maxL : Nat) (own : String) (ty : FieldType) (hy : plainName y.cls = true) (hyo : y.cls = own) (hlen : (lg_sl av).length ≤ maxL)
    (body : ∀ (p : Program) (e : Env) (s : State) (m : MethodId) (args : Array Value) (below : List Frame) (meth : Method) (c : Code) (A : Nat → Prop) (Q : State → Prop) (ls : Array Slot), p.tables.exec = Jvm.exec → c.code = cc → c.maxLocals = maxL → (∀ w ∈ bw, w.before args s = true) → s.vm.findClass own = some m.cls → meth.name = y.name → va_K G vwCl tys s → va_P G vwCl W0 s.heap → va_D A W0 → (∀ q : Nat, s.heap.size ≤ q → A q) → E A s s.heap → lv_has ls maxL (lv_args 0 av) →
      (∀ (r : Int32) (u : S) (H : Heap) (locs : List Loc) (pc : Nat) (ls : Array Slot), decode cc pc = .ok (.ireturn, 1) → narrow ty (.int r) = .int r → post r u → va_P G vwCl (W1 u) H → va_D A (W1 u) → va_S A s.heap H locs → W p l e rm s m args below meth c H locs rm.cells rm.slots Q (F0 m pc ls [.int r])) →
      W p l e rm s m args below meth c s.heap [] 0 0 Q (F0 m 0 ls [])) : CEi E l G tys y cc maxL ty rm av W0 post W1 := by
  intro sz
  refine Met.ofW (cc := cc) (maxL := maxL) (ret := some ty) hy rfl ?_
  intro p e s m args below meth c s₁ B hml hv
  obtain ⟨rfl, ⟨hsz, hP, hK, hD0⟩, hE⟩ := hv
  subst hsz
  have hown : s.vm.findClass y.cls = some m.cls := findClass_of_methodNamed B.named
  rw [hyo] at hown
  have hlocks := B.notSynchronized
  have hD := hD0.self (sz := s.heap.size)
  have hl := lv_entry av (n := maxL) hlen
  rw [lg_entry_eq]
  exact body p e s m av.toArray below meth c (va_A W0 s.heap.size) _ _ B.exec B.bytes hml (fun w h => atoms_spec B.pre w (List.mem_cons_of_mem _ h)) hown (name_of_methodNamed B.named B.method).1 hK hP hD (fun q h => Or.inr h) hE hl (fun r u H locs pc ls hdg hnar hpost hP hD hS => W.zret B.exec B.bytes B.returns hnar (fun t ht hW => ⟨⟨r, u, rfl, hpost, by rw [ht]; exact hP, va_K.moved hW.alike hK, hD⟩, hS.F ht⟩) hS.2.2 hdg)
end HPD
section HPE
variable {p : Program} {l : Launch} {e : Env} {R : Room} {s : State} {m : MethodId} {args : Array Value} {below : List Frame} {meth : Method} {c : Code} {H : Heap} {locs : List Loc} {cells slots : Nat} {Q : State → Prop}
variable {pc : Nat} {ls : Array Slot} {rest st0 : List Value} {A : Nat → Prop} {H0 : Heap} {G : va_G} {tys : List (ClassId × FieldType)} {ws Wc Wr : va_W} {a : Array Value} {mc ms : Nat} {S : Type} {W1 W2 : S → va_W} {E : (Nat → Prop) → State → Heap → Prop}
theorem preSE (hok : EOk E) (hE : E A s s.heap) (hS : va_S A s.heap H locs) (hA : ∀ q : Nat, s.heap.size ≤ q → A q) (hK : va_K G vwCl tys s) (hP : va_P G vwCl ws H) (hD : va_D A ws) (isC : List Nat) (hC : isC.map (fun i => ws[i]?) = Wc.map some) (hn : va_nd isC = true) {av : List Value} : PreS s H (va_Pc av (cPE E G tys H.size Wc)) av := by
  refine ⟨fun a U g mk q => ?_, fun U hU hW => ?_⟩
  · obtain ⟨q0, ⟨q1, qP, qK, qD⟩, qE⟩ := q
    exact ⟨q0, ⟨q1, qP, va_K.moved (u := U) (U := U.calling g mk a) (Vm.Alike.refl U.vm) qK, qD⟩, hok.2.1 _ U (U.calling g mk a) _ rfl qE⟩
  · refine ⟨rfl, ⟨by rw [hU], by rw [hU]; exact hP.sub isC (pick_fm isC hC), va_K.moved hW.alike hK, (hD.sub isC hn hC).weaken (fun _ _ _ _ => trivial)⟩, ?_⟩
    rw [hU]
    exact hok.1 _ s U H hW (hok.2.2.2 A _ s H (va_free hD hS hA isC hC) (hok.2.2.1 A s s.heap H hS.2.1 hE))
/-- a virtual call with such a contract: the receiver's class is known from outside or from the world -/
theorem rVE {y : MethodName} {cc bytes : ByteArray} {maxL nL n index b : Nat} {ret : Option FieldType} {rm : Room} {Qc : Array Value → State → Outcome → State → Prop} {free : Addr → Prop} {own C : String} {As : List Value} {g : JFrame} (hok : EOk E) (hE : E A s s.heap) (hS : va_S A s.heap H locs) (hA : ∀ q : Nat, s.heap.size ≤ q → A q) (hx : p.tables.exec = Jvm.exec) (hb : c.code = cc) (hml : c.maxLocals = nL) (hown : s.vm.findClass own = some m.cls) (hts : ∀ w ∈ bw, w.before args s = true) (hM : Met l y (wz y bytes maxL ret) rm (va_Pc (.ref b :: As) (cPE E G tys H.size Wc)) Qc rm.cells rm.slots free) (kc : Cond.code y bytes maxL ret ∈ bw) (kl : Cond.methodLink own index y ∈ bw) (ki : Cond.instanceMethod y ∈ bw) (ks : Cond.selects C y y ∈ bw) (kn : Cond.initialized y.cls ∈ bw) (hd : y.cls ≠ "java/lang/invoke/MethodHandle" ∧ y.cls ≠ "java/lang/invoke/VarHandle" ∧ (parseMethodDescriptor y.desc).map (fun d => d.parameters.length) = some n) (hR : rm.frames + 1 ≤ R.frames ∧ 8 + (maxL + 11) + rm.locals ≤ R.locals) (hK : va_K G vwCl tys s) (hP : va_P G vwCl ws H) (hD : va_D A ws) (isC : List Nat) (hC : isC.map (fun i => ws[i]?) = Wc.map some) (hnC : va_nd isC = true) (hrec : ∃ cell : Cell, H[b]? = some cell ∧ cell.vm.isStatics = false ∧ s.vm.findClass C = some cell.cls) (hg : g.method = m) (hn : As.length = n) (hsize : g.locals.size = nL) (hstack : g.stack = As.reverse ++ .ref b :: rest) (hW : 2 * g.monitorRoom + (rest.map fun v => v.category).sum ≤ 8) (hdg : decode cc g.pc = .ok (.invokevirtual index, 3)) (hf : cells + rm.cells ≤ R.cells ∧ slots + rm.slots ≤ R.slots) : va_Run p l e R s m args below meth c H locs cells slots rm.cells rm.slots g rest (Qc (Value.ref b :: As).toArray) free :=
  have hp := preSE (av := .ref b :: As) hok hE hS hA hK hP hD isC hC hnC
  va_runV ⟨hx, hb, hml, hown, hts⟩ hM ⟨callB_of n hts (gW kc) rfl rfl rfl (hts _ kn) (hts _ kl) hd hR, hts _ ki, hts _ ks⟩ ⟨hp.1, hrec, hp.2⟩ hg hn hsize hstack hW hdg hf
theorem rSE {y : MethodName} {cc bytes : ByteArray} {maxL nL n index : Nat} {ret : Option FieldType} {rm : Room} {Qc : Array Value → State → Outcome → State → Prop} {free : Addr → Prop} {own : String} {As : List Value} {g : JFrame} (hok : EOk E) (hE : E A s s.heap) (hS : va_S A s.heap H locs) (hA : ∀ q : Nat, s.heap.size ≤ q → A q) (hx : p.tables.exec = Jvm.exec) (hb : c.code = cc) (hml : c.maxLocals = nL) (hown : s.vm.findClass own = some m.cls) (hts : ∀ w ∈ bw, w.before args s = true) (hM : Met l y (wz y bytes maxL ret) rm (va_Pc As (cPE E G tys H.size Wc)) Qc rm.cells rm.slots free) (kc : Cond.code y bytes maxL ret ∈ bw) (kl : Cond.methodLink own index y ∈ bw) (ki : Cond.static y ∈ bw) (kn : Cond.initialized y.cls ∈ bw) (hd : y.cls ≠ "java/lang/invoke/MethodHandle" ∧ y.cls ≠ "java/lang/invoke/VarHandle" ∧ (parseMethodDescriptor y.desc).map (fun d => d.parameters.length) = some n) (hR : rm.frames + 1 ≤ R.frames ∧ 8 + (maxL + 11) + rm.locals ≤ R.locals) (hK : va_K G vwCl tys s) (hP : va_P G vwCl ws H) (hD : va_D A ws) (isC : List Nat) (hC : isC.map (fun i => ws[i]?) = Wc.map some) (hnC : va_nd isC = true) (hg : g.method = m) (hn : As.length = n) (hsize : g.locals.size = nL) (hstack : g.stack = As.reverse ++ rest) (hW : 2 * g.monitorRoom + (rest.map fun v => v.category).sum ≤ 8) (hdg : decode cc g.pc = .ok (.invokestatic index, 3)) (hf : cells + rm.cells ≤ R.cells ∧ slots + rm.slots ≤ R.slots) : va_Run p l e R s m args below meth c H locs cells slots rm.cells rm.slots g rest (Qc As.toArray) free :=
  va_runS ⟨hx, hb, hml, hown, hts⟩ hM ⟨callB_of n hts (gW kc) rfl rfl rfl (hts _ kn) (hts _ kl) hd hR, hts _ ki⟩ (preSE hok hE hS hA hK hP hD isC hC hnC) hg hn hsize hstack hW hdg hf
end HPE
/-- a text outside: a String q with its bytes v; the statics that String's methods read -/
def strE (r : Option Nat) (q v n : Nat) (f : Nat → Int32) : (Nat → Prop) → State → Heap → Prop := fun A U H => va_Z "java/lang/String" "COMPACT_STRINGS" "Z" (.int 1) A U H ∧ va_Z "jdk/internal/util/Preconditions" "SIOOBE_FORMATTER" "Ljava/util/function/BiFunction;" (va_rf r) A U H ∧ va_O "java/lang/String" q A U H ∧ va_OF "java/lang/String" "coder" "B" (.int 0) q A U H ∧ va_OF "java/lang/String" "value" "[B" (.ref v) q A U H ∧ va_T .byte v n (fun j => .int (f j)) A U H
theorem strE_ok (r : Option Nat) (q v n : Nat) (f : Nat → Int32) : EOk (strE r q v n f) := (EOk_Z _ _ _ _).and ((EOk_Z _ _ _ _).and ((EOk_O _ _).and ((EOk_OF _ _ _ _ _).and ((EOk_OF _ _ _ _ _).and (EOk_T _ _ _ _)))))
