/-! contracts that answer a cell; a text that was just made -/
theorem apart_free {A : Nat → Prop} {ws Wc : va_W} {H : Heap} (hD : va_D A ws) (isC : List Nat) (hC : isC.map (fun i => ws[i]?) = Wc.map some) {i0 q : Nat} {e : va_E} (hi : ws[i0]? = some (q, e)) (hno : i0 ∉ isC) (hlt : q < H.size) : ¬ va_A Wc H.size q := by
  intro h
  rcases h with ⟨k, e', hk⟩ | h
  · have h1 : (isC.map (fun i => ws[i]?))[k]? = (Wc.map some)[k]? := by rw [hC]
    rw [List.getElem?_map, List.getElem?_map, hk] at h1
    cases h2 : isC[k]? with
    | none => rw [h2] at h1; simp at h1
    | some i =>
      rw [h2] at h1
      simp only [Option.map_some, Option.some.injEq] at h1
      have h3 := hD.1 i i0 _ _ h1 hi rfl
      exact hno (h3 ▸ List.mem_of_getElem? h2)
  · omega
theorem O_new {G : va_G} {tys : List (ClassId × FieldType)} {ws : va_W} {H : Heap} {s : State} {B : Nat → Prop} {i0 q : Nat} {fs : List Value} (hK : va_K G vwCl tys s) (hP : va_P G vwCl ws H) (he : ws[i0]? = some (q, .inr (6, fs))) (hB : ¬ B q) : va_O "java/lang/String" q B s H := by
  obtain ⟨cell, h1, h2, h3⟩ := va_recv (q := (RJS, TJS, 4)) hK hP rfl he
  exact ⟨cell, h1, h2, h3, hB⟩
theorem OF_new {G : va_G} {tys : List (ClassId × FieldType)} {ws : va_W} {H : Heap} {s : State} {args : Array Value} {B : Nat → Prop} {i0 q : Nat} {fs : List Value} {v : Value} (hts : ∀ w ∈ bw, w.before args s = true) (hK : va_K G vwCl tys s) (hP : va_P G vwCl ws H) (he : ws[i0]? = some (q, .inr (6, fs))) (k : Nat) (hk : k < 4) (hv : fs[k]? = some v) (hB : ¬ B q) : va_OF (TJS k).1 (TJS k).2.1 (TJS k).2.2.1 v q B s H := by
  obtain ⟨r, h1, cell, q1, q2, q3, q4⟩ := hP i0 _ he
  have hr : r = (RJS, TJS, 4) := Option.some.inj (h1.symm.trans rfl)
  subst hr
  obtain ⟨hS, hfc, kC, hkC, hkind⟩ := hK.1 6 (RJS, TJS, 4) rfl
  obtain ⟨cf, kf, fi, f, hi, hsl⟩ := hS k hk
  exact ⟨cf, kf, fi, f, cell, hi, (u_facts hfc hkC (u_lays hts inJS hk) hi).1, q1, (fun h => by rw [q3] at h; cases h), (by rw [hsl, q4 k hk]; simp [vp_V, hv]), hB⟩
theorem T_new {G : va_G} {cI cB cC cJ : ClassId} {ws : va_W} {H : Heap} {s : State} {B : Nat → Prop} {i1 b n : Nat} {f : Nat → Int32} (hK : va_K G vwCl (tyL cI cB cC cJ) s) (hP : va_P G vwCl ws H) (he : ws[i1]? = some (b, .inl (cB, n, .inl f))) (hB : ¬ B b) : va_T .byte b n (fun j => .int (f j)) B s H := by
  have h := hP i1 _ he
  refine ⟨_, h, (hK.2 1 (cB, .byte) rfl).1 n (fun j => .int (f j)), (fun h => by cases h), ?_, ?_, fun j hj => arrV_read cB _ hj, hB⟩
  · exact Nat.le_of_eq (arrV_size cB n (fun j => .int (f j))).symm
  · exact congrArg Int32.ofNat (arrV_size cB n (fun j => .int (f j)))
/-- a new String and its bytes are a text for a callee whose cells they aren't -/
theorem str_new {G : va_G} {cI cB cC cJ : ClassId} {ws Wc : va_W} {H : Heap} {s : State} {args : Array Value} {A : Nat → Prop} {r : Option Nat} {i0 i1 q b n : Nat} {f : Nat → Int32} {h1 h2 : Value} (hts : ∀ w ∈ bw, w.before args s = true) (hK : va_K G vwCl (tyL cI cB cC cJ) s) (hP : va_P G vwCl ws H) (hD : va_D A ws) (isC : List Nat) (hC : isC.map (fun i => ws[i]?) = Wc.map some) (he : ws[i0]? = some (q, .inr (6, [.ref b, .int 0, h1, h2]))) (he1 : ws[i1]? = some (b, .inl (cB, n, .inl f))) (n0 : i0 ∉ isC) (n1 : i1 ∉ isC) (z1 : va_Z "java/lang/String" "COMPACT_STRINGS" "Z" (.int 1) (va_A Wc H.size) s H) (z2 : va_Z "jdk/internal/util/Preconditions" "SIOOBE_FORMATTER" "Ljava/util/function/BiFunction;" (va_rf r) (va_A Wc H.size) s H) : strE r q b n f (va_A Wc H.size) s H := by
  have l0 : q < H.size := by
    obtain ⟨cell, g1, -, -⟩ := va_recv (q := (RJS, TJS, 4)) hK hP rfl he
    exact (Array.getElem?_eq_some_iff.mp g1).1
  have l1 : b < H.size := by
    have g1 : H[b]? = some _ := hP i1 _ he1
    exact (Array.getElem?_eq_some_iff.mp g1).1
  have a0 := apart_free (H := H) hD isC hC he n0 l0
  have a1 := apart_free (H := H) hD isC hC he1 n1 l1
  exact ⟨z1, z2, O_new hK hP he a0, OF_new hts hK hP he 1 (by decide) rfl a0, OF_new hts hK hP he 0 (by decide) rfl a0, T_new hK hP he1 a1⟩
def CEr {S : Type} (E : (Nat → Prop) → State → Heap → Prop) (l : Launch) (G : va_G) (tys : List (ClassId × FieldType)) (y : MethodName) (cc : ByteArray) (maxL : Nat) (ty : FieldType) (rm : Room) (av : List Value) (W0 : va_W) (post : S → Prop) (W1 : S → Nat → va_W) : Prop := ∀ sz : Nat, Met l y (wz y cc maxL (some ty)) rm (va_Pc av (cPE E G tys sz W0)) (va_Qr post (fun u a t => va_P G vwCl (W1 u a) t.heap ∧ va_K G vwCl tys t ∧ va_D (va_A W0 sz) (W1 u a)) (va_A W0 sz)) rm.cells rm.slots (va_A W0 sz)
section HPF
variable {S : Type} {E : (Nat → Prop) → State → Heap → Prop} {l : Launch} {G : va_G} {tys : List (ClassId × FieldType)} {y : MethodName} {rm : Room} {av : List Value} {W0 : va_W} {W1 : S → Nat → va_W}
theorem mkRE {post : S → Prop} (cc : ByteArray) (maxL : Nat) (own cn : String) (hy : plainName y.cls = true) (hyo : y.cls = own) (hlen : (lg_sl av).length ≤ maxL)
    (body : ∀ (p : Program) (e : Env) (s : State) (m : MethodId) (args : Array Value) (below : List Frame) (meth : Method) (c : Code) (A : Nat → Prop) (Q : State → Prop) (ls : Array Slot), p.tables.exec = Jvm.exec → c.code = cc → c.maxLocals = maxL → (∀ w ∈ bw, w.before args s = true) → s.vm.findClass own = some m.cls → meth.name = y.name → va_K G vwCl tys s → va_P G vwCl W0 s.heap → va_D A W0 → (∀ q : Nat, s.heap.size ≤ q → A q) → E A s s.heap → lv_has ls maxL (lv_args 0 av) →
      (∀ (ra : Nat) (u : S) (H : Heap) (locs : List Loc) (pc : Nat) (ls : Array Slot), decode cc pc = .ok (.areturn, 1) → post u → va_P G vwCl (W1 u ra) H → va_D A (W1 u ra) → va_S A s.heap H locs → W p l e rm s m args below meth c H locs rm.cells rm.slots Q (F0 m pc ls [.ref ra])) →
      W p l e rm s m args below meth c s.heap [] 0 0 Q (F0 m 0 ls [])) : CEr E l G tys y cc maxL (.object cn) rm av W0 post W1 := by
  intro sz
  refine Met.ofW (cc := cc) (maxL := maxL) (ret := some (.object cn)) hy rfl ?_
  intro p e s m args below meth c s₁ B hml hv
  obtain ⟨rfl, ⟨hsz, hP, hK, hD0⟩, hE⟩ := hv
  subst hsz
  have hown : s.vm.findClass y.cls = some m.cls := findClass_of_methodNamed B.named
  rw [hyo] at hown
  have hlocks := B.notSynchronized
  have hD := hD0.self (sz := s.heap.size)
  have hl := lv_entry av (n := maxL) hlen
  rw [lg_entry_eq]
  exact body p e s m av.toArray below meth c (va_A W0 s.heap.size) _ _ B.exec B.bytes hml (fun w h => atoms_spec B.pre w (List.mem_cons_of_mem _ h)) hown (name_of_methodNamed B.named B.method).1 hK hP hD (fun q h => Or.inr h) hE hl (fun ra u H locs pc ls hdg hpost hP hD hS => W.aret B.exec B.bytes B.returns (Or.inl ⟨cn, rfl⟩) (Or.inr ⟨ra, rfl⟩) (fun t ht hW => ⟨⟨u, ra, rfl, hpost, by rw [ht]; exact hP, va_K.moved hW.alike hK, hD⟩, hS.F ht⟩) hS.2.2 hdg)
end HPF
section HPG
variable {p : Program} {l : Launch} {e : Env} {R : Room} {s : State} {m : MethodId} {args : Array Value} {below : List Frame} {meth : Method} {c : Code} {H : Heap} {locs : List Loc} {cells slots : Nat} {Q : State → Prop}
variable {pc : Nat} {ls : Array Slot} {rest st0 : List Value} {A : Nat → Prop} {H0 : Heap} {G : va_G} {tys : List (ClassId × FieldType)} {ws Wc Wr : va_W} {a : Array Value} {mc ms : Nat} {S : Type} {W1 W2 : S → Nat → va_W} {E : (Nat → Prop) → State → Heap → Prop}
theorem jnR {post : S → Prop} (hr : va_Run p l e R s m args below meth c H locs cells slots mc ms (F0 m pc ls st0) rest (va_Qr post (fun u a t => va_P G vwCl (W1 u a) t.heap ∧ va_K G vwCl tys t ∧ va_D (va_A Wc H.size) (W1 u a)) (va_A Wc H.size) a) (va_A Wc H.size)) (hP : va_P G vwCl ws H) (hD : va_D A ws) (hS : va_S A H0 H locs) (hA : ∀ q, H0.size ≤ q → A q) (isC isR is2 : List Nat) (hC : isC.map (fun i => ws[i]?) = Wc.map some) (hR : isR.map (fun i => ws[i]?) = Wr.map some) (hn : va_nd isR = true) (hdis : ∀ i ∈ isR, i ∉ isC) (h2 : ∀ u ra, is2.map (fun i => (Wr ++ W1 u ra)[i]?) = (W2 u ra).map some) (hn2 : va_nd is2 = true)
    (kk : ∀ (u : S) (ra : Nat) (H : Heap) (locs : List Loc), post u → va_P G vwCl (W2 u ra) H → va_D A (W2 u ra) → va_S A H0 H locs → W p l e R s m args below meth c H locs (cells + mc) (slots + ms) Q (F0 m (pc + 3) ls (.ref ra :: rest))) : W p l e R s m args below meth c H locs cells slots Q (F0 m pc ls st0) := by
  have hF := va_free hD hS hA isC hC
  refine va_callr hr hS (fun q _ h => hF q h) hF (fun u ra t H1 locs1 ht hvm hw hB hz1 hk1 hS1 => ?_)
  obtain ⟨hP1, hK1, hD1⟩ := hB
  rw [ht] at hP1
  obtain ⟨hP2, hD2⟩ := va_join hP hD isC isR hC hR hn hdis hk1 hF hP1 hD1
  exact kk u ra H1 locs1 hw (hP2.sub is2 (pick_fm is2 (h2 u ra))) (hD2.sub is2 hn2 (h2 u ra)) hS1
theorem preSF (hok : EOk E) (hE : E (va_A Wc H.size) s H) (hK : va_K G vwCl tys s) (hP : va_P G vwCl ws H) (hD : va_D A ws) (isC : List Nat) (hC : isC.map (fun i => ws[i]?) = Wc.map some) (hn : va_nd isC = true) {av : List Value} : PreS s H (va_Pc av (cPE E G tys H.size Wc)) av := by
  refine ⟨fun a U g mk q => ?_, fun U hU hW => ?_⟩
  · obtain ⟨q0, ⟨q1, qP, qK, qD⟩, qE⟩ := q
    exact ⟨q0, ⟨q1, qP, va_K.moved (u := U) (U := U.calling g mk a) (Vm.Alike.refl U.vm) qK, qD⟩, hok.2.1 _ U (U.calling g mk a) _ rfl qE⟩
  · refine ⟨rfl, ⟨by rw [hU], by rw [hU]; exact hP.sub isC (pick_fm isC hC), va_K.moved hW.alike hK, (hD.sub isC hn hC).weaken (fun _ _ _ _ => trivial)⟩, ?_⟩
    rw [hU]
    exact hok.1 _ s U H hW hE
theorem rVF {y : MethodName} {cc bytes : ByteArray} {maxL nL n index b : Nat} {ret : Option FieldType} {rm : Room} {Qc : Array Value → State → Outcome → State → Prop} {free : Addr → Prop} {own C : String} {As : List Value} {g : JFrame} (hok : EOk E) (hE : E (va_A Wc H.size) s H) (hx : p.tables.exec = Jvm.exec) (hb : c.code = cc) (hml : c.maxLocals = nL) (hown : s.vm.findClass own = some m.cls) (hts : ∀ w ∈ bw, w.before args s = true) (hM : Met l y (wz y bytes maxL ret) rm (va_Pc (.ref b :: As) (cPE E G tys H.size Wc)) Qc rm.cells rm.slots free) (kc : Cond.code y bytes maxL ret ∈ bw) (kl : Cond.methodLink own index y ∈ bw) (ki : Cond.instanceMethod y ∈ bw) (ks : Cond.selects C y y ∈ bw) (kn : Cond.initialized y.cls ∈ bw) (hd : y.cls ≠ "java/lang/invoke/MethodHandle" ∧ y.cls ≠ "java/lang/invoke/VarHandle" ∧ (parseMethodDescriptor y.desc).map (fun d => d.parameters.length) = some n) (hR : rm.frames + 1 ≤ R.frames ∧ 8 + (maxL + 11) + rm.locals ≤ R.locals) (hK : va_K G vwCl tys s) (hP : va_P G vwCl ws H) (hD : va_D A ws) (isC : List Nat) (hC : isC.map (fun i => ws[i]?) = Wc.map some) (hnC : va_nd isC = true) (hrec : ∃ cell : Cell, H[b]? = some cell ∧ cell.vm.isStatics = false ∧ s.vm.findClass C = some cell.cls) (hg : g.method = m) (hn : As.length = n) (hsize : g.locals.size = nL) (hstack : g.stack = As.reverse ++ .ref b :: rest) (hW : 2 * g.monitorRoom + (rest.map fun v => v.category).sum ≤ 8) (hdg : decode cc g.pc = .ok (.invokevirtual index, 3)) (hf : cells + rm.cells ≤ R.cells ∧ slots + rm.slots ≤ R.slots) : va_Run p l e R s m args below meth c H locs cells slots rm.cells rm.slots g rest (Qc (Value.ref b :: As).toArray) free :=
  have hp := preSF (av := .ref b :: As) hok hE hK hP hD isC hC hnC
  va_runV ⟨hx, hb, hml, hown, hts⟩ hM ⟨callB_of n hts (gW kc) rfl rfl rfl (hts _ kn) (hts _ kl) hd hR, hts _ ki, hts _ ks⟩ ⟨hp.1, hrec, hp.2⟩ hg hn hsize hstack hW hdg hf
end HPG
def numE (r : Option Nat) (o1 o2 : Nat) : (Nat → Prop) → State → Heap → Prop := fun A U H => va_Z "java/lang/String" "COMPACT_STRINGS" "Z" (.int 1) A U H ∧ va_Z "jdk/internal/util/Preconditions" "SIOOBE_FORMATTER" "Ljava/util/function/BiFunction;" (va_rf r) A U H ∧ digE o1 o2 A U H
theorem numE_ok (r : Option Nat) (o1 o2 : Nat) : EOk (numE r o1 o2) := (EOk_Z _ _ _ _).and ((EOk_Z _ _ _ _).and (digE_ok o1 o2))
theorem expL_le (z : Int) : 1 ≤ expL z ∧ expL z ≤ 4 := by
  unfold expL
  by_cases h1 : z < 0 <;> by_cases h2 : z.natAbs < 10 <;> by_cases h3 : z.natAbs < 100 <;> simp [h1, h2, h3]
