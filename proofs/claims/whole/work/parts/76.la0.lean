/-! the law: small facts -/
theorem lI_lN (z : Int) : lI z = lN (z % 2 ^ 64).toNat := wb_inj (by
  show BitVec.ofInt 64 z = BitVec.ofNat 64 _
  apply BitVec.eq_of_toNat_eq
  rw [BitVec.toNat_ofInt, BitVec.toNat_ofNat]
  omega)
theorem i_toInt (x : Int32) : iI x.toInt = x := Int32.ofInt_toInt x
theorem i_bound (x : Int32) : -2 ^ 31 ≤ x.toInt ∧ x.toInt < 2 ^ 31 := ⟨x.le_toInt, x.toInt_lt⟩
theorem hi32 (x : Int32) : x.toInt64 <<< ((nI 32).toInt64 &&& 63) = lN (ul x * 2 ^ 32) := by
  obtain ⟨h1, h2⟩ := i_bound x
  have h3 : x.toInt64 = lI x.toInt := by rw [← iI_l h1 h2, i_toInt]
  have h4 := ul_iI x.toInt
  rw [i_toInt] at h4
  rw [h3, lI_lN, wb_shl _ (by decide), wb_mod, wb_mod (ul x * 2 ^ 32)]
  exact congrArg lN (by omega)
theorem bits64 (x y : Int32) : (x.toInt64 <<< ((nI 32).toInt64 &&& 63)) ||| (y.toInt64 &&& 4294967295) = lN (ul x * 2 ^ 32 + ul y) := by
  have h1 := ul_lt x
  have h2 := ul_lt y
  rw [hi32, ul_mask]
  exact g_or (k := 32) rfl h2 (by omega)
theorem sw4 (x : Int32) : ∃ k, k ≤ 3 ∧ x &&& nI 3 = nI k := by
  refine ⟨ul (x &&& nI 3), ?_, (nI_ul _).symm⟩
  show (x &&& nI 3).toBitVec.toNat ≤ 3
  rw [Int32.toBitVec_and, BitVec.toNat_and]
  exact Nat.le_trans Nat.and_le_right (by decide)
section RIE
variable {p : Program} {l : Launch} {e : Env} {R : Room} {s : State} {m : MethodId} {args : Array Value} {below : List Frame} {meth : Method} {c : Code} {H : Heap} {locs : List Loc} {cells slots : Nat} {Q : State → Prop}
variable {rest : List Value} {A : Nat → Prop} {G : va_G} {tys : List (ClassId × FieldType)} {ws Wc : va_W} {E : (Nat → Prop) → State → Heap → Prop}
theorem rIE {y : MethodName} {cc bytes : ByteArray} {maxL nL n index b : Nat} {rm : Room} {Qc : Array Value → State → Outcome → State → Prop} {free : Addr → Prop} {own : String} {As : List Value} {g : JFrame} (hok : EOk E) (hE : E A s s.heap) (hS : va_S A s.heap H locs) (hA : ∀ q : Nat, s.heap.size ≤ q → A q) (hx : p.tables.exec = Jvm.exec) (hb : c.code = cc) (hml : c.maxLocals = nL) (hown : s.vm.findClass own = some m.cls) (hts : ∀ w ∈ bw, w.before args s = true) (hM : Met l y (wz y bytes maxL none) rm (va_Pc (.ref b :: As) (cPE E G tys H.size Wc)) Qc rm.cells rm.slots free) (kc : Cond.code y bytes maxL none ∈ bw) (kl : Cond.methodLink own index y ∈ bw) (ki : Cond.instanceMethod y ∈ bw) (kn : Cond.initialized y.cls ∈ bw) (hyn : y.name = "<init>") (hd : y.cls ≠ "java/lang/invoke/MethodHandle" ∧ y.cls ≠ "java/lang/invoke/VarHandle" ∧ (parseMethodDescriptor y.desc).map (fun d => d.parameters.length) = some n) (hR : rm.frames + 1 ≤ R.frames ∧ 8 + (maxL + 11) + rm.locals ≤ R.locals) (hK : va_K G vwCl tys s) (hP : va_P G vwCl ws H) (hD : va_D A ws) (isC : List Nat) (hC : isC.map (fun i => ws[i]?) = Wc.map some) (hnC : va_nd isC = true) (hg : g.method = m) (hn : As.length = n) (hsize : g.locals.size = nL) (hstack : g.stack = As.reverse ++ .ref b :: rest) (hW : 2 * g.monitorRoom + (rest.map fun v => v.category).sum ≤ 8) (hdg : decode cc g.pc = .ok (.invokespecial index, 3)) (hf : cells + rm.cells ≤ R.cells ∧ slots + rm.slots ≤ R.slots) : va_Run p l e R s m args below meth c H locs cells slots rm.cells rm.slots g rest (Qc (Value.ref b :: As).toArray) free :=
  va_runI ⟨hx, hb, hml, hown, hts⟩ hM ⟨callB_of n hts (gW kc) rfl rfl rfl (hts _ kn) (hts _ kl) hd hR, hyn, hts _ ki⟩ (preSE hok hE hS hA hK hP hD isC hC hnC) hg hn hsize hstack hW hdg hf
end RIE
theorem roE_new {G : va_G} {cI cB cC cJ : ClassId} {ws wr : va_W} {H : Heap} {s : State} {A : Nat → Prop} (hK : va_K G vwCl (tyL cI cB cC cJ) s) (hP : va_P G vwCl ws H) (hD : va_D A ws) (isR : List Nat) (hR : isR.map (fun i => ws[i]?) = wr.map some) : roE G wr (va_A [] H.size) s H := by
  refine ⟨hP.sub isR (pick_fm isR hR), fun k q hk h => ?_⟩
  have hlt : q.1 < H.size := ((hP.sub isR (pick_fm isR hR)) k q hk).lt
  rcases h with ⟨k9, e9, h9⟩ | h9
  · cases k9 <;> cases h9
  · omega
