/-! what stands at the law's entry: the classes, the constants, the JDK's statics -/
def gC (c0 c1 c2 c3 c4 c5 c6 c7 : ClassId) : Nat → ClassId
  | 0 => c0 | 1 => c1 | 2 => c2 | 3 => c3 | 4 => c4 | 5 => c5 | 6 => c6 | _ => c7
def gI (i0 i1 i2 i3 i4 i5 i6 i7 : Nat → Nat) : Nat → Nat → Nat
  | 0 => i0 | 1 => i1 | 2 => i2 | 3 => i3 | 4 => i4 | 5 => i5 | 6 => i6 | _ => i7
theorem K_all {s : State} {args : Array Value} (hts : ∀ w ∈ bw, w.before args s = true) : ∃ (G : va_G) (cI cB cC cJ : ClassId), va_K G vwCl (tyL cI cB cC cJ) s := by
  obtain ⟨c0, i0, h0⟩ := u_known hts inN (hts _ kw_1_47)
  obtain ⟨c1, i1, h1⟩ := u_known hts inS (hts _ kw_1_41)
  obtain ⟨c2, i2, h2⟩ := u_known hts inT (hts _ kw_1_27)
  obtain ⟨c3, i3, h3⟩ := u_known hts inP (hts _ kw_1_19)
  obtain ⟨c4, i4, h4⟩ := u_known hts inW (hts _ kw_2_137)
  obtain ⟨c5, i5, h5⟩ := u_known hts inM (hts _ kw_2_131)
  obtain ⟨c6, i6, h6⟩ := u_known hts inJS (hts _ kw_3_93)
  obtain ⟨c7, i7, h7⟩ := u_known hts inJX (hts _ kw_2_65)
  obtain ⟨cI, kI, pI, aI, bI, dI⟩ := Cond.arrayClass_spec (hts _ kw_1_59)
  obtain ⟨cB, kB, pB, aB, bB, dB⟩ := Cond.arrayClass_spec (hts _ kw_1_39)
  obtain ⟨cC, kC, pC, aC, bC, dC⟩ := Cond.arrayClass_spec (hts _ kw_1_85)
  obtain ⟨cJ, kJ, pJ, aJ, bJ, dJ⟩ := Cond.arrayClass_spec (hts _ kw_2_153)
  refine ⟨(gC c0 c1 c2 c3 c4 c5 c6 c7, gI i0 i1 i2 i3 i4 i5 i6 i7), cI, cB, cC, cJ, fun c q hq => ?_, fun k q hq => ?_⟩
  · have h8 : c < 8 := (List.getElem?_eq_some_iff.mp hq).1
    rcases (show c = 0 ∨ c = 1 ∨ c = 2 ∨ c = 3 ∨ c = 4 ∨ c = 5 ∨ c = 6 ∨ c = 7 by omega) with rfl | rfl | rfl | rfl | rfl | rfl | rfl | rfl
    · cases hq; exact h0
    · cases hq; exact h1
    · cases hq; exact h2
    · cases hq; exact h3
    · cases hq; exact h4
    · cases hq; exact h5
    · cases hq; exact h6
    · cases hq; exact h7
  · have h8 : k < 4 := (List.getElem?_eq_some_iff.mp hq).1
    rcases (show k = 0 ∨ k = 1 ∨ k = 2 ∨ k = 3 by omega) with rfl | rfl | rfl | rfl
    · cases hq; exact ⟨fun n z => ⟨fun k h => (by cases h), kI, bI, pI, dI⟩, aI⟩
    · cases hq; exact ⟨fun n z => ⟨fun k h => (by cases h), kB, bB, pB, dB⟩, aB⟩
    · cases hq; exact ⟨fun n z => ⟨fun k h => (by cases h), kC, bC, pC, dC⟩, aC⟩
    · cases hq; exact ⟨fun n z => ⟨fun k h => (by cases h), kJ, bJ, pJ, dJ⟩, aJ⟩
theorem str_of {own tx : String} {k n : Nat} {f : Nat → Int32} {r : Option Nat} {args : Array Value} {s : State} {A : Nat → Prop} (hn : n < 2 ^ 31) (z1 : va_Z "java/lang/String" "COMPACT_STRINGS" "Z" (.int 1) A s s.heap) (z2 : va_Z "jdk/internal/util/Preconditions" "SIOOBE_FORMATTER" "Ljava/util/function/BiFunction;" (va_rf r) A s s.heap) (hr : (Cond.stringRef own k tx).before args s = true) (hex : (Cond.exactly (.string own k) "java/lang/String").before args s = true) (hco : (Cond.eq (.field (.string own k) "java/lang/String" "coder" "B") (.int 0)).before args s = true) (har : (Cond.arrayOf (.field (.string own k) "java/lang/String" "value" "[B") .byte).before args s = true) (hle : (Cond.eq (.length (.field (.string own k) "java/lang/String" "value" "[B")) (.int (Int32.ofNat n))).before args s = true) (hel : ∀ j : Nat, j < n → (Cond.eq (.elem (.field (.string own k) "java/lang/String" "value" "[B") (.int (Int32.ofNat j))) (.int (f j))).before args s = true) (hA : ∀ a : Nat, a < s.heap.size → ¬ A a) : ∃ q v : Nat, strE r q v n f A s s.heap ∧ vk_R own k tx q s := by
  obtain ⟨a, c, cA, kA, q1, q2, q3, q4, q5, q6, -⟩ := Cond.exactly_spec (args := args) (first := s) (o := none) (s := s) (idx := []) (t := .string own k) (cls := "java/lang/String") hex
  obtain ⟨t, ht, hT⟩ := va_Tof (f := fun j => .int (f j)) (A := A) hn har (va_eqt hle) (fun j hj => va_eqt (hel j hj)) hA
  exact ⟨a, t, ⟨z1, z2, va_Oof hex q1 hA, vk_OFof q1 (va_eqt hco) hA, vk_OFof q1 ht hA, hT⟩, vk_R.of (A := args) hr q1⟩
def mk6 (a0 a1 a2 a3 a4 a5 : Nat) : Nat → Nat
  | 0 => a0 | 1 => a1 | 2 => a2 | 3 => a3 | 4 => a4 | _ => a5
/-- what the Statement gives of the start -/
abbrev gvn : List Cond := flatC (Jvm.Cond.and given_1 narrow_1)
theorem nw_p0a : Cond.exactly (.string "ShortestPrinter" 52) "java/lang/String" ∈ gvn := List.mem_of_getElem? (i := 224) (by decide +kernel)
theorem nw_p0b : Cond.eq (.field (.string "ShortestPrinter" 52) "java/lang/String" "coder" "B") (.int 0) ∈ gvn := List.mem_of_getElem? (i := 225) (by decide +kernel)
theorem nw_p0c : Cond.arrayOf (.field (.string "ShortestPrinter" 52) "java/lang/String" "value" "[B") .byte ∈ gvn := List.mem_of_getElem? (i := 226) (by decide +kernel)
theorem nw_p0d : Cond.eq (.length (.field (.string "ShortestPrinter" 52) "java/lang/String" "value" "[B")) (.int (Int32.ofNat 3)) ∈ gvn := List.mem_of_getElem? (i := 227) (by decide +kernel)
theorem nw_pe0L : (gvn.drop 228).take 3 = (List.range 3).map (fun j => Cond.eq (.elem (.field (.string "ShortestPrinter" 52) "java/lang/String" "value" "[B") (.int (Int32.ofNat j))) (.int (nI (tNaN j)))) := by decide +kernel
theorem nw_pe0 : ∀ j, j < 3 → Cond.eq (.elem (.field (.string "ShortestPrinter" 52) "java/lang/String" "value" "[B") (.int (Int32.ofNat j))) (.int (nI (tNaN j))) ∈ gvn := fun j hj => List.mem_of_mem_drop (List.mem_of_mem_take (nw_pe0L ▸ List.mem_map.mpr ⟨j, List.mem_range.mpr hj, rfl⟩))
theorem nw_p1a : Cond.exactly (.string "ShortestPrinter" 58) "java/lang/String" ∈ gvn := List.mem_of_getElem? (i := 231) (by decide +kernel)
theorem nw_p1b : Cond.eq (.field (.string "ShortestPrinter" 58) "java/lang/String" "coder" "B") (.int 0) ∈ gvn := List.mem_of_getElem? (i := 232) (by decide +kernel)
theorem nw_p1c : Cond.arrayOf (.field (.string "ShortestPrinter" 58) "java/lang/String" "value" "[B") .byte ∈ gvn := List.mem_of_getElem? (i := 233) (by decide +kernel)
theorem nw_p1d : Cond.eq (.length (.field (.string "ShortestPrinter" 58) "java/lang/String" "value" "[B")) (.int (Int32.ofNat 8)) ∈ gvn := List.mem_of_getElem? (i := 234) (by decide +kernel)
theorem nw_pe1L : (gvn.drop 235).take 8 = (List.range 8).map (fun j => Cond.eq (.elem (.field (.string "ShortestPrinter" 58) "java/lang/String" "value" "[B") (.int (Int32.ofNat j))) (.int (nI (tInf j)))) := by decide +kernel
theorem nw_pe1 : ∀ j, j < 8 → Cond.eq (.elem (.field (.string "ShortestPrinter" 58) "java/lang/String" "value" "[B") (.int (Int32.ofNat j))) (.int (nI (tInf j))) ∈ gvn := fun j hj => List.mem_of_mem_drop (List.mem_of_mem_take (nw_pe1L ▸ List.mem_map.mpr ⟨j, List.mem_range.mpr hj, rfl⟩))
theorem nw_p2a : Cond.exactly (.string "ShortestPrinter" 60) "java/lang/String" ∈ gvn := List.mem_of_getElem? (i := 244) (by decide +kernel)
theorem nw_p2b : Cond.eq (.field (.string "ShortestPrinter" 60) "java/lang/String" "coder" "B") (.int 0) ∈ gvn := List.mem_of_getElem? (i := 245) (by decide +kernel)
theorem nw_p2c : Cond.arrayOf (.field (.string "ShortestPrinter" 60) "java/lang/String" "value" "[B") .byte ∈ gvn := List.mem_of_getElem? (i := 246) (by decide +kernel)
theorem nw_p2d : Cond.eq (.length (.field (.string "ShortestPrinter" 60) "java/lang/String" "value" "[B")) (.int (Int32.ofNat 3)) ∈ gvn := List.mem_of_getElem? (i := 247) (by decide +kernel)
theorem nw_pe2L : (gvn.drop 248).take 3 = (List.range 3).map (fun j => Cond.eq (.elem (.field (.string "ShortestPrinter" 60) "java/lang/String" "value" "[B") (.int (Int32.ofNat j))) (.int (nI (tZero j)))) := by decide +kernel
theorem nw_pe2 : ∀ j, j < 3 → Cond.eq (.elem (.field (.string "ShortestPrinter" 60) "java/lang/String" "value" "[B") (.int (Int32.ofNat j))) (.int (nI (tZero j))) ∈ gvn := fun j hj => List.mem_of_mem_drop (List.mem_of_mem_take (nw_pe2L ▸ List.mem_map.mpr ⟨j, List.mem_range.mpr hj, rfl⟩))
theorem nw_m0a : Cond.exactly (.string "ShortestPrinterModel" 169) "java/lang/String" ∈ gvn := List.mem_of_getElem? (i := 253) (by decide +kernel)
theorem nw_m0b : Cond.eq (.field (.string "ShortestPrinterModel" 169) "java/lang/String" "coder" "B") (.int 0) ∈ gvn := List.mem_of_getElem? (i := 254) (by decide +kernel)
theorem nw_m0c : Cond.arrayOf (.field (.string "ShortestPrinterModel" 169) "java/lang/String" "value" "[B") .byte ∈ gvn := List.mem_of_getElem? (i := 255) (by decide +kernel)
theorem nw_m0d : Cond.eq (.length (.field (.string "ShortestPrinterModel" 169) "java/lang/String" "value" "[B")) (.int (Int32.ofNat 3)) ∈ gvn := List.mem_of_getElem? (i := 256) (by decide +kernel)
theorem nw_me0L : (gvn.drop 257).take 3 = (List.range 3).map (fun j => Cond.eq (.elem (.field (.string "ShortestPrinterModel" 169) "java/lang/String" "value" "[B") (.int (Int32.ofNat j))) (.int (nI (tNaN j)))) := by decide +kernel
theorem nw_me0 : ∀ j, j < 3 → Cond.eq (.elem (.field (.string "ShortestPrinterModel" 169) "java/lang/String" "value" "[B") (.int (Int32.ofNat j))) (.int (nI (tNaN j))) ∈ gvn := fun j hj => List.mem_of_mem_drop (List.mem_of_mem_take (nw_me0L ▸ List.mem_map.mpr ⟨j, List.mem_range.mpr hj, rfl⟩))
theorem nw_m1a : Cond.exactly (.string "ShortestPrinterModel" 171) "java/lang/String" ∈ gvn := List.mem_of_getElem? (i := 263) (by decide +kernel)
theorem nw_m1b : Cond.eq (.field (.string "ShortestPrinterModel" 171) "java/lang/String" "coder" "B") (.int 0) ∈ gvn := List.mem_of_getElem? (i := 264) (by decide +kernel)
theorem nw_m1c : Cond.arrayOf (.field (.string "ShortestPrinterModel" 171) "java/lang/String" "value" "[B") .byte ∈ gvn := List.mem_of_getElem? (i := 265) (by decide +kernel)
theorem nw_m1d : Cond.eq (.length (.field (.string "ShortestPrinterModel" 171) "java/lang/String" "value" "[B")) (.int (Int32.ofNat 8)) ∈ gvn := List.mem_of_getElem? (i := 266) (by decide +kernel)
theorem nw_me1L : (gvn.drop 267).take 8 = (List.range 8).map (fun j => Cond.eq (.elem (.field (.string "ShortestPrinterModel" 171) "java/lang/String" "value" "[B") (.int (Int32.ofNat j))) (.int (nI (tInf j)))) := by decide +kernel
theorem nw_me1 : ∀ j, j < 8 → Cond.eq (.elem (.field (.string "ShortestPrinterModel" 171) "java/lang/String" "value" "[B") (.int (Int32.ofNat j))) (.int (nI (tInf j))) ∈ gvn := fun j hj => List.mem_of_mem_drop (List.mem_of_mem_take (nw_me1L ▸ List.mem_map.mpr ⟨j, List.mem_range.mpr hj, rfl⟩))
theorem nw_m2a : Cond.exactly (.string "ShortestPrinterModel" 173) "java/lang/String" ∈ gvn := List.mem_of_getElem? (i := 279) (by decide +kernel)
theorem nw_m2b : Cond.eq (.field (.string "ShortestPrinterModel" 173) "java/lang/String" "coder" "B") (.int 0) ∈ gvn := List.mem_of_getElem? (i := 280) (by decide +kernel)
theorem nw_m2c : Cond.arrayOf (.field (.string "ShortestPrinterModel" 173) "java/lang/String" "value" "[B") .byte ∈ gvn := List.mem_of_getElem? (i := 281) (by decide +kernel)
theorem nw_m2d : Cond.eq (.length (.field (.string "ShortestPrinterModel" 173) "java/lang/String" "value" "[B")) (.int (Int32.ofNat 3)) ∈ gvn := List.mem_of_getElem? (i := 282) (by decide +kernel)
theorem nw_me2L : (gvn.drop 283).take 3 = (List.range 3).map (fun j => Cond.eq (.elem (.field (.string "ShortestPrinterModel" 173) "java/lang/String" "value" "[B") (.int (Int32.ofNat j))) (.int (nI (tZero j)))) := by decide +kernel
theorem nw_me2 : ∀ j, j < 3 → Cond.eq (.elem (.field (.string "ShortestPrinterModel" 173) "java/lang/String" "value" "[B") (.int (Int32.ofNat j))) (.int (nI (tZero j))) ∈ gvn := fun j hj => List.mem_of_mem_drop (List.mem_of_mem_take (nw_me2L ▸ List.mem_map.mpr ⟨j, List.mem_range.mpr hj, rfl⟩))
theorem nw_lOnesa : Cond.arrayOf (.static "java/lang/Integer" "DigitOnes" "[B") .byte ∈ gvn := List.mem_of_getElem? (i := 12) (by decide +kernel)
theorem nw_lOnesb : Cond.eq (.length (.static "java/lang/Integer" "DigitOnes" "[B")) (.int (Int32.ofNat 100)) ∈ gvn := List.mem_of_getElem? (i := 13) (by decide +kernel)
theorem nw_lOneseL : (gvn.drop 14).take 100 = (List.range 100).map (fun j => Cond.eq (.elem (.static "java/lang/Integer" "DigitOnes" "[B") (.int (Int32.ofNat j))) (.int (lOnes j))) := by decide +kernel
theorem nw_lOnese : ∀ j, j < 100 → Cond.eq (.elem (.static "java/lang/Integer" "DigitOnes" "[B") (.int (Int32.ofNat j))) (.int (lOnes j)) ∈ gvn := fun j hj => List.mem_of_mem_drop (List.mem_of_mem_take (nw_lOneseL ▸ List.mem_map.mpr ⟨j, List.mem_range.mpr hj, rfl⟩))
theorem nw_lTensa : Cond.arrayOf (.static "java/lang/Integer" "DigitTens" "[B") .byte ∈ gvn := List.mem_of_getElem? (i := 115) (by decide +kernel)
theorem nw_lTensb : Cond.eq (.length (.static "java/lang/Integer" "DigitTens" "[B")) (.int (Int32.ofNat 100)) ∈ gvn := List.mem_of_getElem? (i := 116) (by decide +kernel)
theorem nw_lTenseL : (gvn.drop 117).take 100 = (List.range 100).map (fun j => Cond.eq (.elem (.static "java/lang/Integer" "DigitTens" "[B") (.int (Int32.ofNat j))) (.int (lTens j))) := by decide +kernel
theorem nw_lTense : ∀ j, j < 100 → Cond.eq (.elem (.static "java/lang/Integer" "DigitTens" "[B") (.int (Int32.ofNat j))) (.int (lTens j)) ∈ gvn := fun j hj => List.mem_of_mem_drop (List.mem_of_mem_take (nw_lTenseL ▸ List.mem_map.mpr ⟨j, List.mem_range.mpr hj, rfl⟩))
theorem nw_cs : Cond.eq (.static "java/lang/String" "COMPACT_STRINGS" "Z") (.int 1) ∈ gvn := by decide +kernel
theorem nw_rf : Cond.isRef (.static "jdk/internal/util/Preconditions" "SIOOBE_FORMATTER" "Ljava/util/function/BiFunction;") ∈ gvn := by decide +kernel
theorem nw_us : Cond.isRef (.static Bundle.tN "UNASSIGNED_STACK" Bundle.steD) ∈ gvn := by decide +kernel
theorem nw_ss : Cond.isRef (.static Bundle.tN "SUPPRESSED_SENTINEL" Bundle.listD) ∈ gvn := by decide +kernel
theorem env_all {s : State} {args : Array Value} {A : Nat → Prop} (hts : ∀ w ∈ lw_tbl, w.before args s = true) (hs : ∀ w ∈ gvn, w.before args s = true) (hA : ∀ a : Nat, a < s.heap.size → ¬ A a) : ∃ (r : Option Nat) (kc kd : Nat → Nat) (o1 o2 : Nat), cst "ShortestPrinter" 52 58 60 r kc A s s.heap ∧ prE r kd o1 o2 A s s.heap := by
  have hb : ∀ w ∈ bw, w.before args s = true := fun w h => hts w (List.mem_filter.mp h).1
  have z1 : va_Z "java/lang/String" "COMPACT_STRINGS" "Z" (.int 1) A s s.heap := va_Zof (hts _ kw_1_124) (hb _ kw_1_7) (va_eqi (hs _ nw_cs)) hA
  have z2 : ∃ r : Option Nat, va_Z "jdk/internal/util/Preconditions" "SIOOBE_FORMATTER" "Ljava/util/function/BiFunction;" (va_rf r) A s s.heap := by
    rcases va_Zqof (hts _ kw_1_140) (hb _ kw_1_9) (hs _ nw_rf) hA with h | ⟨t, h⟩
    · exact ⟨none, h⟩
    · exact ⟨some t, h⟩
  obtain ⟨r, z2⟩ := z2
  obtain ⟨pq0, pv0, pe0, pr0⟩ := str_of (by decide) z1 z2 (hts _ kw_1_110) (hs _ nw_p0a) (hs _ nw_p0b) (hs _ nw_p0c) (hs _ nw_p0d) (fun j hj => hs _ (nw_pe0 j hj)) hA
  obtain ⟨pq1, pv1, pe1, pr1⟩ := str_of (by decide) z1 z2 (hts _ kw_1_164) (hs _ nw_p1a) (hs _ nw_p1b) (hs _ nw_p1c) (hs _ nw_p1d) (fun j hj => hs _ (nw_pe1 j hj)) hA
  obtain ⟨pq2, pv2, pe2, pr2⟩ := str_of (by decide) z1 z2 (hts _ kw_1_165) (hs _ nw_p2a) (hs _ nw_p2b) (hs _ nw_p2c) (hs _ nw_p2d) (fun j hj => hs _ (nw_pe2 j hj)) hA
  obtain ⟨mq0, mv0, me0, mr0⟩ := str_of (by decide) z1 z2 (hts _ kw_3_0) (hs _ nw_m0a) (hs _ nw_m0b) (hs _ nw_m0c) (hs _ nw_m0d) (fun j hj => hs _ (nw_me0 j hj)) hA
  obtain ⟨mq1, mv1, me1, mr1⟩ := str_of (by decide) z1 z2 (hts _ kw_3_11) (hs _ nw_m1a) (hs _ nw_m1b) (hs _ nw_m1c) (hs _ nw_m1d) (fun j hj => hs _ (nw_me1 j hj)) hA
  obtain ⟨mq2, mv2, me2, mr2⟩ := str_of (by decide) z1 z2 (hts _ kw_3_12) (hs _ nw_m2a) (hs _ nw_m2b) (hs _ nw_m2c) (hs _ nw_m2d) (fun j hj => hs _ (nw_me2 j hj)) hA
  obtain ⟨o1, ht1, hT1⟩ := va_Tof (f := fun j => .int (lOnes j)) (A := A) (by decide) (hs _ nw_lOnesa) (va_eqt (hs _ nw_lOnesb)) (fun j hj => va_eqt (hs _ (nw_lOnese j hj))) hA
  obtain ⟨o2, ht2, hT2⟩ := va_Tof (f := fun j => .int (lTens j)) (A := A) (by decide) (hs _ nw_lTensa) (va_eqt (hs _ nw_lTensb)) (fun j hj => va_eqt (hs _ (nw_lTense j hj))) hA
  exact ⟨r, mk6 pq0 pv0 pq1 pv1 pq2 pv2, mk6 mq0 mv0 mq1 mv1 mq2 mv2, o1, o2, ⟨pe0, pe1, pe2, pr0, pr1, pr2⟩, ⟨⟨me0, me1, me2, mr0, mr1, mr2⟩, ⟨va_Zref (hts _ kw_3_89) (hb _ kw_1_12) ht1 hA, hT1, va_Zref (hts _ kw_3_91) (hb _ kw_1_12) ht2 hA, hT2⟩⟩⟩
