section THROWN
variable {l : Launch} {G : va_G} {cI cB cC cJ : ClassId}
set_option maxRecDepth 100000 in
set_option maxHeartbeats 1500000 in
theorem c_holdsE (hp ht kl a0 n : Nat) (z : Int) (hz1 : -2 ^ 31 ≤ z) (hz2 : z < 2 ^ 31) (hn : n ≤ 24) : CEi (roE G [(hp, .inr (3, [.ref ht, .ref a0])), (ht, .inr (2, [.ref kl, .int (nI n)]))]) l G (tyL cI cB cC cJ) yT_holds cT_holds 2 .boolean rmT_holds [.ref ht, .int (iI z)] [] (fun r (_ : Unit) => r = bI (decide (0 ≤ z ∧ z < n))) (fun _ => []) := by
  refine mkIE cT_holds 2 RT .boolean (by decide) rfl (Nat.le_of_ble_eq_true rfl) ?_
  intro p e s m args below meth c A Q ls hx hb hml hts hown hnm hK hP hD hA hE hl fin
  have hS : va_S A s.heap s.heap [] := va_S.rf
  have hl : lv_has ls 2 [(0, .ref ht), (1, .int (iI z))] := hl
  have hP : va_P G vwCl [] s.heap := hP
  have hD : va_D A [] := hD
  have hE : roE G [(hp, .inr (3, [.ref ht, .ref a0])), (ht, .inr (2, [.ref kl, .int (nI n)]))] A s s.heap := hE
  have hP0 := hP
  have hP := hE.1
  refine lv_iload_n hx hb dT_holds_0 rfl (lv_at hl 1 rfl) ?_
  refine lv_if_lt (tgt := 16) hx hb dT_holds_1 (by decide) (fun hc => ?_) (fun hc => ?_)
  · have h3 : z < 0 := (iI_lt (b := 0) hz1 hz2 (by decide) (by decide)).mp hc
    refine lv_iconst (v := nI 0) hx hb dT_holds_16 (by decide) ?_
    have hP := hP0
    exact fin (nI 0) (()) _ _ _ _ dT_holds_17 (by decide) (bI_0 (decide_eq_false (by omega))) hP hD hS
  · have h3 : ¬ z < 0 := fun h => hc ((iI_lt (b := 0) hz1 hz2 (by decide) (by decide)).mpr h)
    refine lv_iload_n hx hb dT_holds_4 rfl (lv_at hl 1 rfl) ?_
    refine lv_aload_n hx hb dT_holds_5 rfl (lv_at hl 0 rfl) ?_
    refine va_get (D := G) (ci := 2) (v := .int (nI n)) (C := RT) (T := TT) (N := 2) hx hb hts inT hown hK hP 1 rfl rfl 1 (by decide) (hts _ kw_1_33) (fun _ h9 => h9) rfl dT_holds_6 ?_
    refine lv_icmp_ge (tgt := 16) hx hb dT_holds_9 (by decide) (fun hc2 => ?_) (fun hc2 => ?_)
    · have h4 : (n : Int) ≤ z := (iI_le (by omega) (by omega) hz1 hz2).mp (by rw [iI_nat]; exact hc2)
      refine lv_iconst (v := nI 0) hx hb dT_holds_16 (by decide) ?_
      have hP := hP0
      exact fin (nI 0) (()) _ _ _ _ dT_holds_17 (by decide) (bI_0 (decide_eq_false (by omega))) hP hD hS
    · have h4 : ¬ (n : Int) ≤ z := fun h => hc2 (by rw [← iI_nat]; exact (iI_le (by omega) (by omega) hz1 hz2).mpr h)
      refine lv_iconst (v := nI 1) hx hb dT_holds_12 (by decide) ?_
      refine lv_goto (tgt := 17) hx hb dT_holds_13 (by decide) ?_
      have hP := hP0
      exact fin (nI 1) (()) _ _ _ _ dT_holds_17 (by decide) (bI_1 (decide_eq_true (by omega))) hP hD hS
abbrev rmWT : Room := { frames := 6, cells := 1, slots := 6, locals := 100 }
def wtE (G : va_G) (hp ht kl a0 n : Nat) : (Nat → Prop) → State → Heap → Prop := fun A U H => roE G [(hp, .inr (3, [.ref ht, .ref a0])), (ht, .inr (2, [.ref kl, .int (nI n)]))] A U H ∧ thE A U H
theorem wtE_ok (G : va_G) (hp ht kl a0 n : Nat) : EOk (wtE G hp ht kl a0 n) := (roE_ok _ _).and thE_ok
set_option maxRecDepth 100000 in
set_option maxHeartbeats 1500000 in
theorem c_wordT (hfl : l.flags = pinnedFlags ++ [noTraceFlag]) (hp ht kl a0 n : Nat) (z : Int) (hz1 : -2 ^ 31 ≤ z) (hz2 : z < 2 ^ 31) (hn : n ≤ 24) (hno : ¬ (0 ≤ z ∧ z < n)) : ∀ sz : Nat, MetT l yP_word (wz yP_word cP_word 5 (some .long)) rmWT (va_Pc [.ref hp, .int (iI z)] (cPE (wtE G hp ht kl a0 n) G (tyL cI cB cC cJ) sz [])) xN := by
  intro sz
  refine MetT.ofW (cc := cP_word) (maxL := 5) (ret := some .long) (by decide) rfl ?_
  intro p e s m args below meth c s₁ B hml hemp hv
  obtain ⟨rfl, ⟨hsz, hP, hK, hD0⟩, hE⟩ := hv
  subst hsz
  have hown : s.vm.findClass "ShortestPrinter" = some m.cls := findClass_of_methodNamed B.named
  have hlocks := B.notSynchronized
  have hx := B.exec
  have hb := B.bytes
  have hts : ∀ w ∈ bw, w.before ([Value.ref hp, .int (iI z)] : List Value).toArray s = true := fun w h => atoms_spec B.pre w (List.mem_cons_of_mem _ h)
  have htr : e.platform.stackTraces = false := Launch.traces_off hfl B.admits
  have hD := hD0.self (sz := s.heap.size)
  have hA : ∀ q : Nat, s.heap.size ≤ q → va_A [] s.heap.size q := fun q h => Or.inr h
  have hS : va_S (va_A [] s.heap.size) s.heap s.heap [] := va_S.rf
  have hE : wtE G hp ht kl a0 n (va_A [] s.heap.size) s s.heap := hE
  have hl := lv_entry [Value.ref hp, .int (iI z)] (n := 5) (Nat.le_of_ble_eq_true rfl)
  rw [lg_entry_eq]
  revert hl
  intro hl
  refine W.eq (g2 := F0 m 0 _ []) rfl ?_
  refine lv_aload_n hx hb dP_word_0 rfl (lv_at hl 0 rfl) ?_
  refine va_get (D := G) (ci := 3) (v := .ref ht) (C := RP) (T := TP) (N := 2) hx hb hts inP hown hK hE.1.1 0 rfl rfl 0 (by decide) (hts _ kw_1_86) (fun _ h9 => h9) rfl dP_word_1 ?_
  refine lv_iload_n hx hb dP_word_4 rfl (lv_at hl 1 rfl) ?_
  refine jnI (Wr := []) (W2 := fun y => []) (rVE (n := 1) (As := [.int (iI z)]) (rest := []) (roE_ok _ _) (hE.1) hS hA hx hb hml hown hts (c_holdsE hp ht kl a0 n z hz1 hz2 hn _) kw_2_63 kw_2_60 kw_2_61 kw_2_62 kw_1_2 (by decide +kernel) ⟨Nat.le_of_ble_eq_true rfl, Nat.le_of_ble_eq_true rfl⟩ hK hP hD [] rfl rfl (va_recv (q := (RT, TT, 2)) (ci := 2) (q0 := 1) hK hE.1.1 rfl rfl) rfl rfl hl.1 rfl (lv_room (Nat.le_of_ble_eq_true rfl)) dP_word_5 ⟨Nat.le_of_ble_eq_true rfl, Nat.le_of_ble_eq_true rfl⟩) hP hD hS hA [] [] [] rfl rfl rfl (by decide) (fun _ => rfl) rfl (fun o y H locs hq hP hD hS => ?_)
  have hP : va_P G vwCl [] H := hP
  have hD : va_D (va_A [] s.heap.size) [] := hD
  have hq : o = bI false := by rw [hq, decide_eq_false hno]
  subst hq
  refine lv_if_ne (tgt := 19) hx hb dP_word_8 (by decide) (fun hc => absurd (by decide) hc) (fun _ => ?_)
  have hKX := hK.1 7 (RJX, TJX, 6) rfl
  refine W.newcK hx hb hown (hts _ kw_2_64) (hts _ kw_2_65) (hts _ kw_1_17) (g := F0 m 11 _ []) rfl dP_word_11 (Nat.le_of_ble_eq_true rfl) (Nat.le_of_ble_eq_true rfl) hKX.2.1 rfl (fun H2 kC hkC hcell hsz2 hold => ?_)
  refine W.eq (g2 := F0 m 14 _ [.ref H.size]) rfl ?_
  refine lv_dup hx hb dP_word_14 rfl ?_
  refine va_forget (fun q hq => ?_) ?_
  · rcases hS.2.2 q hq with ⟨k, e9, h9⟩ | h9
    · cases k <;> cases h9
    · exact h9
  have hnil : c.exceptionTable.toList = [] := List.eq_nil_of_length_eq_zero (by have := hemp; simp [Array.isEmpty] at this; simp [this])
  intro T hT X
  obtain ⟨U, st, u1, u2, u3, u4, ce, u5, u6⟩ := X.ctorThrow0 hx htr (own := "ShortestPrinter") (cls := xN) (names := [xR, xE]) (ic := 40) hown (by decide) (by decide) (own_atoms hts hE.2) (fun x hx => by cases hx) hKX.2.1 hkC (by rw [hT]; exact hcell) hS.1 (g := F0 m 15 _ [.ref H.size, .ref H.size]) rfl (hl.1.trans hml.symm) rfl rfl rfl (by rw [hb]; exact dP_word_15) (by rw [hb]; exact dP_word_18) (fun x hx => by rw [hnil] at hx; cases hx) (Nat.le_of_ble_eq_true rfl) (Nat.le_of_ble_eq_true rfl)
  exact ⟨U, st, _, u1, u2, H.size, rfl, u3, u4, ce, u5, u6.cls, u6.vm, u6.self⟩
end THROWN
