/-! small methods of the JDK -/
def cm (a b : Nat) : Int32 := if a < b then -1 else if a = b then 0 else 1
theorem sh_bits {x b k : Nat} (h1 : 2 ^ b ≤ x) (h2 : x < 2 ^ (b + 1)) (hk : k ≤ b) : 2 ^ (b - k) ≤ x / 2 ^ k ∧ x / 2 ^ k < 2 ^ (b - k + 1) := by
  have e1 : 2 ^ b = 2 ^ (b - k) * 2 ^ k := by rw [← Nat.pow_add]; congr 1; omega
  have e2 : 2 ^ (b + 1) = 2 ^ k * 2 ^ (b - k + 1) := by rw [← Nat.pow_add]; congr 1; omega
  exact ⟨(Nat.le_div_iff_mul_le (Nat.pow_pos (by decide))).mpr (by rw [← e1]; exact h1), Nat.div_lt_of_lt_mul (by rw [← e2]; exact h2)⟩
theorem bits_le {x b k : Nat} (h2 : x < 2 ^ (b + 1)) (hk : 2 ^ k ≤ x) : k ≤ b := by
  have h := (Nat.pow_lt_pow_iff_right (show 1 < 2 by decide)).mp (Nat.lt_of_le_of_lt hk h2)
  omega
theorem nmax {a b : Nat} (ha : a < 2 ^ 31) (hb : b < 2 ^ 31) : (if nI a < nI b then nI b else nI a) = nI (max a b) := by
  by_cases h : a < b
  · rw [if_pos ((nI_ltI ha hb).mpr h), Nat.max_eq_right (by omega)]
  · rw [if_neg (fun h1 => h ((nI_ltI ha hb).mp h1)), Nat.max_eq_left (by omega)]
theorem nI_neg {x : Nat} (h1 : 2 ^ 31 ≤ x) (h2 : x < 2 ^ 32) : nI x < 0 := by
  rw [Int32.lt_iff_toInt_lt]
  show (BitVec.ofNat 32 x).toInt < 0
  rw [BitVec.toInt_eq_toNat_cond, BitVec.toNat_ofNat, Nat.mod_eq_of_lt h2, if_neg (by omega)]
  omega
section JDK
variable {l : Launch} {G : va_G} {cI cB cC cJ : ClassId}
abbrev rmJL_compare : Room := { frames := 0, cells := 0, slots := 0, locals := 0 }
set_option maxRecDepth 100000 in
set_option maxHeartbeats 4000000 in
theorem c_lcompare (x y : Nat) (hx9 : x < 2 ^ 63) (hy9 : y < 2 ^ 63) : CTi l G (tyL cI cB cC cJ) yJL_compare cJL_compare 4 .int rmJL_compare [.long (lN x), .long (lN y)] [] (fun r (_ : Unit) => r = cm x y) (fun _ => []) := by
  refine mkI cJL_compare 4 RJL .int (by decide) rfl (Nat.le_of_ble_eq_true rfl) ?_
  intro p e s m args below meth c A Q ls hx hb hml hts hown hnm hK hP hD hA hl fin
  have hS : va_S A s.heap s.heap [] := va_S.rf
  have hl : lv_has ls 4 [(0, .long (lN x)), (2, .long (lN y))] := hl
  have hP : va_P G vwCl [] s.heap := hP
  have hD : va_D A [] := hD
  refine lv_lload_n hx hb dJL_compare_0 rfl (lv_at hl 0 rfl) ?_
  refine lv_lload_n hx hb dJL_compare_1 rfl (lv_at hl 1 rfl) ?_
  refine W.lcmp hx hb dJL_compare_2 ?_
  refine lv_if_ge (tgt := 10) hx hb dJL_compare_3 (by decide) (fun hc => ?_) (fun hc => ?_)
  · have h1 : y ≤ x := (pk_lLE hy9 hx9).mp ((lg_cmp_ge _ _).mp hc)
    refine lv_lload_n hx hb dJL_compare_10 rfl (lv_at hl 0 rfl) ?_
    refine lv_lload_n hx hb dJL_compare_11 rfl (lv_at hl 1 rfl) ?_
    refine W.lcmp hx hb dJL_compare_12 ?_
    refine lv_if_ne (tgt := 20) hx hb dJL_compare_13 (by decide) (fun hc2 => ?_) (fun hc2 => ?_)
    · refine lv_iconst (v := nI 1) hx hb dJL_compare_20 (by decide) ?_
      exact fin (nI 1) (()) _ _ _ _ dJL_compare_21 (rfl) (by
          have h2 : ¬ x = y := fun h => hc2 ((lg_cmp_eq _ _).mpr (by rw [h]))
          unfold cm; rw [if_neg (by omega), if_neg h2]; rfl) hP hD hS
    · refine lv_iconst (v := nI 0) hx hb dJL_compare_16 (by decide) ?_
      refine lv_goto (tgt := 21) hx hb dJL_compare_17 (by decide) ?_
      exact fin (nI 0) (()) _ _ _ _ dJL_compare_21 (rfl) (by
          have h2 : x = y := (pk_lEQ hx9 hy9).mp ((lg_cmp_eq _ _).mp hc2)
          unfold cm; rw [if_neg (by omega), if_pos h2]; rfl) hP hD hS
  · refine lv_iconst (v := (-1)) hx hb dJL_compare_6 (by decide) ?_
    refine lv_goto (tgt := 21) hx hb dJL_compare_7 (by decide) ?_
    exact fin (-1) (()) _ _ _ _ dJL_compare_21 (rfl) (by
        have h1 : ¬ y ≤ x := fun h => hc ((lg_cmp_ge _ _).mpr ((pk_lLE hy9 hx9).mpr h))
        unfold cm; rw [if_pos (by omega)]) hP hD hS
abbrev rmJI_numberOfLeadingZeros : Room := { frames := 0, cells := 0, slots := 0, locals := 0 }
set_option maxRecDepth 100000 in
set_option maxHeartbeats 4000000 in
theorem c_nlz (x B : Nat) (h1 : 2 ^ B ≤ x) (h2 : x < 2 ^ (B + 1)) (hB : B ≤ 30) : CTi l G (tyL cI cB cC cJ) yJI_numberOfLeadingZeros cJI_numberOfLeadingZeros 2 .int rmJI_numberOfLeadingZeros [.int (nI x)] [] (fun r (_ : Unit) => r = nI (31 - B)) (fun _ => []) := by
  refine mkI cJI_numberOfLeadingZeros 2 RJI .int (by decide) rfl (Nat.le_of_ble_eq_true rfl) ?_
  intro p e s m args below meth c A Q ls hx hb hml hts hown hnm hK hP hD hA hl fin
  have hS : va_S A s.heap s.heap [] := va_S.rf
  have hl : lv_has ls 2 [(0, .int (nI x))] := hl
  have hP : va_P G vwCl [] s.heap := hP
  have hD : va_D A [] := hD
  have hp : 0 < x := Nat.lt_of_lt_of_le (Nat.pow_pos (by decide)) h1
  have hx31 : x < 2 ^ 31 := Nat.lt_of_lt_of_le h2 (Nat.pow_le_pow_right (by decide) (by omega))
  have j73 : ∀ (z : Nat) (b : Nat) (t : Nat) (H : Heap) (locs : List Loc) (ls : Array Slot), 2 ^ b ≤ z → z < 2 ^ (b + 1) → z < 4 → B = b + t → t ≤ 31 → b ≤ 30 → va_P G vwCl [] H → va_D A [] → va_S A s.heap H locs → lv_has ls 2 [(0, .int (nI z)), (1, .int (nI (31 - t)))] → W p l e rmJI_numberOfLeadingZeros s m args below meth c H locs 0 0 Q (F0 m 73 ls []) := by
    intro z b t H locs ls g1 g2 g3 g4 g5 g6 hP hD hS hl
    refine lv_iload_n hx hb dJI_numberOfLeadingZeros_73 rfl (lv_at hl 1 rfl) ?_
    refine lv_iload_n hx hb dJI_numberOfLeadingZeros_74 rfl (lv_at hl 0 rfl) ?_
    refine lv_iconst (v := nI 1) hx hb dJI_numberOfLeadingZeros_75 (by decide) ?_
    refine lv_iushr (v := nI (z / 2 ^ 1)) hx hb dJI_numberOfLeadingZeros_76 (pk_ushrN (by omega) _ 1 (by decide)) ?_
    refine lv_isub hx hb dJI_numberOfLeadingZeros_77 ?_
    refine tp_i (y := nI (31 - B)) (by
        have e : z / 2 ^ 1 = b := by
          have q1 : b ≤ 1 := by
            rcases Nat.lt_or_ge b 2 with h | h
            · omega
            · have := Nat.pow_le_pow_right (show 0 < 2 by decide) h; omega
          rcases (show b = 0 ∨ b = 1 by omega) with h | h <;> subst h <;> omega
        rw [e, pk_sub (by omega)]; congr 1; omega) ?_
    exact fin (nI (31 - B)) (()) _ _ _ _ dJI_numberOfLeadingZeros_78 (rfl) (rfl) hP hD hS
  have j61 : ∀ (z : Nat) (b : Nat) (t : Nat) (H : Heap) (locs : List Loc) (ls : Array Slot), 2 ^ b ≤ z → z < 2 ^ (b + 1) → z < 16 → B = b + t → t ≤ 31 → b ≤ 30 → va_P G vwCl [] H → va_D A [] → va_S A s.heap H locs → lv_has ls 2 [(0, .int (nI z)), (1, .int (nI (31 - t)))] → W p l e rmJI_numberOfLeadingZeros s m args below meth c H locs 0 0 Q (F0 m 61 ls []) := by
    intro z b t H locs ls g1 g2 g3 g4 g5 g6 hP hD hS hl
    refine lv_iload_n hx hb dJI_numberOfLeadingZeros_61 rfl (lv_at hl 0 rfl) ?_
    refine lv_iconst (v := nI 4) hx hb dJI_numberOfLeadingZeros_62 (by decide) ?_
    refine lv_icmp_lt (tgt := 73) hx hb dJI_numberOfLeadingZeros_63 (by decide) (fun hc => ?_) (fun hc => ?_)
    · have g7 : z < 2 ^ 2 := (nI_ltI (by omega) (by decide)).mp hc
      exact j73 z b t _ _ _ (g1) (g2) (by omega) (g4) (g5) (g6) hP hD hS hl
    · have g7 : 2 ^ 2 ≤ z := by
        rcases Nat.lt_or_ge z (2 ^ 2) with h | h
        · exact absurd ((nI_ltI (by omega) (by decide)).mpr h) hc
        · exact h
      have g8 : 2 ≤ b := bits_le g2 g7
      obtain ⟨g9, g10⟩ := sh_bits g1 g2 g8
      have hsub : nI (31 - t) + Int32.ofInt (-2) = nI (31 - (t + 2)) := by
          have e : nI (31 - t) = nI (31 - (t + 2)) + nI 2 := by rw [nI_add]; congr 1; omega
          rw [e, Int32.add_assoc, show nI 2 + Int32.ofInt (-2) = 0 by decide, Int32.add_zero]
      refine lv_iinc (k := 1) (v := nI (31 - (t + 2))) hx hb dJI_numberOfLeadingZeros_66 hl rfl (hsub) (by decide) rfl (fun ls hl => ?_)
      have hl : lv_has ls 2 [(1, .int (nI (31 - (t + 2)))), (0, .int (nI z))] := hl
      refine lv_iload_n hx hb dJI_numberOfLeadingZeros_69 rfl (lv_at hl 1 rfl) ?_
      refine lv_iconst (v := nI 2) hx hb dJI_numberOfLeadingZeros_70 (by decide) ?_
      refine lv_iushr (v := nI (z / 2 ^ 2)) hx hb dJI_numberOfLeadingZeros_71 (pk_ushrN (by omega) _ 2 (by decide)) ?_
      refine lv_istore_n hx hb dJI_numberOfLeadingZeros_72 rfl hl (by decide) rfl (fun ls hl => ?_)
      have hl : lv_has ls 2 [(0, .int (nI (z / 2 ^ 2))), (1, .int (nI (31 - (t + 2))))] := hl
      have hl : lv_has ls 2 [(0, .int (nI (z / 2 ^ 2))), (1, .int (nI (31 - (t + 2))))] := lv_sub hl [0, 1] rfl
      exact j73 (z / 2 ^ 2) (b - 2) (t + 2) _ _ _ (g9) (g10) (by omega) (by omega) (by omega) (by omega) hP hD hS hl
  have j48 : ∀ (z : Nat) (b : Nat) (t : Nat) (H : Heap) (locs : List Loc) (ls : Array Slot), 2 ^ b ≤ z → z < 2 ^ (b + 1) → z < 256 → B = b + t → t ≤ 31 → b ≤ 30 → va_P G vwCl [] H → va_D A [] → va_S A s.heap H locs → lv_has ls 2 [(0, .int (nI z)), (1, .int (nI (31 - t)))] → W p l e rmJI_numberOfLeadingZeros s m args below meth c H locs 0 0 Q (F0 m 48 ls []) := by
    intro z b t H locs ls g1 g2 g3 g4 g5 g6 hP hD hS hl
    refine lv_iload_n hx hb dJI_numberOfLeadingZeros_48 rfl (lv_at hl 0 rfl) ?_
    refine lv_bipush (v := nI 16) hx hb dJI_numberOfLeadingZeros_49 (by decide) ?_
    refine lv_icmp_lt (tgt := 61) hx hb dJI_numberOfLeadingZeros_51 (by decide) (fun hc => ?_) (fun hc => ?_)
    · have g7 : z < 2 ^ 4 := (nI_ltI (by omega) (by decide)).mp hc
      exact j61 z b t _ _ _ (g1) (g2) (by omega) (g4) (g5) (g6) hP hD hS hl
    · have g7 : 2 ^ 4 ≤ z := by
        rcases Nat.lt_or_ge z (2 ^ 4) with h | h
        · exact absurd ((nI_ltI (by omega) (by decide)).mpr h) hc
        · exact h
      have g8 : 4 ≤ b := bits_le g2 g7
      obtain ⟨g9, g10⟩ := sh_bits g1 g2 g8
      have hsub : nI (31 - t) + Int32.ofInt (-4) = nI (31 - (t + 4)) := by
          have e : nI (31 - t) = nI (31 - (t + 4)) + nI 4 := by rw [nI_add]; congr 1; omega
          rw [e, Int32.add_assoc, show nI 4 + Int32.ofInt (-4) = 0 by decide, Int32.add_zero]
      refine lv_iinc (k := 1) (v := nI (31 - (t + 4))) hx hb dJI_numberOfLeadingZeros_54 hl rfl (hsub) (by decide) rfl (fun ls hl => ?_)
      have hl : lv_has ls 2 [(1, .int (nI (31 - (t + 4)))), (0, .int (nI z))] := hl
      refine lv_iload_n hx hb dJI_numberOfLeadingZeros_57 rfl (lv_at hl 1 rfl) ?_
      refine lv_iconst (v := nI 4) hx hb dJI_numberOfLeadingZeros_58 (by decide) ?_
      refine lv_iushr (v := nI (z / 2 ^ 4)) hx hb dJI_numberOfLeadingZeros_59 (pk_ushrN (by omega) _ 4 (by decide)) ?_
      refine lv_istore_n hx hb dJI_numberOfLeadingZeros_60 rfl hl (by decide) rfl (fun ls hl => ?_)
      have hl : lv_has ls 2 [(0, .int (nI (z / 2 ^ 4))), (1, .int (nI (31 - (t + 4))))] := hl
      have hl : lv_has ls 2 [(0, .int (nI (z / 2 ^ 4))), (1, .int (nI (31 - (t + 4))))] := lv_sub hl [0, 1] rfl
      exact j61 (z / 2 ^ 4) (b - 4) (t + 4) _ _ _ (g9) (g10) (by omega) (by omega) (by omega) (by omega) hP hD hS hl
  have j33 : ∀ (z : Nat) (b : Nat) (t : Nat) (H : Heap) (locs : List Loc) (ls : Array Slot), 2 ^ b ≤ z → z < 2 ^ (b + 1) → z < 65536 → B = b + t → t ≤ 31 → b ≤ 30 → va_P G vwCl [] H → va_D A [] → va_S A s.heap H locs → lv_has ls 2 [(0, .int (nI z)), (1, .int (nI (31 - t)))] → W p l e rmJI_numberOfLeadingZeros s m args below meth c H locs 0 0 Q (F0 m 33 ls []) := by
    intro z b t H locs ls g1 g2 g3 g4 g5 g6 hP hD hS hl
    refine lv_iload_n hx hb dJI_numberOfLeadingZeros_33 rfl (lv_at hl 0 rfl) ?_
    refine lv_sipush (v := nI 256) hx hb dJI_numberOfLeadingZeros_34 (by decide) ?_
    refine lv_icmp_lt (tgt := 48) hx hb dJI_numberOfLeadingZeros_37 (by decide) (fun hc => ?_) (fun hc => ?_)
    · have g7 : z < 2 ^ 8 := (nI_ltI (by omega) (by decide)).mp hc
      exact j48 z b t _ _ _ (g1) (g2) (by omega) (g4) (g5) (g6) hP hD hS hl
    · have g7 : 2 ^ 8 ≤ z := by
        rcases Nat.lt_or_ge z (2 ^ 8) with h | h
        · exact absurd ((nI_ltI (by omega) (by decide)).mpr h) hc
        · exact h
      have g8 : 8 ≤ b := bits_le g2 g7
      obtain ⟨g9, g10⟩ := sh_bits g1 g2 g8
      have hsub : nI (31 - t) + Int32.ofInt (-8) = nI (31 - (t + 8)) := by
          have e : nI (31 - t) = nI (31 - (t + 8)) + nI 8 := by rw [nI_add]; congr 1; omega
          rw [e, Int32.add_assoc, show nI 8 + Int32.ofInt (-8) = 0 by decide, Int32.add_zero]
      refine lv_iinc (k := 1) (v := nI (31 - (t + 8))) hx hb dJI_numberOfLeadingZeros_40 hl rfl (hsub) (by decide) rfl (fun ls hl => ?_)
      have hl : lv_has ls 2 [(1, .int (nI (31 - (t + 8)))), (0, .int (nI z))] := hl
      refine lv_iload_n hx hb dJI_numberOfLeadingZeros_43 rfl (lv_at hl 1 rfl) ?_
      refine lv_bipush (v := nI 8) hx hb dJI_numberOfLeadingZeros_44 (by decide) ?_
      refine lv_iushr (v := nI (z / 2 ^ 8)) hx hb dJI_numberOfLeadingZeros_46 (pk_ushrN (by omega) _ 8 (by decide)) ?_
      refine lv_istore_n hx hb dJI_numberOfLeadingZeros_47 rfl hl (by decide) rfl (fun ls hl => ?_)
      have hl : lv_has ls 2 [(0, .int (nI (z / 2 ^ 8))), (1, .int (nI (31 - (t + 8))))] := hl
      have hl : lv_has ls 2 [(0, .int (nI (z / 2 ^ 8))), (1, .int (nI (31 - (t + 8))))] := lv_sub hl [0, 1] rfl
      exact j48 (z / 2 ^ 8) (b - 8) (t + 8) _ _ _ (g9) (g10) (by omega) (by omega) (by omega) (by omega) hP hD hS hl
  have j18 : ∀ (z : Nat) (b : Nat) (t : Nat) (H : Heap) (locs : List Loc) (ls : Array Slot), 2 ^ b ≤ z → z < 2 ^ (b + 1) → z < 2147483648 → B = b + t → t ≤ 31 → b ≤ 30 → va_P G vwCl [] H → va_D A [] → va_S A s.heap H locs → lv_has ls 2 [(0, .int (nI z)), (1, .int (nI (31 - t)))] → W p l e rmJI_numberOfLeadingZeros s m args below meth c H locs 0 0 Q (F0 m 18 ls []) := by
    intro z b t H locs ls g1 g2 g3 g4 g5 g6 hP hD hS hl
    refine lv_iload_n hx hb dJI_numberOfLeadingZeros_18 rfl (lv_at hl 0 rfl) ?_
    refine lv_ldcw (v := 65536) hx hb hown (hts _ kw_1_184) dJI_numberOfLeadingZeros_19 ?_
    refine tp_i (y := nI 65536) (rfl) ?_
    refine lv_icmp_lt (tgt := 33) hx hb dJI_numberOfLeadingZeros_22 (by decide) (fun hc => ?_) (fun hc => ?_)
    · have g7 : z < 2 ^ 16 := (nI_ltI (by omega) (by decide)).mp hc
      exact j33 z b t _ _ _ (g1) (g2) (by omega) (g4) (g5) (g6) hP hD hS hl
    · have g7 : 2 ^ 16 ≤ z := by
        rcases Nat.lt_or_ge z (2 ^ 16) with h | h
        · exact absurd ((nI_ltI (by omega) (by decide)).mpr h) hc
        · exact h
      have g8 : 16 ≤ b := bits_le g2 g7
      obtain ⟨g9, g10⟩ := sh_bits g1 g2 g8
      have hsub : nI (31 - t) + Int32.ofInt (-16) = nI (31 - (t + 16)) := by
          have e : nI (31 - t) = nI (31 - (t + 16)) + nI 16 := by rw [nI_add]; congr 1; omega
          rw [e, Int32.add_assoc, show nI 16 + Int32.ofInt (-16) = 0 by decide, Int32.add_zero]
      refine lv_iinc (k := 1) (v := nI (31 - (t + 16))) hx hb dJI_numberOfLeadingZeros_25 hl rfl (hsub) (by decide) rfl (fun ls hl => ?_)
      have hl : lv_has ls 2 [(1, .int (nI (31 - (t + 16)))), (0, .int (nI z))] := hl
      refine lv_iload_n hx hb dJI_numberOfLeadingZeros_28 rfl (lv_at hl 1 rfl) ?_
      refine lv_bipush (v := nI 16) hx hb dJI_numberOfLeadingZeros_29 (by decide) ?_
      refine lv_iushr (v := nI (z / 2 ^ 16)) hx hb dJI_numberOfLeadingZeros_31 (pk_ushrN (by omega) _ 16 (by decide)) ?_
      refine lv_istore_n hx hb dJI_numberOfLeadingZeros_32 rfl hl (by decide) rfl (fun ls hl => ?_)
      have hl : lv_has ls 2 [(0, .int (nI (z / 2 ^ 16))), (1, .int (nI (31 - (t + 16))))] := hl
      have hl : lv_has ls 2 [(0, .int (nI (z / 2 ^ 16))), (1, .int (nI (31 - (t + 16))))] := lv_sub hl [0, 1] rfl
      exact j33 (z / 2 ^ 16) (b - 16) (t + 16) _ _ _ (g9) (g10) (by omega) (by omega) (by omega) (by omega) hP hD hS hl
  refine lv_iload_n hx hb dJI_numberOfLeadingZeros_0 rfl (lv_at hl 0 rfl) ?_
  refine lv_if_gt (tgt := 15) hx hb dJI_numberOfLeadingZeros_1 (by decide) (fun _ => ?_) (fun hc => absurd ((nI_ltI (by decide) hx31).mpr hp) hc)
  refine lv_bipush (v := nI 31) hx hb dJI_numberOfLeadingZeros_15 (by decide) ?_
  refine lv_istore_n hx hb dJI_numberOfLeadingZeros_17 rfl hl (by decide) rfl (fun ls hl => ?_)
  have hl : lv_has ls 2 [(1, .int (nI 31)), (0, .int (nI x))] := hl
  have hl : lv_has ls 2 [(0, .int (nI x)), (1, .int (nI 31))] := lv_sub hl [1, 0] rfl
  exact j18 x B 0 _ _ _ (h1) (h2) (hx31) (rfl) (by decide) (hB) hP hD hS hl
set_option maxRecDepth 100000 in
set_option maxHeartbeats 4000000 in
theorem c_nlzN (x : Nat) (h1 : 2 ^ 31 ≤ x) (h2 : x < 2 ^ 32) : CTi l G (tyL cI cB cC cJ) yJI_numberOfLeadingZeros cJI_numberOfLeadingZeros 2 .int rmJI_numberOfLeadingZeros [.int (nI x)] [] (fun r (_ : Unit) => r = nI 0) (fun _ => []) := by
  refine mkI cJI_numberOfLeadingZeros 2 RJI .int (by decide) rfl (Nat.le_of_ble_eq_true rfl) ?_
  intro p e s m args below meth c A Q ls hx hb hml hts hown hnm hK hP hD hA hl fin
  have hS : va_S A s.heap s.heap [] := va_S.rf
  have hl : lv_has ls 2 [(0, .int (nI x))] := hl
  have hP : va_P G vwCl [] s.heap := hP
  have hD : va_D A [] := hD
  have hneg := nI_neg h1 h2
  refine lv_iload_n hx hb dJI_numberOfLeadingZeros_0 rfl (lv_at hl 0 rfl) ?_
  refine lv_if_gt (tgt := 15) hx hb dJI_numberOfLeadingZeros_1 (by decide) (fun hc => absurd hc (Int32.lt_asymm hneg)) (fun _ => ?_)
  refine lv_iload_n hx hb dJI_numberOfLeadingZeros_4 rfl (lv_at hl 0 rfl) ?_
  refine lv_if_ne (tgt := 13) hx hb dJI_numberOfLeadingZeros_5 (by decide) (fun _ => ?_) (fun hc => absurd hc (fun h => Int32.lt_irrefl (show (0 : Int32) < 0 by rw [h] at hneg; exact hneg)))
  refine lv_iconst (v := nI 0) hx hb dJI_numberOfLeadingZeros_13 (by decide) ?_
  exact fin (nI 0) (()) _ _ _ _ dJI_numberOfLeadingZeros_14 (rfl) (rfl) hP hD hS
abbrev rmJL_numberOfLeadingZeros : Room := { frames := 1, cells := 0, slots := 0, locals := 21 }
set_option maxRecDepth 100000 in
set_option maxHeartbeats 4000000 in
theorem c_lnlz (x B : Nat) (h1 : 2 ^ B ≤ x) (h2 : x < 2 ^ (B + 1)) (hB : B ≤ 62) : CTi l G (tyL cI cB cC cJ) yJL_numberOfLeadingZeros cJL_numberOfLeadingZeros 3 .int rmJL_numberOfLeadingZeros [.long (lN x)] [] (fun r (_ : Unit) => r = nI (63 - B)) (fun _ => []) := by
  refine mkI cJL_numberOfLeadingZeros 3 RJL .int (by decide) rfl (Nat.le_of_ble_eq_true rfl) ?_
  intro p e s m args below meth c A Q ls hx hb hml hts hown hnm hK hP hD hA hl fin
  have hS : va_S A s.heap s.heap [] := va_S.rf
  have hl : lv_has ls 3 [(0, .long (lN x))] := hl
  have hP : va_P G vwCl [] s.heap := hP
  have hD : va_D A [] := hD
  have hp : 0 < x := Nat.lt_of_lt_of_le (Nat.pow_pos (by decide)) h1
  have hx63 : x < 2 ^ 63 := Nat.lt_of_lt_of_le h2 (Nat.pow_le_pow_right (by decide) (by omega))
  refine lv_lload_n hx hb dJL_numberOfLeadingZeros_0 rfl (lv_at hl 0 rfl) ?_
  refine lv_bipush (v := nI 32) hx hb dJL_numberOfLeadingZeros_1 (by decide) ?_
  refine lv_lushr (v := lN (x / 2 ^ 32)) hx hb dJL_numberOfLeadingZeros_3 (wb_shr (by omega) (by decide)) ?_
  refine lv_l2i (v := nI (x / 2 ^ 32)) hx hb dJL_numberOfLeadingZeros_4 (lN_i _) ?_
  refine lv_istore_n hx hb dJL_numberOfLeadingZeros_5 rfl hl (by decide) rfl (fun ls hl => ?_)
  have hl : lv_has ls 3 [(2, .int (nI (x / 2 ^ 32))), (0, .long (lN x))] := hl
  refine lv_iload_n hx hb dJL_numberOfLeadingZeros_6 rfl (lv_at hl 0 rfl) ?_
  refine lv_if_ne (tgt := 21) hx hb dJL_numberOfLeadingZeros_7 (by decide) (fun hc => ?_) (fun hc => ?_)
  · have q1 : ¬ x / 2 ^ 32 = 0 := fun h => hc (by rw [h]; rfl)
    have q2 : 32 ≤ B := bits_le h2 (by omega)
    obtain ⟨q3, q4⟩ := sh_bits h1 h2 q2
    refine lv_iload_n hx hb dJL_numberOfLeadingZeros_21 rfl (lv_at hl 0 rfl) ?_
    refine jnI (Wr := []) (W2 := fun u => []) (rS (n := 1) (As := [.int (nI (x / 2 ^ 32))]) (rest := []) hx hb hml hown hts (c_nlz (x / 2 ^ 32) (B - 32) q3 q4 (by omega) _) kw_1_183 kw_1_181 kw_1_182 kw_1_12 (by decide +kernel) ⟨Nat.le_of_ble_eq_true rfl, Nat.le_of_ble_eq_true rfl⟩ hK hP hD [] rfl rfl rfl rfl hl.1 rfl (lv_room (Nat.le_of_ble_eq_true rfl)) dJL_numberOfLeadingZeros_22 ⟨Nat.le_of_ble_eq_true rfl, Nat.le_of_ble_eq_true rfl⟩) hP hD hS hA [] [] [] rfl rfl rfl (by decide) (fun _ => rfl) rfl (fun r u H locs hq hP hD hS => ?_)
    have hP : va_P G vwCl [] H := hP
    have hD : va_D A [] := hD
    exact fin (r) (()) _ _ _ _ dJL_numberOfLeadingZeros_25 (rfl) (by rw [hq]; congr 1; omega) hP hD hS
  · have q1 : x / 2 ^ 32 = 0 := by
      have := (nI_eq (by omega) (by decide)).mp hc
      exact this
    have q2 : B ≤ 31 := by
      rcases Nat.lt_or_ge B 32 with h | h
      · omega
      · have := Nat.pow_le_pow_right (show 0 < 2 by decide) h; omega
    refine lv_bipush (v := nI 32) hx hb dJL_numberOfLeadingZeros_10 (by decide) ?_
    by_cases q3 : B = 31
    · subst q3
      refine lv_lload_n hx hb dJL_numberOfLeadingZeros_12 rfl (lv_at hl 1 rfl) ?_
      refine lv_l2i (v := nI x) hx hb dJL_numberOfLeadingZeros_13 (lN_i _) ?_
      refine jnI (Wr := []) (W2 := fun u => []) (rS (n := 1) (As := [.int (nI x)]) (rest := [.int (nI 32)]) hx hb hml hown hts (c_nlzN x h1 h2 _) kw_1_183 kw_1_181 kw_1_182 kw_1_12 (by decide +kernel) ⟨Nat.le_of_ble_eq_true rfl, Nat.le_of_ble_eq_true rfl⟩ hK hP hD [] rfl rfl rfl rfl hl.1 rfl (lv_room (Nat.le_of_ble_eq_true rfl)) dJL_numberOfLeadingZeros_14 ⟨Nat.le_of_ble_eq_true rfl, Nat.le_of_ble_eq_true rfl⟩) hP hD hS hA [] [] [] rfl rfl rfl (by decide) (fun _ => rfl) rfl (fun r u H locs hq hP hD hS => ?_)
      have hP : va_P G vwCl [] H := hP
      have hD : va_D A [] := hD
      refine lv_iadd hx hb dJL_numberOfLeadingZeros_17 ?_
      refine lv_goto (tgt := 25) hx hb dJL_numberOfLeadingZeros_18 (by decide) ?_
      exact fin (nI 32 + r) (()) _ _ _ _ dJL_numberOfLeadingZeros_25 (rfl) (by rw [hq]; rfl) hP hD hS
    · refine lv_lload_n hx hb dJL_numberOfLeadingZeros_12 rfl (lv_at hl 1 rfl) ?_
      refine lv_l2i (v := nI x) hx hb dJL_numberOfLeadingZeros_13 (lN_i _) ?_
      refine jnI (Wr := []) (W2 := fun u => []) (rS (n := 1) (As := [.int (nI x)]) (rest := [.int (nI 32)]) hx hb hml hown hts (c_nlz x B h1 h2 (by omega) _) kw_1_183 kw_1_181 kw_1_182 kw_1_12 (by decide +kernel) ⟨Nat.le_of_ble_eq_true rfl, Nat.le_of_ble_eq_true rfl⟩ hK hP hD [] rfl rfl rfl rfl hl.1 rfl (lv_room (Nat.le_of_ble_eq_true rfl)) dJL_numberOfLeadingZeros_14 ⟨Nat.le_of_ble_eq_true rfl, Nat.le_of_ble_eq_true rfl⟩) hP hD hS hA [] [] [] rfl rfl rfl (by decide) (fun _ => rfl) rfl (fun r u H locs hq hP hD hS => ?_)
      have hP : va_P G vwCl [] H := hP
      have hD : va_D A [] := hD
      refine lv_iadd hx hb dJL_numberOfLeadingZeros_17 ?_
      refine lv_goto (tgt := 25) hx hb dJL_numberOfLeadingZeros_18 (by decide) ?_
      exact fin (nI 32 + r) (()) _ _ _ _ dJL_numberOfLeadingZeros_25 (rfl) (by rw [hq, nI_add]; congr 1; omega) hP hD hS
end JDK
