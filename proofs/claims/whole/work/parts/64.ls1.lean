section JDKB
variable {l : Launch} {G : va_G} {cI cB cC cJ : ClassId}
abbrev rmJL_stringSize : Room := { frames := 0, cells := 0, slots := 0, locals := 0 }
set_option maxRecDepth 100000 in
set_option maxHeartbeats 1500000 in
theorem c_ssize (z : Int) (h1 : -1000 < z) (h2 : z < 1000) : CTi l G (tyL cI cB cC cJ) yJL_stringSize cJL_stringSize 6 .int rmJL_stringSize [.long (lI z)] [] (fun r (_ : Unit) => r = nI (expL z)) (fun _ => []) := by
  refine mkI cJL_stringSize 6 RJL .int (by decide) rfl (Nat.le_of_ble_eq_true rfl) ?_
  intro p e s m args below meth c A Q ls hx hb hml hts hown hnm hK hP hD hA hl fin
  have hS : va_S A s.heap s.heap [] := va_S.rf
  have hl : lv_has ls 6 [(0, .long (lI z))] := hl
  have hP : va_P G vwCl [] s.heap := hP
  have hD : va_D A [] := hD
  have j13 : ∀ (dd : Nat) (H : Heap) (locs : List Loc) (ls : Array Slot), (dd = if z < 0 then 1 else 0) → va_P G vwCl [] H → va_D A [] → va_S A s.heap H locs → lv_has ls 6 [(2, .int (nI dd)), (0, .long (lI (-(z.natAbs : Int))))] → W p l e rmJL_stringSize s m args below meth c H locs 0 0 Q (F0 m 13 ls []) := by
    intro dd H locs ls hd hP hD hS hl
    have hd1 : dd ≤ 1 := by rw [hd]; split <;> decide
    refine lv_ldc2 (v := (-10)) hx hb hown (hts _ kw_3_80) dJL_stringSize_13 ?_
    refine tp_l (y := lI (-10)) (by decide) ?_
    refine lv_lstore_n hx hb dJL_stringSize_16 rfl hl (by decide) rfl (fun ls hl => ?_)
    have hl : lv_has ls 6 [(3, .long (lI (-10))), (2, .int (nI dd)), (0, .long (lI (-(z.natAbs : Int))))] := hl
    refine lv_iconst (v := nI 1) hx hb dJL_stringSize_17 (by decide) ?_
    refine lv_istore hx hb dJL_stringSize_18 hl (by decide) rfl (fun ls hl => ?_)
    have hl : lv_has ls 6 [(5, .int (nI 1)), (3, .long (lI (-10))), (2, .int (nI dd)), (0, .long (lI (-(z.natAbs : Int))))] := hl
    refine lv_iload hx hb dJL_stringSize_20 (lv_at hl 0 rfl) ?_
    refine lv_bipush (v := nI 19) hx hb dJL_stringSize_22 (by decide) ?_
    refine lv_icmp_ge (tgt := 50) hx hb dJL_stringSize_24 (by decide) (fun hc => absurd hc (by decide)) (fun _ => ?_)
    refine lv_lload_n hx hb dJL_stringSize_27 rfl (lv_at hl 3 rfl) ?_
    refine lv_lload_n hx hb dJL_stringSize_28 rfl (lv_at hl 1 rfl) ?_
    refine W.lcmp hx hb dJL_stringSize_29 ?_
    refine lv_if_le (tgt := 38) hx hb dJL_stringSize_30 (by decide) (fun hc1 => ?_) (fun hc1 => ?_)
    · have g1 : 10 ≤ z.natAbs := by have := (lI_le (a := -(z.natAbs : Int)) (b := -10) (by omega) (by omega) (by decide) (by decide)).mp ((lg_cmp_le _ _).mp hc1); omega
      refine lv_ldc2 (v := 10) hx hb hown (hts _ kw_3_81) dJL_stringSize_38 ?_
      refine tp_l (y := lI 10) (by decide) ?_
      refine lv_lload_n hx hb dJL_stringSize_41 rfl (lv_at hl 1 rfl) ?_
      refine lv_lmul hx hb dJL_stringSize_42 ?_
      refine tp_l (y := lI (-100)) (by decide) ?_
      refine lv_lstore_n hx hb dJL_stringSize_43 rfl hl (by decide) rfl (fun ls hl => ?_)
      have hl : lv_has ls 6 [(3, .long (lI (-100))), (5, .int (nI 1)), (2, .int (nI dd)), (0, .long (lI (-(z.natAbs : Int))))] := hl
      refine lv_iinc (k := 1) (v := nI 2) hx hb dJL_stringSize_44 hl rfl (by decide) (by decide) rfl (fun ls hl => ?_)
      have hl : lv_has ls 6 [(5, .int (nI 2)), (3, .long (lI (-100))), (2, .int (nI dd)), (0, .long (lI (-(z.natAbs : Int))))] := hl
      refine lv_goto (tgt := 20) hx hb dJL_stringSize_47 (by decide) ?_
      refine lv_iload hx hb dJL_stringSize_20 (lv_at hl 0 rfl) ?_
      refine lv_bipush (v := nI 19) hx hb dJL_stringSize_22 (by decide) ?_
      refine lv_icmp_ge (tgt := 50) hx hb dJL_stringSize_24 (by decide) (fun hc => absurd hc (by decide)) (fun _ => ?_)
      refine lv_lload_n hx hb dJL_stringSize_27 rfl (lv_at hl 3 rfl) ?_
      refine lv_lload_n hx hb dJL_stringSize_28 rfl (lv_at hl 1 rfl) ?_
      refine W.lcmp hx hb dJL_stringSize_29 ?_
      refine lv_if_le (tgt := 38) hx hb dJL_stringSize_30 (by decide) (fun hc2 => ?_) (fun hc2 => ?_)
      · have g2 : 100 ≤ z.natAbs := by have := (lI_le (a := -(z.natAbs : Int)) (b := -100) (by omega) (by omega) (by decide) (by decide)).mp ((lg_cmp_le _ _).mp hc2); omega
        refine lv_ldc2 (v := 10) hx hb hown (hts _ kw_3_81) dJL_stringSize_38 ?_
        refine tp_l (y := lI 10) (by decide) ?_
        refine lv_lload_n hx hb dJL_stringSize_41 rfl (lv_at hl 1 rfl) ?_
        refine lv_lmul hx hb dJL_stringSize_42 ?_
        refine tp_l (y := lI (-1000)) (by decide) ?_
        refine lv_lstore_n hx hb dJL_stringSize_43 rfl hl (by decide) rfl (fun ls hl => ?_)
        have hl : lv_has ls 6 [(3, .long (lI (-1000))), (5, .int (nI 2)), (2, .int (nI dd)), (0, .long (lI (-(z.natAbs : Int))))] := hl
        refine lv_iinc (k := 1) (v := nI 3) hx hb dJL_stringSize_44 hl rfl (by decide) (by decide) rfl (fun ls hl => ?_)
        have hl : lv_has ls 6 [(5, .int (nI 3)), (3, .long (lI (-1000))), (2, .int (nI dd)), (0, .long (lI (-(z.natAbs : Int))))] := hl
        refine lv_goto (tgt := 20) hx hb dJL_stringSize_47 (by decide) ?_
        refine lv_iload hx hb dJL_stringSize_20 (lv_at hl 0 rfl) ?_
        refine lv_bipush (v := nI 19) hx hb dJL_stringSize_22 (by decide) ?_
        refine lv_icmp_ge (tgt := 50) hx hb dJL_stringSize_24 (by decide) (fun hc => absurd hc (by decide)) (fun _ => ?_)
        refine lv_lload_n hx hb dJL_stringSize_27 rfl (lv_at hl 3 rfl) ?_
        refine lv_lload_n hx hb dJL_stringSize_28 rfl (lv_at hl 1 rfl) ?_
        refine W.lcmp hx hb dJL_stringSize_29 ?_
        refine lv_if_le (tgt := 38) hx hb dJL_stringSize_30 (by decide) (fun hc => absurd hc (fun h => by have := (lI_le (a := -(z.natAbs : Int)) (b := -1000) (by omega) (by omega) (by decide) (by decide)).mp ((lg_cmp_le _ _).mp h); omega)) (fun _ => ?_)
        refine lv_iload hx hb dJL_stringSize_33 (lv_at hl 0 rfl) ?_
        refine lv_iload_n hx hb dJL_stringSize_35 rfl (lv_at hl 2 rfl) ?_
        refine lv_iadd hx hb dJL_stringSize_36 ?_
        refine tp_i (y := nI (expL z)) (by rw [nI_add]; congr 1; unfold expL; rw [hd]; rw [if_neg (show ¬ z.natAbs < 10 by omega), if_neg (show ¬ z.natAbs < 100 by omega)]; omega) ?_
        exact fin (nI (expL z)) (()) _ _ _ _ dJL_stringSize_37 (rfl) (rfl) hP hD hS
      · have g2 : ¬ 100 ≤ z.natAbs := fun h => hc2 ((lg_cmp_le _ _).mpr ((lI_le (a := -(z.natAbs : Int)) (b := -100) (by omega) (by omega) (by decide) (by decide)).mpr (by omega)))
        refine lv_iload hx hb dJL_stringSize_33 (lv_at hl 0 rfl) ?_
        refine lv_iload_n hx hb dJL_stringSize_35 rfl (lv_at hl 2 rfl) ?_
        refine lv_iadd hx hb dJL_stringSize_36 ?_
        refine tp_i (y := nI (expL z)) (by rw [nI_add]; congr 1; unfold expL; rw [hd]; rw [if_neg (show ¬ z.natAbs < 10 by omega), if_pos (show z.natAbs < 100 by omega)]; omega) ?_
        exact fin (nI (expL z)) (()) _ _ _ _ dJL_stringSize_37 (rfl) (rfl) hP hD hS
    · have g1 : ¬ 10 ≤ z.natAbs := fun h => hc1 ((lg_cmp_le _ _).mpr ((lI_le (a := -(z.natAbs : Int)) (b := -10) (by omega) (by omega) (by decide) (by decide)).mpr (by omega)))
      refine lv_iload hx hb dJL_stringSize_33 (lv_at hl 0 rfl) ?_
      refine lv_iload_n hx hb dJL_stringSize_35 rfl (lv_at hl 2 rfl) ?_
      refine lv_iadd hx hb dJL_stringSize_36 ?_
      refine tp_i (y := nI (expL z)) (by rw [nI_add]; congr 1; unfold expL; rw [hd]; rw [if_pos (show z.natAbs < 10 by omega)]; omega) ?_
      exact fin (nI (expL z)) (()) _ _ _ _ dJL_stringSize_37 (rfl) (rfl) hP hD hS
  refine lv_iconst (v := nI 1) hx hb dJL_stringSize_0 (by decide) ?_
  refine lv_istore_n hx hb dJL_stringSize_1 rfl hl (by decide) rfl (fun ls hl => ?_)
  have hl : lv_has ls 6 [(2, .int (nI 1)), (0, .long (lI z))] := hl
  refine lv_lload_n hx hb dJL_stringSize_2 rfl (lv_at hl 1 rfl) ?_
  refine lv_lconst (v := lN 0) hx hb dJL_stringSize_3 (by decide) ?_
  refine W.lcmp hx hb dJL_stringSize_4 ?_
  refine lv_if_lt (tgt := 13) hx hb dJL_stringSize_5 (by decide) (fun hc => ?_) (fun hc => ?_)
  · have h3 : z < 0 := (lI_lt (b := 0) (by omega) (by omega) (by decide) (by decide)).mp ((lg_cmp_lt _ _).mp hc)
    have hl : lv_has ls 6 [(2, .int (nI 1)), (0, .long (lI (-(z.natAbs : Int))))] := by rw [show -(z.natAbs : Int) = z by omega]; exact hl
    exact j13 1 _ _ _ (by rw [if_pos h3]) hP hD hS hl
  · have h3 : ¬ z < 0 := fun h => hc ((lg_cmp_lt _ _).mpr ((lI_lt (b := 0) (by omega) (by omega) (by decide) (by decide)).mpr h))
    refine lv_iconst (v := nI 0) hx hb dJL_stringSize_8 (by decide) ?_
    refine lv_istore_n hx hb dJL_stringSize_9 rfl hl (by decide) rfl (fun ls hl => ?_)
    have hl : lv_has ls 6 [(2, .int (nI 0)), (0, .long (lI z))] := hl
    refine lv_lload_n hx hb dJL_stringSize_10 rfl (lv_at hl 1 rfl) ?_
    refine lv_lneg hx hb dJL_stringSize_11 ?_
    refine tp_l (y := lI (-(z.natAbs : Int))) (by rw [lI_neg, show (z.natAbs : Int) = z by omega]) ?_
    refine lv_lstore_n hx hb dJL_stringSize_12 rfl hl (by decide) rfl (fun ls hl => ?_)
    have hl : lv_has ls 6 [(0, .long (lI (-(z.natAbs : Int)))), (2, .int (nI 0))] := hl
    have hl : lv_has ls 6 [(2, .int (nI 0)), (0, .long (lI (-(z.natAbs : Int))))] := lv_sub hl [1, 0] rfl
    exact j13 0 _ _ _ (by rw [if_neg h3]) hP hD hS hl
abbrev rmJL_getChars : Room := { frames := 0, cells := 0, slots := 0, locals := 0 }
set_option maxRecDepth 100000 in
set_option maxHeartbeats 1500000 in
theorem c_getChars (o1 o2 bq : Nat) (f : Nat → Int32) (z : Int) (h1 : -1000 < z) (h2 : z < 1000) : CEi (digE o1 o2) l G (tyL cI cB cC cJ) yJL_getChars cJL_getChars 11 .int rmJL_getChars [.long (lI z), .int (nI (expL z)), .ref bq] [(bq, .inl (cB, expL z, .inl f))] (fun _ (g : Nat → Int32) => ∀ j, j < expL z → g j = nI ((expT z).getD j 0)) (fun g => [(bq, .inl (cB, expL z, .inl g))]) := by
  refine mkIE cJL_getChars 11 RJL .int (by decide) rfl (Nat.le_of_ble_eq_true rfl) ?_
  intro p e s m args below meth c A Q ls hx hb hml hts hown hnm hK hP hD hA hE hl fin
  have hS : va_S A s.heap s.heap [] := va_S.rf
  have hl : lv_has ls 11 [(0, .long (lI z)), (2, .int (nI (expL z))), (3, .ref bq)] := hl
  have hP : va_P G vwCl [(bq, .inl (cB, expL z, .inl f))] s.heap := hP
  have hD : va_D A [(bq, .inl (cB, expL z, .inl f))] := hD
  have hE : digE o1 o2 A s s.heap := hE
  by_cases hneg : z < 0
  · by_cases hsz : z.natAbs < 10
    · have hw9 : z.natAbs < 1000 := by omega
      have hEL : expL z = 2 := by unfold expL; rw [if_pos hneg]; rw [if_pos hsz]
      have hl : lv_has ls 11 [(0, .long (lI z)), (2, .int (nI 2)), (3, .ref bq)] := by rw [hEL] at hl; exact hl
      have hP : va_P G vwCl [(bq, .inl (cB, 2, .inl f))] s.heap := by rw [hEL] at hP; exact hP
      have hD : va_D A [(bq, .inl (cB, 2, .inl f))] := by rw [hEL] at hD; exact hD
      refine lv_iload_n hx hb dJL_getChars_0 rfl (lv_at hl 1 rfl) ?_
      refine lv_istore hx hb dJL_getChars_1 hl (by decide) rfl (fun ls hl => ?_)
      have hl : lv_has ls 11 [(7, .int (nI 2)), (0, .long (lI z)), (2, .int (nI 2)), (3, .ref bq)] := hl
      refine lv_lload_n hx hb dJL_getChars_3 rfl (lv_at hl 1 rfl) ?_
      refine lv_lconst (v := lN 0) hx hb dJL_getChars_4 (by decide) ?_
      refine W.lcmp hx hb dJL_getChars_5 ?_
      refine lv_if_ge (tgt := 13) hx hb dJL_getChars_6 (by decide) (fun hc => absurd hc (fun h => by have := (lI_le (a := 0) (by decide) (by decide) (by omega) (by omega)).mp ((lg_cmp_ge _ _).mp h); omega)) (fun _ => ?_)
      refine lv_iconst (v := nI 1) hx hb dJL_getChars_9 (by decide) ?_
      refine lv_goto (tgt := 14) hx hb dJL_getChars_10 (by decide) ?_
      refine lv_istore hx hb dJL_getChars_14 hl (by decide) rfl (fun ls hl => ?_)
      have hl : lv_has ls 11 [(8, .int (nI 1)), (7, .int (nI 2)), (0, .long (lI z)), (2, .int (nI 2)), (3, .ref bq)] := hl
      refine lv_iload hx hb dJL_getChars_16 (lv_at hl 0 rfl) ?_
      refine lv_if_ne (tgt := 24) hx hb dJL_getChars_18 (by decide) (fun _ => ?_) (fun hc => absurd hc (by decide))
      have hl : lv_has ls 11 [(8, .int (nI 1)), (7, .int (nI 2)), (0, .long (lI (-(z.natAbs : Int)))), (2, .int (nI 2)), (3, .ref bq)] := by rw [show -(z.natAbs : Int) = z by omega]; exact hl
      refine lv_lload_n hx hb dJL_getChars_24 rfl (lv_at hl 2 rfl) ?_
      refine lv_ldc2 (v := (-2147483648)) hx hb hown (hts _ kw_3_86) dJL_getChars_25 ?_
      refine tp_l (y := lI (-2147483648)) (by decide) ?_
      refine W.lcmp hx hb dJL_getChars_28 ?_
      refine lv_if_gt (tgt := 82) hx hb dJL_getChars_29 (by decide) (fun _ => ?_) (fun hc => absurd ((lg_cmp_gt _ _).mpr ((lI_lt (by decide) (by decide) (by omega) (by omega)).mpr (by omega))) hc)
      refine lv_lload_n hx hb dJL_getChars_82 rfl (lv_at hl 2 rfl) ?_
      refine lv_l2i (v := -nI z.natAbs) hx hb dJL_getChars_83 (by rw [lI_i, mi_nI]) ?_
      refine lv_istore hx hb dJL_getChars_84 hl (by decide) rfl (fun ls hl => ?_)
      have hl : lv_has ls 11 [(10, .int (-nI z.natAbs)), (8, .int (nI 1)), (7, .int (nI 2)), (0, .long (lI (-(z.natAbs : Int)))), (2, .int (nI 2)), (3, .ref bq)] := hl
      refine lv_iload hx hb dJL_getChars_86 (lv_at hl 0 rfl) ?_
      refine lv_bipush (v := (-100)) hx hb dJL_getChars_88 (by decide) ?_
      refine tp_i (y := -nI 100) (by decide) ?_
      refine lv_icmp_gt (tgt := 143) hx hb dJL_getChars_90 (by decide) (fun _ => ?_) (fun hc => absurd ((sb_nlt (by decide) (by omega)).mpr (by omega)) hc)
      refine lv_aload_n hx hb dJL_getChars_143 rfl (lv_at hl 5 rfl) ?_
      refine lv_iinc (k := 2) (v := nI 1) hx hb dJL_getChars_144 hl rfl (by decide) (by decide) rfl (fun ls hl => ?_)
      have hl : lv_has ls 11 [(7, .int (nI 1)), (10, .int (-nI z.natAbs)), (8, .int (nI 1)), (0, .long (lI (-(z.natAbs : Int)))), (2, .int (nI 2)), (3, .ref bq)] := hl
      refine lv_iload hx hb dJL_getChars_147 (lv_at hl 0 rfl) ?_
      refine va_gets (v := .ref o1) hx hb hE.1 hS hown (hts _ kw_3_88) (fun _ h9 => h9) dJL_getChars_149 ?_
      refine lv_iload hx hb dJL_getChars_152 (lv_at hl 1 rfl) ?_
      refine lv_ineg hx hb dJL_getChars_154 ?_
      refine tp_i (y := nI (z.natAbs)) (nn_nI _) ?_
      refine va_tb (v := .int (lOnes z.natAbs)) hx hb hE.2.1 hS (vp_in_nI (by omega) (by decide)) (by show Value.int (lOnes (nI z.natAbs).toNatClampNeg) = _; rw [nI_clamp (by omega)]) dJL_getChars_155 ?_
      refine st_b (x' := nI (48 + z.natAbs % 10)) hx hb hK hP hD hS 0 1 rfl rfl 1 (rfl) (by omega) (by decide) (narb (by omega)) dJL_getChars_156 (fun H locs hP hD hS => ?_)
      have hP : va_P G vwCl [(bq, .inl (cB, 2, .inl (upd f 1 (nI (48 + z.natAbs % 10)))))] H := hP
      have hD : va_D A [(bq, .inl (cB, 2, .inl (upd f 1 (nI (48 + z.natAbs % 10)))))] := hD
      refine lv_iload hx hb dJL_getChars_157 (lv_at hl 1 rfl) ?_
      refine lv_bipush (v := (-9)) hx hb dJL_getChars_159 (by decide) ?_
      refine tp_i (y := -nI 9) (by decide) ?_
      refine lv_icmp_ge (tgt := 178) hx hb dJL_getChars_161 (by decide) (fun _ => ?_) (fun hc => absurd ((sb_nle (by decide) (by omega)).mpr (by omega)) hc)
      refine lv_iload hx hb dJL_getChars_178 (lv_at hl 2 rfl) ?_
      refine lv_if_eq (tgt := 192) hx hb dJL_getChars_180 (by decide) (fun hc => absurd hc (by decide)) (fun _ => ?_)
      refine lv_aload_n hx hb dJL_getChars_183 rfl (lv_at hl 5 rfl) ?_
      refine lv_iinc (k := 0) (v := nI 0) hx hb dJL_getChars_184 hl rfl (by decide) (by decide) rfl (fun ls hl => ?_)
      have hl : lv_has ls 11 [(7, .int (nI 0)), (10, .int (-nI z.natAbs)), (8, .int (nI 1)), (0, .long (lI (-(z.natAbs : Int)))), (2, .int (nI 2)), (3, .ref bq)] := hl
      refine lv_iload hx hb dJL_getChars_187 (lv_at hl 0 rfl) ?_
      refine lv_bipush (v := nI 45) hx hb dJL_getChars_189 (by decide) ?_
      refine st_b (x' := (nI 45)) hx hb hK hP hD hS 0 1 rfl rfl 0 (rfl) (by omega) (by decide) (narb (by decide)) dJL_getChars_191 (fun H locs hP hD hS => ?_)
      have hP : va_P G vwCl [(bq, .inl (cB, 2, .inl (upd (upd f 1 (nI (48 + z.natAbs % 10))) 0 (nI 45))))] H := hP
      have hD : va_D A [(bq, .inl (cB, 2, .inl (upd (upd f 1 (nI (48 + z.natAbs % 10))) 0 (nI 45))))] := hD
      refine lv_iload hx hb dJL_getChars_192 (lv_at hl 0 rfl) ?_
      have hP : va_P G vwCl [(bq, .inl (cB, expL z, .inl (upd (upd f 1 (nI (48 + z.natAbs % 10))) 0 (nI 45))))] H := by rw [hEL]; exact hP
      have hD : va_D A [(bq, .inl (cB, expL z, .inl (upd (upd f 1 (nI (48 + z.natAbs % 10))) 0 (nI 45))))] := by rw [hEL]; exact hD
      exact fin (nI 0) (upd (upd f 1 (nI (48 + z.natAbs % 10))) 0 (nI 45)) _ _ _ _ dJL_getChars_194 (rfl) (fun j hj => by
          rw [hEL] at hj
          rw [exp_A hsz, if_pos hneg]
          rcases (show j = 0 ∨ j = 1 by omega) with rfl | rfl <;> simp [upd] <;> congr 1 <;> omega) hP hD hS
    · by_cases hsz2 : z.natAbs < 100
      · have hsz : 10 ≤ z.natAbs ∧ z.natAbs < 100 := by omega
        have hw9 : z.natAbs < 1000 := by omega
        have hEL : expL z = 3 := by unfold expL; rw [if_pos hneg]; rw [if_neg (show ¬ z.natAbs < 10 by omega), if_pos hsz.2]
        have hl : lv_has ls 11 [(0, .long (lI z)), (2, .int (nI 3)), (3, .ref bq)] := by rw [hEL] at hl; exact hl
        have hP : va_P G vwCl [(bq, .inl (cB, 3, .inl f))] s.heap := by rw [hEL] at hP; exact hP
        have hD : va_D A [(bq, .inl (cB, 3, .inl f))] := by rw [hEL] at hD; exact hD
        refine lv_iload_n hx hb dJL_getChars_0 rfl (lv_at hl 1 rfl) ?_
        refine lv_istore hx hb dJL_getChars_1 hl (by decide) rfl (fun ls hl => ?_)
        have hl : lv_has ls 11 [(7, .int (nI 3)), (0, .long (lI z)), (2, .int (nI 3)), (3, .ref bq)] := hl
        refine lv_lload_n hx hb dJL_getChars_3 rfl (lv_at hl 1 rfl) ?_
        refine lv_lconst (v := lN 0) hx hb dJL_getChars_4 (by decide) ?_
        refine W.lcmp hx hb dJL_getChars_5 ?_
        refine lv_if_ge (tgt := 13) hx hb dJL_getChars_6 (by decide) (fun hc => absurd hc (fun h => by have := (lI_le (a := 0) (by decide) (by decide) (by omega) (by omega)).mp ((lg_cmp_ge _ _).mp h); omega)) (fun _ => ?_)
        refine lv_iconst (v := nI 1) hx hb dJL_getChars_9 (by decide) ?_
        refine lv_goto (tgt := 14) hx hb dJL_getChars_10 (by decide) ?_
        refine lv_istore hx hb dJL_getChars_14 hl (by decide) rfl (fun ls hl => ?_)
        have hl : lv_has ls 11 [(8, .int (nI 1)), (7, .int (nI 3)), (0, .long (lI z)), (2, .int (nI 3)), (3, .ref bq)] := hl
        refine lv_iload hx hb dJL_getChars_16 (lv_at hl 0 rfl) ?_
        refine lv_if_ne (tgt := 24) hx hb dJL_getChars_18 (by decide) (fun _ => ?_) (fun hc => absurd hc (by decide))
        have hl : lv_has ls 11 [(8, .int (nI 1)), (7, .int (nI 3)), (0, .long (lI (-(z.natAbs : Int)))), (2, .int (nI 3)), (3, .ref bq)] := by rw [show -(z.natAbs : Int) = z by omega]; exact hl
        refine lv_lload_n hx hb dJL_getChars_24 rfl (lv_at hl 2 rfl) ?_
        refine lv_ldc2 (v := (-2147483648)) hx hb hown (hts _ kw_3_86) dJL_getChars_25 ?_
        refine tp_l (y := lI (-2147483648)) (by decide) ?_
        refine W.lcmp hx hb dJL_getChars_28 ?_
        refine lv_if_gt (tgt := 82) hx hb dJL_getChars_29 (by decide) (fun _ => ?_) (fun hc => absurd ((lg_cmp_gt _ _).mpr ((lI_lt (by decide) (by decide) (by omega) (by omega)).mpr (by omega))) hc)
        refine lv_lload_n hx hb dJL_getChars_82 rfl (lv_at hl 2 rfl) ?_
        refine lv_l2i (v := -nI z.natAbs) hx hb dJL_getChars_83 (by rw [lI_i, mi_nI]) ?_
        refine lv_istore hx hb dJL_getChars_84 hl (by decide) rfl (fun ls hl => ?_)
        have hl : lv_has ls 11 [(10, .int (-nI z.natAbs)), (8, .int (nI 1)), (7, .int (nI 3)), (0, .long (lI (-(z.natAbs : Int)))), (2, .int (nI 3)), (3, .ref bq)] := hl
        refine lv_iload hx hb dJL_getChars_86 (lv_at hl 0 rfl) ?_
        refine lv_bipush (v := (-100)) hx hb dJL_getChars_88 (by decide) ?_
        refine tp_i (y := -nI 100) (by decide) ?_
        refine lv_icmp_gt (tgt := 143) hx hb dJL_getChars_90 (by decide) (fun _ => ?_) (fun hc => absurd ((sb_nlt (by decide) (by omega)).mpr (by omega)) hc)
        refine lv_aload_n hx hb dJL_getChars_143 rfl (lv_at hl 5 rfl) ?_
        refine lv_iinc (k := 2) (v := nI 2) hx hb dJL_getChars_144 hl rfl (by decide) (by decide) rfl (fun ls hl => ?_)
        have hl : lv_has ls 11 [(7, .int (nI 2)), (10, .int (-nI z.natAbs)), (8, .int (nI 1)), (0, .long (lI (-(z.natAbs : Int)))), (2, .int (nI 3)), (3, .ref bq)] := hl
        refine lv_iload hx hb dJL_getChars_147 (lv_at hl 0 rfl) ?_
        refine va_gets (v := .ref o1) hx hb hE.1 hS hown (hts _ kw_3_88) (fun _ h9 => h9) dJL_getChars_149 ?_
        refine lv_iload hx hb dJL_getChars_152 (lv_at hl 1 rfl) ?_
        refine lv_ineg hx hb dJL_getChars_154 ?_
        refine tp_i (y := nI (z.natAbs)) (nn_nI _) ?_
        refine va_tb (v := .int (lOnes z.natAbs)) hx hb hE.2.1 hS (vp_in_nI (by omega) (by decide)) (by show Value.int (lOnes (nI z.natAbs).toNatClampNeg) = _; rw [nI_clamp (by omega)]) dJL_getChars_155 ?_
        refine st_b (x' := nI (48 + z.natAbs % 10)) hx hb hK hP hD hS 0 1 rfl rfl 2 (rfl) (by omega) (by decide) (narb (by omega)) dJL_getChars_156 (fun H locs hP hD hS => ?_)
        have hP : va_P G vwCl [(bq, .inl (cB, 3, .inl (upd f 2 (nI (48 + z.natAbs % 10)))))] H := hP
        have hD : va_D A [(bq, .inl (cB, 3, .inl (upd f 2 (nI (48 + z.natAbs % 10)))))] := hD
        refine lv_iload hx hb dJL_getChars_157 (lv_at hl 1 rfl) ?_
        refine lv_bipush (v := (-9)) hx hb dJL_getChars_159 (by decide) ?_
        refine tp_i (y := -nI 9) (by decide) ?_
        refine lv_icmp_ge (tgt := 178) hx hb dJL_getChars_161 (by decide) (fun hc => absurd hc (fun h => by have := (sb_nle (by decide) (by omega)).mp h; omega)) (fun _ => ?_)
        refine lv_aload_n hx hb dJL_getChars_164 rfl (lv_at hl 5 rfl) ?_
        refine lv_iinc (k := 0) (v := nI 1) hx hb dJL_getChars_165 hl rfl (by decide) (by decide) rfl (fun ls hl => ?_)
        have hl : lv_has ls 11 [(7, .int (nI 1)), (10, .int (-nI z.natAbs)), (8, .int (nI 1)), (0, .long (lI (-(z.natAbs : Int)))), (2, .int (nI 3)), (3, .ref bq)] := hl
        refine lv_iload hx hb dJL_getChars_168 (lv_at hl 0 rfl) ?_
        refine va_gets (v := .ref o2) hx hb hE.2.2.1 hS hown (hts _ kw_3_90) (fun _ h9 => h9) dJL_getChars_170 ?_
        refine lv_iload hx hb dJL_getChars_173 (lv_at hl 1 rfl) ?_
        refine lv_ineg hx hb dJL_getChars_175 ?_
        refine tp_i (y := nI (z.natAbs)) (nn_nI _) ?_
        refine va_tb (v := .int (lTens z.natAbs)) hx hb hE.2.2.2 hS (vp_in_nI (by omega) (by decide)) (by show Value.int (lTens (nI z.natAbs).toNatClampNeg) = _; rw [nI_clamp (by omega)]) dJL_getChars_176 ?_
        refine st_b (x' := nI (48 + z.natAbs / 10)) hx hb hK hP hD hS 0 1 rfl rfl 1 (rfl) (by omega) (by decide) (narb (by omega)) dJL_getChars_177 (fun H locs hP hD hS => ?_)
        have hP : va_P G vwCl [(bq, .inl (cB, 3, .inl (upd (upd f 2 (nI (48 + z.natAbs % 10))) 1 (nI (48 + z.natAbs / 10)))))] H := hP
        have hD : va_D A [(bq, .inl (cB, 3, .inl (upd (upd f 2 (nI (48 + z.natAbs % 10))) 1 (nI (48 + z.natAbs / 10)))))] := hD
        refine lv_iload hx hb dJL_getChars_178 (lv_at hl 2 rfl) ?_
        refine lv_if_eq (tgt := 192) hx hb dJL_getChars_180 (by decide) (fun hc => absurd hc (by decide)) (fun _ => ?_)
        refine lv_aload_n hx hb dJL_getChars_183 rfl (lv_at hl 5 rfl) ?_
        refine lv_iinc (k := 0) (v := nI 0) hx hb dJL_getChars_184 hl rfl (by decide) (by decide) rfl (fun ls hl => ?_)
        have hl : lv_has ls 11 [(7, .int (nI 0)), (10, .int (-nI z.natAbs)), (8, .int (nI 1)), (0, .long (lI (-(z.natAbs : Int)))), (2, .int (nI 3)), (3, .ref bq)] := hl
        refine lv_iload hx hb dJL_getChars_187 (lv_at hl 0 rfl) ?_
        refine lv_bipush (v := nI 45) hx hb dJL_getChars_189 (by decide) ?_
        refine st_b (x' := (nI 45)) hx hb hK hP hD hS 0 1 rfl rfl 0 (rfl) (by omega) (by decide) (narb (by decide)) dJL_getChars_191 (fun H locs hP hD hS => ?_)
        have hP : va_P G vwCl [(bq, .inl (cB, 3, .inl (upd (upd (upd f 2 (nI (48 + z.natAbs % 10))) 1 (nI (48 + z.natAbs / 10))) 0 (nI 45))))] H := hP
        have hD : va_D A [(bq, .inl (cB, 3, .inl (upd (upd (upd f 2 (nI (48 + z.natAbs % 10))) 1 (nI (48 + z.natAbs / 10))) 0 (nI 45))))] := hD
        refine lv_iload hx hb dJL_getChars_192 (lv_at hl 0 rfl) ?_
        have hP : va_P G vwCl [(bq, .inl (cB, expL z, .inl (upd (upd (upd f 2 (nI (48 + z.natAbs % 10))) 1 (nI (48 + z.natAbs / 10))) 0 (nI 45))))] H := by rw [hEL]; exact hP
        have hD : va_D A [(bq, .inl (cB, expL z, .inl (upd (upd (upd f 2 (nI (48 + z.natAbs % 10))) 1 (nI (48 + z.natAbs / 10))) 0 (nI 45))))] := by rw [hEL]; exact hD
        exact fin (nI 0) (upd (upd (upd f 2 (nI (48 + z.natAbs % 10))) 1 (nI (48 + z.natAbs / 10))) 0 (nI 45)) _ _ _ _ dJL_getChars_194 (rfl) (fun j hj => by
            rw [hEL] at hj
            rw [exp_B hsz.1 hsz.2, if_pos hneg]
            rcases (show j = 0 ∨ j = 1 ∨ j = 2 by omega) with rfl | rfl | rfl <;> simp [upd] <;> congr 1 <;> omega) hP hD hS
      · have hsz : 100 ≤ z.natAbs := by omega
        have hw9 : z.natAbs < 1000 := by omega
        have hEL : expL z = 4 := by unfold expL; rw [if_pos hneg]; rw [if_neg (show ¬ z.natAbs < 10 by omega), if_neg (show ¬ z.natAbs < 100 by omega)]
        have hl : lv_has ls 11 [(0, .long (lI z)), (2, .int (nI 4)), (3, .ref bq)] := by rw [hEL] at hl; exact hl
        have hP : va_P G vwCl [(bq, .inl (cB, 4, .inl f))] s.heap := by rw [hEL] at hP; exact hP
        have hD : va_D A [(bq, .inl (cB, 4, .inl f))] := by rw [hEL] at hD; exact hD
        refine lv_iload_n hx hb dJL_getChars_0 rfl (lv_at hl 1 rfl) ?_
        refine lv_istore hx hb dJL_getChars_1 hl (by decide) rfl (fun ls hl => ?_)
        have hl : lv_has ls 11 [(7, .int (nI 4)), (0, .long (lI z)), (2, .int (nI 4)), (3, .ref bq)] := hl
        refine lv_lload_n hx hb dJL_getChars_3 rfl (lv_at hl 1 rfl) ?_
        refine lv_lconst (v := lN 0) hx hb dJL_getChars_4 (by decide) ?_
        refine W.lcmp hx hb dJL_getChars_5 ?_
        refine lv_if_ge (tgt := 13) hx hb dJL_getChars_6 (by decide) (fun hc => absurd hc (fun h => by have := (lI_le (a := 0) (by decide) (by decide) (by omega) (by omega)).mp ((lg_cmp_ge _ _).mp h); omega)) (fun _ => ?_)
        refine lv_iconst (v := nI 1) hx hb dJL_getChars_9 (by decide) ?_
        refine lv_goto (tgt := 14) hx hb dJL_getChars_10 (by decide) ?_
        refine lv_istore hx hb dJL_getChars_14 hl (by decide) rfl (fun ls hl => ?_)
        have hl : lv_has ls 11 [(8, .int (nI 1)), (7, .int (nI 4)), (0, .long (lI z)), (2, .int (nI 4)), (3, .ref bq)] := hl
        refine lv_iload hx hb dJL_getChars_16 (lv_at hl 0 rfl) ?_
        refine lv_if_ne (tgt := 24) hx hb dJL_getChars_18 (by decide) (fun _ => ?_) (fun hc => absurd hc (by decide))
        have hl : lv_has ls 11 [(8, .int (nI 1)), (7, .int (nI 4)), (0, .long (lI (-(z.natAbs : Int)))), (2, .int (nI 4)), (3, .ref bq)] := by rw [show -(z.natAbs : Int) = z by omega]; exact hl
        refine lv_lload_n hx hb dJL_getChars_24 rfl (lv_at hl 2 rfl) ?_
        refine lv_ldc2 (v := (-2147483648)) hx hb hown (hts _ kw_3_86) dJL_getChars_25 ?_
        refine tp_l (y := lI (-2147483648)) (by decide) ?_
        refine W.lcmp hx hb dJL_getChars_28 ?_
        refine lv_if_gt (tgt := 82) hx hb dJL_getChars_29 (by decide) (fun _ => ?_) (fun hc => absurd ((lg_cmp_gt _ _).mpr ((lI_lt (by decide) (by decide) (by omega) (by omega)).mpr (by omega))) hc)
        refine lv_lload_n hx hb dJL_getChars_82 rfl (lv_at hl 2 rfl) ?_
        refine lv_l2i (v := -nI z.natAbs) hx hb dJL_getChars_83 (by rw [lI_i, mi_nI]) ?_
        refine lv_istore hx hb dJL_getChars_84 hl (by decide) rfl (fun ls hl => ?_)
        have hl : lv_has ls 11 [(10, .int (-nI z.natAbs)), (8, .int (nI 1)), (7, .int (nI 4)), (0, .long (lI (-(z.natAbs : Int)))), (2, .int (nI 4)), (3, .ref bq)] := hl
        refine lv_iload hx hb dJL_getChars_86 (lv_at hl 0 rfl) ?_
        refine lv_bipush (v := (-100)) hx hb dJL_getChars_88 (by decide) ?_
        refine tp_i (y := -nI 100) (by decide) ?_
        refine lv_icmp_gt (tgt := 143) hx hb dJL_getChars_90 (by decide) (fun hc => absurd hc (fun h => by have := (sb_nlt (by decide) (by omega)).mp h; omega)) (fun _ => ?_)
        refine lv_iload hx hb dJL_getChars_93 (lv_at hl 0 rfl) ?_
        refine lv_bipush (v := nI 100) hx hb dJL_getChars_95 (by decide) ?_
        refine lv_idiv hx hb dJL_getChars_97 (by decide) ?_
        refine tp_i (y := -nI (z.natAbs / 100)) (sb_ndiv (by omega)) ?_
        refine lv_istore hx hb dJL_getChars_98 hl (by decide) rfl (fun ls hl => ?_)
        have hl : lv_has ls 11 [(9, .int (-nI (z.natAbs / 100))), (10, .int (-nI z.natAbs)), (8, .int (nI 1)), (7, .int (nI 4)), (0, .long (lI (-(z.natAbs : Int)))), (2, .int (nI 4)), (3, .ref bq)] := hl
        refine lv_iload hx hb dJL_getChars_100 (lv_at hl 0 rfl) ?_
        refine lv_bipush (v := nI 100) hx hb dJL_getChars_102 (by decide) ?_
        refine lv_imul hx hb dJL_getChars_104 ?_
        refine lv_iload hx hb dJL_getChars_105 (lv_at hl 1 rfl) ?_
        refine lv_isub hx hb dJL_getChars_107 ?_
        refine tp_i (y := nI (z.natAbs % 100)) (sb_nrem (by omega)) ?_
        refine lv_istore hx hb dJL_getChars_108 hl (by decide) rfl (fun ls hl => ?_)
        have hl : lv_has ls 11 [(6, .int (nI (z.natAbs % 100))), (9, .int (-nI (z.natAbs / 100))), (10, .int (-nI z.natAbs)), (8, .int (nI 1)), (7, .int (nI 4)), (0, .long (lI (-(z.natAbs : Int)))), (2, .int (nI 4)), (3, .ref bq)] := hl
        refine lv_iload hx hb dJL_getChars_110 (lv_at hl 1 rfl) ?_
        refine lv_istore hx hb dJL_getChars_112 hl (by decide) rfl (fun ls hl => ?_)
        have hl : lv_has ls 11 [(10, .int (-nI (z.natAbs / 100))), (6, .int (nI (z.natAbs % 100))), (9, .int (-nI (z.natAbs / 100))), (8, .int (nI 1)), (7, .int (nI 4)), (0, .long (lI (-(z.natAbs : Int)))), (2, .int (nI 4)), (3, .ref bq)] := hl
        refine lv_aload_n hx hb dJL_getChars_114 rfl (lv_at hl 7 rfl) ?_
        refine lv_iinc (k := 4) (v := nI 3) hx hb dJL_getChars_115 hl rfl (by decide) (by decide) rfl (fun ls hl => ?_)
        have hl : lv_has ls 11 [(7, .int (nI 3)), (10, .int (-nI (z.natAbs / 100))), (6, .int (nI (z.natAbs % 100))), (9, .int (-nI (z.natAbs / 100))), (8, .int (nI 1)), (0, .long (lI (-(z.natAbs : Int)))), (2, .int (nI 4)), (3, .ref bq)] := hl
        refine lv_iload hx hb dJL_getChars_118 (lv_at hl 0 rfl) ?_
        refine va_gets (v := .ref o1) hx hb hE.1 hS hown (hts _ kw_3_88) (fun _ h9 => h9) dJL_getChars_120 ?_
        refine lv_iload hx hb dJL_getChars_123 (lv_at hl 2 rfl) ?_
        refine va_tb (v := .int (lOnes (z.natAbs % 100))) hx hb hE.2.1 hS (vp_in_nI (by omega) (by decide)) (by show Value.int (lOnes (nI (z.natAbs % 100)).toNatClampNeg) = _; rw [nI_clamp (by omega)]) dJL_getChars_125 ?_
        refine st_b (x' := nI (48 + z.natAbs % 100 % 10)) hx hb hK hP hD hS 0 1 rfl rfl 3 (rfl) (by omega) (by decide) (narb (by omega)) dJL_getChars_126 (fun H locs hP hD hS => ?_)
        have hP : va_P G vwCl [(bq, .inl (cB, 4, .inl (upd f 3 (nI (48 + z.natAbs % 100 % 10)))))] H := hP
        have hD : va_D A [(bq, .inl (cB, 4, .inl (upd f 3 (nI (48 + z.natAbs % 100 % 10)))))] := hD
        refine lv_aload_n hx hb dJL_getChars_127 rfl (lv_at hl 7 rfl) ?_
        refine lv_iinc (k := 0) (v := nI 2) hx hb dJL_getChars_128 hl rfl (by decide) (by decide) rfl (fun ls hl => ?_)
        have hl : lv_has ls 11 [(7, .int (nI 2)), (10, .int (-nI (z.natAbs / 100))), (6, .int (nI (z.natAbs % 100))), (9, .int (-nI (z.natAbs / 100))), (8, .int (nI 1)), (0, .long (lI (-(z.natAbs : Int)))), (2, .int (nI 4)), (3, .ref bq)] := hl
        refine lv_iload hx hb dJL_getChars_131 (lv_at hl 0 rfl) ?_
        refine va_gets (v := .ref o2) hx hb hE.2.2.1 hS hown (hts _ kw_3_90) (fun _ h9 => h9) dJL_getChars_133 ?_
        refine lv_iload hx hb dJL_getChars_136 (lv_at hl 2 rfl) ?_
        refine va_tb (v := .int (lTens (z.natAbs % 100))) hx hb hE.2.2.2 hS (vp_in_nI (by omega) (by decide)) (by show Value.int (lTens (nI (z.natAbs % 100)).toNatClampNeg) = _; rw [nI_clamp (by omega)]) dJL_getChars_138 ?_
        refine st_b (x' := nI (48 + z.natAbs % 100 / 10)) hx hb hK hP hD hS 0 1 rfl rfl 2 (rfl) (by omega) (by decide) (narb (by omega)) dJL_getChars_139 (fun H locs hP hD hS => ?_)
        have hP : va_P G vwCl [(bq, .inl (cB, 4, .inl (upd (upd f 3 (nI (48 + z.natAbs % 100 % 10))) 2 (nI (48 + z.natAbs % 100 / 10)))))] H := hP
        have hD : va_D A [(bq, .inl (cB, 4, .inl (upd (upd f 3 (nI (48 + z.natAbs % 100 % 10))) 2 (nI (48 + z.natAbs % 100 / 10)))))] := hD
        refine lv_goto (tgt := 86) hx hb dJL_getChars_140 (by decide) ?_
        refine lv_iload hx hb dJL_getChars_86 (lv_at hl 1 rfl) ?_
        refine lv_bipush (v := (-100)) hx hb dJL_getChars_88 (by decide) ?_
        refine tp_i (y := -nI 100) (by decide) ?_
        refine lv_icmp_gt (tgt := 143) hx hb dJL_getChars_90 (by decide) (fun _ => ?_) (fun hc => absurd ((sb_nlt (by decide) (by omega)).mpr (by omega)) hc)
        refine lv_aload_n hx hb dJL_getChars_143 rfl (lv_at hl 7 rfl) ?_
        refine lv_iinc (k := 0) (v := nI 1) hx hb dJL_getChars_144 hl rfl (by decide) (by decide) rfl (fun ls hl => ?_)
        have hl : lv_has ls 11 [(7, .int (nI 1)), (10, .int (-nI (z.natAbs / 100))), (6, .int (nI (z.natAbs % 100))), (9, .int (-nI (z.natAbs / 100))), (8, .int (nI 1)), (0, .long (lI (-(z.natAbs : Int)))), (2, .int (nI 4)), (3, .ref bq)] := hl
        refine lv_iload hx hb dJL_getChars_147 (lv_at hl 0 rfl) ?_
        refine va_gets (v := .ref o1) hx hb hE.1 hS hown (hts _ kw_3_88) (fun _ h9 => h9) dJL_getChars_149 ?_
        refine lv_iload hx hb dJL_getChars_152 (lv_at hl 1 rfl) ?_
        refine lv_ineg hx hb dJL_getChars_154 ?_
        refine tp_i (y := nI (z.natAbs / 100)) (nn_nI _) ?_
        refine va_tb (v := .int (lOnes (z.natAbs / 100))) hx hb hE.2.1 hS (vp_in_nI (by omega) (by decide)) (by show Value.int (lOnes (nI (z.natAbs / 100)).toNatClampNeg) = _; rw [nI_clamp (by omega)]) dJL_getChars_155 ?_
        refine st_b (x' := nI (48 + z.natAbs / 100 % 10)) hx hb hK hP hD hS 0 1 rfl rfl 1 (rfl) (by omega) (by decide) (narb (by omega)) dJL_getChars_156 (fun H locs hP hD hS => ?_)
        have hP : va_P G vwCl [(bq, .inl (cB, 4, .inl (upd (upd (upd f 3 (nI (48 + z.natAbs % 100 % 10))) 2 (nI (48 + z.natAbs % 100 / 10))) 1 (nI (48 + z.natAbs / 100 % 10)))))] H := hP
        have hD : va_D A [(bq, .inl (cB, 4, .inl (upd (upd (upd f 3 (nI (48 + z.natAbs % 100 % 10))) 2 (nI (48 + z.natAbs % 100 / 10))) 1 (nI (48 + z.natAbs / 100 % 10)))))] := hD
        refine lv_iload hx hb dJL_getChars_157 (lv_at hl 1 rfl) ?_
        refine lv_bipush (v := (-9)) hx hb dJL_getChars_159 (by decide) ?_
        refine tp_i (y := -nI 9) (by decide) ?_
        refine lv_icmp_ge (tgt := 178) hx hb dJL_getChars_161 (by decide) (fun _ => ?_) (fun hc => absurd ((sb_nle (by decide) (by omega)).mpr (by omega)) hc)
        refine lv_iload hx hb dJL_getChars_178 (lv_at hl 4 rfl) ?_
        refine lv_if_eq (tgt := 192) hx hb dJL_getChars_180 (by decide) (fun hc => absurd hc (by decide)) (fun _ => ?_)
        refine lv_aload_n hx hb dJL_getChars_183 rfl (lv_at hl 7 rfl) ?_
        refine lv_iinc (k := 0) (v := nI 0) hx hb dJL_getChars_184 hl rfl (by decide) (by decide) rfl (fun ls hl => ?_)
        have hl : lv_has ls 11 [(7, .int (nI 0)), (10, .int (-nI (z.natAbs / 100))), (6, .int (nI (z.natAbs % 100))), (9, .int (-nI (z.natAbs / 100))), (8, .int (nI 1)), (0, .long (lI (-(z.natAbs : Int)))), (2, .int (nI 4)), (3, .ref bq)] := hl
        refine lv_iload hx hb dJL_getChars_187 (lv_at hl 0 rfl) ?_
        refine lv_bipush (v := nI 45) hx hb dJL_getChars_189 (by decide) ?_
        refine st_b (x' := (nI 45)) hx hb hK hP hD hS 0 1 rfl rfl 0 (rfl) (by omega) (by decide) (narb (by decide)) dJL_getChars_191 (fun H locs hP hD hS => ?_)
        have hP : va_P G vwCl [(bq, .inl (cB, 4, .inl (upd (upd (upd (upd f 3 (nI (48 + z.natAbs % 100 % 10))) 2 (nI (48 + z.natAbs % 100 / 10))) 1 (nI (48 + z.natAbs / 100 % 10))) 0 (nI 45))))] H := hP
        have hD : va_D A [(bq, .inl (cB, 4, .inl (upd (upd (upd (upd f 3 (nI (48 + z.natAbs % 100 % 10))) 2 (nI (48 + z.natAbs % 100 / 10))) 1 (nI (48 + z.natAbs / 100 % 10))) 0 (nI 45))))] := hD
        refine lv_iload hx hb dJL_getChars_192 (lv_at hl 0 rfl) ?_
        have hP : va_P G vwCl [(bq, .inl (cB, expL z, .inl (upd (upd (upd (upd f 3 (nI (48 + z.natAbs % 100 % 10))) 2 (nI (48 + z.natAbs % 100 / 10))) 1 (nI (48 + z.natAbs / 100 % 10))) 0 (nI 45))))] H := by rw [hEL]; exact hP
        have hD : va_D A [(bq, .inl (cB, expL z, .inl (upd (upd (upd (upd f 3 (nI (48 + z.natAbs % 100 % 10))) 2 (nI (48 + z.natAbs % 100 / 10))) 1 (nI (48 + z.natAbs / 100 % 10))) 0 (nI 45))))] := by rw [hEL]; exact hD
        exact fin (nI 0) (upd (upd (upd (upd f 3 (nI (48 + z.natAbs % 100 % 10))) 2 (nI (48 + z.natAbs % 100 / 10))) 1 (nI (48 + z.natAbs / 100 % 10))) 0 (nI 45)) _ _ _ _ dJL_getChars_194 (rfl) (fun j hj => by
            rw [hEL] at hj
            rw [exp_C hsz, if_pos hneg]
            rcases (show j = 0 ∨ j = 1 ∨ j = 2 ∨ j = 3 by omega) with rfl | rfl | rfl | rfl <;> simp [upd] <;> congr 1 <;> omega) hP hD hS
  · by_cases hsz : z.natAbs < 10
    · have hw9 : z.natAbs < 1000 := by omega
      have hEL : expL z = 1 := by unfold expL; rw [if_neg hneg]; rw [if_pos hsz]
      have hl : lv_has ls 11 [(0, .long (lI z)), (2, .int (nI 1)), (3, .ref bq)] := by rw [hEL] at hl; exact hl
      have hP : va_P G vwCl [(bq, .inl (cB, 1, .inl f))] s.heap := by rw [hEL] at hP; exact hP
      have hD : va_D A [(bq, .inl (cB, 1, .inl f))] := by rw [hEL] at hD; exact hD
      refine lv_iload_n hx hb dJL_getChars_0 rfl (lv_at hl 1 rfl) ?_
      refine lv_istore hx hb dJL_getChars_1 hl (by decide) rfl (fun ls hl => ?_)
      have hl : lv_has ls 11 [(7, .int (nI 1)), (0, .long (lI z)), (2, .int (nI 1)), (3, .ref bq)] := hl
      refine lv_lload_n hx hb dJL_getChars_3 rfl (lv_at hl 1 rfl) ?_
      refine lv_lconst (v := lN 0) hx hb dJL_getChars_4 (by decide) ?_
      refine W.lcmp hx hb dJL_getChars_5 ?_
      refine lv_if_ge (tgt := 13) hx hb dJL_getChars_6 (by decide) (fun _ => ?_) (fun hc => absurd ((lg_cmp_ge _ _).mpr ((lI_le (a := 0) (by decide) (by decide) (by omega) (by omega)).mpr (by omega))) hc)
      refine lv_iconst (v := nI 0) hx hb dJL_getChars_13 (by decide) ?_
      refine lv_istore hx hb dJL_getChars_14 hl (by decide) rfl (fun ls hl => ?_)
      have hl : lv_has ls 11 [(8, .int (nI 0)), (7, .int (nI 1)), (0, .long (lI z)), (2, .int (nI 1)), (3, .ref bq)] := hl
      refine lv_iload hx hb dJL_getChars_16 (lv_at hl 0 rfl) ?_
      refine lv_if_ne (tgt := 24) hx hb dJL_getChars_18 (by decide) (fun hc => absurd (rfl) hc) (fun _ => ?_)
      refine lv_lload_n hx hb dJL_getChars_21 rfl (lv_at hl 2 rfl) ?_
      refine lv_lneg hx hb dJL_getChars_22 ?_
      refine tp_l (y := lI (-(z.natAbs : Int))) (by rw [lI_neg, show (z.natAbs : Int) = z by omega]) ?_
      refine lv_lstore_n hx hb dJL_getChars_23 rfl hl (by decide) rfl (fun ls hl => ?_)
      have hl : lv_has ls 11 [(0, .long (lI (-(z.natAbs : Int)))), (8, .int (nI 0)), (7, .int (nI 1)), (2, .int (nI 1)), (3, .ref bq)] := hl
      refine lv_lload_n hx hb dJL_getChars_24 rfl (lv_at hl 0 rfl) ?_
      refine lv_ldc2 (v := (-2147483648)) hx hb hown (hts _ kw_3_86) dJL_getChars_25 ?_
      refine tp_l (y := lI (-2147483648)) (by decide) ?_
      refine W.lcmp hx hb dJL_getChars_28 ?_
      refine lv_if_gt (tgt := 82) hx hb dJL_getChars_29 (by decide) (fun _ => ?_) (fun hc => absurd ((lg_cmp_gt _ _).mpr ((lI_lt (by decide) (by decide) (by omega) (by omega)).mpr (by omega))) hc)
      refine lv_lload_n hx hb dJL_getChars_82 rfl (lv_at hl 0 rfl) ?_
      refine lv_l2i (v := -nI z.natAbs) hx hb dJL_getChars_83 (by rw [lI_i, mi_nI]) ?_
      refine lv_istore hx hb dJL_getChars_84 hl (by decide) rfl (fun ls hl => ?_)
      have hl : lv_has ls 11 [(10, .int (-nI z.natAbs)), (0, .long (lI (-(z.natAbs : Int)))), (8, .int (nI 0)), (7, .int (nI 1)), (2, .int (nI 1)), (3, .ref bq)] := hl
      refine lv_iload hx hb dJL_getChars_86 (lv_at hl 0 rfl) ?_
      refine lv_bipush (v := (-100)) hx hb dJL_getChars_88 (by decide) ?_
      refine tp_i (y := -nI 100) (by decide) ?_
      refine lv_icmp_gt (tgt := 143) hx hb dJL_getChars_90 (by decide) (fun _ => ?_) (fun hc => absurd ((sb_nlt (by decide) (by omega)).mpr (by omega)) hc)
      refine lv_aload_n hx hb dJL_getChars_143 rfl (lv_at hl 5 rfl) ?_
      refine lv_iinc (k := 3) (v := nI 0) hx hb dJL_getChars_144 hl rfl (by decide) (by decide) rfl (fun ls hl => ?_)
      have hl : lv_has ls 11 [(7, .int (nI 0)), (10, .int (-nI z.natAbs)), (0, .long (lI (-(z.natAbs : Int)))), (8, .int (nI 0)), (2, .int (nI 1)), (3, .ref bq)] := hl
      refine lv_iload hx hb dJL_getChars_147 (lv_at hl 0 rfl) ?_
      refine va_gets (v := .ref o1) hx hb hE.1 hS hown (hts _ kw_3_88) (fun _ h9 => h9) dJL_getChars_149 ?_
      refine lv_iload hx hb dJL_getChars_152 (lv_at hl 1 rfl) ?_
      refine lv_ineg hx hb dJL_getChars_154 ?_
      refine tp_i (y := nI (z.natAbs)) (nn_nI _) ?_
      refine va_tb (v := .int (lOnes z.natAbs)) hx hb hE.2.1 hS (vp_in_nI (by omega) (by decide)) (by show Value.int (lOnes (nI z.natAbs).toNatClampNeg) = _; rw [nI_clamp (by omega)]) dJL_getChars_155 ?_
      refine st_b (x' := nI (48 + z.natAbs % 10)) hx hb hK hP hD hS 0 1 rfl rfl 0 (rfl) (by omega) (by decide) (narb (by omega)) dJL_getChars_156 (fun H locs hP hD hS => ?_)
      have hP : va_P G vwCl [(bq, .inl (cB, 1, .inl (upd f 0 (nI (48 + z.natAbs % 10)))))] H := hP
      have hD : va_D A [(bq, .inl (cB, 1, .inl (upd f 0 (nI (48 + z.natAbs % 10)))))] := hD
      refine lv_iload hx hb dJL_getChars_157 (lv_at hl 1 rfl) ?_
      refine lv_bipush (v := (-9)) hx hb dJL_getChars_159 (by decide) ?_
      refine tp_i (y := -nI 9) (by decide) ?_
      refine lv_icmp_ge (tgt := 178) hx hb dJL_getChars_161 (by decide) (fun _ => ?_) (fun hc => absurd ((sb_nle (by decide) (by omega)).mpr (by omega)) hc)
      refine lv_iload hx hb dJL_getChars_178 (lv_at hl 3 rfl) ?_
      refine lv_if_eq (tgt := 192) hx hb dJL_getChars_180 (by decide) (fun _ => ?_) (fun hc => absurd (rfl) hc)
      refine lv_iload hx hb dJL_getChars_192 (lv_at hl 0 rfl) ?_
      have hP : va_P G vwCl [(bq, .inl (cB, expL z, .inl (upd f 0 (nI (48 + z.natAbs % 10)))))] H := by rw [hEL]; exact hP
      have hD : va_D A [(bq, .inl (cB, expL z, .inl (upd f 0 (nI (48 + z.natAbs % 10)))))] := by rw [hEL]; exact hD
      exact fin (nI 0) (upd f 0 (nI (48 + z.natAbs % 10))) _ _ _ _ dJL_getChars_194 (rfl) (fun j hj => by
          rw [hEL] at hj
          rw [exp_A hsz, if_neg hneg]
          rcases (show j = 0 by omega) with rfl <;> simp [upd] <;> congr 1 <;> omega) hP hD hS
    · by_cases hsz2 : z.natAbs < 100
      · have hsz : 10 ≤ z.natAbs ∧ z.natAbs < 100 := by omega
        have hw9 : z.natAbs < 1000 := by omega
        have hEL : expL z = 2 := by unfold expL; rw [if_neg hneg]; rw [if_neg (show ¬ z.natAbs < 10 by omega), if_pos hsz.2]
        have hl : lv_has ls 11 [(0, .long (lI z)), (2, .int (nI 2)), (3, .ref bq)] := by rw [hEL] at hl; exact hl
        have hP : va_P G vwCl [(bq, .inl (cB, 2, .inl f))] s.heap := by rw [hEL] at hP; exact hP
        have hD : va_D A [(bq, .inl (cB, 2, .inl f))] := by rw [hEL] at hD; exact hD
        refine lv_iload_n hx hb dJL_getChars_0 rfl (lv_at hl 1 rfl) ?_
        refine lv_istore hx hb dJL_getChars_1 hl (by decide) rfl (fun ls hl => ?_)
        have hl : lv_has ls 11 [(7, .int (nI 2)), (0, .long (lI z)), (2, .int (nI 2)), (3, .ref bq)] := hl
        refine lv_lload_n hx hb dJL_getChars_3 rfl (lv_at hl 1 rfl) ?_
        refine lv_lconst (v := lN 0) hx hb dJL_getChars_4 (by decide) ?_
        refine W.lcmp hx hb dJL_getChars_5 ?_
        refine lv_if_ge (tgt := 13) hx hb dJL_getChars_6 (by decide) (fun _ => ?_) (fun hc => absurd ((lg_cmp_ge _ _).mpr ((lI_le (a := 0) (by decide) (by decide) (by omega) (by omega)).mpr (by omega))) hc)
        refine lv_iconst (v := nI 0) hx hb dJL_getChars_13 (by decide) ?_
        refine lv_istore hx hb dJL_getChars_14 hl (by decide) rfl (fun ls hl => ?_)
        have hl : lv_has ls 11 [(8, .int (nI 0)), (7, .int (nI 2)), (0, .long (lI z)), (2, .int (nI 2)), (3, .ref bq)] := hl
        refine lv_iload hx hb dJL_getChars_16 (lv_at hl 0 rfl) ?_
        refine lv_if_ne (tgt := 24) hx hb dJL_getChars_18 (by decide) (fun hc => absurd (rfl) hc) (fun _ => ?_)
        refine lv_lload_n hx hb dJL_getChars_21 rfl (lv_at hl 2 rfl) ?_
        refine lv_lneg hx hb dJL_getChars_22 ?_
        refine tp_l (y := lI (-(z.natAbs : Int))) (by rw [lI_neg, show (z.natAbs : Int) = z by omega]) ?_
        refine lv_lstore_n hx hb dJL_getChars_23 rfl hl (by decide) rfl (fun ls hl => ?_)
        have hl : lv_has ls 11 [(0, .long (lI (-(z.natAbs : Int)))), (8, .int (nI 0)), (7, .int (nI 2)), (2, .int (nI 2)), (3, .ref bq)] := hl
        refine lv_lload_n hx hb dJL_getChars_24 rfl (lv_at hl 0 rfl) ?_
        refine lv_ldc2 (v := (-2147483648)) hx hb hown (hts _ kw_3_86) dJL_getChars_25 ?_
        refine tp_l (y := lI (-2147483648)) (by decide) ?_
        refine W.lcmp hx hb dJL_getChars_28 ?_
        refine lv_if_gt (tgt := 82) hx hb dJL_getChars_29 (by decide) (fun _ => ?_) (fun hc => absurd ((lg_cmp_gt _ _).mpr ((lI_lt (by decide) (by decide) (by omega) (by omega)).mpr (by omega))) hc)
        refine lv_lload_n hx hb dJL_getChars_82 rfl (lv_at hl 0 rfl) ?_
        refine lv_l2i (v := -nI z.natAbs) hx hb dJL_getChars_83 (by rw [lI_i, mi_nI]) ?_
        refine lv_istore hx hb dJL_getChars_84 hl (by decide) rfl (fun ls hl => ?_)
        have hl : lv_has ls 11 [(10, .int (-nI z.natAbs)), (0, .long (lI (-(z.natAbs : Int)))), (8, .int (nI 0)), (7, .int (nI 2)), (2, .int (nI 2)), (3, .ref bq)] := hl
        refine lv_iload hx hb dJL_getChars_86 (lv_at hl 0 rfl) ?_
        refine lv_bipush (v := (-100)) hx hb dJL_getChars_88 (by decide) ?_
        refine tp_i (y := -nI 100) (by decide) ?_
        refine lv_icmp_gt (tgt := 143) hx hb dJL_getChars_90 (by decide) (fun _ => ?_) (fun hc => absurd ((sb_nlt (by decide) (by omega)).mpr (by omega)) hc)
        refine lv_aload_n hx hb dJL_getChars_143 rfl (lv_at hl 5 rfl) ?_
        refine lv_iinc (k := 3) (v := nI 1) hx hb dJL_getChars_144 hl rfl (by decide) (by decide) rfl (fun ls hl => ?_)
        have hl : lv_has ls 11 [(7, .int (nI 1)), (10, .int (-nI z.natAbs)), (0, .long (lI (-(z.natAbs : Int)))), (8, .int (nI 0)), (2, .int (nI 2)), (3, .ref bq)] := hl
        refine lv_iload hx hb dJL_getChars_147 (lv_at hl 0 rfl) ?_
        refine va_gets (v := .ref o1) hx hb hE.1 hS hown (hts _ kw_3_88) (fun _ h9 => h9) dJL_getChars_149 ?_
        refine lv_iload hx hb dJL_getChars_152 (lv_at hl 1 rfl) ?_
        refine lv_ineg hx hb dJL_getChars_154 ?_
        refine tp_i (y := nI (z.natAbs)) (nn_nI _) ?_
        refine va_tb (v := .int (lOnes z.natAbs)) hx hb hE.2.1 hS (vp_in_nI (by omega) (by decide)) (by show Value.int (lOnes (nI z.natAbs).toNatClampNeg) = _; rw [nI_clamp (by omega)]) dJL_getChars_155 ?_
        refine st_b (x' := nI (48 + z.natAbs % 10)) hx hb hK hP hD hS 0 1 rfl rfl 1 (rfl) (by omega) (by decide) (narb (by omega)) dJL_getChars_156 (fun H locs hP hD hS => ?_)
        have hP : va_P G vwCl [(bq, .inl (cB, 2, .inl (upd f 1 (nI (48 + z.natAbs % 10)))))] H := hP
        have hD : va_D A [(bq, .inl (cB, 2, .inl (upd f 1 (nI (48 + z.natAbs % 10)))))] := hD
        refine lv_iload hx hb dJL_getChars_157 (lv_at hl 1 rfl) ?_
        refine lv_bipush (v := (-9)) hx hb dJL_getChars_159 (by decide) ?_
        refine tp_i (y := -nI 9) (by decide) ?_
        refine lv_icmp_ge (tgt := 178) hx hb dJL_getChars_161 (by decide) (fun hc => absurd hc (fun h => by have := (sb_nle (by decide) (by omega)).mp h; omega)) (fun _ => ?_)
        refine lv_aload_n hx hb dJL_getChars_164 rfl (lv_at hl 5 rfl) ?_
        refine lv_iinc (k := 0) (v := nI 0) hx hb dJL_getChars_165 hl rfl (by decide) (by decide) rfl (fun ls hl => ?_)
        have hl : lv_has ls 11 [(7, .int (nI 0)), (10, .int (-nI z.natAbs)), (0, .long (lI (-(z.natAbs : Int)))), (8, .int (nI 0)), (2, .int (nI 2)), (3, .ref bq)] := hl
        refine lv_iload hx hb dJL_getChars_168 (lv_at hl 0 rfl) ?_
        refine va_gets (v := .ref o2) hx hb hE.2.2.1 hS hown (hts _ kw_3_90) (fun _ h9 => h9) dJL_getChars_170 ?_
        refine lv_iload hx hb dJL_getChars_173 (lv_at hl 1 rfl) ?_
        refine lv_ineg hx hb dJL_getChars_175 ?_
        refine tp_i (y := nI (z.natAbs)) (nn_nI _) ?_
        refine va_tb (v := .int (lTens z.natAbs)) hx hb hE.2.2.2 hS (vp_in_nI (by omega) (by decide)) (by show Value.int (lTens (nI z.natAbs).toNatClampNeg) = _; rw [nI_clamp (by omega)]) dJL_getChars_176 ?_
        refine st_b (x' := nI (48 + z.natAbs / 10)) hx hb hK hP hD hS 0 1 rfl rfl 0 (rfl) (by omega) (by decide) (narb (by omega)) dJL_getChars_177 (fun H locs hP hD hS => ?_)
        have hP : va_P G vwCl [(bq, .inl (cB, 2, .inl (upd (upd f 1 (nI (48 + z.natAbs % 10))) 0 (nI (48 + z.natAbs / 10)))))] H := hP
        have hD : va_D A [(bq, .inl (cB, 2, .inl (upd (upd f 1 (nI (48 + z.natAbs % 10))) 0 (nI (48 + z.natAbs / 10)))))] := hD
        refine lv_iload hx hb dJL_getChars_178 (lv_at hl 3 rfl) ?_
        refine lv_if_eq (tgt := 192) hx hb dJL_getChars_180 (by decide) (fun _ => ?_) (fun hc => absurd (rfl) hc)
        refine lv_iload hx hb dJL_getChars_192 (lv_at hl 0 rfl) ?_
        have hP : va_P G vwCl [(bq, .inl (cB, expL z, .inl (upd (upd f 1 (nI (48 + z.natAbs % 10))) 0 (nI (48 + z.natAbs / 10)))))] H := by rw [hEL]; exact hP
        have hD : va_D A [(bq, .inl (cB, expL z, .inl (upd (upd f 1 (nI (48 + z.natAbs % 10))) 0 (nI (48 + z.natAbs / 10)))))] := by rw [hEL]; exact hD
        exact fin (nI 0) (upd (upd f 1 (nI (48 + z.natAbs % 10))) 0 (nI (48 + z.natAbs / 10))) _ _ _ _ dJL_getChars_194 (rfl) (fun j hj => by
            rw [hEL] at hj
            rw [exp_B hsz.1 hsz.2, if_neg hneg]
            rcases (show j = 0 ∨ j = 1 by omega) with rfl | rfl <;> simp [upd] <;> congr 1 <;> omega) hP hD hS
      · have hsz : 100 ≤ z.natAbs := by omega
        have hw9 : z.natAbs < 1000 := by omega
        have hEL : expL z = 3 := by unfold expL; rw [if_neg hneg]; rw [if_neg (show ¬ z.natAbs < 10 by omega), if_neg (show ¬ z.natAbs < 100 by omega)]
        have hl : lv_has ls 11 [(0, .long (lI z)), (2, .int (nI 3)), (3, .ref bq)] := by rw [hEL] at hl; exact hl
        have hP : va_P G vwCl [(bq, .inl (cB, 3, .inl f))] s.heap := by rw [hEL] at hP; exact hP
        have hD : va_D A [(bq, .inl (cB, 3, .inl f))] := by rw [hEL] at hD; exact hD
        refine lv_iload_n hx hb dJL_getChars_0 rfl (lv_at hl 1 rfl) ?_
        refine lv_istore hx hb dJL_getChars_1 hl (by decide) rfl (fun ls hl => ?_)
        have hl : lv_has ls 11 [(7, .int (nI 3)), (0, .long (lI z)), (2, .int (nI 3)), (3, .ref bq)] := hl
        refine lv_lload_n hx hb dJL_getChars_3 rfl (lv_at hl 1 rfl) ?_
        refine lv_lconst (v := lN 0) hx hb dJL_getChars_4 (by decide) ?_
        refine W.lcmp hx hb dJL_getChars_5 ?_
        refine lv_if_ge (tgt := 13) hx hb dJL_getChars_6 (by decide) (fun _ => ?_) (fun hc => absurd ((lg_cmp_ge _ _).mpr ((lI_le (a := 0) (by decide) (by decide) (by omega) (by omega)).mpr (by omega))) hc)
        refine lv_iconst (v := nI 0) hx hb dJL_getChars_13 (by decide) ?_
        refine lv_istore hx hb dJL_getChars_14 hl (by decide) rfl (fun ls hl => ?_)
        have hl : lv_has ls 11 [(8, .int (nI 0)), (7, .int (nI 3)), (0, .long (lI z)), (2, .int (nI 3)), (3, .ref bq)] := hl
        refine lv_iload hx hb dJL_getChars_16 (lv_at hl 0 rfl) ?_
        refine lv_if_ne (tgt := 24) hx hb dJL_getChars_18 (by decide) (fun hc => absurd (rfl) hc) (fun _ => ?_)
        refine lv_lload_n hx hb dJL_getChars_21 rfl (lv_at hl 2 rfl) ?_
        refine lv_lneg hx hb dJL_getChars_22 ?_
        refine tp_l (y := lI (-(z.natAbs : Int))) (by rw [lI_neg, show (z.natAbs : Int) = z by omega]) ?_
        refine lv_lstore_n hx hb dJL_getChars_23 rfl hl (by decide) rfl (fun ls hl => ?_)
        have hl : lv_has ls 11 [(0, .long (lI (-(z.natAbs : Int)))), (8, .int (nI 0)), (7, .int (nI 3)), (2, .int (nI 3)), (3, .ref bq)] := hl
        refine lv_lload_n hx hb dJL_getChars_24 rfl (lv_at hl 0 rfl) ?_
        refine lv_ldc2 (v := (-2147483648)) hx hb hown (hts _ kw_3_86) dJL_getChars_25 ?_
        refine tp_l (y := lI (-2147483648)) (by decide) ?_
        refine W.lcmp hx hb dJL_getChars_28 ?_
        refine lv_if_gt (tgt := 82) hx hb dJL_getChars_29 (by decide) (fun _ => ?_) (fun hc => absurd ((lg_cmp_gt _ _).mpr ((lI_lt (by decide) (by decide) (by omega) (by omega)).mpr (by omega))) hc)
        refine lv_lload_n hx hb dJL_getChars_82 rfl (lv_at hl 0 rfl) ?_
        refine lv_l2i (v := -nI z.natAbs) hx hb dJL_getChars_83 (by rw [lI_i, mi_nI]) ?_
        refine lv_istore hx hb dJL_getChars_84 hl (by decide) rfl (fun ls hl => ?_)
        have hl : lv_has ls 11 [(10, .int (-nI z.natAbs)), (0, .long (lI (-(z.natAbs : Int)))), (8, .int (nI 0)), (7, .int (nI 3)), (2, .int (nI 3)), (3, .ref bq)] := hl
        refine lv_iload hx hb dJL_getChars_86 (lv_at hl 0 rfl) ?_
        refine lv_bipush (v := (-100)) hx hb dJL_getChars_88 (by decide) ?_
        refine tp_i (y := -nI 100) (by decide) ?_
        refine lv_icmp_gt (tgt := 143) hx hb dJL_getChars_90 (by decide) (fun hc => absurd hc (fun h => by have := (sb_nlt (by decide) (by omega)).mp h; omega)) (fun _ => ?_)
        refine lv_iload hx hb dJL_getChars_93 (lv_at hl 0 rfl) ?_
        refine lv_bipush (v := nI 100) hx hb dJL_getChars_95 (by decide) ?_
        refine lv_idiv hx hb dJL_getChars_97 (by decide) ?_
        refine tp_i (y := -nI (z.natAbs / 100)) (sb_ndiv (by omega)) ?_
        refine lv_istore hx hb dJL_getChars_98 hl (by decide) rfl (fun ls hl => ?_)
        have hl : lv_has ls 11 [(9, .int (-nI (z.natAbs / 100))), (10, .int (-nI z.natAbs)), (0, .long (lI (-(z.natAbs : Int)))), (8, .int (nI 0)), (7, .int (nI 3)), (2, .int (nI 3)), (3, .ref bq)] := hl
        refine lv_iload hx hb dJL_getChars_100 (lv_at hl 0 rfl) ?_
        refine lv_bipush (v := nI 100) hx hb dJL_getChars_102 (by decide) ?_
        refine lv_imul hx hb dJL_getChars_104 ?_
        refine lv_iload hx hb dJL_getChars_105 (lv_at hl 1 rfl) ?_
        refine lv_isub hx hb dJL_getChars_107 ?_
        refine tp_i (y := nI (z.natAbs % 100)) (sb_nrem (by omega)) ?_
        refine lv_istore hx hb dJL_getChars_108 hl (by decide) rfl (fun ls hl => ?_)
        have hl : lv_has ls 11 [(6, .int (nI (z.natAbs % 100))), (9, .int (-nI (z.natAbs / 100))), (10, .int (-nI z.natAbs)), (0, .long (lI (-(z.natAbs : Int)))), (8, .int (nI 0)), (7, .int (nI 3)), (2, .int (nI 3)), (3, .ref bq)] := hl
        refine lv_iload hx hb dJL_getChars_110 (lv_at hl 1 rfl) ?_
        refine lv_istore hx hb dJL_getChars_112 hl (by decide) rfl (fun ls hl => ?_)
        have hl : lv_has ls 11 [(10, .int (-nI (z.natAbs / 100))), (6, .int (nI (z.natAbs % 100))), (9, .int (-nI (z.natAbs / 100))), (0, .long (lI (-(z.natAbs : Int)))), (8, .int (nI 0)), (7, .int (nI 3)), (2, .int (nI 3)), (3, .ref bq)] := hl
        refine lv_aload_n hx hb dJL_getChars_114 rfl (lv_at hl 7 rfl) ?_
        refine lv_iinc (k := 5) (v := nI 2) hx hb dJL_getChars_115 hl rfl (by decide) (by decide) rfl (fun ls hl => ?_)
        have hl : lv_has ls 11 [(7, .int (nI 2)), (10, .int (-nI (z.natAbs / 100))), (6, .int (nI (z.natAbs % 100))), (9, .int (-nI (z.natAbs / 100))), (0, .long (lI (-(z.natAbs : Int)))), (8, .int (nI 0)), (2, .int (nI 3)), (3, .ref bq)] := hl
        refine lv_iload hx hb dJL_getChars_118 (lv_at hl 0 rfl) ?_
        refine va_gets (v := .ref o1) hx hb hE.1 hS hown (hts _ kw_3_88) (fun _ h9 => h9) dJL_getChars_120 ?_
        refine lv_iload hx hb dJL_getChars_123 (lv_at hl 2 rfl) ?_
        refine va_tb (v := .int (lOnes (z.natAbs % 100))) hx hb hE.2.1 hS (vp_in_nI (by omega) (by decide)) (by show Value.int (lOnes (nI (z.natAbs % 100)).toNatClampNeg) = _; rw [nI_clamp (by omega)]) dJL_getChars_125 ?_
        refine st_b (x' := nI (48 + z.natAbs % 100 % 10)) hx hb hK hP hD hS 0 1 rfl rfl 2 (rfl) (by omega) (by decide) (narb (by omega)) dJL_getChars_126 (fun H locs hP hD hS => ?_)
        have hP : va_P G vwCl [(bq, .inl (cB, 3, .inl (upd f 2 (nI (48 + z.natAbs % 100 % 10)))))] H := hP
        have hD : va_D A [(bq, .inl (cB, 3, .inl (upd f 2 (nI (48 + z.natAbs % 100 % 10)))))] := hD
        refine lv_aload_n hx hb dJL_getChars_127 rfl (lv_at hl 7 rfl) ?_
        refine lv_iinc (k := 0) (v := nI 1) hx hb dJL_getChars_128 hl rfl (by decide) (by decide) rfl (fun ls hl => ?_)
        have hl : lv_has ls 11 [(7, .int (nI 1)), (10, .int (-nI (z.natAbs / 100))), (6, .int (nI (z.natAbs % 100))), (9, .int (-nI (z.natAbs / 100))), (0, .long (lI (-(z.natAbs : Int)))), (8, .int (nI 0)), (2, .int (nI 3)), (3, .ref bq)] := hl
        refine lv_iload hx hb dJL_getChars_131 (lv_at hl 0 rfl) ?_
        refine va_gets (v := .ref o2) hx hb hE.2.2.1 hS hown (hts _ kw_3_90) (fun _ h9 => h9) dJL_getChars_133 ?_
        refine lv_iload hx hb dJL_getChars_136 (lv_at hl 2 rfl) ?_
        refine va_tb (v := .int (lTens (z.natAbs % 100))) hx hb hE.2.2.2 hS (vp_in_nI (by omega) (by decide)) (by show Value.int (lTens (nI (z.natAbs % 100)).toNatClampNeg) = _; rw [nI_clamp (by omega)]) dJL_getChars_138 ?_
        refine st_b (x' := nI (48 + z.natAbs % 100 / 10)) hx hb hK hP hD hS 0 1 rfl rfl 1 (rfl) (by omega) (by decide) (narb (by omega)) dJL_getChars_139 (fun H locs hP hD hS => ?_)
        have hP : va_P G vwCl [(bq, .inl (cB, 3, .inl (upd (upd f 2 (nI (48 + z.natAbs % 100 % 10))) 1 (nI (48 + z.natAbs % 100 / 10)))))] H := hP
        have hD : va_D A [(bq, .inl (cB, 3, .inl (upd (upd f 2 (nI (48 + z.natAbs % 100 % 10))) 1 (nI (48 + z.natAbs % 100 / 10)))))] := hD
        refine lv_goto (tgt := 86) hx hb dJL_getChars_140 (by decide) ?_
        refine lv_iload hx hb dJL_getChars_86 (lv_at hl 1 rfl) ?_
        refine lv_bipush (v := (-100)) hx hb dJL_getChars_88 (by decide) ?_
        refine tp_i (y := -nI 100) (by decide) ?_
        refine lv_icmp_gt (tgt := 143) hx hb dJL_getChars_90 (by decide) (fun _ => ?_) (fun hc => absurd ((sb_nlt (by decide) (by omega)).mpr (by omega)) hc)
        refine lv_aload_n hx hb dJL_getChars_143 rfl (lv_at hl 7 rfl) ?_
        refine lv_iinc (k := 0) (v := nI 0) hx hb dJL_getChars_144 hl rfl (by decide) (by decide) rfl (fun ls hl => ?_)
        have hl : lv_has ls 11 [(7, .int (nI 0)), (10, .int (-nI (z.natAbs / 100))), (6, .int (nI (z.natAbs % 100))), (9, .int (-nI (z.natAbs / 100))), (0, .long (lI (-(z.natAbs : Int)))), (8, .int (nI 0)), (2, .int (nI 3)), (3, .ref bq)] := hl
        refine lv_iload hx hb dJL_getChars_147 (lv_at hl 0 rfl) ?_
        refine va_gets (v := .ref o1) hx hb hE.1 hS hown (hts _ kw_3_88) (fun _ h9 => h9) dJL_getChars_149 ?_
        refine lv_iload hx hb dJL_getChars_152 (lv_at hl 1 rfl) ?_
        refine lv_ineg hx hb dJL_getChars_154 ?_
        refine tp_i (y := nI (z.natAbs / 100)) (nn_nI _) ?_
        refine va_tb (v := .int (lOnes (z.natAbs / 100))) hx hb hE.2.1 hS (vp_in_nI (by omega) (by decide)) (by show Value.int (lOnes (nI (z.natAbs / 100)).toNatClampNeg) = _; rw [nI_clamp (by omega)]) dJL_getChars_155 ?_
        refine st_b (x' := nI (48 + z.natAbs / 100 % 10)) hx hb hK hP hD hS 0 1 rfl rfl 0 (rfl) (by omega) (by decide) (narb (by omega)) dJL_getChars_156 (fun H locs hP hD hS => ?_)
        have hP : va_P G vwCl [(bq, .inl (cB, 3, .inl (upd (upd (upd f 2 (nI (48 + z.natAbs % 100 % 10))) 1 (nI (48 + z.natAbs % 100 / 10))) 0 (nI (48 + z.natAbs / 100 % 10)))))] H := hP
        have hD : va_D A [(bq, .inl (cB, 3, .inl (upd (upd (upd f 2 (nI (48 + z.natAbs % 100 % 10))) 1 (nI (48 + z.natAbs % 100 / 10))) 0 (nI (48 + z.natAbs / 100 % 10)))))] := hD
        refine lv_iload hx hb dJL_getChars_157 (lv_at hl 1 rfl) ?_
        refine lv_bipush (v := (-9)) hx hb dJL_getChars_159 (by decide) ?_
        refine tp_i (y := -nI 9) (by decide) ?_
        refine lv_icmp_ge (tgt := 178) hx hb dJL_getChars_161 (by decide) (fun _ => ?_) (fun hc => absurd ((sb_nle (by decide) (by omega)).mpr (by omega)) hc)
        refine lv_iload hx hb dJL_getChars_178 (lv_at hl 5 rfl) ?_
        refine lv_if_eq (tgt := 192) hx hb dJL_getChars_180 (by decide) (fun _ => ?_) (fun hc => absurd (rfl) hc)
        refine lv_iload hx hb dJL_getChars_192 (lv_at hl 0 rfl) ?_
        have hP : va_P G vwCl [(bq, .inl (cB, expL z, .inl (upd (upd (upd f 2 (nI (48 + z.natAbs % 100 % 10))) 1 (nI (48 + z.natAbs % 100 / 10))) 0 (nI (48 + z.natAbs / 100 % 10)))))] H := by rw [hEL]; exact hP
        have hD : va_D A [(bq, .inl (cB, expL z, .inl (upd (upd (upd f 2 (nI (48 + z.natAbs % 100 % 10))) 1 (nI (48 + z.natAbs % 100 / 10))) 0 (nI (48 + z.natAbs / 100 % 10)))))] := by rw [hEL]; exact hD
        exact fin (nI 0) (upd (upd (upd f 2 (nI (48 + z.natAbs % 100 % 10))) 1 (nI (48 + z.natAbs % 100 / 10))) 0 (nI (48 + z.natAbs / 100 % 10))) _ _ _ _ dJL_getChars_194 (rfl) (fun j hj => by
            rw [hEL] at hj
            rw [exp_C hsz, if_neg hneg]
            rcases (show j = 0 ∨ j = 1 ∨ j = 2 by omega) with rfl | rfl | rfl <;> simp [upd] <;> congr 1 <;> omega) hP hD hS
abbrev rmJS_init : Room := { frames := 1, cells := 0, slots := 0, locals := 12 }
set_option maxRecDepth 100000 in
set_option maxHeartbeats 1500000 in
theorem c_JSinit (q0 bq : Nat) : CTv l G (tyL cI cB cC cJ) yJS_init cJS_init 3 rmJS_init [.ref q0, .ref bq, .int (nI 0)] [(q0, .inr (6, [.null, .int 0, .int 0, .int 0]))] (fun _ : Unit => True) (fun _ => [(q0, .inr (6, [.ref bq, .int (nI 0), .int 0, .int 0]))]) := by
  refine mkV cJS_init 3 RJS (by decide) rfl (Nat.le_of_ble_eq_true rfl) ?_
  intro p e s m args below meth c A Q ls hx hb hml hts hown hnm hK hP hD hA hl fin
  have hS : va_S A s.heap s.heap [] := va_S.rf
  have hl : lv_has ls 3 [(0, .ref q0), (1, .ref bq), (2, .int (nI 0))] := hl
  have hP : va_P G vwCl [(q0, .inr (6, [.null, .int 0, .int 0, .int 0]))] s.heap := hP
  have hD : va_D A [(q0, .inr (6, [.null, .int 0, .int 0, .int 0]))] := hD
  have hin : meth.name = "<init>" := hnm
  refine lv_aload_n hx hb dJS_init_0 rfl (lv_at hl 0 rfl) ?_
  refine W.objInit hx hb hown (hts _ kw_3_97) (hts _ kw_1_24) (hts _ kw_1_25) rfl (by rw [hml]; exact hl.1) rfl dJS_init_1 (Nat.le_of_ble_eq_true rfl) (Nat.le_of_ble_eq_true rfl) ?_
  refine W.eq (g2 := F0 m 4 ls []) rfl ?_
  refine lv_aload_n hx hb dJS_init_4 rfl (lv_at hl 0 rfl) ?_
  refine lv_aload_n hx hb dJS_init_5 rfl (lv_at hl 1 rfl) ?_
  refine va_putF (D := G) (ci := 6) (v := .ref bq) (C := RJS) (T := TJS) (N := 4) hx hb hts inJS tyJS tyJS_ok nmJS hown hK hP hD hS 0 rfl rfl 0 (by decide) (hts _ kw_3_98) (fun _ h9 => h9) rfl hin rfl (tyJS_ok 0 (by decide)) (rfl) (rfl) (Nat.le_of_ble_eq_true rfl) dJS_init_6 (fun H locs hP hD hS => ?_)
  have hP : va_P G vwCl [(q0, .inr (6, [.ref bq, .int 0, .int 0, .int 0]))] H := hP
  have hD : va_D A [(q0, .inr (6, [.ref bq, .int 0, .int 0, .int 0]))] := hD
  refine lv_aload_n hx hb dJS_init_9 rfl (lv_at hl 0 rfl) ?_
  refine lv_iload_n hx hb dJS_init_10 rfl (lv_at hl 2 rfl) ?_
  refine va_putF (D := G) (ci := 6) (v := .int (nI 0)) (C := RJS) (T := TJS) (N := 4) hx hb hts inJS tyJS tyJS_ok nmJS hown hK hP hD hS 0 rfl rfl 1 (by decide) (hts _ kw_3_99) (fun _ h9 => h9) rfl hin rfl (tyJS_ok 1 (by decide)) (rfl) (rfl) (Nat.le_of_ble_eq_true rfl) dJS_init_11 (fun H locs hP hD hS => ?_)
  have hP : va_P G vwCl [(q0, .inr (6, [.ref bq, .int (nI 0), .int 0, .int 0]))] H := hP
  have hD : va_D A [(q0, .inr (6, [.ref bq, .int (nI 0), .int 0, .int 0]))] := hD
  exact fin (()) _ _ _ _ dJS_init_14 (trivial) hP hD hS
end JDKB
