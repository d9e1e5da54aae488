section MOA
variable {l : Launch} {G : va_G} {cI cB cC cJ : ClassId}
abbrev rmW_init : Room := { frames := 1, cells := 1, slots := 1300, locals := 12 }
set_option maxRecDepth 100000 in
set_option maxHeartbeats 4000000 in
theorem c_Winit (h0 : Nat) : CTv l G (tyL cI cB cC cJ) yW_init cW_init 1 rmW_init [.ref h0] [(h0, .inr (4, [.null, .int 0, .int 0]))] (fun _ : Nat => True) (fun q => wR cB h0 q (fun _ => 0, 0, 0)) := by
  refine mkV cW_init 1 RW (by decide) rfl (Nat.le_of_ble_eq_true rfl) ?_
  intro p e s m args below meth c A Q ls hx hb hml hts hown hnm hK hP hD hA hl fin
  have hS : va_S A s.heap s.heap [] := va_S.rf
  have hl : lv_has ls 1 [(0, .ref h0)] := hl
  have hP : va_P G vwCl [(h0, .inr (4, [.null, .int 0, .int 0]))] s.heap := hP
  have hD : va_D A [(h0, .inr (4, [.null, .int 0, .int 0]))] := hD
  have hin : meth.name = "<init>" := hnm
  refine lv_aload_n hx hb dW_init_0 rfl (lv_at hl 0 rfl) ?_
  refine W.objInit hx hb hown (hts _ kw_2_141) (hts _ kw_1_24) (hts _ kw_1_25) rfl (by rw [hml]; exact hl.1) rfl dW_init_1 (Nat.le_of_ble_eq_true rfl) (Nat.le_of_ble_eq_true rfl) ?_
  refine W.eq (g2 := F0 m 4 ls []) rfl ?_
  refine lv_aload_n hx hb dW_init_4 rfl (lv_at hl 0 rfl) ?_
  refine lv_sipush (v := nI 1300) hx hb dW_init_5 (by decide) ?_
  refine va_newa (atype := .byte) (ty := .byte) (N' := 1300) (a0 := (1300, .inl (fun _ => 0))) hx hb (hts _ kw_1_39) rfl hK hP hD hS hA (fun _ => rfl) (by decide) (by decide) (by decide) (Nat.le_of_ble_eq_true rfl) (Nat.le_of_ble_eq_true rfl) dW_init_8 (fun q7 cA H hK2 hP hD hS => ?_)
  have e9 : cA = cB := va_K.one hK2 4 1 rfl rfl (fun C h => by cases h)
  rw [e9] at hP hD
  have hP : va_P G vwCl [(h0, .inr (4, [.null, .int 0, .int 0])), (q7, .inl (cB, 1300, .inl (fun _ => 0)))] H := hP
  have hD : va_D A [(h0, .inr (4, [.null, .int 0, .int 0])), (q7, .inl (cB, 1300, .inl (fun _ => 0)))] := hD
  refine va_putF (D := G) (ci := 4) (v := .ref q7) (C := RW) (T := TW) (N := 3) hx hb hts inW tyW tyW_ok nmW hown hK hP hD hS 0 rfl rfl 0 (by decide) (hts _ kw_2_142) (fun _ h9 => h9) rfl hin rfl (tyW_ok 0 (by decide)) (rfl) (rfl) (Nat.le_of_ble_eq_true rfl) dW_init_10 (fun H locs hP hD hS => ?_)
  have hP : va_P G vwCl [(h0, .inr (4, [.ref q7, .int 0, .int 0])), (q7, .inl (cB, 1300, .inl (fun _ => 0)))] H := hP
  have hD : va_D A [(h0, .inr (4, [.ref q7, .int 0, .int 0])), (q7, .inl (cB, 1300, .inl (fun _ => 0)))] := hD
  exact fin (q7) _ _ _ _ dW_init_13 (trivial) hP hD hS
abbrev rmM_thrown : Room := { frames := 0, cells := 0, slots := 0, locals := 0 }
set_option maxRecDepth 100000 in
set_option maxHeartbeats 4000000 in
theorem c_thrown (m9 : Nat → Nat) (len code bits least used held : Int32) : CTi l G (tyL cI cB cC cJ) yM_thrown cM_thrown 1 .int rmM_thrown [.ref (m9 0)] [mO m9 len code bits least used held] (fun r (_ : Unit) => r = code) (fun _ => [mO m9 len code bits least used held]) := by
  refine mkI cM_thrown 1 RM .int (by decide) rfl (Nat.le_of_ble_eq_true rfl) ?_
  intro p e s m args below meth c A Q ls hx hb hml hts hown hnm hK hP hD hA hl fin
  have hS : va_S A s.heap s.heap [] := va_S.rf
  have hl : lv_has ls 1 [(0, .ref (m9 0))] := hl
  have hP : va_P G vwCl [(m9 0, .inr (5, [.ref (m9 1), .int len, .int code, .int bits, .int least, .ref (m9 2), .int used, .ref (m9 4), .ref (m9 6), .ref (m9 8), .ref (m9 10), .ref (m9 12), .ref (m9 3), .int held]))] s.heap := hP
  have hD : va_D A [(m9 0, .inr (5, [.ref (m9 1), .int len, .int code, .int bits, .int least, .ref (m9 2), .int used, .ref (m9 4), .ref (m9 6), .ref (m9 8), .ref (m9 10), .ref (m9 12), .ref (m9 3), .int held]))] := hD
  refine lv_aload_n hx hb dM_thrown_0 rfl (lv_at hl 0 rfl) ?_
  refine va_get (D := G) (ci := 5) (v := .int code) (C := RM) (T := TM) (N := 14) hx hb hts inM hown hK hP 0 rfl rfl 2 (by decide) (hts _ kw_2_156) (fun _ h9 => h9) rfl dM_thrown_1 ?_
  exact fin (code) (()) _ _ _ _ dM_thrown_4 (rfl) (rfl) hP hD hS
abbrev rmM_good : Room := { frames := 0, cells := 0, slots := 0, locals := 0 }
set_option maxRecDepth 100000 in
set_option maxHeartbeats 4000000 in
theorem c_good (m9 : Nat → Nat) (len code bits least used held : Int32) (yes : Bool) : CTi l G (tyL cI cB cC cJ) yM_good cM_good 3 .boolean rmM_good [.ref (m9 0), .int (bI yes), .int (nI 1)] [mO m9 len code bits least used held] (fun r (_ : Unit) => r = bI yes) (fun _ => [mO m9 len (if yes then nI 0 else nI 1) bits least used held]) := by
  refine mkI cM_good 3 RM .boolean (by decide) rfl (Nat.le_of_ble_eq_true rfl) ?_
  intro p e s m args below meth c A Q ls hx hb hml hts hown hnm hK hP hD hA hl fin
  have hS : va_S A s.heap s.heap [] := va_S.rf
  have hl : lv_has ls 3 [(0, .ref (m9 0)), (1, .int (bI yes)), (2, .int (nI 1))] := hl
  have hP : va_P G vwCl [(m9 0, .inr (5, [.ref (m9 1), .int len, .int code, .int bits, .int least, .ref (m9 2), .int used, .ref (m9 4), .ref (m9 6), .ref (m9 8), .ref (m9 10), .ref (m9 12), .ref (m9 3), .int held]))] s.heap := hP
  have hD : va_D A [(m9 0, .inr (5, [.ref (m9 1), .int len, .int code, .int bits, .int least, .ref (m9 2), .int used, .ref (m9 4), .ref (m9 6), .ref (m9 8), .ref (m9 10), .ref (m9 12), .ref (m9 3), .int held]))] := hD
  refine lv_aload_n hx hb dM_good_0 rfl (lv_at hl 0 rfl) ?_
  refine lv_iload_n hx hb dM_good_1 rfl (lv_at hl 1 rfl) ?_
  refine lv_if_eq (tgt := 9) hx hb dM_good_2 (by decide) (fun hc => ?_) (fun hc => ?_)
  · have e9 := bI_eq hc
    subst e9
    refine lv_iload_n hx hb dM_good_9 rfl (lv_at hl 2 rfl) ?_
    refine va_put (D := G) (ci := 5) (v := .int (nI 1)) (C := RM) (T := TM) (N := 14) hx hb hts inM tyM tyM_ok nmM hown hK hP hD hS 0 rfl rfl 2 (by decide) (hts _ kw_2_156) (fun _ h9 => h9) rfl (tyM_ok 2 (by decide)) (rfl) (rfl) (Nat.le_of_ble_eq_true rfl) dM_good_10 (fun H locs hP hD hS => ?_)
    have hP : va_P G vwCl [(m9 0, .inr (5, [.ref (m9 1), .int len, .int (nI 1), .int bits, .int least, .ref (m9 2), .int used, .ref (m9 4), .ref (m9 6), .ref (m9 8), .ref (m9 10), .ref (m9 12), .ref (m9 3), .int held]))] H := hP
    have hD : va_D A [(m9 0, .inr (5, [.ref (m9 1), .int len, .int (nI 1), .int bits, .int least, .ref (m9 2), .int used, .ref (m9 4), .ref (m9 6), .ref (m9 8), .ref (m9 10), .ref (m9 12), .ref (m9 3), .int held]))] := hD
    refine lv_iload_n hx hb dM_good_13 rfl (lv_at hl 1 rfl) ?_
    exact fin (bI false) (()) _ _ _ _ dM_good_14 (by decide) (rfl) hP hD hS
  · have e9 := bI_ne hc
    subst e9
    refine lv_iconst (v := nI 0) hx hb dM_good_5 (by decide) ?_
    refine lv_goto (tgt := 10) hx hb dM_good_6 (by decide) ?_
    refine va_put (D := G) (ci := 5) (v := .int (nI 0)) (C := RM) (T := TM) (N := 14) hx hb hts inM tyM tyM_ok nmM hown hK hP hD hS 0 rfl rfl 2 (by decide) (hts _ kw_2_156) (fun _ h9 => h9) rfl (tyM_ok 2 (by decide)) (rfl) (rfl) (Nat.le_of_ble_eq_true rfl) dM_good_10 (fun H locs hP hD hS => ?_)
    have hP : va_P G vwCl [(m9 0, .inr (5, [.ref (m9 1), .int len, .int (nI 0), .int bits, .int least, .ref (m9 2), .int used, .ref (m9 4), .ref (m9 6), .ref (m9 8), .ref (m9 10), .ref (m9 12), .ref (m9 3), .int held]))] H := hP
    have hD : va_D A [(m9 0, .inr (5, [.ref (m9 1), .int len, .int (nI 0), .int bits, .int least, .ref (m9 2), .int used, .ref (m9 4), .ref (m9 6), .ref (m9 8), .ref (m9 10), .ref (m9 12), .ref (m9 3), .int held]))] := hD
    refine lv_iload_n hx hb dM_good_13 rfl (lv_at hl 1 rfl) ?_
    exact fin (bI true) (()) _ _ _ _ dM_good_14 (by decide) (rfl) hP hD hS
abbrev rmM_kind : Room := { frames := 0, cells := 0, slots := 0, locals := 0 }
set_option maxRecDepth 100000 in
set_option maxHeartbeats 4000000 in
theorem c_kindD (m9 : Nat → Nat) (len code bits least used held : Int32) : CTv l G (tyL cI cB cC cJ) yM_kind cM_kind 2 rmM_kind [.ref (m9 0), .int (bI true)] [mO m9 len code bits least used held] (fun _ : Unit => True) (fun _ => [mO m9 len code (nI 53) (iI ((0 : Nat) - 1074 : Int)) used held]) := by
  refine mkV cM_kind 2 RM (by decide) rfl (Nat.le_of_ble_eq_true rfl) ?_
  intro p e s m args below meth c A Q ls hx hb hml hts hown hnm hK hP hD hA hl fin
  have hS : va_S A s.heap s.heap [] := va_S.rf
  have hl : lv_has ls 2 [(0, .ref (m9 0)), (1, .int (bI true))] := hl
  have hP : va_P G vwCl [(m9 0, .inr (5, [.ref (m9 1), .int len, .int code, .int bits, .int least, .ref (m9 2), .int used, .ref (m9 4), .ref (m9 6), .ref (m9 8), .ref (m9 10), .ref (m9 12), .ref (m9 3), .int held]))] s.heap := hP
  have hD : va_D A [(m9 0, .inr (5, [.ref (m9 1), .int len, .int code, .int bits, .int least, .ref (m9 2), .int used, .ref (m9 4), .ref (m9 6), .ref (m9 8), .ref (m9 10), .ref (m9 12), .ref (m9 3), .int held]))] := hD
  refine lv_aload_n hx hb dM_kind_0 rfl (lv_at hl 0 rfl) ?_
  refine lv_iload_n hx hb dM_kind_1 rfl (lv_at hl 1 rfl) ?_
  refine lv_if_eq (tgt := 10) hx hb dM_kind_2 (by decide) (fun hc => absurd hc (by decide)) (fun _ => ?_)
  refine lv_bipush (v := nI 53) hx hb dM_kind_5 (by decide) ?_
  refine lv_goto (tgt := 12) hx hb dM_kind_7 (by decide) ?_
  refine va_put (D := G) (ci := 5) (v := .int (nI 53)) (C := RM) (T := TM) (N := 14) hx hb hts inM tyM tyM_ok nmM hown hK hP hD hS 0 rfl rfl 3 (by decide) (hts _ kw_2_157) (fun _ h9 => h9) rfl (tyM_ok 3 (by decide)) (rfl) (rfl) (Nat.le_of_ble_eq_true rfl) dM_kind_12 (fun H locs hP hD hS => ?_)
  have hP : va_P G vwCl [(m9 0, .inr (5, [.ref (m9 1), .int len, .int code, .int (nI 53), .int least, .ref (m9 2), .int used, .ref (m9 4), .ref (m9 6), .ref (m9 8), .ref (m9 10), .ref (m9 12), .ref (m9 3), .int held]))] H := hP
  have hD : va_D A [(m9 0, .inr (5, [.ref (m9 1), .int len, .int code, .int (nI 53), .int least, .ref (m9 2), .int used, .ref (m9 4), .ref (m9 6), .ref (m9 8), .ref (m9 10), .ref (m9 12), .ref (m9 3), .int held]))] := hD
  refine lv_aload_n hx hb dM_kind_15 rfl (lv_at hl 0 rfl) ?_
  refine lv_iload_n hx hb dM_kind_16 rfl (lv_at hl 1 rfl) ?_
  refine lv_if_eq (tgt := 26) hx hb dM_kind_17 (by decide) (fun hc => absurd hc (by decide)) (fun _ => ?_)
  refine lv_sipush (v := (-1074)) hx hb dM_kind_20 (by decide) ?_
  refine lv_goto (tgt := 29) hx hb dM_kind_23 (by decide) ?_
  refine tp_i (y := iI ((0 : Nat) - 1074 : Int)) (by decide) ?_
  refine va_put (D := G) (ci := 5) (v := .int (iI ((0 : Nat) - 1074 : Int))) (C := RM) (T := TM) (N := 14) hx hb hts inM tyM tyM_ok nmM hown hK hP hD hS 0 rfl rfl 4 (by decide) (hts _ kw_2_158) (fun _ h9 => h9) rfl (tyM_ok 4 (by decide)) (rfl) (rfl) (Nat.le_of_ble_eq_true rfl) dM_kind_29 (fun H locs hP hD hS => ?_)
  have hP : va_P G vwCl [(m9 0, .inr (5, [.ref (m9 1), .int len, .int code, .int (nI 53), .int (iI ((0 : Nat) - 1074 : Int)), .ref (m9 2), .int used, .ref (m9 4), .ref (m9 6), .ref (m9 8), .ref (m9 10), .ref (m9 12), .ref (m9 3), .int held]))] H := hP
  have hD : va_D A [(m9 0, .inr (5, [.ref (m9 1), .int len, .int code, .int (nI 53), .int (iI ((0 : Nat) - 1074 : Int)), .ref (m9 2), .int used, .ref (m9 4), .ref (m9 6), .ref (m9 8), .ref (m9 10), .ref (m9 12), .ref (m9 3), .int held]))] := hD
  exact fin (()) _ _ _ _ dM_kind_32 (trivial) hP hD hS
set_option maxRecDepth 100000 in
set_option maxHeartbeats 4000000 in
theorem c_kindF (m9 : Nat → Nat) (len code bits least used held : Int32) : CTv l G (tyL cI cB cC cJ) yM_kind cM_kind 2 rmM_kind [.ref (m9 0), .int (bI false)] [mO m9 len code bits least used held] (fun _ : Unit => True) (fun _ => [mO m9 len code (nI 24) (iI ((925 : Nat) - 1074 : Int)) used held]) := by
  refine mkV cM_kind 2 RM (by decide) rfl (Nat.le_of_ble_eq_true rfl) ?_
  intro p e s m args below meth c A Q ls hx hb hml hts hown hnm hK hP hD hA hl fin
  have hS : va_S A s.heap s.heap [] := va_S.rf
  have hl : lv_has ls 2 [(0, .ref (m9 0)), (1, .int (bI false))] := hl
  have hP : va_P G vwCl [(m9 0, .inr (5, [.ref (m9 1), .int len, .int code, .int bits, .int least, .ref (m9 2), .int used, .ref (m9 4), .ref (m9 6), .ref (m9 8), .ref (m9 10), .ref (m9 12), .ref (m9 3), .int held]))] s.heap := hP
  have hD : va_D A [(m9 0, .inr (5, [.ref (m9 1), .int len, .int code, .int bits, .int least, .ref (m9 2), .int used, .ref (m9 4), .ref (m9 6), .ref (m9 8), .ref (m9 10), .ref (m9 12), .ref (m9 3), .int held]))] := hD
  refine lv_aload_n hx hb dM_kind_0 rfl (lv_at hl 0 rfl) ?_
  refine lv_iload_n hx hb dM_kind_1 rfl (lv_at hl 1 rfl) ?_
  refine lv_if_eq (tgt := 10) hx hb dM_kind_2 (by decide) (fun _ => ?_) (fun hc => absurd (rfl) hc)
  refine lv_bipush (v := nI 24) hx hb dM_kind_10 (by decide) ?_
  refine va_put (D := G) (ci := 5) (v := .int (nI 24)) (C := RM) (T := TM) (N := 14) hx hb hts inM tyM tyM_ok nmM hown hK hP hD hS 0 rfl rfl 3 (by decide) (hts _ kw_2_157) (fun _ h9 => h9) rfl (tyM_ok 3 (by decide)) (rfl) (rfl) (Nat.le_of_ble_eq_true rfl) dM_kind_12 (fun H locs hP hD hS => ?_)
  have hP : va_P G vwCl [(m9 0, .inr (5, [.ref (m9 1), .int len, .int code, .int (nI 24), .int least, .ref (m9 2), .int used, .ref (m9 4), .ref (m9 6), .ref (m9 8), .ref (m9 10), .ref (m9 12), .ref (m9 3), .int held]))] H := hP
  have hD : va_D A [(m9 0, .inr (5, [.ref (m9 1), .int len, .int code, .int (nI 24), .int least, .ref (m9 2), .int used, .ref (m9 4), .ref (m9 6), .ref (m9 8), .ref (m9 10), .ref (m9 12), .ref (m9 3), .int held]))] := hD
  refine lv_aload_n hx hb dM_kind_15 rfl (lv_at hl 0 rfl) ?_
  refine lv_iload_n hx hb dM_kind_16 rfl (lv_at hl 1 rfl) ?_
  refine lv_if_eq (tgt := 26) hx hb dM_kind_17 (by decide) (fun _ => ?_) (fun hc => absurd (rfl) hc)
  refine lv_sipush (v := (-149)) hx hb dM_kind_26 (by decide) ?_
  refine tp_i (y := iI ((925 : Nat) - 1074 : Int)) (by decide) ?_
  refine va_put (D := G) (ci := 5) (v := .int (iI ((925 : Nat) - 1074 : Int))) (C := RM) (T := TM) (N := 14) hx hb hts inM tyM tyM_ok nmM hown hK hP hD hS 0 rfl rfl 4 (by decide) (hts _ kw_2_158) (fun _ h9 => h9) rfl (tyM_ok 4 (by decide)) (rfl) (rfl) (Nat.le_of_ble_eq_true rfl) dM_kind_29 (fun H locs hP hD hS => ?_)
  have hP : va_P G vwCl [(m9 0, .inr (5, [.ref (m9 1), .int len, .int code, .int (nI 24), .int (iI ((925 : Nat) - 1074 : Int)), .ref (m9 2), .int used, .ref (m9 4), .ref (m9 6), .ref (m9 8), .ref (m9 10), .ref (m9 12), .ref (m9 3), .int held]))] H := hP
  have hD : va_D A [(m9 0, .inr (5, [.ref (m9 1), .int len, .int code, .int (nI 24), .int (iI ((925 : Nat) - 1074 : Int)), .ref (m9 2), .int used, .ref (m9 4), .ref (m9 6), .ref (m9 8), .ref (m9 10), .ref (m9 12), .ref (m9 3), .int held]))] := hD
  exact fin (()) _ _ _ _ dM_kind_32 (trivial) hP hD hS
abbrev rmM_infinity : Room := { frames := 0, cells := 0, slots := 0, locals := 0 }
set_option maxRecDepth 100000 in
set_option maxHeartbeats 4000000 in
theorem c_infinity (m9 : Nat → Nat) (len code used held : Int32) (fb lpn ones : Nat) (hk : Kd fb lpn ones) : CTl l G (tyL cI cB cC cJ) yM_infinity cM_infinity 1 rmM_infinity [.ref (m9 0)] [mO m9 len code (nI (fb + 1)) (iI ((lpn : Nat) - 1074 : Int)) used held] (fun r (_ : Unit) => r = lN (ones * 2 ^ fb)) (fun _ => [mO m9 len code (nI (fb + 1)) (iI ((lpn : Nat) - 1074 : Int)) used held]) := by
  refine mkL cM_infinity 1 RM (by decide) rfl (Nat.le_of_ble_eq_true rfl) ?_
  intro p e s m args below meth c A Q ls hx hb hml hts hown hnm hK hP hD hA hl fin
  have hS : va_S A s.heap s.heap [] := va_S.rf
  have hl : lv_has ls 1 [(0, .ref (m9 0))] := hl
  have hP : va_P G vwCl [(m9 0, .inr (5, [.ref (m9 1), .int len, .int code, .int (nI (fb + 1)), .int (iI ((lpn : Nat) - 1074 : Int)), .ref (m9 2), .int used, .ref (m9 4), .ref (m9 6), .ref (m9 8), .ref (m9 10), .ref (m9 12), .ref (m9 3), .int held]))] s.heap := hP
  have hD : va_D A [(m9 0, .inr (5, [.ref (m9 1), .int len, .int code, .int (nI (fb + 1)), .int (iI ((lpn : Nat) - 1074 : Int)), .ref (m9 2), .int used, .ref (m9 4), .ref (m9 6), .ref (m9 8), .ref (m9 10), .ref (m9 12), .ref (m9 3), .int held]))] := hD
  refine lv_aload_n hx hb dM_infinity_0 rfl (lv_at hl 0 rfl) ?_
  refine va_get (D := G) (ci := 5) (v := .int (nI (fb + 1))) (C := RM) (T := TM) (N := 14) hx hb hts inM hown hK hP 0 rfl rfl 3 (by decide) (hts _ kw_2_157) (fun _ h9 => h9) rfl dM_infinity_1 ?_
  refine lv_bipush (v := nI 53) hx hb dM_infinity_4 (by decide) ?_
  rcases hk with ⟨h1, h2, h3⟩ | ⟨h1, h2, h3⟩
  · subst h1
    subst h2
    subst h3
    refine lv_icmp_ne (tgt := 15) hx hb dM_infinity_6 (by decide) (fun hc => absurd (rfl) hc) (fun _ => ?_)
    refine lv_ldc2 (v := 9218868437227405312) hx hb hown (hts _ kw_2_238) dM_infinity_9 ?_
    refine lv_goto (tgt := 18) hx hb dM_infinity_12 (by decide) ?_
    refine tp_l (y := lN (2047 * 2 ^ 52)) (by decide) ?_
    exact fin (lN (2047 * 2 ^ 52)) (()) _ _ _ _ dM_infinity_18 (by decide) hP hD hS
  · subst h1
    subst h2
    subst h3
    refine lv_icmp_ne (tgt := 15) hx hb dM_infinity_6 (by decide) (fun _ => ?_) (fun hc => absurd hc (by decide))
    refine lv_ldc2 (v := 2139095040) hx hb hown (hts _ kw_2_239) dM_infinity_15 ?_
    refine tp_l (y := lN (255 * 2 ^ 23)) (by decide) ?_
    exact fin (lN (255 * 2 ^ 23)) (()) _ _ _ _ dM_infinity_18 (by decide) hP hD hS
abbrev rmM_sign : Room := { frames := 0, cells := 0, slots := 0, locals := 0 }
set_option maxRecDepth 100000 in
set_option maxHeartbeats 4000000 in
theorem c_sign (m9 : Nat → Nat) (len code used held : Int32) (fb lpn ones : Nat) (hk : Kd fb lpn ones) : CTl l G (tyL cI cB cC cJ) yM_sign cM_sign 1 rmM_sign [.ref (m9 0)] [mO m9 len code (nI (fb + 1)) (iI ((lpn : Nat) - 1074 : Int)) used held] (fun r (_ : Unit) => r = lN (2 ^ (if fb = 52 then 63 else 31))) (fun _ => [mO m9 len code (nI (fb + 1)) (iI ((lpn : Nat) - 1074 : Int)) used held]) := by
  refine mkL cM_sign 1 RM (by decide) rfl (Nat.le_of_ble_eq_true rfl) ?_
  intro p e s m args below meth c A Q ls hx hb hml hts hown hnm hK hP hD hA hl fin
  have hS : va_S A s.heap s.heap [] := va_S.rf
  have hl : lv_has ls 1 [(0, .ref (m9 0))] := hl
  have hP : va_P G vwCl [(m9 0, .inr (5, [.ref (m9 1), .int len, .int code, .int (nI (fb + 1)), .int (iI ((lpn : Nat) - 1074 : Int)), .ref (m9 2), .int used, .ref (m9 4), .ref (m9 6), .ref (m9 8), .ref (m9 10), .ref (m9 12), .ref (m9 3), .int held]))] s.heap := hP
  have hD : va_D A [(m9 0, .inr (5, [.ref (m9 1), .int len, .int code, .int (nI (fb + 1)), .int (iI ((lpn : Nat) - 1074 : Int)), .ref (m9 2), .int used, .ref (m9 4), .ref (m9 6), .ref (m9 8), .ref (m9 10), .ref (m9 12), .ref (m9 3), .int held]))] := hD
  refine lv_aload_n hx hb dM_sign_0 rfl (lv_at hl 0 rfl) ?_
  refine va_get (D := G) (ci := 5) (v := .int (nI (fb + 1))) (C := RM) (T := TM) (N := 14) hx hb hts inM hown hK hP 0 rfl rfl 3 (by decide) (hts _ kw_2_157) (fun _ h9 => h9) rfl dM_sign_1 ?_
  refine lv_bipush (v := nI 53) hx hb dM_sign_4 (by decide) ?_
  rcases hk with ⟨h1, h2, h3⟩ | ⟨h1, h2, h3⟩
  · subst h1
    subst h2
    subst h3
    refine lv_icmp_ne (tgt := 15) hx hb dM_sign_6 (by decide) (fun hc => absurd (rfl) hc) (fun _ => ?_)
    refine lv_ldc2 (v := (-9223372036854775808)) hx hb hown (hts _ kw_2_226) dM_sign_9 ?_
    refine lv_goto (tgt := 18) hx hb dM_sign_12 (by decide) ?_
    refine tp_l (y := lN (2 ^ 63)) (by decide) ?_
    exact fin (lN (2 ^ 63)) (()) _ _ _ _ dM_sign_18 (by decide) hP hD hS
  · subst h1
    subst h2
    subst h3
    refine lv_icmp_ne (tgt := 15) hx hb dM_sign_6 (by decide) (fun _ => ?_) (fun hc => absurd hc (by decide))
    refine lv_ldc2 (v := 2147483648) hx hb hown (hts _ kw_2_227) dM_sign_15 ?_
    refine tp_l (y := lN (2 ^ 31)) (by decide) ?_
    exact fin (lN (2 ^ 31)) (()) _ _ _ _ dM_sign_18 (by decide) hP hD hS
abbrev rmM_fraction : Room := { frames := 0, cells := 0, slots := 0, locals := 0 }
set_option maxRecDepth 100000 in
set_option maxHeartbeats 4000000 in
theorem c_fraction (m9 : Nat → Nat) (len code used held : Int32) (fb lpn ones : Nat) (hk : Kd fb lpn ones) : CTl l G (tyL cI cB cC cJ) yM_fraction cM_fraction 1 rmM_fraction [.ref (m9 0)] [mO m9 len code (nI (fb + 1)) (iI ((lpn : Nat) - 1074 : Int)) used held] (fun r (_ : Unit) => r = lN (2 ^ fb - 1)) (fun _ => [mO m9 len code (nI (fb + 1)) (iI ((lpn : Nat) - 1074 : Int)) used held]) := by
  obtain ⟨k1, k2, k3, k4, k5⟩ := Kd_le hk
  have hpos : 0 < 2 ^ fb := Nat.pow_pos (by decide)
  refine mkL cM_fraction 1 RM (by decide) rfl (Nat.le_of_ble_eq_true rfl) ?_
  intro p e s m args below meth c A Q ls hx hb hml hts hown hnm hK hP hD hA hl fin
  have hS : va_S A s.heap s.heap [] := va_S.rf
  have hl : lv_has ls 1 [(0, .ref (m9 0))] := hl
  have hP : va_P G vwCl [(m9 0, .inr (5, [.ref (m9 1), .int len, .int code, .int (nI (fb + 1)), .int (iI ((lpn : Nat) - 1074 : Int)), .ref (m9 2), .int used, .ref (m9 4), .ref (m9 6), .ref (m9 8), .ref (m9 10), .ref (m9 12), .ref (m9 3), .int held]))] s.heap := hP
  have hD : va_D A [(m9 0, .inr (5, [.ref (m9 1), .int len, .int code, .int (nI (fb + 1)), .int (iI ((lpn : Nat) - 1074 : Int)), .ref (m9 2), .int used, .ref (m9 4), .ref (m9 6), .ref (m9 8), .ref (m9 10), .ref (m9 12), .ref (m9 3), .int held]))] := hD
  refine lv_lconst (v := lN 1) hx hb dM_fraction_0 (by decide) ?_
  refine lv_aload_n hx hb dM_fraction_1 rfl (lv_at hl 0 rfl) ?_
  refine va_get (D := G) (ci := 5) (v := .int (nI (fb + 1))) (C := RM) (T := TM) (N := 14) hx hb hts inM hown hK hP 0 rfl rfl 3 (by decide) (hts _ kw_2_157) (fun _ h9 => h9) rfl dM_fraction_2 ?_
  refine lv_iconst (v := nI 1) hx hb dM_fraction_5 (by decide) ?_
  refine lv_isub hx hb dM_fraction_6 ?_
  refine tp_i (y := nI fb) (pk_sub (a := fb + 1) (b := 1) (by omega)) ?_
  refine lv_lshl (v := lN (2 ^ fb)) hx hb dM_fraction_7 (by rw [wb_shl 1 (by omega), Nat.one_mul]) ?_
  refine lv_lconst (v := lN 1) hx hb dM_fraction_8 (by decide) ?_
  refine lv_lsub hx hb dM_fraction_9 ?_
  refine tp_l (y := lN (2 ^ fb - 1)) (sub_l1 hpos) ?_
  exact fin (lN (2 ^ fb - 1)) (()) _ _ _ _ dM_fraction_10 (rfl) hP hD hS
abbrev rmM_isNone : Room := { frames := 1, cells := 0, slots := 0, locals := 20 }
set_option maxRecDepth 100000 in
set_option maxHeartbeats 4000000 in
theorem c_isNone (m9 : Nat → Nat) (len code used held : Int32) (fb lpn ones : Nat) (sz : Nat) (hk : Kd fb lpn ones) (hsz : sz < 2 ^ 63) : CTi l G (tyL cI cB cC cJ) yM_isNone cM_isNone 3 .boolean rmM_isNone [.ref (m9 0), .long (lN sz)] [mO m9 len code (nI (fb + 1)) (iI ((lpn : Nat) - 1074 : Int)) used held] (fun r (_ : Unit) => r = bI (decide (ones * 2 ^ fb < sz))) (fun _ => [mO m9 len code (nI (fb + 1)) (iI ((lpn : Nat) - 1074 : Int)) used held]) := by
  obtain ⟨k1, k2, k3, k4, k5⟩ := Kd_le hk
  refine mkI cM_isNone 3 RM .boolean (by decide) rfl (Nat.le_of_ble_eq_true rfl) ?_
  intro p e s m args below meth c A Q ls hx hb hml hts hown hnm hK hP hD hA hl fin
  have hS : va_S A s.heap s.heap [] := va_S.rf
  have hl : lv_has ls 3 [(0, .ref (m9 0)), (1, .long (lN sz))] := hl
  have hP : va_P G vwCl [(m9 0, .inr (5, [.ref (m9 1), .int len, .int code, .int (nI (fb + 1)), .int (iI ((lpn : Nat) - 1074 : Int)), .ref (m9 2), .int used, .ref (m9 4), .ref (m9 6), .ref (m9 8), .ref (m9 10), .ref (m9 12), .ref (m9 3), .int held]))] s.heap := hP
  have hD : va_D A [(m9 0, .inr (5, [.ref (m9 1), .int len, .int code, .int (nI (fb + 1)), .int (iI ((lpn : Nat) - 1074 : Int)), .ref (m9 2), .int used, .ref (m9 4), .ref (m9 6), .ref (m9 8), .ref (m9 10), .ref (m9 12), .ref (m9 3), .int held]))] := hD
  refine lv_lload_n hx hb dM_isNone_0 rfl (lv_at hl 1 rfl) ?_
  refine lv_aload_n hx hb dM_isNone_1 rfl (lv_at hl 0 rfl) ?_
  refine jnL (Wr := []) (W2 := fun y => [(m9 0, .inr (5, [.ref (m9 1), .int len, .int code, .int (nI (fb + 1)), .int (iI ((lpn : Nat) - 1074 : Int)), .ref (m9 2), .int used, .ref (m9 4), .ref (m9 6), .ref (m9 8), .ref (m9 10), .ref (m9 12), .ref (m9 3), .int held]))]) (rV (n := 0) (As := []) (rest := [.long (lN sz)]) hx hb hml hown hts (c_infinity m9 len code used held fb lpn ones hk _) kw_2_237 kw_2_234 kw_2_236 kw_0_18 kw_1_5 (by decide +kernel) ⟨Nat.le_of_ble_eq_true rfl, Nat.le_of_ble_eq_true rfl⟩ hK hP hD [0] rfl rfl 0 rfl rfl rfl rfl hl.1 rfl (lv_room (Nat.le_of_ble_eq_true rfl)) dM_isNone_2 ⟨Nat.le_of_ble_eq_true rfl, Nat.le_of_ble_eq_true rfl⟩) hP hD hS hA [0] [] [0] rfl rfl rfl (by decide) (fun _ => rfl) rfl (fun o y H locs hq hP hD hS => ?_)
  have hP : va_P G vwCl [(m9 0, .inr (5, [.ref (m9 1), .int len, .int code, .int (nI (fb + 1)), .int (iI ((lpn : Nat) - 1074 : Int)), .ref (m9 2), .int used, .ref (m9 4), .ref (m9 6), .ref (m9 8), .ref (m9 10), .ref (m9 12), .ref (m9 3), .int held]))] H := hP
  have hD : va_D A [(m9 0, .inr (5, [.ref (m9 1), .int len, .int code, .int (nI (fb + 1)), .int (iI ((lpn : Nat) - 1074 : Int)), .ref (m9 2), .int used, .ref (m9 4), .ref (m9 6), .ref (m9 8), .ref (m9 10), .ref (m9 12), .ref (m9 3), .int held]))] := hD
  subst hq
  refine W.lcmp hx hb dM_isNone_5 ?_
  refine lv_if_le (tgt := 13) hx hb dM_isNone_6 (by decide) (fun hc => ?_) (fun hc => ?_)
  · have h3 := (pk_lLE hsz k5).mp ((lg_cmp_le _ _).mp hc)
    refine lv_iconst (v := nI 0) hx hb dM_isNone_13 (by decide) ?_
    exact fin (nI 0) (()) _ _ _ _ dM_isNone_14 (by decide) (bI_0 (decide_eq_false (by omega))) hP hD hS
  · have h3 : ¬ sz ≤ ones * 2 ^ fb := fun h => hc ((lg_cmp_le _ _).mpr ((pk_lLE hsz k5).mpr h))
    refine lv_iconst (v := nI 1) hx hb dM_isNone_9 (by decide) ?_
    refine lv_goto (tgt := 14) hx hb dM_isNone_10 (by decide) ?_
    exact fin (nI 1) (()) _ _ _ _ dM_isNone_14 (by decide) (bI_1 (decide_eq_true (by omega))) hP hD hS
abbrev rmM_c : Room := { frames := 1, cells := 0, slots := 0, locals := 20 }
set_option maxRecDepth 100000 in
set_option maxHeartbeats 4000000 in
theorem c_c (m9 : Nat → Nat) (len code used held : Int32) (fb lpn ones : Nat) (sz : Nat) (hk : Kd fb lpn ones) (hsz : sz < 2 ^ 63) : CTl l G (tyL cI cB cC cJ) yM_c cM_c 5 rmM_c [.ref (m9 0), .long (lN sz)] [mO m9 len code (nI (fb + 1)) (iI ((lpn : Nat) - 1074 : Int)) used held] (fun r (_ : Unit) => r = lN (cOf fb (sz / 2 ^ fb) (sz % 2 ^ fb))) (fun _ => [mO m9 len code (nI (fb + 1)) (iI ((lpn : Nat) - 1074 : Int)) used held]) := by
  obtain ⟨k1, k2, k3, k4, k5⟩ := Kd_le hk
  have hpos : 0 < 2 ^ fb := Nat.pow_pos (by decide)
  have hle : 2 ^ fb ≤ 2 ^ 52 := Nat.pow_le_pow_right (by decide) k1
  have hmod := Nat.mod_lt sz hpos
  have hc9 := c_eq (sz := sz) k1
  refine mkL cM_c 5 RM (by decide) rfl (Nat.le_of_ble_eq_true rfl) ?_
  intro p e s m args below meth c A Q ls hx hb hml hts hown hnm hK hP hD hA hl fin
  have hS : va_S A s.heap s.heap [] := va_S.rf
  have hl : lv_has ls 5 [(0, .ref (m9 0)), (1, .long (lN sz))] := hl
  have hP : va_P G vwCl [(m9 0, .inr (5, [.ref (m9 1), .int len, .int code, .int (nI (fb + 1)), .int (iI ((lpn : Nat) - 1074 : Int)), .ref (m9 2), .int used, .ref (m9 4), .ref (m9 6), .ref (m9 8), .ref (m9 10), .ref (m9 12), .ref (m9 3), .int held]))] s.heap := hP
  have hD : va_D A [(m9 0, .inr (5, [.ref (m9 1), .int len, .int code, .int (nI (fb + 1)), .int (iI ((lpn : Nat) - 1074 : Int)), .ref (m9 2), .int used, .ref (m9 4), .ref (m9 6), .ref (m9 8), .ref (m9 10), .ref (m9 12), .ref (m9 3), .int held]))] := hD
  refine lv_lload_n hx hb dM_c_0 rfl (lv_at hl 1 rfl) ?_
  refine lv_aload_n hx hb dM_c_1 rfl (lv_at hl 0 rfl) ?_
  refine jnL (Wr := []) (W2 := fun y => [(m9 0, .inr (5, [.ref (m9 1), .int len, .int code, .int (nI (fb + 1)), .int (iI ((lpn : Nat) - 1074 : Int)), .ref (m9 2), .int used, .ref (m9 4), .ref (m9 6), .ref (m9 8), .ref (m9 10), .ref (m9 12), .ref (m9 3), .int held]))]) (rV (n := 0) (As := []) (rest := [.long (lN sz)]) hx hb hml hown hts (c_fraction m9 len code used held fb lpn ones hk _) kw_3_24 kw_3_21 kw_3_23 kw_0_23 kw_1_5 (by decide +kernel) ⟨Nat.le_of_ble_eq_true rfl, Nat.le_of_ble_eq_true rfl⟩ hK hP hD [0] rfl rfl 0 rfl rfl rfl rfl hl.1 rfl (lv_room (Nat.le_of_ble_eq_true rfl)) dM_c_2 ⟨Nat.le_of_ble_eq_true rfl, Nat.le_of_ble_eq_true rfl⟩) hP hD hS hA [0] [] [0] rfl rfl rfl (by decide) (fun _ => rfl) rfl (fun o y H locs hq hP hD hS => ?_)
  have hP : va_P G vwCl [(m9 0, .inr (5, [.ref (m9 1), .int len, .int code, .int (nI (fb + 1)), .int (iI ((lpn : Nat) - 1074 : Int)), .ref (m9 2), .int used, .ref (m9 4), .ref (m9 6), .ref (m9 8), .ref (m9 10), .ref (m9 12), .ref (m9 3), .int held]))] H := hP
  have hD : va_D A [(m9 0, .inr (5, [.ref (m9 1), .int len, .int code, .int (nI (fb + 1)), .int (iI ((lpn : Nat) - 1074 : Int)), .ref (m9 2), .int used, .ref (m9 4), .ref (m9 6), .ref (m9 8), .ref (m9 10), .ref (m9 12), .ref (m9 3), .int held]))] := hD
  subst hq
  refine lv_land hx hb dM_c_5 ?_
  refine tp_l (y := lN (sz % 2 ^ fb)) (wb_mask (by omega) (by omega)) ?_
  refine lv_lstore_n hx hb dM_c_6 rfl hl (by decide) rfl (fun ls hl => ?_)
  have hl : lv_has ls 5 [(3, .long (lN (sz % 2 ^ fb))), (0, .ref (m9 0)), (1, .long (lN sz))] := hl
  refine lv_lload_n hx hb dM_c_7 rfl (lv_at hl 2 rfl) ?_
  refine lv_aload_n hx hb dM_c_8 rfl (lv_at hl 1 rfl) ?_
  refine jnL (Wr := []) (W2 := fun y => [(m9 0, .inr (5, [.ref (m9 1), .int len, .int code, .int (nI (fb + 1)), .int (iI ((lpn : Nat) - 1074 : Int)), .ref (m9 2), .int used, .ref (m9 4), .ref (m9 6), .ref (m9 8), .ref (m9 10), .ref (m9 12), .ref (m9 3), .int held]))]) (rV (n := 0) (As := []) (rest := [.long (lN sz)]) hx hb hml hown hts (c_fraction m9 len code used held fb lpn ones hk _) kw_3_24 kw_3_21 kw_3_23 kw_0_23 kw_1_5 (by decide +kernel) ⟨Nat.le_of_ble_eq_true rfl, Nat.le_of_ble_eq_true rfl⟩ hK hP hD [0] rfl rfl 0 rfl rfl rfl rfl hl.1 rfl (lv_room (Nat.le_of_ble_eq_true rfl)) dM_c_9 ⟨Nat.le_of_ble_eq_true rfl, Nat.le_of_ble_eq_true rfl⟩) hP hD hS hA [0] [] [0] rfl rfl rfl (by decide) (fun _ => rfl) rfl (fun o y H locs hq hP hD hS => ?_)
  have hP : va_P G vwCl [(m9 0, .inr (5, [.ref (m9 1), .int len, .int code, .int (nI (fb + 1)), .int (iI ((lpn : Nat) - 1074 : Int)), .ref (m9 2), .int used, .ref (m9 4), .ref (m9 6), .ref (m9 8), .ref (m9 10), .ref (m9 12), .ref (m9 3), .int held]))] H := hP
  have hD : va_D A [(m9 0, .inr (5, [.ref (m9 1), .int len, .int code, .int (nI (fb + 1)), .int (iI ((lpn : Nat) - 1074 : Int)), .ref (m9 2), .int used, .ref (m9 4), .ref (m9 6), .ref (m9 8), .ref (m9 10), .ref (m9 12), .ref (m9 3), .int held]))] := hD
  subst hq
  refine W.lcmp hx hb dM_c_12 ?_
  refine lv_if_le (tgt := 27) hx hb dM_c_13 (by decide) (fun hc => ?_) (fun hc => ?_)
  · have h3 := (pk_lLE hsz (by omega)).mp ((lg_cmp_le _ _).mp hc)
    rw [if_neg (by omega)] at hc9
    refine lv_lload_n hx hb dM_c_27 rfl (lv_at hl 0 rfl) ?_
    exact fin (lN (sz % 2 ^ fb)) (()) _ _ _ _ dM_c_28 (congrArg lN hc9) hP hD hS
  · have h3 : ¬ sz ≤ 2 ^ fb - 1 := fun h => hc ((lg_cmp_le _ _).mpr ((pk_lLE hsz (by omega)).mpr h))
    rw [if_pos (by omega)] at hc9
    refine lv_lload_n hx hb dM_c_16 rfl (lv_at hl 0 rfl) ?_
    refine lv_aload_n hx hb dM_c_17 rfl (lv_at hl 1 rfl) ?_
    refine jnL (Wr := []) (W2 := fun y => [(m9 0, .inr (5, [.ref (m9 1), .int len, .int code, .int (nI (fb + 1)), .int (iI ((lpn : Nat) - 1074 : Int)), .ref (m9 2), .int used, .ref (m9 4), .ref (m9 6), .ref (m9 8), .ref (m9 10), .ref (m9 12), .ref (m9 3), .int held]))]) (rV (n := 0) (As := []) (rest := [.long (lN (sz % 2 ^ fb))]) hx hb hml hown hts (c_fraction m9 len code used held fb lpn ones hk _) kw_3_24 kw_3_21 kw_3_23 kw_0_23 kw_1_5 (by decide +kernel) ⟨Nat.le_of_ble_eq_true rfl, Nat.le_of_ble_eq_true rfl⟩ hK hP hD [0] rfl rfl 0 rfl rfl rfl rfl hl.1 rfl (lv_room (Nat.le_of_ble_eq_true rfl)) dM_c_18 ⟨Nat.le_of_ble_eq_true rfl, Nat.le_of_ble_eq_true rfl⟩) hP hD hS hA [0] [] [0] rfl rfl rfl (by decide) (fun _ => rfl) rfl (fun o y H locs hq hP hD hS => ?_)
    have hP : va_P G vwCl [(m9 0, .inr (5, [.ref (m9 1), .int len, .int code, .int (nI (fb + 1)), .int (iI ((lpn : Nat) - 1074 : Int)), .ref (m9 2), .int used, .ref (m9 4), .ref (m9 6), .ref (m9 8), .ref (m9 10), .ref (m9 12), .ref (m9 3), .int held]))] H := hP
    have hD : va_D A [(m9 0, .inr (5, [.ref (m9 1), .int len, .int code, .int (nI (fb + 1)), .int (iI ((lpn : Nat) - 1074 : Int)), .ref (m9 2), .int used, .ref (m9 4), .ref (m9 6), .ref (m9 8), .ref (m9 10), .ref (m9 12), .ref (m9 3), .int held]))] := hD
    subst hq
    refine lv_lconst (v := lN 1) hx hb dM_c_21 (by decide) ?_
    refine lv_ladd hx hb dM_c_22 ?_
    refine tp_l (y := lN (2 ^ fb)) (by rw [lN_add]; congr 1; omega) ?_
    refine lv_lor hx hb dM_c_23 ?_
    refine tp_l (y := lN (2 ^ fb + sz % 2 ^ fb)) (by rw [Int64.or_comm]; exact lor_1 (by omega) hmod) ?_
    refine lv_goto (tgt := 28) hx hb dM_c_24 (by decide) ?_
    exact fin (lN (2 ^ fb + sz % 2 ^ fb)) (()) _ _ _ _ dM_c_28 (congrArg lN hc9) hP hD hS
abbrev rmM_q : Room := { frames := 0, cells := 0, slots := 0, locals := 0 }
set_option maxRecDepth 100000 in
set_option maxHeartbeats 4000000 in
theorem c_q (m9 : Nat → Nat) (len code used held : Int32) (fb lpn ones : Nat) (sz : Nat) (hk : Kd fb lpn ones) (hsz : sz < 2 ^ 63) (hex : sz / 2 ^ fb ≤ ones) : CTi l G (tyL cI cB cC cJ) yM_q cM_q 5 .int rmM_q [.ref (m9 0), .long (lN sz)] [mO m9 len code (nI (fb + 1)) (iI ((lpn : Nat) - 1074 : Int)) used held] (fun r (_ : Unit) => r = iI ((qOf lpn (sz / 2 ^ fb) : Nat) - 1074 : Int)) (fun _ => [mO m9 len code (nI (fb + 1)) (iI ((lpn : Nat) - 1074 : Int)) used held]) := by
  obtain ⟨k1, k2, k3, k4, k5⟩ := Kd_le hk
  refine mkI cM_q 5 RM .int (by decide) rfl (Nat.le_of_ble_eq_true rfl) ?_
  intro p e s m args below meth c A Q ls hx hb hml hts hown hnm hK hP hD hA hl fin
  have hS : va_S A s.heap s.heap [] := va_S.rf
  have hl : lv_has ls 5 [(0, .ref (m9 0)), (1, .long (lN sz))] := hl
  have hP : va_P G vwCl [(m9 0, .inr (5, [.ref (m9 1), .int len, .int code, .int (nI (fb + 1)), .int (iI ((lpn : Nat) - 1074 : Int)), .ref (m9 2), .int used, .ref (m9 4), .ref (m9 6), .ref (m9 8), .ref (m9 10), .ref (m9 12), .ref (m9 3), .int held]))] s.heap := hP
  have hD : va_D A [(m9 0, .inr (5, [.ref (m9 1), .int len, .int code, .int (nI (fb + 1)), .int (iI ((lpn : Nat) - 1074 : Int)), .ref (m9 2), .int used, .ref (m9 4), .ref (m9 6), .ref (m9 8), .ref (m9 10), .ref (m9 12), .ref (m9 3), .int held]))] := hD
  refine lv_lload_n hx hb dM_q_0 rfl (lv_at hl 1 rfl) ?_
  refine lv_aload_n hx hb dM_q_1 rfl (lv_at hl 0 rfl) ?_
  refine va_get (D := G) (ci := 5) (v := .int (nI (fb + 1))) (C := RM) (T := TM) (N := 14) hx hb hts inM hown hK hP 0 rfl rfl 3 (by decide) (hts _ kw_2_157) (fun _ h9 => h9) rfl dM_q_2 ?_
  refine lv_iconst (v := nI 1) hx hb dM_q_5 (by decide) ?_
  refine lv_isub hx hb dM_q_6 ?_
  refine tp_i (y := nI fb) (pk_sub (a := fb + 1) (b := 1) (by omega)) ?_
  refine lv_lushr (v := lN (sz / 2 ^ fb)) hx hb dM_q_7 (wb_shr (by omega) (by omega)) ?_
  refine lv_lstore_n hx hb dM_q_8 rfl hl (by decide) rfl (fun ls hl => ?_)
  have hl : lv_has ls 5 [(3, .long (lN (sz / 2 ^ fb))), (0, .ref (m9 0)), (1, .long (lN sz))] := hl
  refine lv_lload_n hx hb dM_q_9 rfl (lv_at hl 0 rfl) ?_
  refine lv_lconst (v := lN 0) hx hb dM_q_10 (by decide) ?_
  refine W.lcmp hx hb dM_q_11 ?_
  refine lv_if_ne (tgt := 22) hx hb dM_q_12 (by decide) (fun hc => ?_) (fun hc => ?_)
  · have h3 : ¬ sz / 2 ^ fb = 0 := fun h => hc ((lg_cmp_eq _ _).mpr (by rw [h]))
    have h4 : qOf lpn (sz / 2 ^ fb) = lpn + sz / 2 ^ fb - 1 := if_neg h3
    refine lv_aload_n hx hb dM_q_22 rfl (lv_at hl 1 rfl) ?_
    refine va_get (D := G) (ci := 5) (v := .int (iI ((lpn : Nat) - 1074 : Int))) (C := RM) (T := TM) (N := 14) hx hb hts inM hown hK hP 0 rfl rfl 4 (by decide) (hts _ kw_2_158) (fun _ h9 => h9) rfl dM_q_23 ?_
    refine lv_lload_n hx hb dM_q_26 rfl (lv_at hl 0 rfl) ?_
    refine lv_l2i (v := nI (sz / 2 ^ fb)) hx hb dM_q_27 (lN_i _) ?_
    refine lv_iadd hx hb dM_q_28 ?_
    refine tp_i (y := iI ((lpn : Nat) - 1074 + (sz / 2 ^ fb : Nat) : Int)) (iI_nI _ _) ?_
    refine lv_iconst (v := nI 1) hx hb dM_q_29 (by decide) ?_
    refine lv_isub hx hb dM_q_30 ?_
    refine tp_i (y := iI ((qOf lpn (sz / 2 ^ fb) : Nat) - 1074 : Int)) (by rw [h4, iI_snI]; congr 1; have h6 := Nat.pos_of_ne_zero h3; clear hc h4 k5; generalize sz / 2 ^ fb = e9 at *; omega) ?_
    exact fin (iI ((qOf lpn (sz / 2 ^ fb) : Nat) - 1074 : Int)) (()) _ _ _ _ dM_q_31 (rfl) (rfl) hP hD hS
  · have h3 : sz / 2 ^ fb = 0 := (pk_lEQ (by omega) (by decide)).mp ((lg_cmp_eq _ _).mp hc)
    have h4 : qOf lpn (sz / 2 ^ fb) = lpn := if_pos h3
    refine lv_aload_n hx hb dM_q_15 rfl (lv_at hl 1 rfl) ?_
    refine va_get (D := G) (ci := 5) (v := .int (iI ((lpn : Nat) - 1074 : Int))) (C := RM) (T := TM) (N := 14) hx hb hts inM hown hK hP 0 rfl rfl 4 (by decide) (hts _ kw_2_158) (fun _ h9 => h9) rfl dM_q_16 ?_
    refine lv_goto (tgt := 31) hx hb dM_q_19 (by decide) ?_
    exact fin (iI ((lpn : Nat) - 1074 : Int)) (()) _ _ _ _ dM_q_31 (rfl) (by rw [h4]) hP hD hS
abbrev rmM_digit : Room := { frames := 0, cells := 0, slots := 0, locals := 0 }
set_option maxRecDepth 100000 in
set_option maxHeartbeats 4000000 in
theorem c_mdigit (h0 hd n : Nat) (p9 : Int) (f : Nat → Int32) (g : Nat → Nat) (z : Int) (hz1 : -2 ^ 31 ≤ z) (hz2 : z < 2 ^ 31) (hn : n ≤ 1300) (hg : ∀ j, j < n → f j = nI (g j) ∧ g j < 10) : CTi l G (tyL cI cB cC cJ) yM_digit cM_digit 2 .int rmM_digit [.ref h0, .int (iI z)] (wR cB h0 hd (f, n, p9)) (fun r (_ : Unit) => r = nI (dgt g n z)) (fun _ => wR cB h0 hd (f, n, p9)) := by
  refine mkI cM_digit 2 RM .int (by decide) rfl (Nat.le_of_ble_eq_true rfl) ?_
  intro p e s m args below meth c A Q ls hx hb hml hts hown hnm hK hP hD hA hl fin
  have hS : va_S A s.heap s.heap [] := va_S.rf
  have hl : lv_has ls 2 [(0, .ref h0), (1, .int (iI z))] := hl
  have hP : va_P G vwCl [(h0, .inr (4, [.ref hd, .int (nI n), .int (iI p9)])), (hd, .inl (cB, 1300, .inl f))] s.heap := hP
  have hD : va_D A [(h0, .inr (4, [.ref hd, .int (nI n), .int (iI p9)])), (hd, .inl (cB, 1300, .inl f))] := hD
  refine lv_iload_n hx hb dM_digit_0 rfl (lv_at hl 1 rfl) ?_
  refine lv_if_lt (tgt := 24) hx hb dM_digit_1 (by decide) (fun hc => ?_) (fun hc => ?_)
  · have h1 : z < 0 := (iI_lt (b := 0) hz1 hz2 (by decide) (by decide)).mp hc
    refine lv_bipush (v := nI 48) hx hb dM_digit_24 (by decide) ?_
    exact fin (nI 48) (()) _ _ _ _ dM_digit_26 (rfl) (by rw [show dgt g n z = 48 from if_neg (by omega)]) hP hD hS
  · have h1 : ¬ z < 0 := fun h => hc ((iI_lt (b := 0) hz1 hz2 (by decide) (by decide)).mpr h)
    refine lv_iload_n hx hb dM_digit_4 rfl (lv_at hl 1 rfl) ?_
    refine lv_aload_n hx hb dM_digit_5 rfl (lv_at hl 0 rfl) ?_
    refine va_get (D := G) (ci := 4) (v := .int (nI n)) (C := RW) (T := TW) (N := 3) hx hb hts inW hown hK hP 0 rfl rfl 1 (by decide) (hts _ kw_2_144) (fun _ h9 => h9) rfl dM_digit_6 ?_
    refine lv_icmp_ge (tgt := 24) hx hb dM_digit_9 (by decide) (fun hc2 => ?_) (fun hc2 => ?_)
    · have h2 : (n : Int) ≤ z := (iI_le (by omega) (by omega) hz1 hz2).mp (by rw [iI_nat]; exact hc2)
      refine lv_bipush (v := nI 48) hx hb dM_digit_24 (by decide) ?_
      exact fin (nI 48) (()) _ _ _ _ dM_digit_26 (rfl) (by rw [show dgt g n z = 48 from if_neg (by omega)]) hP hD hS
    · have h2 : ¬ (n : Int) ≤ z := fun h => hc2 (by rw [← iI_nat]; exact (iI_le (by omega) (by omega) hz1 hz2).mpr h)
      obtain ⟨k, rfl⟩ : ∃ k : Nat, z = k := ⟨z.toNat, by omega⟩
      have hk : k < n := by omega
      obtain ⟨e1, e2⟩ := hg k hk
      refine lv_bipush (v := nI 48) hx hb dM_digit_12 (by decide) ?_
      refine lv_aload_n hx hb dM_digit_14 rfl (lv_at hl 0 rfl) ?_
      refine va_get (D := G) (ci := 4) (v := .ref hd) (C := RW) (T := TW) (N := 3) hx hb hts inW hown hK hP 0 rfl rfl 0 (by decide) (hts _ kw_2_143) (fun _ h9 => h9) rfl dM_digit_15 ?_
      refine lv_iload_n hx hb dM_digit_18 rfl (lv_at hl 1 rfl) ?_
      refine tp_i (y := nI k) (iI_nat k) ?_
      refine ld_b hx hb hK hP 1 1 rfl rfl k (rfl) (by omega) (by decide) dM_digit_19 ?_
      refine tp_i (y := nI (g k)) (e1) ?_
      refine lv_iadd hx hb dM_digit_20 ?_
      refine tp_i (y := nI (48 + g k)) (nI_add _ _) ?_
      refine lv_goto (tgt := 26) hx hb dM_digit_21 (by decide) ?_
      exact fin (nI (48 + g k)) (()) _ _ _ _ dM_digit_26 (rfl) (by rw [show dgt g n (k : Int) = 48 + g k from if_pos (by omega)]) hP hD hS
end MOA
