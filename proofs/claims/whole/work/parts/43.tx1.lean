section TXT
variable {l : Launch} {G : va_G} {cI cB cC cJ : ClassId}
abbrev rmT_init : Room := { frames := 1, cells := 1, slots := 24, locals := 12 }
set_option maxRecDepth 100000 in
set_option maxHeartbeats 4000000 in
theorem c_Tinit (h0 : Nat) : CTv l G (tyL cI cB cC cJ) yT_init cT_init 1 rmT_init [.ref h0] [(h0, .inr (2, [.null, .int 0]))] (fun _ : Nat => True) (fun q => wT cB h0 q (fun _ => 0) 0) := by
  refine mkV cT_init 1 RT (by decide) rfl (Nat.le_of_ble_eq_true rfl) ?_
  intro p e s m args below meth c A Q ls hx hb hml hts hown hnm hK hP hD hA hl fin
  have hS : va_S A s.heap s.heap [] := va_S.rf
  have hl : lv_has ls 1 [(0, .ref h0)] := hl
  have hP : va_P G vwCl [(h0, .inr (2, [.null, .int 0]))] s.heap := hP
  have hD : va_D A [(h0, .inr (2, [.null, .int 0]))] := hD
  have hin : meth.name = "<init>" := hnm
  refine lv_aload_n hx hb dT_init_0 rfl (lv_at hl 0 rfl) ?_
  refine W.objInit hx hb hown (hts _ kw_1_31) (hts _ kw_1_24) (hts _ kw_1_25) rfl (by rw [hml]; exact hl.1) rfl dT_init_1 (Nat.le_of_ble_eq_true rfl) (Nat.le_of_ble_eq_true rfl) ?_
  refine W.eq (g2 := F0 m 4 ls []) rfl ?_
  refine lv_aload_n hx hb dT_init_4 rfl (lv_at hl 0 rfl) ?_
  refine lv_bipush (v := nI 24) hx hb dT_init_5 (by decide) ?_
  refine va_newa (atype := .byte) (ty := .byte) (N' := 24) (a0 := (24, .inl (fun _ => 0))) hx hb (hts _ kw_1_39) rfl hK hP hD hS hA (fun _ => rfl) (by decide) (by decide) (by decide) (Nat.le_of_ble_eq_true rfl) (Nat.le_of_ble_eq_true rfl) dT_init_7 (fun q7 cA H hK2 hP hD hS => ?_)
  have e9 : cA = cB := va_K.one hK2 4 1 rfl rfl (fun C h => by cases h)
  rw [e9] at hP hD
  have hP : va_P G vwCl [(h0, .inr (2, [.null, .int 0])), (q7, .inl (cB, 24, .inl (fun _ => 0)))] H := hP
  have hD : va_D A [(h0, .inr (2, [.null, .int 0])), (q7, .inl (cB, 24, .inl (fun _ => 0)))] := hD
  refine va_putF (D := G) (ci := 2) (v := .ref q7) (C := RT) (T := TT) (N := 2) hx hb hts inT tyT tyT_ok nmT hown hK hP hD hS 0 rfl rfl 0 (by decide) (hts _ kw_1_32) (fun _ h9 => h9) rfl hin rfl (tyT_ok 0 (by decide)) (rfl) (rfl) (Nat.le_of_ble_eq_true rfl) dT_init_9 (fun H locs hP hD hS => ?_)
  have hP : va_P G vwCl [(h0, .inr (2, [.ref q7, .int 0])), (q7, .inl (cB, 24, .inl (fun _ => 0)))] H := hP
  have hD : va_D A [(h0, .inr (2, [.ref q7, .int 0])), (q7, .inl (cB, 24, .inl (fun _ => 0)))] := hD
  refine lv_aload_n hx hb dT_init_12 rfl (lv_at hl 0 rfl) ?_
  refine lv_iconst (v := nI 0) hx hb dT_init_13 (by decide) ?_
  refine va_put (D := G) (ci := 2) (v := .int (nI 0)) (C := RT) (T := TT) (N := 2) hx hb hts inT tyT tyT_ok nmT hown hK hP hD hS 0 rfl rfl 1 (by decide) (hts _ kw_1_33) (fun _ h9 => h9) rfl (tyT_ok 1 (by decide)) (rfl) (rfl) (Nat.le_of_ble_eq_true rfl) dT_init_14 (fun H locs hP hD hS => ?_)
  have hP : va_P G vwCl [(h0, .inr (2, [.ref q7, .int (nI 0)])), (q7, .inl (cB, 24, .inl (fun _ => 0)))] H := hP
  have hD : va_D A [(h0, .inr (2, [.ref q7, .int (nI 0)])), (q7, .inl (cB, 24, .inl (fun _ => 0)))] := hD
  exact fin (q7) _ _ _ _ dT_init_17 (trivial) hP hD hS
abbrev rmT_clear : Room := { frames := 0, cells := 0, slots := 0, locals := 0 }
set_option maxRecDepth 100000 in
set_option maxHeartbeats 4000000 in
theorem c_Tclear (h0 hL n : Nat) (f : Nat → Int32) : CTv l G (tyL cI cB cC cJ) yT_clear cT_clear 1 rmT_clear [.ref h0] (wT cB h0 hL f n) (fun _ : Unit => True) (fun _ => wT cB h0 hL f 0) := by
  refine mkV cT_clear 1 RT (by decide) rfl (Nat.le_of_ble_eq_true rfl) ?_
  intro p e s m args below meth c A Q ls hx hb hml hts hown hnm hK hP hD hA hl fin
  have hS : va_S A s.heap s.heap [] := va_S.rf
  have hl : lv_has ls 1 [(0, .ref h0)] := hl
  have hP : va_P G vwCl [(h0, .inr (2, [.ref hL, .int (nI n)])), (hL, .inl (cB, 24, .inl f))] s.heap := hP
  have hD : va_D A [(h0, .inr (2, [.ref hL, .int (nI n)])), (hL, .inl (cB, 24, .inl f))] := hD
  refine lv_aload_n hx hb dT_clear_0 rfl (lv_at hl 0 rfl) ?_
  refine lv_iconst (v := nI 0) hx hb dT_clear_1 (by decide) ?_
  refine va_put (D := G) (ci := 2) (v := .int (nI 0)) (C := RT) (T := TT) (N := 2) hx hb hts inT tyT tyT_ok nmT hown hK hP hD hS 0 rfl rfl 1 (by decide) (hts _ kw_1_33) (fun _ h9 => h9) rfl (tyT_ok 1 (by decide)) (rfl) (rfl) (Nat.le_of_ble_eq_true rfl) dT_clear_2 (fun H locs hP hD hS => ?_)
  have hP : va_P G vwCl [(h0, .inr (2, [.ref hL, .int (nI 0)])), (hL, .inl (cB, 24, .inl f))] H := hP
  have hD : va_D A [(h0, .inr (2, [.ref hL, .int (nI 0)])), (hL, .inl (cB, 24, .inl f))] := hD
  exact fin (()) _ _ _ _ dT_clear_5 (trivial) hP hD hS
abbrev rmT_add : Room := { frames := 0, cells := 0, slots := 0, locals := 0 }
set_option maxRecDepth 100000 in
set_option maxHeartbeats 4000000 in
theorem c_add (h0 hL x : Nat) (f : Nat → Int32) (L : List Nat) (hL9 : L.length < 24) (hx9 : x < 128) : CTv l G (tyL cI cB cC cJ) yT_add cT_add 2 rmT_add [.ref h0, .int (nI x)] (wT cB h0 hL f L.length) (fun g : Nat → Int32 => g = upd f L.length (nI x)) (fun g => wT cB h0 hL g ((L ++ [x]).length)) := by
  refine mkV cT_add 2 RT (by decide) rfl (Nat.le_of_ble_eq_true rfl) ?_
  intro p e s m args below meth c A Q ls hx hb hml hts hown hnm hK hP hD hA hl fin
  have hS : va_S A s.heap s.heap [] := va_S.rf
  have hl : lv_has ls 2 [(0, .ref h0), (1, .int (nI x))] := hl
  have hP : va_P G vwCl [(h0, .inr (2, [.ref hL, .int (nI L.length)])), (hL, .inl (cB, 24, .inl f))] s.heap := hP
  have hD : va_D A [(h0, .inr (2, [.ref hL, .int (nI L.length)])), (hL, .inl (cB, 24, .inl f))] := hD
  refine lv_aload_n hx hb dT_add_0 rfl (lv_at hl 0 rfl) ?_
  refine va_get (D := G) (ci := 2) (v := .int (nI L.length)) (C := RT) (T := TT) (N := 2) hx hb hts inT hown hK hP 0 rfl rfl 1 (by decide) (hts _ kw_1_33) (fun _ h9 => h9) rfl dT_add_1 ?_
  refine lv_aload_n hx hb dT_add_4 rfl (lv_at hl 0 rfl) ?_
  refine va_get (D := G) (ci := 2) (v := .ref hL) (C := RT) (T := TT) (N := 2) hx hb hts inT hown hK hP 0 rfl rfl 0 (by decide) (hts _ kw_1_32) (fun _ h9 => h9) rfl dT_add_5 ?_
  refine va_alen (ty := .byte) (v := nI 24) hx hb hK hP 1 1 rfl rfl (rfl) dT_add_8 ?_
  refine lv_icmp_ge (tgt := 33) hx hb dT_add_9 (by decide) (fun hc => absurd hc (nI_ge hL9 (by decide))) (fun _ => ?_)
  refine lv_aload_n hx hb dT_add_12 rfl (lv_at hl 0 rfl) ?_
  refine va_get (D := G) (ci := 2) (v := .ref hL) (C := RT) (T := TT) (N := 2) hx hb hts inT hown hK hP 0 rfl rfl 0 (by decide) (hts _ kw_1_32) (fun _ h9 => h9) rfl dT_add_13 ?_
  refine lv_aload_n hx hb dT_add_16 rfl (lv_at hl 0 rfl) ?_
  refine va_get (D := G) (ci := 2) (v := .int (nI L.length)) (C := RT) (T := TT) (N := 2) hx hb hts inT hown hK hP 0 rfl rfl 1 (by decide) (hts _ kw_1_33) (fun _ h9 => h9) rfl dT_add_17 ?_
  refine lv_iload_n hx hb dT_add_20 rfl (lv_at hl 1 rfl) ?_
  refine lv_i2b (v := nI x) hx hb dT_add_21 (nar_byte hx9) ?_
  refine st_b (x' := (nI x)) hx hb hK hP hD hS 1 1 rfl rfl L.length (rfl) (by omega) (by decide) (narb hx9) dT_add_22 (fun H locs hP hD hS => ?_)
  have hP : va_P G vwCl [(h0, .inr (2, [.ref hL, .int (nI L.length)])), (hL, .inl (cB, 24, .inl (upd f L.length (nI x))))] H := hP
  have hD : va_D A [(h0, .inr (2, [.ref hL, .int (nI L.length)])), (hL, .inl (cB, 24, .inl (upd f L.length (nI x))))] := hD
  refine lv_aload_n hx hb dT_add_23 rfl (lv_at hl 0 rfl) ?_
  refine lv_dup hx hb dT_add_24 rfl ?_
  refine va_get (D := G) (ci := 2) (v := .int (nI L.length)) (C := RT) (T := TT) (N := 2) hx hb hts inT hown hK hP 0 rfl rfl 1 (by decide) (hts _ kw_1_33) (fun _ h9 => h9) rfl dT_add_25 ?_
  refine lv_iconst (v := nI 1) hx hb dT_add_28 (by decide) ?_
  refine lv_iadd hx hb dT_add_29 ?_
  refine tp_i (y := nI (L ++ [x]).length) (by rw [len1]; exact nI_add _ 1) ?_
  refine va_put (D := G) (ci := 2) (v := .int (nI (L ++ [x]).length)) (C := RT) (T := TT) (N := 2) hx hb hts inT tyT tyT_ok nmT hown hK hP hD hS 0 rfl rfl 1 (by decide) (hts _ kw_1_33) (fun _ h9 => h9) rfl (tyT_ok 1 (by decide)) (rfl) (rfl) (Nat.le_of_ble_eq_true rfl) dT_add_30 (fun H locs hP hD hS => ?_)
  have hP : va_P G vwCl [(h0, .inr (2, [.ref hL, .int (nI (L ++ [x]).length)])), (hL, .inl (cB, 24, .inl (upd f L.length (nI x))))] H := hP
  have hD : va_D A [(h0, .inr (2, [.ref hL, .int (nI (L ++ [x]).length)])), (hL, .inl (cB, 24, .inl (upd f L.length (nI x))))] := hD
  exact fin (upd f L.length (nI x)) _ _ _ _ dT_add_33 (rfl) hP hD hS
abbrev rmT_length : Room := { frames := 0, cells := 0, slots := 0, locals := 0 }
set_option maxRecDepth 100000 in
set_option maxHeartbeats 4000000 in
theorem c_Tlen (h0 hL n : Nat) (f : Nat → Int32) : CTi l G (tyL cI cB cC cJ) yT_length cT_length 1 .int rmT_length [.ref h0] (wT cB h0 hL f n) (fun r (_ : Unit) => r = nI n) (fun _ => wT cB h0 hL f n) := by
  refine mkI cT_length 1 RT .int (by decide) rfl (Nat.le_of_ble_eq_true rfl) ?_
  intro p e s m args below meth c A Q ls hx hb hml hts hown hnm hK hP hD hA hl fin
  have hS : va_S A s.heap s.heap [] := va_S.rf
  have hl : lv_has ls 1 [(0, .ref h0)] := hl
  have hP : va_P G vwCl [(h0, .inr (2, [.ref hL, .int (nI n)])), (hL, .inl (cB, 24, .inl f))] s.heap := hP
  have hD : va_D A [(h0, .inr (2, [.ref hL, .int (nI n)])), (hL, .inl (cB, 24, .inl f))] := hD
  refine lv_aload_n hx hb dT_length_0 rfl (lv_at hl 0 rfl) ?_
  refine va_get (D := G) (ci := 2) (v := .int (nI n)) (C := RT) (T := TT) (N := 2) hx hb hts inT hown hK hP 0 rfl rfl 1 (by decide) (hts _ kw_1_33) (fun _ h9 => h9) rfl dT_length_1 ?_
  exact fin (nI n) (()) _ _ _ _ dT_length_4 (rfl) (rfl) hP hD hS
abbrev rmT_holds : Room := { frames := 0, cells := 0, slots := 0, locals := 0 }
set_option maxRecDepth 100000 in
set_option maxHeartbeats 4000000 in
theorem c_holds (h0 hL n : Nat) (f : Nat → Int32) (z : Int) (hz1 : -2 ^ 31 ≤ z) (hz2 : z < 2 ^ 31) (hn : n ≤ 24) : CTi l G (tyL cI cB cC cJ) yT_holds cT_holds 2 .boolean rmT_holds [.ref h0, .int (iI z)] (wT cB h0 hL f n) (fun r (_ : Unit) => r = bI (decide (0 ≤ z ∧ z < n))) (fun _ => wT cB h0 hL f n) := by
  refine mkI cT_holds 2 RT .boolean (by decide) rfl (Nat.le_of_ble_eq_true rfl) ?_
  intro p e s m args below meth c A Q ls hx hb hml hts hown hnm hK hP hD hA hl fin
  have hS : va_S A s.heap s.heap [] := va_S.rf
  have hl : lv_has ls 2 [(0, .ref h0), (1, .int (iI z))] := hl
  have hP : va_P G vwCl [(h0, .inr (2, [.ref hL, .int (nI n)])), (hL, .inl (cB, 24, .inl f))] s.heap := hP
  have hD : va_D A [(h0, .inr (2, [.ref hL, .int (nI n)])), (hL, .inl (cB, 24, .inl f))] := hD
  refine lv_iload_n hx hb dT_holds_0 rfl (lv_at hl 1 rfl) ?_
  refine lv_if_lt (tgt := 16) hx hb dT_holds_1 (by decide) (fun hc => ?_) (fun hc => ?_)
  · have h1 : z < 0 := (iI_lt (b := 0) hz1 hz2 (by decide) (by decide)).mp hc
    refine lv_iconst (v := nI 0) hx hb dT_holds_16 (by decide) ?_
    exact fin (nI 0) (()) _ _ _ _ dT_holds_17 (by decide) (bI_0 (decide_eq_false (by omega))) hP hD hS
  · have h1 : ¬ z < 0 := fun h => hc ((iI_lt (b := 0) hz1 hz2 (by decide) (by decide)).mpr h)
    refine lv_iload_n hx hb dT_holds_4 rfl (lv_at hl 1 rfl) ?_
    refine lv_aload_n hx hb dT_holds_5 rfl (lv_at hl 0 rfl) ?_
    refine va_get (D := G) (ci := 2) (v := .int (nI n)) (C := RT) (T := TT) (N := 2) hx hb hts inT hown hK hP 0 rfl rfl 1 (by decide) (hts _ kw_1_33) (fun _ h9 => h9) rfl dT_holds_6 ?_
    refine lv_icmp_ge (tgt := 16) hx hb dT_holds_9 (by decide) (fun hc2 => ?_) (fun hc2 => ?_)
    · have h2 : (n : Int) ≤ z := (iI_le (by omega) (by omega) hz1 hz2).mp (by rw [iI_nat]; exact hc2)
      refine lv_iconst (v := nI 0) hx hb dT_holds_16 (by decide) ?_
      exact fin (nI 0) (()) _ _ _ _ dT_holds_17 (by decide) (bI_0 (decide_eq_false (by omega))) hP hD hS
    · have h2 : ¬ (n : Int) ≤ z := fun h => hc2 (by rw [← iI_nat]; exact (iI_le (by omega) (by omega) hz1 hz2).mpr h)
      refine lv_iconst (v := nI 1) hx hb dT_holds_12 (by decide) ?_
      refine lv_goto (tgt := 17) hx hb dT_holds_13 (by decide) ?_
      exact fin (nI 1) (()) _ _ _ _ dT_holds_17 (by decide) (bI_1 (decide_eq_true (by omega))) hP hD hS
abbrev rmT_letterOrZero : Room := { frames := 1, cells := 0, slots := 0, locals := 21 }
set_option maxRecDepth 100000 in
set_option maxHeartbeats 4000000 in
theorem c_letter (h0 hL i : Nat) (f : Nat → Int32) (L : List Nat) (hT : Tx f L) (hi : i < 2 ^ 30) : CTi l G (tyL cI cB cC cJ) yT_letterOrZero cT_letterOrZero 2 .int rmT_letterOrZero [.ref h0, .int (nI i)] (wT cB h0 hL f L.length) (fun r (_ : Unit) => r = nI (L.getD i 0)) (fun _ => wT cB h0 hL f L.length) := by
  have hL9 := hT.1
  refine mkI cT_letterOrZero 2 RT .int (by decide) rfl (Nat.le_of_ble_eq_true rfl) ?_
  intro p e s m args below meth c A Q ls hx hb hml hts hown hnm hK hP hD hA hl fin
  have hS : va_S A s.heap s.heap [] := va_S.rf
  have hl : lv_has ls 2 [(0, .ref h0), (1, .int (nI i))] := hl
  have hP : va_P G vwCl [(h0, .inr (2, [.ref hL, .int (nI L.length)])), (hL, .inl (cB, 24, .inl f))] s.heap := hP
  have hD : va_D A [(h0, .inr (2, [.ref hL, .int (nI L.length)])), (hL, .inl (cB, 24, .inl f))] := hD
  refine lv_aload_n hx hb dT_letterOrZero_0 rfl (lv_at hl 0 rfl) ?_
  refine lv_iload_n hx hb dT_letterOrZero_1 rfl (lv_at hl 1 rfl) ?_
  refine tp_i (y := iI (i : Int)) ((iI_nat i).symm) ?_
  refine jnI (Wr := []) (W2 := fun y => [(h0, .inr (2, [.ref hL, .int (nI L.length)])), (hL, .inl (cB, 24, .inl f))]) (rV (n := 1) (As := [.int (iI (i : Int))]) (rest := []) hx hb hml hown hts (c_holds h0 hL L.length f (i : Int) (by omega) (by omega) hL9 _) kw_2_63 kw_2_129 kw_2_61 kw_2_62 kw_1_2 (by decide +kernel) ⟨Nat.le_of_ble_eq_true rfl, Nat.le_of_ble_eq_true rfl⟩ hK hP hD [0, 1] rfl rfl 0 rfl rfl rfl rfl hl.1 rfl (lv_room (Nat.le_of_ble_eq_true rfl)) dT_letterOrZero_2 ⟨Nat.le_of_ble_eq_true rfl, Nat.le_of_ble_eq_true rfl⟩) hP hD hS hA [0, 1] [] [0, 1] rfl rfl rfl (by decide) (fun _ => rfl) rfl (fun o y H locs hq hP hD hS => ?_)
  have hP : va_P G vwCl [(h0, .inr (2, [.ref hL, .int (nI L.length)])), (hL, .inl (cB, 24, .inl f))] H := hP
  have hD : va_D A [(h0, .inr (2, [.ref hL, .int (nI L.length)])), (hL, .inl (cB, 24, .inl f))] := hD
  refine lv_if_eq (tgt := 17) hx hb dT_letterOrZero_5 (by decide) (fun hc => ?_) (fun hc => ?_)
  · have h1 := of_decide_eq_false (bI_eq (hq ▸ hc))
    refine lv_iconst (v := nI 0) hx hb dT_letterOrZero_17 (by decide) ?_
    exact fin (nI 0) (()) _ _ _ _ dT_letterOrZero_18 (rfl) (by rw [getD_ge (by omega)]) hP hD hS
  · have h1 := of_decide_eq_true (bI_ne (hq ▸ hc))
    refine lv_aload_n hx hb dT_letterOrZero_8 rfl (lv_at hl 0 rfl) ?_
    refine va_get (D := G) (ci := 2) (v := .ref hL) (C := RT) (T := TT) (N := 2) hx hb hts inT hown hK hP 0 rfl rfl 0 (by decide) (hts _ kw_1_32) (fun _ h9 => h9) rfl dT_letterOrZero_9 ?_
    refine lv_iload_n hx hb dT_letterOrZero_12 rfl (lv_at hl 1 rfl) ?_
    refine ld_b hx hb hK hP 1 1 rfl rfl i (rfl) (by omega) (by decide) dT_letterOrZero_13 ?_
    refine tp_i (y := nI (L.getD i 0)) (hT.2.1 i (by omega)) ?_
    refine lv_goto (tgt := 18) hx hb dT_letterOrZero_14 (by decide) ?_
    exact fin (nI (L.getD i 0)) (()) _ _ _ _ dT_letterOrZero_18 (rfl) (rfl) hP hD hS
abbrev rmT_digitLetter : Room := { frames := 0, cells := 0, slots := 0, locals := 0 }
set_option maxRecDepth 100000 in
set_option maxHeartbeats 4000000 in
theorem c_dletter (n : Nat) (hn : n < 2 ^ 31) : CTi l G (tyL cI cB cC cJ) yT_digitLetter cT_digitLetter 1 .char rmT_digitLetter [.int (nI n)] [] (fun r (_ : Unit) => r = nI (48 + n % 10)) (fun _ => []) := by
  refine mkI cT_digitLetter 1 RT .char (by decide) rfl (Nat.le_of_ble_eq_true rfl) ?_
  intro p e s m args below meth c A Q ls hx hb hml hts hown hnm hK hP hD hA hl fin
  have hS : va_S A s.heap s.heap [] := va_S.rf
  have hl : lv_has ls 1 [(0, .int (nI n))] := hl
  have hP : va_P G vwCl [] s.heap := hP
  have hD : va_D A [] := hD
  refine lv_bipush (v := nI 48) hx hb dT_digitLetter_0 (by decide) ?_
  refine lv_iload_n hx hb dT_digitLetter_2 rfl (lv_at hl 0 rfl) ?_
  refine lv_bipush (v := nI 10) hx hb dT_digitLetter_3 (by decide) ?_
  refine lv_irem hx hb dT_digitLetter_5 (by decide) ?_
  refine tp_i (y := nI (n % 10)) (pk_rem hn (by decide) (by decide)) ?_
  refine lv_iadd hx hb dT_digitLetter_6 ?_
  refine tp_i (y := nI (48 + n % 10)) (nI_add _ _) ?_
  refine lv_i2c (v := nI (48 + n % 10)) hx hb dT_digitLetter_7 (chr_nI (by omega)) ?_
  exact fin (nI (48 + n % 10)) (()) _ _ _ _ dT_digitLetter_8 ((pk_charN (by omega)).1) (rfl) hP hD hS
abbrev rmT_addAll : Room := { frames := 4, cells := 0, slots := 0, locals := 85 }
set_option maxRecDepth 100000 in
set_option maxHeartbeats 4000000 in
theorem c_addAll (r0 : Option Nat) (q0 v0 n0 : Nat) (f0 : Nat → Int32) (h0 hL : Nat) (f : Nat → Int32) (L : List Nat) (g : Nat → Nat) (hT : Tx f L) (hg : ∀ j, j < n0 → f0 j = nI (g j) ∧ g j < 128) (hn : L.length + n0 ≤ 24) : CEv (strE r0 q0 v0 n0 f0) l G (tyL cI cB cC cJ) yT_addAll cT_addAll 3 rmT_addAll [.ref h0, .ref q0] (wT cB h0 hL f L.length) (fun f2 : Nat → Int32 => Tx f2 (L ++ pre g n0)) (fun f2 => wT cB h0 hL f2 ((L ++ pre g n0).length)) := by
  refine mkVE cT_addAll 3 RT (by decide) rfl (Nat.le_of_ble_eq_true rfl) ?_
  intro p e s m args below meth c A Q ls hx hb hml hts hown hnm hK hP hD hA hE hl fin
  have hS : va_S A s.heap s.heap [] := va_S.rf
  have hl : lv_has ls 3 [(0, .ref h0), (1, .ref q0)] := hl
  have hP : va_P G vwCl [(h0, .inr (2, [.ref hL, .int (nI L.length)])), (hL, .inl (cB, 24, .inl f))] s.heap := hP
  have hD : va_D A [(h0, .inr (2, [.ref hL, .int (nI L.length)])), (hL, .inl (cB, 24, .inl f))] := hD
  have hE : strE r0 q0 v0 n0 f0 A s s.heap := hE
  refine lv_iconst (v := nI 0) hx hb dT_addAll_0 (by decide) ?_
  refine lv_istore_n hx hb dT_addAll_1 rfl hl (by decide) rfl (fun ls hl => ?_)
  have hl : lv_has ls 3 [(2, .int (nI 0)), (0, .ref h0), (1, .ref q0)] := hl
  have hP : va_P G vwCl [(h0, .inr (2, [.ref hL, .int (nI ((L ++ []).length))])), (hL, .inl (cB, 24, .inl f))] s.heap := by rw [List.append_nil]; exact hP
  have hD : va_D A [(h0, .inr (2, [.ref hL, .int (nI ((L ++ []).length))])), (hL, .inl (cB, 24, .inl f))] := by rw [List.append_nil]; exact hD
  have lp : ∀ (fu : Nat) (i : Nat) (f1 : Nat → Int32) (H : Heap) (locs : List Loc) (ls : Array Slot), n0 - i < fu → i ≤ n0 → Tx f1 (L ++ pre g i) → va_P G vwCl [(h0, .inr (2, [.ref hL, .int (nI ((L ++ pre g i).length))])), (hL, .inl (cB, 24, .inl f1))] H → va_D A [(h0, .inr (2, [.ref hL, .int (nI ((L ++ pre g i).length))])), (hL, .inl (cB, 24, .inl f1))] → va_S A s.heap H locs → lv_has ls 3 [(2, .int (nI i)), (0, .ref h0), (1, .ref q0)] → W p l e rmT_addAll s m args below meth c H locs 0 0 Q (F0 m 2 ls []) := by
    intro fu
    induction fu with
    | zero => intro i f1 H locs ls hn; exact absurd hn (Nat.not_lt_zero _)
    | succ fu ih =>
      intro i f1 H locs ls hn hi hT1 hP hD hS hl
      refine lv_iload_n hx hb dT_addAll_2 rfl (lv_at hl 0 rfl) ?_
      refine lv_aload_n hx hb dT_addAll_3 rfl (lv_at hl 2 rfl) ?_
      refine jnI (Wr := [(h0, .inr (2, [.ref hL, .int (nI ((L ++ pre g i).length))])), (hL, .inl (cB, 24, .inl f1))]) (W2 := fun y => [(h0, .inr (2, [.ref hL, .int (nI ((L ++ pre g i).length))])), (hL, .inl (cB, 24, .inl f1))]) (rVE (n := 0) (As := []) (rest := [.int (nI i)]) (strE_ok _ _ _ _ _) (hE) hS hA hx hb hml hown hts (c_slen r0 q0 v0 n0 f0 (by omega) _) kw_1_118 kw_1_115 kw_1_116 kw_1_117 kw_1_7 (by decide +kernel) ⟨Nat.le_of_ble_eq_true rfl, Nat.le_of_ble_eq_true rfl⟩ hK hP hD [] rfl rfl (va_Orecv hE.2.2.1 hS) rfl rfl hl.1 rfl (lv_room (Nat.le_of_ble_eq_true rfl)) dT_addAll_4 ⟨Nat.le_of_ble_eq_true rfl, Nat.le_of_ble_eq_true rfl⟩) hP hD hS hA [] [0, 1] [0, 1] rfl rfl rfl (by decide) (fun _ => rfl) rfl (fun o y H locs hq hP hD hS => ?_)
      have hP : va_P G vwCl [(h0, .inr (2, [.ref hL, .int (nI ((L ++ pre g i).length))])), (hL, .inl (cB, 24, .inl f1))] H := hP
      have hD : va_D A [(h0, .inr (2, [.ref hL, .int (nI ((L ++ pre g i).length))])), (hL, .inl (cB, 24, .inl f1))] := hD
      subst hq
      refine lv_icmp_ge (tgt := 25) hx hb dT_addAll_7 (by decide) (fun hc => ?_) (fun hc => ?_)
      · have h3 : n0 ≤ i := (nI_leI (by omega) (by omega)).mp hc
        have h4 : i = n0 := by omega
        subst h4
        exact fin (f1) _ _ _ _ dT_addAll_25 (hT1) hP hD hS
      · have h3 : i < n0 := by
          rcases Nat.lt_or_ge i n0 with h | h
          · exact h
          · exact absurd (nI_le h (by omega)) hc
        obtain ⟨e1, e2⟩ := hg i h3
        have hlen : (L ++ pre g i).length < 24 := by rw [List.length_append, pre_len]; omega
        refine lv_aload_n hx hb dT_addAll_10 rfl (lv_at hl 1 rfl) ?_
        refine lv_aload_n hx hb dT_addAll_11 rfl (lv_at hl 2 rfl) ?_
        refine lv_iload_n hx hb dT_addAll_12 rfl (lv_at hl 0 rfl) ?_
        refine jnI (Wr := [(h0, .inr (2, [.ref hL, .int (nI ((L ++ pre g i).length))])), (hL, .inl (cB, 24, .inl f1))]) (W2 := fun y => [(h0, .inr (2, [.ref hL, .int (nI ((L ++ pre g i).length))])), (hL, .inl (cB, 24, .inl f1))]) (rVE (n := 1) (As := [.int (nI i)]) (rest := [.ref h0]) (strE_ok _ _ _ _ _) (hE) hS hA hx hb hml hown hts (c_schar r0 q0 v0 n0 f0 i (g i) h3 (by omega) e1 (by omega) _) kw_1_128 kw_1_125 kw_1_126 kw_1_127 kw_1_7 (by decide +kernel) ⟨Nat.le_of_ble_eq_true rfl, Nat.le_of_ble_eq_true rfl⟩ hK hP hD [] rfl rfl (va_Orecv hE.2.2.1 hS) rfl rfl hl.1 rfl (lv_room (Nat.le_of_ble_eq_true rfl)) dT_addAll_13 ⟨Nat.le_of_ble_eq_true rfl, Nat.le_of_ble_eq_true rfl⟩) hP hD hS hA [] [0, 1] [0, 1] rfl rfl rfl (by decide) (fun _ => rfl) rfl (fun o y H locs hq hP hD hS => ?_)
        have hP : va_P G vwCl [(h0, .inr (2, [.ref hL, .int (nI ((L ++ pre g i).length))])), (hL, .inl (cB, 24, .inl f1))] H := hP
        have hD : va_D A [(h0, .inr (2, [.ref hL, .int (nI ((L ++ pre g i).length))])), (hL, .inl (cB, 24, .inl f1))] := hD
        subst hq
        refine jnV (Wr := []) (W2 := fun f2 => [(h0, .inr (2, [.ref hL, .int (nI ((L ++ pre g i ++ [g i]).length))])), (hL, .inl (cB, 24, .inl f2))]) (rV (n := 1) (As := [.int (nI (g i))]) (rest := []) hx hb hml hown hts (c_add h0 hL (g i) f1 (L ++ pre g i) hlen e2 _) kw_1_109 kw_1_163 kw_1_107 kw_1_108 kw_1_2 (by decide +kernel) ⟨Nat.le_of_ble_eq_true rfl, Nat.le_of_ble_eq_true rfl⟩ hK hP hD [0, 1] rfl rfl 0 rfl rfl rfl rfl hl.1 rfl (lv_room (Nat.le_of_ble_eq_true rfl)) dT_addAll_16 ⟨Nat.le_of_ble_eq_true rfl, Nat.le_of_ble_eq_true rfl⟩) hP hD hS hA [0, 1] [] [0, 1] rfl rfl rfl (by decide) (fun _ => rfl) rfl (fun f2 H locs hq hP hD hS => ?_)
        have hP : va_P G vwCl [(h0, .inr (2, [.ref hL, .int (nI ((L ++ pre g i ++ [g i]).length))])), (hL, .inl (cB, 24, .inl f2))] H := hP
        have hD : va_D A [(h0, .inr (2, [.ref hL, .int (nI ((L ++ pre g i ++ [g i]).length))])), (hL, .inl (cB, 24, .inl f2))] := hD
        subst hq
        have hT2 := Tx_add hT1 hlen e2
        rw [List.append_assoc] at hP hD hT2
        have hP : va_P G vwCl [(h0, .inr (2, [.ref hL, .int (nI ((L ++ pre g (i + 1)).length))])), (hL, .inl (cB, 24, .inl (upd f1 (L ++ pre g i).length (nI (g i)))))] H := hP
        have hD : va_D A [(h0, .inr (2, [.ref hL, .int (nI ((L ++ pre g (i + 1)).length))])), (hL, .inl (cB, 24, .inl (upd f1 (L ++ pre g i).length (nI (g i)))))] := hD
        refine lv_iinc (k := 0) (v := nI (i + 1)) hx hb dT_addAll_19 hl rfl (nI_1 i) (by decide) rfl (fun ls hl => ?_)
        have hl : lv_has ls 3 [(2, .int (nI (i + 1))), (0, .ref h0), (1, .ref q0)] := hl
        refine lv_goto (tgt := 2) hx hb dT_addAll_22 (by decide) ?_
        have hl : lv_has ls 3 [(2, .int (nI (i + 1))), (0, .ref h0), (1, .ref q0)] := lv_sub hl [0, 1, 2] rfl
        exact ih (i + 1) (upd f1 (L ++ pre g i).length (nI (g i))) _ _ _ (by omega) (by omega) (hT2) hP hD hS hl
  exact lp (_ + 1) 0 f _ _ _ (Nat.lt_succ_self _) (Nat.zero_le _) (by rw [show pre g 0 = [] from rfl, List.append_nil]; exact hT) hP hD hS hl
abbrev rmT_addExponent : Room := { frames := 1, cells := 0, slots := 0, locals := 21 }
set_option maxRecDepth 100000 in
set_option maxHeartbeats 4000000 in
theorem c_addExp (h0 hL : Nat) (f : Nat → Int32) (L : List Nat) (z : Int) (hT : Tx f L) (hl9 : L.length ≤ 20) (hz1 : -1000 < z) (hz2 : z < 1000) : CTv l G (tyL cI cB cC cJ) yT_addExponent cT_addExponent 3 rmT_addExponent [.ref h0, .int (iI z)] (wT cB h0 hL f L.length) (fun f2 : Nat → Int32 => Tx f2 (L ++ expT z)) (fun f2 => wT cB h0 hL f2 ((L ++ expT z).length)) := by
  refine mkV cT_addExponent 3 RT (by decide) rfl (Nat.le_of_ble_eq_true rfl) ?_
  intro p e s m args below meth c A Q ls hx hb hml hts hown hnm hK hP hD hA hl fin
  have hS : va_S A s.heap s.heap [] := va_S.rf
  have hl : lv_has ls 3 [(0, .ref h0), (1, .int (iI z))] := hl
  have hP : va_P G vwCl [(h0, .inr (2, [.ref hL, .int (nI L.length)])), (hL, .inl (cB, 24, .inl f))] s.heap := hP
  have hD : va_D A [(h0, .inr (2, [.ref hL, .int (nI L.length)])), (hL, .inl (cB, 24, .inl f))] := hD
  have j49 : ∀ (f1 : Nat → Int32) (M : List Nat) (H : Heap) (locs : List Loc) (ls : Array Slot), Tx f1 M → M = L ++ (if z < 0 then [45] else []) ++ (if 100 ≤ z.natAbs then [48 + z.natAbs / 100 % 10] else []) ++ (if 10 ≤ z.natAbs then [48 + z.natAbs / 10 % 10] else []) → M.length ≤ 23 → va_P G vwCl [(h0, .inr (2, [.ref hL, .int (nI M.length)])), (hL, .inl (cB, 24, .inl f1))] H → va_D A [(h0, .inr (2, [.ref hL, .int (nI M.length)])), (hL, .inl (cB, 24, .inl f1))] → va_S A s.heap H locs → lv_has ls 3 [(2, .int (nI z.natAbs)), (0, .ref h0)] → W p l e rmT_addExponent s m args below meth c H locs 0 0 Q (F0 m 49 ls []) := by
    intro f1 M H locs ls hT1 hM hm hP hD hS hl
    refine lv_aload_n hx hb dT_addExponent_49 rfl (lv_at hl 1 rfl) ?_
    refine lv_iload_n hx hb dT_addExponent_50 rfl (lv_at hl 0 rfl) ?_
    refine jnI (Wr := [(h0, .inr (2, [.ref hL, .int (nI M.length)])), (hL, .inl (cB, 24, .inl f1))]) (W2 := fun y => [(h0, .inr (2, [.ref hL, .int (nI M.length)])), (hL, .inl (cB, 24, .inl f1))]) (rS (n := 1) (As := [.int (nI z.natAbs)]) (rest := [.ref h0]) hx hb hml hown hts (c_dletter z.natAbs (by omega) _) kw_2_42 kw_2_40 kw_2_41 kw_1_2 (by decide +kernel) ⟨Nat.le_of_ble_eq_true rfl, Nat.le_of_ble_eq_true rfl⟩ hK hP hD [] rfl rfl rfl rfl hl.1 rfl (lv_room (Nat.le_of_ble_eq_true rfl)) dT_addExponent_51 ⟨Nat.le_of_ble_eq_true rfl, Nat.le_of_ble_eq_true rfl⟩) hP hD hS hA [] [0, 1] [0, 1] rfl rfl rfl (by decide) (fun _ => rfl) rfl (fun o y H locs hq hP hD hS => ?_)
    have hP : va_P G vwCl [(h0, .inr (2, [.ref hL, .int (nI M.length)])), (hL, .inl (cB, 24, .inl f1))] H := hP
    have hD : va_D A [(h0, .inr (2, [.ref hL, .int (nI M.length)])), (hL, .inl (cB, 24, .inl f1))] := hD
    subst hq
    refine jnV (Wr := []) (W2 := fun f2 => [(h0, .inr (2, [.ref hL, .int (nI ((M ++ [48 + z.natAbs % 10]).length))])), (hL, .inl (cB, 24, .inl f2))]) (rV (n := 1) (As := [.int (nI (48 + z.natAbs % 10))]) (rest := []) hx hb hml hown hts (c_add h0 hL (48 + z.natAbs % 10) f1 M (by omega) (by omega) _) kw_1_109 kw_1_163 kw_1_107 kw_1_108 kw_1_2 (by decide +kernel) ⟨Nat.le_of_ble_eq_true rfl, Nat.le_of_ble_eq_true rfl⟩ hK hP hD [0, 1] rfl rfl 0 rfl rfl rfl rfl hl.1 rfl (lv_room (Nat.le_of_ble_eq_true rfl)) dT_addExponent_54 ⟨Nat.le_of_ble_eq_true rfl, Nat.le_of_ble_eq_true rfl⟩) hP hD hS hA [0, 1] [] [0, 1] rfl rfl rfl (by decide) (fun _ => rfl) rfl (fun f2 H locs hq hP hD hS => ?_)
    have hP : va_P G vwCl [(h0, .inr (2, [.ref hL, .int (nI ((M ++ [48 + z.natAbs % 10]).length))])), (hL, .inl (cB, 24, .inl f2))] H := hP
    have hD : va_D A [(h0, .inr (2, [.ref hL, .int (nI ((M ++ [48 + z.natAbs % 10]).length))])), (hL, .inl (cB, 24, .inl f2))] := hD
    subst hq
    have hT2 := Tx_add (x := 48 + z.natAbs % 10) hT1 (by omega) (by omega)
    have e9 : M ++ [48 + z.natAbs % 10] = L ++ expT z := by rw [hM]; unfold expT; simp only [List.append_assoc]
    rw [e9] at hT2 hP hD
    have hP : va_P G vwCl [(h0, .inr (2, [.ref hL, .int (nI ((L ++ expT z).length))])), (hL, .inl (cB, 24, .inl (upd f1 M.length (nI (48 + z.natAbs % 10)))))] H := hP
    have hD : va_D A [(h0, .inr (2, [.ref hL, .int (nI ((L ++ expT z).length))])), (hL, .inl (cB, 24, .inl (upd f1 M.length (nI (48 + z.natAbs % 10)))))] := hD
    exact fin (upd f1 M.length (nI (48 + z.natAbs % 10))) _ _ _ _ dT_addExponent_57 (hT2) hP hD hS
  have j32 : ∀ (f1 : Nat → Int32) (M : List Nat) (H : Heap) (locs : List Loc) (ls : Array Slot), Tx f1 M → M = L ++ (if z < 0 then [45] else []) ++ (if 100 ≤ z.natAbs then [48 + z.natAbs / 100 % 10] else []) → M.length ≤ 22 → va_P G vwCl [(h0, .inr (2, [.ref hL, .int (nI M.length)])), (hL, .inl (cB, 24, .inl f1))] H → va_D A [(h0, .inr (2, [.ref hL, .int (nI M.length)])), (hL, .inl (cB, 24, .inl f1))] → va_S A s.heap H locs → lv_has ls 3 [(2, .int (nI z.natAbs)), (0, .ref h0)] → W p l e rmT_addExponent s m args below meth c H locs 0 0 Q (F0 m 32 ls []) := by
    intro f1 M H locs ls hT1 hM hm hP hD hS hl
    refine lv_iload_n hx hb dT_addExponent_32 rfl (lv_at hl 0 rfl) ?_
    refine lv_bipush (v := nI 10) hx hb dT_addExponent_33 (by decide) ?_
    refine lv_icmp_lt (tgt := 49) hx hb dT_addExponent_35 (by decide) (fun hc => ?_) (fun hc => ?_)
    · have h3 : z.natAbs < 10 := (nI_ltI (by omega) (by decide)).mp hc
      exact j49 f1 M _ _ _ (hT1) (by rw [hM, if_neg (show ¬ 10 ≤ z.natAbs by omega), List.append_nil]) (by omega) hP hD hS hl
    · have h3 : 10 ≤ z.natAbs := by
        rcases Nat.lt_or_ge z.natAbs 10 with h | h
        · exact absurd ((nI_ltI (by omega) (by decide)).mpr h) hc
        · exact h
      refine lv_aload_n hx hb dT_addExponent_38 rfl (lv_at hl 1 rfl) ?_
      refine lv_iload_n hx hb dT_addExponent_39 rfl (lv_at hl 0 rfl) ?_
      refine lv_bipush (v := nI 10) hx hb dT_addExponent_40 (by decide) ?_
      refine lv_idiv hx hb dT_addExponent_42 (by decide) ?_
      refine tp_i (y := nI (z.natAbs / 10)) (pk_div (by omega) (by decide) (by decide)) ?_
      refine jnI (Wr := [(h0, .inr (2, [.ref hL, .int (nI M.length)])), (hL, .inl (cB, 24, .inl f1))]) (W2 := fun y => [(h0, .inr (2, [.ref hL, .int (nI M.length)])), (hL, .inl (cB, 24, .inl f1))]) (rS (n := 1) (As := [.int (nI (z.natAbs / 10))]) (rest := [.ref h0]) hx hb hml hown hts (c_dletter (z.natAbs / 10) (by omega) _) kw_2_42 kw_2_40 kw_2_41 kw_1_2 (by decide +kernel) ⟨Nat.le_of_ble_eq_true rfl, Nat.le_of_ble_eq_true rfl⟩ hK hP hD [] rfl rfl rfl rfl hl.1 rfl (lv_room (Nat.le_of_ble_eq_true rfl)) dT_addExponent_43 ⟨Nat.le_of_ble_eq_true rfl, Nat.le_of_ble_eq_true rfl⟩) hP hD hS hA [] [0, 1] [0, 1] rfl rfl rfl (by decide) (fun _ => rfl) rfl (fun o y H locs hq hP hD hS => ?_)
      have hP : va_P G vwCl [(h0, .inr (2, [.ref hL, .int (nI M.length)])), (hL, .inl (cB, 24, .inl f1))] H := hP
      have hD : va_D A [(h0, .inr (2, [.ref hL, .int (nI M.length)])), (hL, .inl (cB, 24, .inl f1))] := hD
      subst hq
      refine jnV (Wr := []) (W2 := fun f2 => [(h0, .inr (2, [.ref hL, .int (nI ((M ++ [48 + z.natAbs / 10 % 10]).length))])), (hL, .inl (cB, 24, .inl f2))]) (rV (n := 1) (As := [.int (nI (48 + z.natAbs / 10 % 10))]) (rest := []) hx hb hml hown hts (c_add h0 hL (48 + z.natAbs / 10 % 10) f1 M (by omega) (by omega) _) kw_1_109 kw_1_163 kw_1_107 kw_1_108 kw_1_2 (by decide +kernel) ⟨Nat.le_of_ble_eq_true rfl, Nat.le_of_ble_eq_true rfl⟩ hK hP hD [0, 1] rfl rfl 0 rfl rfl rfl rfl hl.1 rfl (lv_room (Nat.le_of_ble_eq_true rfl)) dT_addExponent_46 ⟨Nat.le_of_ble_eq_true rfl, Nat.le_of_ble_eq_true rfl⟩) hP hD hS hA [0, 1] [] [0, 1] rfl rfl rfl (by decide) (fun _ => rfl) rfl (fun f2 H locs hq hP hD hS => ?_)
      have hP : va_P G vwCl [(h0, .inr (2, [.ref hL, .int (nI ((M ++ [48 + z.natAbs / 10 % 10]).length))])), (hL, .inl (cB, 24, .inl f2))] H := hP
      have hD : va_D A [(h0, .inr (2, [.ref hL, .int (nI ((M ++ [48 + z.natAbs / 10 % 10]).length))])), (hL, .inl (cB, 24, .inl f2))] := hD
      subst hq
      have hT2 := Tx_add (x := 48 + z.natAbs / 10 % 10) hT1 (by omega) (by omega)
      exact j49 (upd f1 M.length (nI (48 + z.natAbs / 10 % 10))) (M ++ [48 + z.natAbs / 10 % 10]) _ _ _ (hT2) (by rw [hM, if_pos h3]) (by rw [len1]; omega) hP hD hS hl
  have j15 : ∀ (f1 : Nat → Int32) (M : List Nat) (H : Heap) (locs : List Loc) (ls : Array Slot), Tx f1 M → M = L ++ (if z < 0 then [45] else []) → M.length ≤ 21 → va_P G vwCl [(h0, .inr (2, [.ref hL, .int (nI M.length)])), (hL, .inl (cB, 24, .inl f1))] H → va_D A [(h0, .inr (2, [.ref hL, .int (nI M.length)])), (hL, .inl (cB, 24, .inl f1))] → va_S A s.heap H locs → lv_has ls 3 [(2, .int (nI z.natAbs)), (0, .ref h0)] → W p l e rmT_addExponent s m args below meth c H locs 0 0 Q (F0 m 15 ls []) := by
    intro f1 M H locs ls hT1 hM hm hP hD hS hl
    refine lv_iload_n hx hb dT_addExponent_15 rfl (lv_at hl 0 rfl) ?_
    refine lv_bipush (v := nI 100) hx hb dT_addExponent_16 (by decide) ?_
    refine lv_icmp_lt (tgt := 32) hx hb dT_addExponent_18 (by decide) (fun hc => ?_) (fun hc => ?_)
    · have h3 : z.natAbs < 100 := (nI_ltI (by omega) (by decide)).mp hc
      exact j32 f1 M _ _ _ (hT1) (by rw [hM, if_neg (show ¬ 100 ≤ z.natAbs by omega), List.append_nil]) (by omega) hP hD hS hl
    · have h3 : 100 ≤ z.natAbs := by
        rcases Nat.lt_or_ge z.natAbs 100 with h | h
        · exact absurd ((nI_ltI (by omega) (by decide)).mpr h) hc
        · exact h
      refine lv_aload_n hx hb dT_addExponent_21 rfl (lv_at hl 1 rfl) ?_
      refine lv_iload_n hx hb dT_addExponent_22 rfl (lv_at hl 0 rfl) ?_
      refine lv_bipush (v := nI 100) hx hb dT_addExponent_23 (by decide) ?_
      refine lv_idiv hx hb dT_addExponent_25 (by decide) ?_
      refine tp_i (y := nI (z.natAbs / 100)) (pk_div (by omega) (by decide) (by decide)) ?_
      refine jnI (Wr := [(h0, .inr (2, [.ref hL, .int (nI M.length)])), (hL, .inl (cB, 24, .inl f1))]) (W2 := fun y => [(h0, .inr (2, [.ref hL, .int (nI M.length)])), (hL, .inl (cB, 24, .inl f1))]) (rS (n := 1) (As := [.int (nI (z.natAbs / 100))]) (rest := [.ref h0]) hx hb hml hown hts (c_dletter (z.natAbs / 100) (by omega) _) kw_2_42 kw_2_40 kw_2_41 kw_1_2 (by decide +kernel) ⟨Nat.le_of_ble_eq_true rfl, Nat.le_of_ble_eq_true rfl⟩ hK hP hD [] rfl rfl rfl rfl hl.1 rfl (lv_room (Nat.le_of_ble_eq_true rfl)) dT_addExponent_26 ⟨Nat.le_of_ble_eq_true rfl, Nat.le_of_ble_eq_true rfl⟩) hP hD hS hA [] [0, 1] [0, 1] rfl rfl rfl (by decide) (fun _ => rfl) rfl (fun o y H locs hq hP hD hS => ?_)
      have hP : va_P G vwCl [(h0, .inr (2, [.ref hL, .int (nI M.length)])), (hL, .inl (cB, 24, .inl f1))] H := hP
      have hD : va_D A [(h0, .inr (2, [.ref hL, .int (nI M.length)])), (hL, .inl (cB, 24, .inl f1))] := hD
      subst hq
      refine jnV (Wr := []) (W2 := fun f2 => [(h0, .inr (2, [.ref hL, .int (nI ((M ++ [48 + z.natAbs / 100 % 10]).length))])), (hL, .inl (cB, 24, .inl f2))]) (rV (n := 1) (As := [.int (nI (48 + z.natAbs / 100 % 10))]) (rest := []) hx hb hml hown hts (c_add h0 hL (48 + z.natAbs / 100 % 10) f1 M (by omega) (by omega) _) kw_1_109 kw_1_163 kw_1_107 kw_1_108 kw_1_2 (by decide +kernel) ⟨Nat.le_of_ble_eq_true rfl, Nat.le_of_ble_eq_true rfl⟩ hK hP hD [0, 1] rfl rfl 0 rfl rfl rfl rfl hl.1 rfl (lv_room (Nat.le_of_ble_eq_true rfl)) dT_addExponent_29 ⟨Nat.le_of_ble_eq_true rfl, Nat.le_of_ble_eq_true rfl⟩) hP hD hS hA [0, 1] [] [0, 1] rfl rfl rfl (by decide) (fun _ => rfl) rfl (fun f2 H locs hq hP hD hS => ?_)
      have hP : va_P G vwCl [(h0, .inr (2, [.ref hL, .int (nI ((M ++ [48 + z.natAbs / 100 % 10]).length))])), (hL, .inl (cB, 24, .inl f2))] H := hP
      have hD : va_D A [(h0, .inr (2, [.ref hL, .int (nI ((M ++ [48 + z.natAbs / 100 % 10]).length))])), (hL, .inl (cB, 24, .inl f2))] := hD
      subst hq
      have hT2 := Tx_add (x := 48 + z.natAbs / 100 % 10) hT1 (by omega) (by omega)
      exact j32 (upd f1 M.length (nI (48 + z.natAbs / 100 % 10))) (M ++ [48 + z.natAbs / 100 % 10]) _ _ _ (hT2) (by rw [hM, if_pos h3]) (by rw [len1]; omega) hP hD hS hl
  have j10 : ∀ (f1 : Nat → Int32) (M : List Nat) (H : Heap) (locs : List Loc) (ls : Array Slot), Tx f1 M → M = L ++ (if z < 0 then [45] else []) → M.length ≤ 21 → va_P G vwCl [(h0, .inr (2, [.ref hL, .int (nI M.length)])), (hL, .inl (cB, 24, .inl f1))] H → va_D A [(h0, .inr (2, [.ref hL, .int (nI M.length)])), (hL, .inl (cB, 24, .inl f1))] → va_S A s.heap H locs → lv_has ls 3 [(0, .ref h0), (1, .int (iI z))] → W p l e rmT_addExponent s m args below meth c H locs 0 0 Q (F0 m 10 ls []) := by
    intro f1 M H locs ls hT1 hM hm hP hD hS hl
    refine lv_iload_n hx hb dT_addExponent_10 rfl (lv_at hl 1 rfl) ?_
    refine va_mabs hx hb (hml.trans hl.1.symm) hown (hts _ kw_2_37) (hts _ kw_2_38) (hts _ kw_1_13) (hts _ kw_2_39) (Nat.le_of_ble_eq_true rfl) (Nat.le_of_ble_eq_true rfl) (Nat.le_of_ble_eq_true rfl) (Nat.le_of_ble_eq_true rfl) dT_addExponent_11 ?_
    refine tp_i (y := nI z.natAbs) (abs_i (by omega) (by omega)) ?_
    refine lv_istore_n hx hb dT_addExponent_14 rfl hl (by decide) rfl (fun ls hl => ?_)
    have hl : lv_has ls 3 [(2, .int (nI z.natAbs)), (0, .ref h0), (1, .int (iI z))] := hl
    have hl : lv_has ls 3 [(2, .int (nI z.natAbs)), (0, .ref h0)] := lv_sub hl [0, 1] rfl
    exact j15 f1 M _ _ _ (hT1) (hM) (hm) hP hD hS hl
  refine lv_iload_n hx hb dT_addExponent_0 rfl (lv_at hl 1 rfl) ?_
  refine lv_if_ge (tgt := 10) hx hb dT_addExponent_1 (by decide) (fun hc => ?_) (fun hc => ?_)
  · have h3 : 0 ≤ z := (iI_le (a := 0) (by decide) (by decide) (by omega) (by omega)).mp hc
    exact j10 f L _ _ _ (hT) (by rw [if_neg (show ¬ z < 0 by omega), List.append_nil]) (by omega) hP hD hS hl
  · have h3 : ¬ 0 ≤ z := fun h => hc ((iI_le (a := 0) (by decide) (by decide) (by omega) (by omega)).mpr h)
    refine lv_aload_n hx hb dT_addExponent_4 rfl (lv_at hl 0 rfl) ?_
    refine lv_bipush (v := nI 45) hx hb dT_addExponent_5 (by decide) ?_
    refine jnV (Wr := []) (W2 := fun f2 => [(h0, .inr (2, [.ref hL, .int (nI ((L ++ [45]).length))])), (hL, .inl (cB, 24, .inl f2))]) (rV (n := 1) (As := [.int (nI 45)]) (rest := []) hx hb hml hown hts (c_add h0 hL 45 f L (by omega) (by decide) _) kw_1_109 kw_1_163 kw_1_107 kw_1_108 kw_1_2 (by decide +kernel) ⟨Nat.le_of_ble_eq_true rfl, Nat.le_of_ble_eq_true rfl⟩ hK hP hD [0, 1] rfl rfl 0 rfl rfl rfl rfl hl.1 rfl (lv_room (Nat.le_of_ble_eq_true rfl)) dT_addExponent_7 ⟨Nat.le_of_ble_eq_true rfl, Nat.le_of_ble_eq_true rfl⟩) hP hD hS hA [0, 1] [] [0, 1] rfl rfl rfl (by decide) (fun _ => rfl) rfl (fun f2 H locs hq hP hD hS => ?_)
    have hP : va_P G vwCl [(h0, .inr (2, [.ref hL, .int (nI ((L ++ [45]).length))])), (hL, .inl (cB, 24, .inl f2))] H := hP
    have hD : va_D A [(h0, .inr (2, [.ref hL, .int (nI ((L ++ [45]).length))])), (hL, .inl (cB, 24, .inl f2))] := hD
    subst hq
    have hT2 := Tx_add (x := 45) hT (by omega) (by decide)
    exact j10 (upd f L.length (nI 45)) (L ++ [45]) _ _ _ (hT2) (by rw [if_pos (show z < 0 by omega)]) (by rw [len1]; omega) hP hD hS hl
end TXT
