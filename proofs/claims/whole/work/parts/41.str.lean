/-! String.length and charAt of a text outside -/
section STR
variable {l : Launch} {G : va_G} {cI cB cC cJ : ClassId}
abbrev rmJS_coder : Room := { frames := 0, cells := 0, slots := 0, locals := 0 }
set_option maxRecDepth 100000 in
set_option maxHeartbeats 4000000 in
theorem c_coder (r0 : Option Nat) (q0 v0 n0 : Nat) (f0 : Nat → Int32) : CEi (strE r0 q0 v0 n0 f0) l G (tyL cI cB cC cJ) yJS_coder cJS_coder 1 .byte rmJS_coder [.ref q0] [] (fun x (_ : Unit) => x = nI 0) (fun _ => []) := by
  refine mkIE cJS_coder 1 RJS .byte (by decide) rfl (Nat.le_of_ble_eq_true rfl) ?_
  intro p e s m args below meth c A Q ls hx hb hml hts hown hnm hK hP hD hA hE hl fin
  have hS : va_S A s.heap s.heap [] := va_S.rf
  have hl : lv_has ls 1 [(0, .ref q0)] := hl
  have hP : va_P G vwCl [] s.heap := hP
  have hD : va_D A [] := hD
  have hE : strE r0 q0 v0 n0 f0 A s s.heap := hE
  refine va_gets (v := .int 1) hx hb hE.1 hS hown (hts _ kw_1_123) (fun _ h9 => h9) dJS_coder_0 ?_
  refine lv_if_eq (tgt := 13) hx hb dJS_coder_3 (by decide) (fun hc => absurd hc (by decide)) (fun _ => ?_)
  refine lv_aload_n hx hb dJS_coder_6 rfl (lv_at hl 0 rfl) ?_
  refine vk_getf hx hb hE.2.2.2.1 hS hown (hts _ kw_3_99) (fun _ h9 => h9) dJS_coder_7 ?_
  refine lv_goto (tgt := 14) hx hb dJS_coder_10 (by decide) ?_
  exact fin (0) (()) _ _ _ _ dJS_coder_14 (by decide) (rfl) hP hD hS
abbrev rmJS_isLatin1 : Room := { frames := 0, cells := 0, slots := 0, locals := 0 }
set_option maxRecDepth 100000 in
set_option maxHeartbeats 4000000 in
theorem c_isLatin1 (r0 : Option Nat) (q0 v0 n0 : Nat) (f0 : Nat → Int32) : CEi (strE r0 q0 v0 n0 f0) l G (tyL cI cB cC cJ) yJS_isLatin1 cJS_isLatin1 1 .boolean rmJS_isLatin1 [.ref q0] [] (fun x (_ : Unit) => x = nI 1) (fun _ => []) := by
  refine mkIE cJS_isLatin1 1 RJS .boolean (by decide) rfl (Nat.le_of_ble_eq_true rfl) ?_
  intro p e s m args below meth c A Q ls hx hb hml hts hown hnm hK hP hD hA hE hl fin
  have hS : va_S A s.heap s.heap [] := va_S.rf
  have hl : lv_has ls 1 [(0, .ref q0)] := hl
  have hP : va_P G vwCl [] s.heap := hP
  have hD : va_D A [] := hD
  have hE : strE r0 q0 v0 n0 f0 A s s.heap := hE
  refine va_gets (v := .int 1) hx hb hE.1 hS hown (hts _ kw_1_123) (fun _ h9 => h9) dJS_isLatin1_0 ?_
  refine lv_if_eq (tgt := 17) hx hb dJS_isLatin1_3 (by decide) (fun hc => absurd hc (by decide)) (fun _ => ?_)
  refine lv_aload_n hx hb dJS_isLatin1_6 rfl (lv_at hl 0 rfl) ?_
  refine vk_getf hx hb hE.2.2.2.1 hS hown (hts _ kw_3_99) (fun _ h9 => h9) dJS_isLatin1_7 ?_
  refine lv_if_ne (tgt := 17) hx hb dJS_isLatin1_10 (by decide) (fun hc => absurd (rfl) hc) (fun _ => ?_)
  refine lv_iconst (v := nI 1) hx hb dJS_isLatin1_13 (by decide) ?_
  refine lv_goto (tgt := 18) hx hb dJS_isLatin1_14 (by decide) ?_
  exact fin (nI 1) (()) _ _ _ _ dJS_isLatin1_18 (by decide) (rfl) hP hD hS
abbrev rmJS_length : Room := { frames := 1, cells := 0, slots := 0, locals := 20 }
set_option maxRecDepth 100000 in
set_option maxHeartbeats 4000000 in
theorem c_slen (r0 : Option Nat) (q0 v0 n0 : Nat) (f0 : Nat → Int32) (hn : n0 < 2 ^ 31) : CEi (strE r0 q0 v0 n0 f0) l G (tyL cI cB cC cJ) yJS_length cJS_length 1 .int rmJS_length [.ref q0] [] (fun x (_ : Unit) => x = nI n0) (fun _ => []) := by
  refine mkIE cJS_length 1 RJS .int (by decide) rfl (Nat.le_of_ble_eq_true rfl) ?_
  intro p e s m args below meth c A Q ls hx hb hml hts hown hnm hK hP hD hA hE hl fin
  have hS : va_S A s.heap s.heap [] := va_S.rf
  have hl : lv_has ls 1 [(0, .ref q0)] := hl
  have hP : va_P G vwCl [] s.heap := hP
  have hD : va_D A [] := hD
  have hE : strE r0 q0 v0 n0 f0 A s s.heap := hE
  refine lv_aload_n hx hb dJS_length_0 rfl (lv_at hl 0 rfl) ?_
  refine vk_getf hx hb hE.2.2.2.2.1 hS hown (hts _ kw_3_98) (fun _ h9 => h9) dJS_length_1 ?_
  refine va_tlen (v := nI n0) hx hb hE.2.2.2.2.2 hS rfl dJS_length_4 ?_
  refine lv_aload_n hx hb dJS_length_5 rfl (lv_at hl 0 rfl) ?_
  refine jnI (Wr := []) (W2 := fun y => []) (rVE (n := 0) (As := []) (rest := [.int (nI n0)]) (strE_ok _ _ _ _ _) (hE) hS hA hx hb hml hown hts (c_coder r0 q0 v0 n0 f0 _) kw_1_122 kw_1_119 kw_1_120 kw_1_121 kw_1_7 (by decide +kernel) ⟨Nat.le_of_ble_eq_true rfl, Nat.le_of_ble_eq_true rfl⟩ hK hP hD [] rfl rfl (va_Orecv hE.2.2.1 hS) rfl rfl hl.1 rfl (lv_room (Nat.le_of_ble_eq_true rfl)) dJS_length_6 ⟨Nat.le_of_ble_eq_true rfl, Nat.le_of_ble_eq_true rfl⟩) hP hD hS hA [] [] [] rfl rfl rfl (by decide) (fun _ => rfl) rfl (fun o y H locs hq hP hD hS => ?_)
  have hP : va_P G vwCl [] H := hP
  have hD : va_D A [] := hD
  subst hq
  refine lv_ishr hx hb dJS_length_9 ?_
  refine tp_i (y := nI n0) (sc_shr0 hn) ?_
  exact fin (nI n0) (()) _ _ _ _ dJS_length_10 (rfl) (rfl) hP hD hS
abbrev rmJP_checkIndex : Room := { frames := 0, cells := 0, slots := 0, locals := 0 }
set_option maxRecDepth 100000 in
set_option maxHeartbeats 4000000 in
theorem c_JPcheckN (k n : Nat) (hk : k < n) (hn : n < 2 ^ 31) : CTi l G (tyL cI cB cC cJ) yJP_checkIndex cJP_checkIndex 3 .int rmJP_checkIndex [.int (nI k), .int (nI n), .null] [] (fun x (_ : Unit) => x = nI k) (fun _ => []) := by
  refine mkI cJP_checkIndex 3 RJP .int (by decide) rfl (Nat.le_of_ble_eq_true rfl) ?_
  intro p e s m args below meth c A Q ls hx hb hml hts hown hnm hK hP hD hA hl fin
  have hS : va_S A s.heap s.heap [] := va_S.rf
  have hl : lv_has ls 3 [(0, .int (nI k)), (1, .int (nI n)), (2, .null)] := hl
  have hP : va_P G vwCl [] s.heap := hP
  have hD : va_D A [] := hD
  refine lv_iload_n hx hb dJP_checkIndex_0 rfl (lv_at hl 0 rfl) ?_
  refine lv_if_lt (tgt := 9) hx hb dJP_checkIndex_1 (by decide) (fun hc => absurd hc (nI_pos (by omega))) (fun _ => ?_)
  refine lv_iload_n hx hb dJP_checkIndex_4 rfl (lv_at hl 0 rfl) ?_
  refine lv_iload_n hx hb dJP_checkIndex_5 rfl (lv_at hl 1 rfl) ?_
  refine lv_icmp_lt (tgt := 16) hx hb dJP_checkIndex_6 (by decide) (fun _ => ?_) (fun hc => absurd (nI_lt hk hn) hc)
  refine lv_iload_n hx hb dJP_checkIndex_16 rfl (lv_at hl 0 rfl) ?_
  exact fin (nI k) (()) _ _ _ _ dJP_checkIndex_17 (rfl) (rfl) hP hD hS
set_option maxRecDepth 100000 in
set_option maxHeartbeats 4000000 in
theorem c_JPcheckR (k n a0 : Nat) (hk : k < n) (hn : n < 2 ^ 31) : CTi l G (tyL cI cB cC cJ) yJP_checkIndex cJP_checkIndex 3 .int rmJP_checkIndex [.int (nI k), .int (nI n), .ref a0] [] (fun x (_ : Unit) => x = nI k) (fun _ => []) := by
  refine mkI cJP_checkIndex 3 RJP .int (by decide) rfl (Nat.le_of_ble_eq_true rfl) ?_
  intro p e s m args below meth c A Q ls hx hb hml hts hown hnm hK hP hD hA hl fin
  have hS : va_S A s.heap s.heap [] := va_S.rf
  have hl : lv_has ls 3 [(0, .int (nI k)), (1, .int (nI n)), (2, .ref a0)] := hl
  have hP : va_P G vwCl [] s.heap := hP
  have hD : va_D A [] := hD
  refine lv_iload_n hx hb dJP_checkIndex_0 rfl (lv_at hl 0 rfl) ?_
  refine lv_if_lt (tgt := 9) hx hb dJP_checkIndex_1 (by decide) (fun hc => absurd hc (nI_pos (by omega))) (fun _ => ?_)
  refine lv_iload_n hx hb dJP_checkIndex_4 rfl (lv_at hl 0 rfl) ?_
  refine lv_iload_n hx hb dJP_checkIndex_5 rfl (lv_at hl 1 rfl) ?_
  refine lv_icmp_lt (tgt := 16) hx hb dJP_checkIndex_6 (by decide) (fun _ => ?_) (fun hc => absurd (nI_lt hk hn) hc)
  refine lv_iload_n hx hb dJP_checkIndex_16 rfl (lv_at hl 0 rfl) ?_
  exact fin (nI k) (()) _ _ _ _ dJP_checkIndex_17 (rfl) (rfl) hP hD hS
theorem c_JPcheck (k n : Nat) (r : Option Nat) (hk : k < n) (hn : n < 2 ^ 31) : CTi l G (tyL cI cB cC cJ) yJP_checkIndex cJP_checkIndex 3 .int rmJP_checkIndex [.int (nI k), .int (nI n), va_rf r] [] (fun x (_ : Unit) => x = nI k) (fun _ => []) := by
  cases r with
  | none => exact c_JPcheckN k n hk hn
  | some a0 => exact c_JPcheckR k n a0 hk hn
abbrev rmJS_checkIndex : Room := { frames := 1, cells := 0, slots := 0, locals := 22 }
set_option maxRecDepth 100000 in
set_option maxHeartbeats 4000000 in
theorem c_JScheck (r0 : Option Nat) (k n : Nat) (hk : k < n) (hn : n < 2 ^ 31) : CEv (fun A U H => va_Z "jdk/internal/util/Preconditions" "SIOOBE_FORMATTER" "Ljava/util/function/BiFunction;" (va_rf r0) A U H) l G (tyL cI cB cC cJ) yJS_checkIndex cJS_checkIndex 2 rmJS_checkIndex [.int (nI k), .int (nI n)] [] (fun _ : Unit => True) (fun _ => []) := by
  refine mkVE cJS_checkIndex 2 RJS (by decide) rfl (Nat.le_of_ble_eq_true rfl) ?_
  intro p e s m args below meth c A Q ls hx hb hml hts hown hnm hK hP hD hA hE hl fin
  have hS : va_S A s.heap s.heap [] := va_S.rf
  have hl : lv_has ls 2 [(0, .int (nI k)), (1, .int (nI n))] := hl
  have hP : va_P G vwCl [] s.heap := hP
  have hD : va_D A [] := hD
  have hE := hE
  refine lv_iload_n hx hb dJS_checkIndex_0 rfl (lv_at hl 0 rfl) ?_
  refine lv_iload_n hx hb dJS_checkIndex_1 rfl (lv_at hl 1 rfl) ?_
  refine va_gets (v := va_rf r0) hx hb hE hS hown (hts _ kw_1_139) (fun _ h9 => h9) dJS_checkIndex_2 ?_
  refine jnI (Wr := []) (W2 := fun y => []) (rS (n := 3) (As := [.int (nI k), .int (nI n), va_rf r0]) (rest := []) hx hb hml hown hts (c_JPcheck k n r0 hk hn _) kw_1_143 kw_1_141 kw_1_142 kw_1_9 (by decide +kernel) ⟨Nat.le_of_ble_eq_true rfl, Nat.le_of_ble_eq_true rfl⟩ hK hP hD [] rfl rfl rfl rfl hl.1 rfl (lv_room (Nat.le_of_ble_eq_true rfl)) dJS_checkIndex_5 ⟨Nat.le_of_ble_eq_true rfl, Nat.le_of_ble_eq_true rfl⟩) hP hD hS hA [] [] [] rfl rfl rfl (by decide) (fun _ => rfl) rfl (fun o y H locs hq hP hD hS => ?_)
  have hP : va_P G vwCl [] H := hP
  have hD : va_D A [] := hD
  refine lv_pop hx hb dJS_checkIndex_8 rfl ?_
  exact fin (()) _ _ _ _ dJS_checkIndex_9 (trivial) hP hD hS
abbrev rmJA_charAt : Room := { frames := 2, cells := 0, slots := 0, locals := 43 }
set_option maxRecDepth 100000 in
set_option maxHeartbeats 4000000 in
theorem c_JAchar (r0 : Option Nat) (v0 n0 : Nat) (f0 : Nat → Int32) (k x : Nat) (hk : k < n0) (hn : n0 < 2 ^ 31) (hf : f0 k = nI x) (hx9 : x < 256) : CEi (fun A U H => va_Z "jdk/internal/util/Preconditions" "SIOOBE_FORMATTER" "Ljava/util/function/BiFunction;" (va_rf r0) A U H ∧ va_T .byte v0 n0 (fun j => .int (f0 j)) A U H) l G (tyL cI cB cC cJ) yJA_charAt cJA_charAt 2 .char rmJA_charAt [.ref v0, .int (nI k)] [] (fun y (_ : Unit) => y = nI x) (fun _ => []) := by
  refine mkIE cJA_charAt 2 RJA .char (by decide) rfl (Nat.le_of_ble_eq_true rfl) ?_
  intro p e s m args below meth c A Q ls hx hb hml hts hown hnm hK hP hD hA hE hl fin
  have hS : va_S A s.heap s.heap [] := va_S.rf
  have hl : lv_has ls 2 [(0, .ref v0), (1, .int (nI k))] := hl
  have hP : va_P G vwCl [] s.heap := hP
  have hD : va_D A [] := hD
  have hE := hE
  refine lv_iload_n hx hb dJA_charAt_0 rfl (lv_at hl 1 rfl) ?_
  refine lv_aload_n hx hb dJA_charAt_1 rfl (lv_at hl 0 rfl) ?_
  refine va_tlen (v := nI n0) hx hb hE.2 hS rfl dJA_charAt_2 ?_
  refine jnV (Wr := []) (W2 := fun y => []) (rSE (n := 2) (As := [.int (nI k), .int (nI n0)]) (rest := []) (EOk_Z _ _ _ _) (hE.1) hS hA hx hb hml hown hts (c_JScheck r0 k n0 hk hn _) kw_1_138 kw_1_136 kw_1_137 kw_1_7 (by decide +kernel) ⟨Nat.le_of_ble_eq_true rfl, Nat.le_of_ble_eq_true rfl⟩ hK hP hD [] rfl rfl rfl rfl hl.1 rfl (lv_room (Nat.le_of_ble_eq_true rfl)) dJA_charAt_3 ⟨Nat.le_of_ble_eq_true rfl, Nat.le_of_ble_eq_true rfl⟩) hP hD hS hA [] [] [] rfl rfl rfl (by decide) (fun _ => rfl) rfl (fun y H locs hq hP hD hS => ?_)
  have hP : va_P G vwCl [] H := hP
  have hD : va_D A [] := hD
  refine lv_aload_n hx hb dJA_charAt_6 rfl (lv_at hl 0 rfl) ?_
  refine lv_iload_n hx hb dJA_charAt_7 rfl (lv_at hl 1 rfl) ?_
  refine va_tb (v := .int (f0 k)) hx hb hE.2 hS (vp_in_nI hk hn) (by show Value.int (f0 (nI k).toNatClampNeg) = _; rw [nI_clamp (Nat.lt_trans hk hn)]) dJA_charAt_8 ?_
  refine tp_i (y := nI x) (hf) ?_
  refine lv_sipush (v := nI 255) hx hb dJA_charAt_9 (by decide) ?_
  refine lv_iand hx hb dJA_charAt_12 ?_
  refine tp_i (y := nI x) (by rw [pk_andN (by omega) 8 (by decide), Nat.mod_eq_of_lt hx9]) ?_
  refine lv_i2c (v := nI x) hx hb dJA_charAt_13 (chr_nI (by omega)) ?_
  exact fin (nI x) (()) _ _ _ _ dJA_charAt_14 ((pk_charN (by omega)).1) (rfl) hP hD hS
abbrev rmJS_charAt : Room := { frames := 3, cells := 0, slots := 0, locals := 64 }
set_option maxRecDepth 100000 in
set_option maxHeartbeats 4000000 in
theorem c_schar (r0 : Option Nat) (q0 v0 n0 : Nat) (f0 : Nat → Int32) (k x : Nat) (hk : k < n0) (hn : n0 < 2 ^ 31) (hf : f0 k = nI x) (hx9 : x < 256) : CEi (strE r0 q0 v0 n0 f0) l G (tyL cI cB cC cJ) yJS_charAt cJS_charAt 2 .char rmJS_charAt [.ref q0, .int (nI k)] [] (fun y (_ : Unit) => y = nI x) (fun _ => []) := by
  refine mkIE cJS_charAt 2 RJS .char (by decide) rfl (Nat.le_of_ble_eq_true rfl) ?_
  intro p e s m args below meth c A Q ls hx hb hml hts hown hnm hK hP hD hA hE hl fin
  have hS : va_S A s.heap s.heap [] := va_S.rf
  have hl : lv_has ls 2 [(0, .ref q0), (1, .int (nI k))] := hl
  have hP : va_P G vwCl [] s.heap := hP
  have hD : va_D A [] := hD
  have hE : strE r0 q0 v0 n0 f0 A s s.heap := hE
  refine lv_aload_n hx hb dJS_charAt_0 rfl (lv_at hl 0 rfl) ?_
  refine jnI (Wr := []) (W2 := fun y => []) (rVE (n := 0) (As := []) (rest := []) (strE_ok _ _ _ _ _) (hE) hS hA hx hb hml hown hts (c_isLatin1 r0 q0 v0 n0 f0 _) kw_1_132 kw_1_129 kw_1_130 kw_1_131 kw_1_7 (by decide +kernel) ⟨Nat.le_of_ble_eq_true rfl, Nat.le_of_ble_eq_true rfl⟩ hK hP hD [] rfl rfl (va_Orecv hE.2.2.1 hS) rfl rfl hl.1 rfl (lv_room (Nat.le_of_ble_eq_true rfl)) dJS_charAt_1 ⟨Nat.le_of_ble_eq_true rfl, Nat.le_of_ble_eq_true rfl⟩) hP hD hS hA [] [] [] rfl rfl rfl (by decide) (fun _ => rfl) rfl (fun o y H locs hq hP hD hS => ?_)
  have hP : va_P G vwCl [] H := hP
  have hD : va_D A [] := hD
  subst hq
  refine lv_if_eq (tgt := 16) hx hb dJS_charAt_4 (by decide) (fun hc => absurd hc (by decide)) (fun _ => ?_)
  refine lv_aload_n hx hb dJS_charAt_7 rfl (lv_at hl 0 rfl) ?_
  refine vk_getf hx hb hE.2.2.2.2.1 hS hown (hts _ kw_3_98) (fun _ h9 => h9) dJS_charAt_8 ?_
  refine lv_iload_n hx hb dJS_charAt_11 rfl (lv_at hl 1 rfl) ?_
  refine jnI (Wr := []) (W2 := fun y => []) (rSE (n := 2) (As := [.ref v0, .int (nI k)]) (rest := []) ((EOk_Z _ _ _ _).and (EOk_T _ _ _ _)) (⟨hE.2.1, hE.2.2.2.2.2⟩) hS hA hx hb hml hown hts (c_JAchar r0 v0 n0 f0 k x hk hn hf hx9 _) kw_1_135 kw_1_133 kw_1_134 kw_1_8 (by decide +kernel) ⟨Nat.le_of_ble_eq_true rfl, Nat.le_of_ble_eq_true rfl⟩ hK hP hD [] rfl rfl rfl rfl hl.1 rfl (lv_room (Nat.le_of_ble_eq_true rfl)) dJS_charAt_12 ⟨Nat.le_of_ble_eq_true rfl, Nat.le_of_ble_eq_true rfl⟩) hP hD hS hA [] [] [] rfl rfl rfl (by decide) (fun _ => rfl) rfl (fun o y H locs hq hP hD hS => ?_)
  have hP : va_P G vwCl [] H := hP
  have hD : va_D A [] := hD
  subst hq
  exact fin (nI x) (()) _ _ _ _ dJS_charAt_15 ((pk_charN (by omega)).1) (rfl) hP hD hS
end STR
