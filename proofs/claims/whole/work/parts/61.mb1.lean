section MOPUTPUT
variable {l : Launch} {G : va_G} {cI cB cC cJ : ClassId}
abbrev rmM_putx : Room := { frames := 0, cells := 0, slots := 0, locals := 0 }
set_option maxRecDepth 100000 in
set_option maxHeartbeats 1500000 in
theorem c_put (m9 : Nat → Nat) (len code bits least used : Int32) (x : Nat) (f : Nat → Int32) (L : List Nat) (hL9 : L.length < 64) (hx9 : x < 128) : CTv l G (tyL cI cB cC cJ) yM_putx cM_putx 4 rmM_putx [.ref (m9 0), .int (nI x)] [mO m9 len code bits least used (nI L.length), (m9 3, .inl (cB, 4096, .inl f))] (fun g : Nat → Int32 => g = upd f L.length (nI x)) (fun g => [mO m9 len code bits least used (nI ((L ++ [x]).length)), (m9 3, .inl (cB, 4096, .inl g))]) := by
  refine mkV cM_putx 4 RM (by decide) rfl (Nat.le_of_ble_eq_true rfl) ?_
  intro p e s m args below meth c A Q ls hx hb hml hts hown hnm hK hP hD hA hl fin
  have hS : va_S A s.heap s.heap [] := va_S.rf
  have hl : lv_has ls 4 [(0, .ref (m9 0)), (1, .int (nI x))] := hl
  have hP : va_P G vwCl [(m9 0, .inr (5, [.ref (m9 1), .int len, .int code, .int bits, .int least, .ref (m9 2), .int used, .ref (m9 4), .ref (m9 6), .ref (m9 8), .ref (m9 10), .ref (m9 12), .ref (m9 3), .int (nI L.length)])), (m9 3, .inl (cB, 4096, .inl f))] s.heap := hP
  have hD : va_D A [(m9 0, .inr (5, [.ref (m9 1), .int len, .int code, .int bits, .int least, .ref (m9 2), .int used, .ref (m9 4), .ref (m9 6), .ref (m9 8), .ref (m9 10), .ref (m9 12), .ref (m9 3), .int (nI L.length)])), (m9 3, .inl (cB, 4096, .inl f))] := hD
  refine lv_aload_n hx hb dM_putx_0 rfl (lv_at hl 0 rfl) ?_
  refine va_get (D := G) (ci := 5) (v := .int (nI L.length)) (C := RM) (T := TM) (N := 14) hx hb hts inM hown hK hP 0 rfl rfl 13 (by decide) (hts _ kw_2_167) (fun _ h9 => h9) rfl dM_putx_1 ?_
  refine lv_aload_n hx hb dM_putx_4 rfl (lv_at hl 0 rfl) ?_
  refine va_get (D := G) (ci := 5) (v := .ref (m9 3)) (C := RM) (T := TM) (N := 14) hx hb hts inM hown hK hP 0 rfl rfl 12 (by decide) (hts _ kw_2_166) (fun _ h9 => h9) rfl dM_putx_5 ?_
  refine va_alen (ty := .byte) (v := nI 4096) hx hb hK hP 1 1 rfl rfl (rfl) dM_putx_8 ?_
  refine lv_icmp_ne (tgt := 51) hx hb dM_putx_9 (by decide) (fun _ => ?_) (fun hc => absurd hc (fun h => by have := (nI_eq (by omega) (by decide)).mp h; omega))
  refine lv_aload_n hx hb dM_putx_51 rfl (lv_at hl 0 rfl) ?_
  refine va_get (D := G) (ci := 5) (v := .ref (m9 3)) (C := RM) (T := TM) (N := 14) hx hb hts inM hown hK hP 0 rfl rfl 12 (by decide) (hts _ kw_2_166) (fun _ h9 => h9) rfl dM_putx_52 ?_
  refine lv_aload_n hx hb dM_putx_55 rfl (lv_at hl 0 rfl) ?_
  refine va_get (D := G) (ci := 5) (v := .int (nI L.length)) (C := RM) (T := TM) (N := 14) hx hb hts inM hown hK hP 0 rfl rfl 13 (by decide) (hts _ kw_2_167) (fun _ h9 => h9) rfl dM_putx_56 ?_
  refine lv_iload_n hx hb dM_putx_59 rfl (lv_at hl 1 rfl) ?_
  refine lv_i2b (v := nI x) hx hb dM_putx_60 (nar_byte hx9) ?_
  refine st_b (x' := (nI x)) hx hb hK hP hD hS 1 1 rfl rfl L.length (rfl) (by omega) (by decide) (narb hx9) dM_putx_61 (fun H locs hP hD hS => ?_)
  have hP : va_P G vwCl [(m9 0, .inr (5, [.ref (m9 1), .int len, .int code, .int bits, .int least, .ref (m9 2), .int used, .ref (m9 4), .ref (m9 6), .ref (m9 8), .ref (m9 10), .ref (m9 12), .ref (m9 3), .int (nI L.length)])), (m9 3, .inl (cB, 4096, .inl (upd f L.length (nI x))))] H := hP
  have hD : va_D A [(m9 0, .inr (5, [.ref (m9 1), .int len, .int code, .int bits, .int least, .ref (m9 2), .int used, .ref (m9 4), .ref (m9 6), .ref (m9 8), .ref (m9 10), .ref (m9 12), .ref (m9 3), .int (nI L.length)])), (m9 3, .inl (cB, 4096, .inl (upd f L.length (nI x))))] := hD
  refine lv_aload_n hx hb dM_putx_62 rfl (lv_at hl 0 rfl) ?_
  refine lv_dup hx hb dM_putx_63 rfl ?_
  refine va_get (D := G) (ci := 5) (v := .int (nI L.length)) (C := RM) (T := TM) (N := 14) hx hb hts inM hown hK hP 0 rfl rfl 13 (by decide) (hts _ kw_2_167) (fun _ h9 => h9) rfl dM_putx_64 ?_
  refine lv_iconst (v := nI 1) hx hb dM_putx_67 (by decide) ?_
  refine lv_iadd hx hb dM_putx_68 ?_
  refine tp_i (y := nI (L ++ [x]).length) (by rw [len1]; exact nI_add _ 1) ?_
  refine va_put (D := G) (ci := 5) (v := .int (nI (L ++ [x]).length)) (C := RM) (T := TM) (N := 14) hx hb hts inM tyM tyM_ok nmM hown hK hP hD hS 0 rfl rfl 13 (by decide) (hts _ kw_2_167) (fun _ h9 => h9) rfl (tyM_ok 13 (by decide)) (rfl) (rfl) (Nat.le_of_ble_eq_true rfl) dM_putx_69 (fun H locs hP hD hS => ?_)
  have hP : va_P G vwCl [(m9 0, .inr (5, [.ref (m9 1), .int len, .int code, .int bits, .int least, .ref (m9 2), .int used, .ref (m9 4), .ref (m9 6), .ref (m9 8), .ref (m9 10), .ref (m9 12), .ref (m9 3), .int (nI (L ++ [x]).length)])), (m9 3, .inl (cB, 4096, .inl (upd f L.length (nI x))))] H := hP
  have hD : va_D A [(m9 0, .inr (5, [.ref (m9 1), .int len, .int code, .int bits, .int least, .ref (m9 2), .int used, .ref (m9 4), .ref (m9 6), .ref (m9 8), .ref (m9 10), .ref (m9 12), .ref (m9 3), .int (nI (L ++ [x]).length)])), (m9 3, .inl (cB, 4096, .inl (upd f L.length (nI x))))] := hD
  exact fin (upd f L.length (nI x)) _ _ _ _ dM_putx_72 (rfl) hP hD hS
abbrev rmM_put : Room := { frames := 4, cells := 0, slots := 0, locals := 85 }
set_option maxRecDepth 100000 in
set_option maxHeartbeats 1500000 in
theorem c_puts (r0 : Option Nat) (q0 v0 n0 : Nat) (f0 : Nat → Int32) (m9 : Nat → Nat) (len code bits least used : Int32) (f : Nat → Int32) (L : List Nat) (g : Nat → Nat) (hT : Bx f L) (hg : ∀ j, j < n0 → f0 j = nI (g j) ∧ g j < 128) (hn : L.length + n0 ≤ 64) : CEv (strE r0 q0 v0 n0 f0) l G (tyL cI cB cC cJ) yM_put cM_put 3 rmM_put [.ref (m9 0), .ref q0] [mO m9 len code bits least used (nI L.length), (m9 3, .inl (cB, 4096, .inl f))] (fun f2 : Nat → Int32 => Bx f2 (L ++ pre g n0)) (fun f2 => [mO m9 len code bits least used (nI ((L ++ pre g n0).length)), (m9 3, .inl (cB, 4096, .inl f2))]) := by
  refine mkVE cM_put 3 RM (by decide) rfl (Nat.le_of_ble_eq_true rfl) ?_
  intro p e s m args below meth c A Q ls hx hb hml hts hown hnm hK hP hD hA hE hl fin
  have hS : va_S A s.heap s.heap [] := va_S.rf
  have hl : lv_has ls 3 [(0, .ref (m9 0)), (1, .ref q0)] := hl
  have hP : va_P G vwCl [(m9 0, .inr (5, [.ref (m9 1), .int len, .int code, .int bits, .int least, .ref (m9 2), .int used, .ref (m9 4), .ref (m9 6), .ref (m9 8), .ref (m9 10), .ref (m9 12), .ref (m9 3), .int (nI L.length)])), (m9 3, .inl (cB, 4096, .inl f))] s.heap := hP
  have hD : va_D A [(m9 0, .inr (5, [.ref (m9 1), .int len, .int code, .int bits, .int least, .ref (m9 2), .int used, .ref (m9 4), .ref (m9 6), .ref (m9 8), .ref (m9 10), .ref (m9 12), .ref (m9 3), .int (nI L.length)])), (m9 3, .inl (cB, 4096, .inl f))] := hD
  have hE : strE r0 q0 v0 n0 f0 A s s.heap := hE
  refine lv_iconst (v := nI 0) hx hb dM_put_0 (by decide) ?_
  refine lv_istore_n hx hb dM_put_1 rfl hl (by decide) rfl (fun ls hl => ?_)
  have hl : lv_has ls 3 [(2, .int (nI 0)), (0, .ref (m9 0)), (1, .ref q0)] := hl
  have hP : va_P G vwCl [(m9 0, .inr (5, [.ref (m9 1), .int len, .int code, .int bits, .int least, .ref (m9 2), .int used, .ref (m9 4), .ref (m9 6), .ref (m9 8), .ref (m9 10), .ref (m9 12), .ref (m9 3), .int (nI ((L ++ []).length))])), (m9 3, .inl (cB, 4096, .inl f))] s.heap := by rw [List.append_nil]; exact hP
  have hD : va_D A [(m9 0, .inr (5, [.ref (m9 1), .int len, .int code, .int bits, .int least, .ref (m9 2), .int used, .ref (m9 4), .ref (m9 6), .ref (m9 8), .ref (m9 10), .ref (m9 12), .ref (m9 3), .int (nI ((L ++ []).length))])), (m9 3, .inl (cB, 4096, .inl f))] := by rw [List.append_nil]; exact hD
  have lp : ∀ (fu : Nat) (i : Nat) (f1 : Nat → Int32) (H : Heap) (locs : List Loc) (ls : Array Slot), n0 - i < fu → i ≤ n0 → Bx f1 (L ++ pre g i) → va_P G vwCl [(m9 0, .inr (5, [.ref (m9 1), .int len, .int code, .int bits, .int least, .ref (m9 2), .int used, .ref (m9 4), .ref (m9 6), .ref (m9 8), .ref (m9 10), .ref (m9 12), .ref (m9 3), .int (nI ((L ++ pre g i).length))])), (m9 3, .inl (cB, 4096, .inl f1))] H → va_D A [(m9 0, .inr (5, [.ref (m9 1), .int len, .int code, .int bits, .int least, .ref (m9 2), .int used, .ref (m9 4), .ref (m9 6), .ref (m9 8), .ref (m9 10), .ref (m9 12), .ref (m9 3), .int (nI ((L ++ pre g i).length))])), (m9 3, .inl (cB, 4096, .inl f1))] → va_S A s.heap H locs → lv_has ls 3 [(2, .int (nI i)), (0, .ref (m9 0)), (1, .ref q0)] → W p l e rmM_put s m args below meth c H locs 0 0 Q (F0 m 2 ls []) := by
    intro fu
    induction fu with
    | zero => intro i f1 H locs ls hfu; exact absurd hfu (Nat.not_lt_zero _)
    | succ fu ih =>
      intro i f1 H locs ls hfu hi hT1 hP hD hS hl
      refine lv_iload_n hx hb dM_put_2 rfl (lv_at hl 0 rfl) ?_
      refine lv_aload_n hx hb dM_put_3 rfl (lv_at hl 2 rfl) ?_
      refine jnI (Wr := [(m9 0, .inr (5, [.ref (m9 1), .int len, .int code, .int bits, .int least, .ref (m9 2), .int used, .ref (m9 4), .ref (m9 6), .ref (m9 8), .ref (m9 10), .ref (m9 12), .ref (m9 3), .int (nI ((L ++ pre g i).length))])), (m9 3, .inl (cB, 4096, .inl f1))]) (W2 := fun y => [(m9 0, .inr (5, [.ref (m9 1), .int len, .int code, .int bits, .int least, .ref (m9 2), .int used, .ref (m9 4), .ref (m9 6), .ref (m9 8), .ref (m9 10), .ref (m9 12), .ref (m9 3), .int (nI ((L ++ pre g i).length))])), (m9 3, .inl (cB, 4096, .inl f1))]) (rVE (n := 0) (As := []) (rest := [.int (nI i)]) (strE_ok _ _ _ _ _) (hE) hS hA hx hb hml hown hts (c_slen r0 q0 v0 n0 f0 (by omega) _) kw_1_118 kw_3_5 kw_1_116 kw_1_117 kw_1_7 (by decide +kernel) ⟨Nat.le_of_ble_eq_true rfl, Nat.le_of_ble_eq_true rfl⟩ hK hP hD [] rfl rfl (va_Orecv hE.2.2.1 hS) rfl rfl hl.1 rfl (lv_room (Nat.le_of_ble_eq_true rfl)) dM_put_4 ⟨Nat.le_of_ble_eq_true rfl, Nat.le_of_ble_eq_true rfl⟩) hP hD hS hA [] [0, 1] [0, 1] rfl rfl rfl (by decide) (fun _ => rfl) rfl (fun o y H locs hq hP hD hS => ?_)
      have hP : va_P G vwCl [(m9 0, .inr (5, [.ref (m9 1), .int len, .int code, .int bits, .int least, .ref (m9 2), .int used, .ref (m9 4), .ref (m9 6), .ref (m9 8), .ref (m9 10), .ref (m9 12), .ref (m9 3), .int (nI ((L ++ pre g i).length))])), (m9 3, .inl (cB, 4096, .inl f1))] H := hP
      have hD : va_D A [(m9 0, .inr (5, [.ref (m9 1), .int len, .int code, .int bits, .int least, .ref (m9 2), .int used, .ref (m9 4), .ref (m9 6), .ref (m9 8), .ref (m9 10), .ref (m9 12), .ref (m9 3), .int (nI ((L ++ pre g i).length))])), (m9 3, .inl (cB, 4096, .inl f1))] := hD
      subst hq
      refine lv_icmp_ge (tgt := 25) hx hb dM_put_7 (by decide) (fun hc => ?_) (fun hc => ?_)
      · have h3 : n0 ≤ i := (nI_leI (by omega) (by omega)).mp hc
        have h4 : i = n0 := by omega
        subst h4
        exact fin (f1) _ _ _ _ dM_put_25 (hT1) hP hD hS
      · have h3 : i < n0 := by
          rcases Nat.lt_or_ge i n0 with h | h
          · exact h
          · exact absurd (nI_le h (by omega)) hc
        obtain ⟨e1, e2⟩ := hg i h3
        have hlen : (L ++ pre g i).length < 64 := by rw [List.length_append, pre_len]; omega
        refine lv_aload_n hx hb dM_put_10 rfl (lv_at hl 1 rfl) ?_
        refine lv_aload_n hx hb dM_put_11 rfl (lv_at hl 2 rfl) ?_
        refine lv_iload_n hx hb dM_put_12 rfl (lv_at hl 0 rfl) ?_
        refine jnI (Wr := [(m9 0, .inr (5, [.ref (m9 1), .int len, .int code, .int bits, .int least, .ref (m9 2), .int used, .ref (m9 4), .ref (m9 6), .ref (m9 8), .ref (m9 10), .ref (m9 12), .ref (m9 3), .int (nI ((L ++ pre g i).length))])), (m9 3, .inl (cB, 4096, .inl f1))]) (W2 := fun y => [(m9 0, .inr (5, [.ref (m9 1), .int len, .int code, .int bits, .int least, .ref (m9 2), .int used, .ref (m9 4), .ref (m9 6), .ref (m9 8), .ref (m9 10), .ref (m9 12), .ref (m9 3), .int (nI ((L ++ pre g i).length))])), (m9 3, .inl (cB, 4096, .inl f1))]) (rVE (n := 1) (As := [.int (nI i)]) (rest := [.ref (m9 0)]) (strE_ok _ _ _ _ _) (hE) hS hA hx hb hml hown hts (c_schar r0 q0 v0 n0 f0 i (g i) h3 (by omega) e1 (by omega) _) kw_1_128 kw_3_6 kw_1_126 kw_1_127 kw_1_7 (by decide +kernel) ⟨Nat.le_of_ble_eq_true rfl, Nat.le_of_ble_eq_true rfl⟩ hK hP hD [] rfl rfl (va_Orecv hE.2.2.1 hS) rfl rfl hl.1 rfl (lv_room (Nat.le_of_ble_eq_true rfl)) dM_put_13 ⟨Nat.le_of_ble_eq_true rfl, Nat.le_of_ble_eq_true rfl⟩) hP hD hS hA [] [0, 1] [0, 1] rfl rfl rfl (by decide) (fun _ => rfl) rfl (fun o y H locs hq hP hD hS => ?_)
        have hP : va_P G vwCl [(m9 0, .inr (5, [.ref (m9 1), .int len, .int code, .int bits, .int least, .ref (m9 2), .int used, .ref (m9 4), .ref (m9 6), .ref (m9 8), .ref (m9 10), .ref (m9 12), .ref (m9 3), .int (nI ((L ++ pre g i).length))])), (m9 3, .inl (cB, 4096, .inl f1))] H := hP
        have hD : va_D A [(m9 0, .inr (5, [.ref (m9 1), .int len, .int code, .int bits, .int least, .ref (m9 2), .int used, .ref (m9 4), .ref (m9 6), .ref (m9 8), .ref (m9 10), .ref (m9 12), .ref (m9 3), .int (nI ((L ++ pre g i).length))])), (m9 3, .inl (cB, 4096, .inl f1))] := hD
        subst hq
        refine jnV (Wr := []) (W2 := fun f2 => [(m9 0, .inr (5, [.ref (m9 1), .int len, .int code, .int bits, .int least, .ref (m9 2), .int used, .ref (m9 4), .ref (m9 6), .ref (m9 8), .ref (m9 10), .ref (m9 12), .ref (m9 3), .int (nI ((L ++ pre g i ++ [g i]).length))])), (m9 3, .inl (cB, 4096, .inl f2))]) (rV (n := 1) (As := [.int (nI (g i))]) (rest := []) hx hb hml hown hts (c_put m9 len code bits least used (g i) f1 (L ++ pre g i) hlen e2 _) kw_3_10 kw_3_7 kw_3_9 kw_0_20 kw_1_5 (by decide +kernel) ⟨Nat.le_of_ble_eq_true rfl, Nat.le_of_ble_eq_true rfl⟩ hK hP hD [0, 1] rfl rfl 0 rfl rfl rfl rfl hl.1 rfl (lv_room (Nat.le_of_ble_eq_true rfl)) dM_put_16 ⟨Nat.le_of_ble_eq_true rfl, Nat.le_of_ble_eq_true rfl⟩) hP hD hS hA [0, 1] [] [0, 1] rfl rfl rfl (by decide) (fun _ => rfl) rfl (fun f2 H locs hq hP hD hS => ?_)
        have hP : va_P G vwCl [(m9 0, .inr (5, [.ref (m9 1), .int len, .int code, .int bits, .int least, .ref (m9 2), .int used, .ref (m9 4), .ref (m9 6), .ref (m9 8), .ref (m9 10), .ref (m9 12), .ref (m9 3), .int (nI ((L ++ pre g i ++ [g i]).length))])), (m9 3, .inl (cB, 4096, .inl f2))] H := hP
        have hD : va_D A [(m9 0, .inr (5, [.ref (m9 1), .int len, .int code, .int bits, .int least, .ref (m9 2), .int used, .ref (m9 4), .ref (m9 6), .ref (m9 8), .ref (m9 10), .ref (m9 12), .ref (m9 3), .int (nI ((L ++ pre g i ++ [g i]).length))])), (m9 3, .inl (cB, 4096, .inl f2))] := hD
        subst hq
        have hT2 := Bx_add hT1 hlen e2
        have e9 : L ++ pre g i ++ [g i] = L ++ pre g (i + 1) := List.append_assoc _ _ _
        rw [e9] at hP hD hT2
        have hP : va_P G vwCl [(m9 0, .inr (5, [.ref (m9 1), .int len, .int code, .int bits, .int least, .ref (m9 2), .int used, .ref (m9 4), .ref (m9 6), .ref (m9 8), .ref (m9 10), .ref (m9 12), .ref (m9 3), .int (nI ((L ++ pre g (i + 1)).length))])), (m9 3, .inl (cB, 4096, .inl (upd f1 (L ++ pre g i).length (nI (g i)))))] H := hP
        have hD : va_D A [(m9 0, .inr (5, [.ref (m9 1), .int len, .int code, .int bits, .int least, .ref (m9 2), .int used, .ref (m9 4), .ref (m9 6), .ref (m9 8), .ref (m9 10), .ref (m9 12), .ref (m9 3), .int (nI ((L ++ pre g (i + 1)).length))])), (m9 3, .inl (cB, 4096, .inl (upd f1 (L ++ pre g i).length (nI (g i)))))] := hD
        refine lv_iinc (k := 0) (v := nI (i + 1)) hx hb dM_put_19 hl rfl (nI_1 i) (by decide) rfl (fun ls hl => ?_)
        have hl : lv_has ls 3 [(2, .int (nI (i + 1))), (0, .ref (m9 0)), (1, .ref q0)] := hl
        refine lv_goto (tgt := 2) hx hb dM_put_22 (by decide) ?_
        have hl : lv_has ls 3 [(2, .int (nI (i + 1))), (0, .ref (m9 0)), (1, .ref q0)] := lv_sub hl [0, 1, 2] rfl
        exact ih (i + 1) (upd f1 (L ++ pre g i).length (nI (g i))) _ _ _ (by omega) (by omega) (hT2) hP hD hS hl
  exact lp (_ + 1) 0 f _ _ _ (Nat.lt_succ_self _) (Nat.zero_le _) (by rw [show pre g 0 = [] from rfl, List.append_nil]; exact hT) hP hD hS hl
abbrev rmM_give : Room := { frames := 0, cells := 0, slots := 0, locals := 0 }
set_option maxRecDepth 100000 in
set_option maxHeartbeats 1500000 in
theorem c_give (m9 : Nat → Nat) (len code bits least used : Int32) (f fr : Nat → Int32) (L : List Nat) (hB : Bx f L) : CTi l G (tyL cI cB cC cJ) yM_give cM_give 2 .int rmM_give [.ref (m9 0)] [mO m9 len code bits least used (nI L.length), (m9 1, .inl (cB, 64, .inl fr)), (m9 3, .inl (cB, 4096, .inl f))] (fun r (fr2 : Nat → Int32) => r = nI L.length ∧ Bx fr2 L) (fun fr2 => [mO m9 (nI L.length) code bits least used (nI L.length), (m9 1, .inl (cB, 64, .inl fr2)), (m9 3, .inl (cB, 4096, .inl f))]) := by
  have hl9 := hB.1
  refine mkI cM_give 2 RM .int (by decide) rfl (Nat.le_of_ble_eq_true rfl) ?_
  intro p e s m args below meth c A Q ls hx hb hml hts hown hnm hK hP hD hA hl fin
  have hS : va_S A s.heap s.heap [] := va_S.rf
  have hl : lv_has ls 2 [(0, .ref (m9 0))] := hl
  have hP : va_P G vwCl [(m9 0, .inr (5, [.ref (m9 1), .int len, .int code, .int bits, .int least, .ref (m9 2), .int used, .ref (m9 4), .ref (m9 6), .ref (m9 8), .ref (m9 10), .ref (m9 12), .ref (m9 3), .int (nI L.length)])), (m9 1, .inl (cB, 64, .inl fr)), (m9 3, .inl (cB, 4096, .inl f))] s.heap := hP
  have hD : va_D A [(m9 0, .inr (5, [.ref (m9 1), .int len, .int code, .int bits, .int least, .ref (m9 2), .int used, .ref (m9 4), .ref (m9 6), .ref (m9 8), .ref (m9 10), .ref (m9 12), .ref (m9 3), .int (nI L.length)])), (m9 1, .inl (cB, 64, .inl fr)), (m9 3, .inl (cB, 4096, .inl f))] := hD
  refine lv_aload_n hx hb dM_give_0 rfl (lv_at hl 0 rfl) ?_
  refine lv_aload_n hx hb dM_give_1 rfl (lv_at hl 0 rfl) ?_
  refine va_get (D := G) (ci := 5) (v := .int (nI L.length)) (C := RM) (T := TM) (N := 14) hx hb hts inM hown hK hP 0 rfl rfl 13 (by decide) (hts _ kw_2_167) (fun _ h9 => h9) rfl dM_give_2 ?_
  refine va_put (D := G) (ci := 5) (v := .int (nI L.length)) (C := RM) (T := TM) (N := 14) hx hb hts inM tyM tyM_ok nmM hown hK hP hD hS 0 rfl rfl 1 (by decide) (hts _ kw_2_155) (fun _ h9 => h9) rfl (tyM_ok 1 (by decide)) (rfl) (rfl) (Nat.le_of_ble_eq_true rfl) dM_give_5 (fun H locs hP hD hS => ?_)
  have hP : va_P G vwCl [(m9 0, .inr (5, [.ref (m9 1), .int (nI L.length), .int code, .int bits, .int least, .ref (m9 2), .int used, .ref (m9 4), .ref (m9 6), .ref (m9 8), .ref (m9 10), .ref (m9 12), .ref (m9 3), .int (nI L.length)])), (m9 1, .inl (cB, 64, .inl fr)), (m9 3, .inl (cB, 4096, .inl f))] H := hP
  have hD : va_D A [(m9 0, .inr (5, [.ref (m9 1), .int (nI L.length), .int code, .int bits, .int least, .ref (m9 2), .int used, .ref (m9 4), .ref (m9 6), .ref (m9 8), .ref (m9 10), .ref (m9 12), .ref (m9 3), .int (nI L.length)])), (m9 1, .inl (cB, 64, .inl fr)), (m9 3, .inl (cB, 4096, .inl f))] := hD
  refine lv_iconst (v := nI 0) hx hb dM_give_8 (by decide) ?_
  refine lv_istore_n hx hb dM_give_9 rfl hl (by decide) rfl (fun ls hl => ?_)
  have hl : lv_has ls 2 [(1, .int (nI 0)), (0, .ref (m9 0))] := hl
  have lp : ∀ (fu : Nat) (i : Nat) (f2 : Nat → Int32) (H : Heap) (locs : List Loc) (ls : Array Slot), L.length - i < fu → i ≤ L.length → (∀ j, j < i → f2 j = f j) → va_P G vwCl [(m9 0, .inr (5, [.ref (m9 1), .int (nI L.length), .int code, .int bits, .int least, .ref (m9 2), .int used, .ref (m9 4), .ref (m9 6), .ref (m9 8), .ref (m9 10), .ref (m9 12), .ref (m9 3), .int (nI L.length)])), (m9 1, .inl (cB, 64, .inl f2)), (m9 3, .inl (cB, 4096, .inl f))] H → va_D A [(m9 0, .inr (5, [.ref (m9 1), .int (nI L.length), .int code, .int bits, .int least, .ref (m9 2), .int used, .ref (m9 4), .ref (m9 6), .ref (m9 8), .ref (m9 10), .ref (m9 12), .ref (m9 3), .int (nI L.length)])), (m9 1, .inl (cB, 64, .inl f2)), (m9 3, .inl (cB, 4096, .inl f))] → va_S A s.heap H locs → lv_has ls 2 [(1, .int (nI i)), (0, .ref (m9 0))] → W p l e rmM_give s m args below meth c H locs 0 0 Q (F0 m 10 ls []) := by
    intro fu
    induction fu with
    | zero => intro i f2 H locs ls hfu; exact absurd hfu (Nat.not_lt_zero _)
    | succ fu ih =>
      intro i f2 H locs ls hfu hi h2 hP hD hS hl
      refine lv_iload_n hx hb dM_give_10 rfl (lv_at hl 0 rfl) ?_
      refine lv_aload_n hx hb dM_give_11 rfl (lv_at hl 1 rfl) ?_
      refine va_get (D := G) (ci := 5) (v := .int (nI L.length)) (C := RM) (T := TM) (N := 14) hx hb hts inM hown hK hP 0 rfl rfl 13 (by decide) (hts _ kw_2_167) (fun _ h9 => h9) rfl dM_give_12 ?_
      refine lv_icmp_ge (tgt := 36) hx hb dM_give_15 (by decide) (fun hc => ?_) (fun hc => ?_)
      · have h3 : L.length ≤ i := (nI_leI (by omega) (by omega)).mp hc
        refine lv_aload_n hx hb dM_give_36 rfl (lv_at hl 1 rfl) ?_
        refine va_get (D := G) (ci := 5) (v := .int (nI L.length)) (C := RM) (T := TM) (N := 14) hx hb hts inM hown hK hP 0 rfl rfl 1 (by decide) (hts _ kw_2_155) (fun _ h9 => h9) rfl dM_give_37 ?_
        exact fin (nI L.length) (f2) _ _ _ _ dM_give_40 (rfl) (⟨rfl, Bx_copy hB (fun j hj => h2 j (by omega))⟩) hP hD hS
      · have h3 : i < L.length := by
          rcases Nat.lt_or_ge i L.length with h | h
          · exact h
          · exact absurd (nI_le h (by omega)) hc
        refine lv_aload_n hx hb dM_give_18 rfl (lv_at hl 1 rfl) ?_
        refine va_get (D := G) (ci := 5) (v := .ref (m9 1)) (C := RM) (T := TM) (N := 14) hx hb hts inM hown hK hP 0 rfl rfl 0 (by decide) (hts _ kw_2_154) (fun _ h9 => h9) rfl dM_give_19 ?_
        refine lv_iload_n hx hb dM_give_22 rfl (lv_at hl 0 rfl) ?_
        refine lv_aload_n hx hb dM_give_23 rfl (lv_at hl 1 rfl) ?_
        refine va_get (D := G) (ci := 5) (v := .ref (m9 3)) (C := RM) (T := TM) (N := 14) hx hb hts inM hown hK hP 0 rfl rfl 12 (by decide) (hts _ kw_2_166) (fun _ h9 => h9) rfl dM_give_24 ?_
        refine lv_iload_n hx hb dM_give_27 rfl (lv_at hl 0 rfl) ?_
        refine ld_b hx hb hK hP 2 1 rfl rfl i (rfl) (by omega) (by decide) dM_give_28 ?_
        refine st_b (x' := (f i)) hx hb hK hP hD hS 1 1 rfl rfl i (rfl) (by omega) (by decide) (nar2 hB h3) dM_give_29 (fun H locs hP hD hS => ?_)
        have hP : va_P G vwCl [(m9 0, .inr (5, [.ref (m9 1), .int (nI L.length), .int code, .int bits, .int least, .ref (m9 2), .int used, .ref (m9 4), .ref (m9 6), .ref (m9 8), .ref (m9 10), .ref (m9 12), .ref (m9 3), .int (nI L.length)])), (m9 1, .inl (cB, 64, .inl (upd f2 i (f i)))), (m9 3, .inl (cB, 4096, .inl f))] H := hP
        have hD : va_D A [(m9 0, .inr (5, [.ref (m9 1), .int (nI L.length), .int code, .int bits, .int least, .ref (m9 2), .int used, .ref (m9 4), .ref (m9 6), .ref (m9 8), .ref (m9 10), .ref (m9 12), .ref (m9 3), .int (nI L.length)])), (m9 1, .inl (cB, 64, .inl (upd f2 i (f i)))), (m9 3, .inl (cB, 4096, .inl f))] := hD
        refine lv_iinc (k := 0) (v := nI (i + 1)) hx hb dM_give_30 hl rfl (nI_1 i) (by decide) rfl (fun ls hl => ?_)
        have hl : lv_has ls 2 [(1, .int (nI (i + 1))), (0, .ref (m9 0))] := hl
        refine lv_goto (tgt := 10) hx hb dM_give_33 (by decide) ?_
        have hl : lv_has ls 2 [(1, .int (nI (i + 1))), (0, .ref (m9 0))] := lv_sub hl [0, 1] rfl
        exact ih (i + 1) (upd f2 i (f i)) _ _ _ (by omega) (by omega) (fun j hj => by
            by_cases he : j = i
            · subst he; rw [pk_us]
            · rw [pk_un he]; exact h2 j (by omega)) hP hD hS hl
  exact lp (_ + 1) 0 fr _ _ _ (Nat.lt_succ_self _) (Nat.zero_le _) (fun j hj => absurd hj (Nat.not_lt_zero j)) hP hD hS hl
abbrev rmM_word : Room := { frames := 1, cells := 0, slots := 0, locals := 22 }
set_option maxRecDepth 100000 in
set_option maxHeartbeats 1500000 in
theorem c_mword (m9 : Nat → Nat) (code bits least used held : Int32) (fr : Nat → Int32) (L : List Nat) (z : Int) (hB : Bx fr L) (hz1 : -2 ^ 31 ≤ z) (hz2 : z < 2 ^ 31) : CTl l G (tyL cI cB cC cJ) yM_word cM_word 5 rmM_word [.ref (m9 0), .int (iI z)] [mO m9 (nI L.length) code bits least used held, (m9 1, .inl (cB, 64, .inl fr))] (fun r (_ : Unit) => (0 ≤ z ∧ z < L.length → r = lN (word8 L z.toNat 8))) (fun _ => [mO m9 (nI L.length) (if decide (0 ≤ z ∧ z < L.length) then nI 0 else nI 1) bits least used held, (m9 1, .inl (cB, 64, .inl fr))]) := by
  have hl9 := hB.1
  obtain ⟨yes, hyes⟩ : ∃ yes, yes = decide (0 ≤ z ∧ z < (L.length : Int)) := ⟨_, rfl⟩
  refine mkL cM_word 5 RM (by decide) rfl (Nat.le_of_ble_eq_true rfl) ?_
  intro p e s m args below meth c A Q ls hx hb hml hts hown hnm hK hP hD hA hl fin
  have hS : va_S A s.heap s.heap [] := va_S.rf
  have hl : lv_has ls 5 [(0, .ref (m9 0)), (1, .int (iI z))] := hl
  have hP : va_P G vwCl [(m9 0, .inr (5, [.ref (m9 1), .int (nI L.length), .int code, .int bits, .int least, .ref (m9 2), .int used, .ref (m9 4), .ref (m9 6), .ref (m9 8), .ref (m9 10), .ref (m9 12), .ref (m9 3), .int held])), (m9 1, .inl (cB, 64, .inl fr))] s.heap := hP
  have hD : va_D A [(m9 0, .inr (5, [.ref (m9 1), .int (nI L.length), .int code, .int bits, .int least, .ref (m9 2), .int used, .ref (m9 4), .ref (m9 6), .ref (m9 8), .ref (m9 10), .ref (m9 12), .ref (m9 3), .int held])), (m9 1, .inl (cB, 64, .inl fr))] := hD
  rw [← hyes] at fin
  have j18 : ∀  (H : Heap) (locs : List Loc) (ls : Array Slot), va_P G vwCl [(m9 0, .inr (5, [.ref (m9 1), .int (nI L.length), .int code, .int bits, .int least, .ref (m9 2), .int used, .ref (m9 4), .ref (m9 6), .ref (m9 8), .ref (m9 10), .ref (m9 12), .ref (m9 3), .int held])), (m9 1, .inl (cB, 64, .inl fr))] H → va_D A [(m9 0, .inr (5, [.ref (m9 1), .int (nI L.length), .int code, .int bits, .int least, .ref (m9 2), .int used, .ref (m9 4), .ref (m9 6), .ref (m9 8), .ref (m9 10), .ref (m9 12), .ref (m9 3), .int held])), (m9 1, .inl (cB, 64, .inl fr))] → va_S A s.heap H locs → lv_has ls 5 [(0, .ref (m9 0)), (1, .int (iI z))] → W p l e rmM_word s m args below meth c H locs 0 0 Q (F0 m 18 ls [.int (bI yes), .ref (m9 0)]) := by
    intro  H locs ls  hP hD hS hl
    refine lv_iconst (v := nI 1) hx hb dM_word_18 (by decide) ?_
    refine jnI (Wr := [(m9 1, .inl (cB, 64, .inl fr))]) (W2 := fun y => [(m9 0, .inr (5, [.ref (m9 1), .int (nI L.length), .int (if yes then nI 0 else nI 1), .int bits, .int least, .ref (m9 2), .int used, .ref (m9 4), .ref (m9 6), .ref (m9 8), .ref (m9 10), .ref (m9 12), .ref (m9 3), .int held])), (m9 1, .inl (cB, 64, .inl fr))]) (rV (n := 2) (As := [.int (bI yes), .int (nI 1)]) (rest := []) hx hb hml hown hts (c_good m9 (nI L.length) code bits least used held yes _) kw_2_208 kw_2_205 kw_2_207 kw_0_13 kw_1_5 (by decide +kernel) ⟨Nat.le_of_ble_eq_true rfl, Nat.le_of_ble_eq_true rfl⟩ hK hP hD [0] rfl rfl 0 rfl rfl rfl rfl hl.1 rfl (lv_room (Nat.le_of_ble_eq_true rfl)) dM_word_19 ⟨Nat.le_of_ble_eq_true rfl, Nat.le_of_ble_eq_true rfl⟩) hP hD hS hA [0] [1] [1, 0] rfl rfl rfl (by decide) (fun _ => rfl) rfl (fun o y H locs hq hP hD hS => ?_)
    have hP : va_P G vwCl [(m9 0, .inr (5, [.ref (m9 1), .int (nI L.length), .int (if yes then nI 0 else nI 1), .int bits, .int least, .ref (m9 2), .int used, .ref (m9 4), .ref (m9 6), .ref (m9 8), .ref (m9 10), .ref (m9 12), .ref (m9 3), .int held])), (m9 1, .inl (cB, 64, .inl fr))] H := hP
    have hD : va_D A [(m9 0, .inr (5, [.ref (m9 1), .int (nI L.length), .int (if yes then nI 0 else nI 1), .int bits, .int least, .ref (m9 2), .int used, .ref (m9 4), .ref (m9 6), .ref (m9 8), .ref (m9 10), .ref (m9 12), .ref (m9 3), .int held])), (m9 1, .inl (cB, 64, .inl fr))] := hD
    subst hq
    refine lv_if_ne (tgt := 27) hx hb dM_word_22 (by decide) (fun ha => ?_) (fun ha => ?_)
    · have hy := of_decide_eq_true (hyes ▸ bI_ne ha)
      obtain ⟨i9, rfl⟩ : ∃ i9 : Nat, z = i9 := ⟨z.toNat, by omega⟩
      have hi9 : i9 < L.length := by omega
      refine lv_lconst (v := lN 0) hx hb dM_word_27 (by decide) ?_
      refine lv_lstore_n hx hb dM_word_28 rfl hl (by decide) rfl (fun ls hl => ?_)
      have hl : lv_has ls 5 [(2, .long (lN 0)), (0, .ref (m9 0)), (1, .int (iI (i9 : Int)))] := hl
      refine lv_iload_n hx hb dM_word_29 rfl (lv_at hl 2 rfl) ?_
      refine tp_i (y := nI (i9 + 0)) (iI_nat i9) ?_
      refine lv_istore hx hb dM_word_30 hl (by decide) rfl (fun ls hl => ?_)
      have hl : lv_has ls 5 [(4, .int (nI (i9 + 0))), (2, .long (lN 0)), (0, .ref (m9 0)), (1, .int (iI (i9 : Int)))] := hl
      have lp : ∀ (fu : Nat) (j : Nat) (H : Heap) (locs : List Loc) (ls : Array Slot), 8 - j < fu → j ≤ 8 → va_P G vwCl [(m9 0, .inr (5, [.ref (m9 1), .int (nI L.length), .int (if yes then nI 0 else nI 1), .int bits, .int least, .ref (m9 2), .int used, .ref (m9 4), .ref (m9 6), .ref (m9 8), .ref (m9 10), .ref (m9 12), .ref (m9 3), .int held])), (m9 1, .inl (cB, 64, .inl fr))] H → va_D A [(m9 0, .inr (5, [.ref (m9 1), .int (nI L.length), .int (if yes then nI 0 else nI 1), .int bits, .int least, .ref (m9 2), .int used, .ref (m9 4), .ref (m9 6), .ref (m9 8), .ref (m9 10), .ref (m9 12), .ref (m9 3), .int held])), (m9 1, .inl (cB, 64, .inl fr))] → va_S A s.heap H locs → lv_has ls 5 [(4, .int (nI (i9 + j))), (2, .long (lN (word8 L i9 j))), (0, .ref (m9 0)), (1, .int (iI (i9 : Int)))] → W p l e rmM_word s m args below meth c H locs 0 0 Q (F0 m 32 ls []) := by
        intro fu
        induction fu with
        | zero => intro j H locs ls hfu; exact absurd hfu (Nat.not_lt_zero _)
        | succ fu ih =>
          intro j H locs ls hfu hj hP hD hS hl
          refine lv_iload hx hb dM_word_32 (lv_at hl 0 rfl) ?_
          refine lv_iload_n hx hb dM_word_34 rfl (lv_at hl 3 rfl) ?_
          refine lv_bipush (v := nI 8) hx hb dM_word_35 (by decide) ?_
          refine lv_iadd hx hb dM_word_37 ?_
          refine tp_i (y := nI (i9 + 8)) (by rw [iI_nI, ← iI_nat]; congr 1) ?_
          refine lv_icmp_ge (tgt := 78) hx hb dM_word_38 (by decide) (fun hc => ?_) (fun hc => ?_)
          · have h3 : i9 + 8 ≤ i9 + j := (nI_leI (by omega) (by omega)).mp hc
            have h4 : j = 8 := by omega
            subst h4
            refine lv_lload_n hx hb dM_word_78 rfl (lv_at hl 1 rfl) ?_
            exact fin (lN (word8 L i9 8)) (()) _ _ _ _ dM_word_79 (fun _ => rfl) hP hD hS
          · have h3 : i9 + j < i9 + 8 := by
              rcases Nat.lt_or_ge (i9 + j) (i9 + 8) with h | h
              · exact h
              · exact absurd (nI_le h (by omega)) hc
            have hw8 := word8_lt hB.2.2 i9 j
            have hp8 : 256 ^ j ≤ 256 ^ 7 := Nat.pow_le_pow_right (by decide) (by omega)
            have hg8 := getD_lt hB.2.2 (i9 + j)
            have j70 : ∀  (H : Heap) (locs : List Loc) (ls : Array Slot), va_P G vwCl [(m9 0, .inr (5, [.ref (m9 1), .int (nI L.length), .int (if yes then nI 0 else nI 1), .int bits, .int least, .ref (m9 2), .int used, .ref (m9 4), .ref (m9 6), .ref (m9 8), .ref (m9 10), .ref (m9 12), .ref (m9 3), .int held])), (m9 1, .inl (cB, 64, .inl fr))] H → va_D A [(m9 0, .inr (5, [.ref (m9 1), .int (nI L.length), .int (if yes then nI 0 else nI 1), .int bits, .int least, .ref (m9 2), .int used, .ref (m9 4), .ref (m9 6), .ref (m9 8), .ref (m9 10), .ref (m9 12), .ref (m9 3), .int held])), (m9 1, .inl (cB, 64, .inl fr))] → va_S A s.heap H locs → lv_has ls 5 [(4, .int (nI (i9 + j))), (2, .long (lN (word8 L i9 j))), (0, .ref (m9 0)), (1, .int (iI (i9 : Int)))] → W p l e rmM_word s m args below meth c H locs 0 0 Q (F0 m 70 ls [.long (lN (L.getD (i9 + j) 0)), .long (lN (word8 L i9 j * 256))]) := by
              intro  H locs ls  hP hD hS hl
              refine lv_lor hx hb dM_word_70 ?_
              refine tp_l (y := lN (word8 L i9 (j + 1))) (g_or (k := 8) rfl (by omega) (by omega)) ?_
              refine lv_lstore_n hx hb dM_word_71 rfl hl (by decide) rfl (fun ls hl => ?_)
              have hl : lv_has ls 5 [(2, .long (lN (word8 L i9 (j + 1)))), (4, .int (nI (i9 + j))), (0, .ref (m9 0)), (1, .int (iI (i9 : Int)))] := hl
              refine lv_iinc (k := 1) (v := nI (i9 + (j + 1))) hx hb dM_word_72 hl rfl (nI_1 _) (by decide) rfl (fun ls hl => ?_)
              have hl : lv_has ls 5 [(4, .int (nI (i9 + (j + 1)))), (2, .long (lN (word8 L i9 (j + 1)))), (0, .ref (m9 0)), (1, .int (iI (i9 : Int)))] := hl
              refine lv_goto (tgt := 32) hx hb dM_word_75 (by decide) ?_
              have hl : lv_has ls 5 [(4, .int (nI (i9 + (j + 1)))), (2, .long (lN (word8 L i9 (j + 1)))), (0, .ref (m9 0)), (1, .int (iI (i9 : Int)))] := lv_sub hl [0, 1, 2, 3] rfl
              exact ih (j + 1) _ _ _ (by omega) (by omega) hP hD hS hl
            refine lv_lload_n hx hb dM_word_41 rfl (lv_at hl 1 rfl) ?_
            refine lv_bipush (v := nI 8) hx hb dM_word_42 (by decide) ?_
            refine lv_lshl (v := lN (word8 L i9 j * 256)) hx hb dM_word_44 (wb_shl _ (by decide)) ?_
            refine lv_iload hx hb dM_word_45 (lv_at hl 0 rfl) ?_
            refine lv_aload_n hx hb dM_word_47 rfl (lv_at hl 2 rfl) ?_
            refine va_get (D := G) (ci := 5) (v := .int (nI L.length)) (C := RM) (T := TM) (N := 14) hx hb hts inM hown hK hP 0 rfl rfl 1 (by decide) (hts _ kw_2_155) (fun _ h9 => h9) rfl dM_word_48 ?_
            refine lv_icmp_ge (tgt := 69) hx hb dM_word_51 (by decide) (fun hc2 => ?_) (fun hc2 => ?_)
            · have h5 := (nI_leI (by omega) (by omega)).mp hc2
              refine lv_lconst (v := lN 0) hx hb dM_word_69 (by decide) ?_
              refine tp_l (y := lN (L.getD (i9 + j) 0)) (by rw [getD_ge h5]) ?_
              exact j70  _ _ _  hP hD hS hl
            · have h5 : ¬ L.length ≤ i9 + j := fun h => hc2 ((nI_leI (by omega) (by omega)).mpr h)
              refine lv_aload_n hx hb dM_word_54 rfl (lv_at hl 2 rfl) ?_
              refine va_get (D := G) (ci := 5) (v := .ref (m9 1)) (C := RM) (T := TM) (N := 14) hx hb hts inM hown hK hP 0 rfl rfl 0 (by decide) (hts _ kw_2_154) (fun _ h9 => h9) rfl dM_word_55 ?_
              refine lv_iload hx hb dM_word_58 (lv_at hl 0 rfl) ?_
              refine ld_b hx hb hK hP 1 1 rfl rfl (i9 + j) (rfl) (by omega) (by decide) dM_word_60 ?_
              refine tp_i (y := nI (L.getD (i9 + j) 0)) (hB.2.1 _ (by omega)) ?_
              refine lv_i2l (v := lN (L.getD (i9 + j) 0)) hx hb dM_word_61 (nI_l (by omega)) ?_
              refine lv_ldc2 (v := 255) hx hb hown (hts _ kw_2_209) dM_word_62 ?_
              refine tp_l (y := lN (2 ^ 8 - 1)) (by decide) ?_
              refine lv_land hx hb dM_word_65 ?_
              refine tp_l (y := lN (L.getD (i9 + j) 0)) (by rw [wb_mask (by omega) (by decide), Nat.mod_eq_of_lt (by omega)]) ?_
              refine lv_goto (tgt := 70) hx hb dM_word_66 (by decide) ?_
              exact j70  _ _ _  hP hD hS hl
      exact lp (_ + 1) 0 _ _ _ (Nat.lt_succ_self _) (by decide) hP hD hS hl
    · have hy := of_decide_eq_false (hyes ▸ bI_eq ha)
      refine lv_lconst (v := lN 0) hx hb dM_word_25 (by decide) ?_
      exact fin (lN 0) (()) _ _ _ _ dM_word_26 (fun h => absurd h hy) hP hD hS
  refine lv_aload_n hx hb dM_word_0 rfl (lv_at hl 0 rfl) ?_
  refine lv_iload_n hx hb dM_word_1 rfl (lv_at hl 1 rfl) ?_
  refine lv_if_lt (tgt := 17) hx hb dM_word_2 (by decide) (fun hc => ?_) (fun hc => ?_)
  · have h1 : z < 0 := (iI_lt (b := 0) hz1 hz2 (by decide) (by decide)).mp hc
    refine lv_iconst (v := nI 0) hx hb dM_word_17 (by decide) ?_
    refine tp_i (y := bI yes) (by rw [hyes, decide_eq_false (by omega)]; rfl) ?_
    exact j18  _ _ _  hP hD hS hl
  · have h1 : ¬ z < 0 := fun h => hc ((iI_lt (b := 0) hz1 hz2 (by decide) (by decide)).mpr h)
    refine lv_iload_n hx hb dM_word_5 rfl (lv_at hl 1 rfl) ?_
    refine lv_aload_n hx hb dM_word_6 rfl (lv_at hl 0 rfl) ?_
    refine va_get (D := G) (ci := 5) (v := .int (nI L.length)) (C := RM) (T := TM) (N := 14) hx hb hts inM hown hK hP 0 rfl rfl 1 (by decide) (hts _ kw_2_155) (fun _ h9 => h9) rfl dM_word_7 ?_
    refine lv_icmp_ge (tgt := 17) hx hb dM_word_10 (by decide) (fun hc2 => ?_) (fun hc2 => ?_)
    · have h2 : (L.length : Int) ≤ z := (iI_le (by omega) (by omega) hz1 hz2).mp (by rw [iI_nat]; exact hc2)
      refine lv_iconst (v := nI 0) hx hb dM_word_17 (by decide) ?_
      refine tp_i (y := bI yes) (by rw [hyes, decide_eq_false (by omega)]; rfl) ?_
      exact j18  _ _ _  hP hD hS hl
    · have h2 : ¬ (L.length : Int) ≤ z := fun h => hc2 (by rw [← iI_nat]; exact (iI_le (by omega) (by omega) hz1 hz2).mpr h)
      refine lv_iconst (v := nI 1) hx hb dM_word_13 (by decide) ?_
      refine lv_goto (tgt := 18) hx hb dM_word_14 (by decide) ?_
      refine tp_i (y := bI yes) (by rw [hyes, decide_eq_true (by omega)]; rfl) ?_
      exact j18  _ _ _  hP hD hS hl
end MOPUTPUT
