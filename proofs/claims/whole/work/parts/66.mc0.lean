section MOTOSTRI
variable {l : Launch} {G : va_G} {cI cB cC cJ : ClassId}
theorem EOk.carry {E : (Nat → Prop) → State → Heap → Prop} {A : Nat → Prop} {s : State} {H : Heap} {locs : List Loc} {ws Wc : va_W} (hok : EOk E) (hE : E A s s.heap) (hS : va_S A s.heap H locs) (hA : ∀ q : Nat, s.heap.size ≤ q → A q) (hD : va_D A ws) (isC : List Nat) (hC : isC.map (fun i => ws[i]?) = Wc.map some) : E (va_A Wc H.size) s H := hok.2.2.2 A _ s H (va_free hD hS hA isC hC) (hok.2.2.1 A s s.heap H hS.2.1 hE)
theorem pre_text (L : List Nat) : ∀ n, n ≤ L.length → pre (fun j => L.getD j 0) n = L.take n
  | 0, _ => rfl
  | n + 1, h => by
    show pre (fun j => L.getD j 0) n ++ [L.getD n 0] = L.take (n + 1)
    rw [pre_text L n (by omega), List.take_add_one, List.getD_eq_getElem?_getD, List.getElem?_eq_getElem (by omega)]
    rfl
theorem exp_lt {z : Int} (hz : z.natAbs < 1000) : ∀ x ∈ expT z, x < 128 := by
  intro x hx
  by_cases h1 : z.natAbs < 10
  · rw [exp_A h1] at hx
    by_cases h3 : z < 0 <;> simp [h3] at hx <;> omega
  by_cases h2 : z.natAbs < 100
  · rw [exp_B (by omega) h2] at hx
    by_cases h3 : z < 0 <;> simp [h3] at hx <;> omega
  · rw [exp_C (by omega)] at hx
    by_cases h3 : z < 0 <;> simp [h3] at hx <;> omega
abbrev rmJL_toString : Room := { frames := 2, cells := 2, slots := 8, locals := 40 }
set_option maxRecDepth 100000 in
set_option maxHeartbeats 1500000 in
theorem c_toString (r0 : Option Nat) (o1 o2 : Nat) (z : Int) (h1 : -1000 < z) (h2 : z < 1000) : CEr (numE r0 o1 o2) l G (tyL cI cB cC cJ) yJL_toString cJL_toString 4 (.object "java/lang/String") rmJL_toString [.long (lI z)] [] (fun u : Nat × (Nat → Int32) => ∀ j, j < expL z → u.2 j = nI ((expT z).getD j 0)) (fun u ra => [(ra, .inr (6, [.ref u.1, .int (nI 0), .int 0, .int 0])), (u.1, .inl (cB, expL z, .inl u.2))]) := by
  obtain ⟨x1, x2⟩ := expL_le z
  refine mkRE cJL_toString 4 RJL "java/lang/String" (by decide) rfl (Nat.le_of_ble_eq_true rfl) ?_
  intro p e s m args below meth c A Q ls hx hb hml hts hown hnm hK hP hD hA hE hl fin
  have hS : va_S A s.heap s.heap [] := va_S.rf
  have hl : lv_has ls 4 [(0, .long (lI z))] := hl
  have hP : va_P G vwCl [] s.heap := hP
  have hD : va_D A [] := hD
  have hE : numE r0 o1 o2 A s s.heap := hE
  refine lv_lload_n hx hb dJL_toString_0 rfl (lv_at hl 0 rfl) ?_
  refine jnI (Wr := []) (W2 := fun y => []) (rS (n := 1) (As := [.long (lI z)]) (rest := []) hx hb hml hown hts (c_ssize z h1 h2 _) kw_3_79 kw_3_77 kw_3_78 kw_1_11 (by decide +kernel) ⟨Nat.le_of_ble_eq_true rfl, Nat.le_of_ble_eq_true rfl⟩ hK hP hD [] rfl rfl rfl rfl hl.1 rfl (lv_room (Nat.le_of_ble_eq_true rfl)) dJL_toString_1 ⟨Nat.le_of_ble_eq_true rfl, Nat.le_of_ble_eq_true rfl⟩) hP hD hS hA [] [] [] rfl rfl rfl (by decide) (fun _ => rfl) rfl (fun o y H locs hq hP hD hS => ?_)
  have hP : va_P G vwCl [] H := hP
  have hD : va_D A [] := hD
  subst hq
  refine lv_istore_n hx hb dJL_toString_4 rfl hl (by decide) rfl (fun ls hl => ?_)
  have hl : lv_has ls 4 [(2, .int (nI (expL z))), (0, .long (lI z))] := hl
  refine va_gets (v := .int 1) hx hb hE.1 hS hown (hts _ kw_3_82) (fun _ h9 => h9) dJL_toString_5 ?_
  refine lv_if_eq (tgt := 32) hx hb dJL_toString_8 (by decide) (fun hc => absurd hc (by decide)) (fun _ => ?_)
  refine lv_iload_n hx hb dJL_toString_11 rfl (lv_at hl 0 rfl) ?_
  refine va_newa (atype := .byte) (ty := .byte) (N' := expL z) (a0 := (expL z, .inl (fun _ => 0))) hx hb (hts _ kw_1_39) rfl hK hP hD hS hA (fun _ => rfl) (nI_pos (by omega)) (nI_clamp (by omega)) (by show expL z * 1 ≤ _; omega) (Nat.le_of_ble_eq_true rfl) (Nat.le_trans (Nat.add_le_add_left x2 _) (Nat.le_of_ble_eq_true rfl)) dJL_toString_12 (fun b7 cA H hK2 hP hD hS => ?_)
  refine W.widen (k := 1) (n := 4) (Nat.le_of_ble_eq_true rfl) (Nat.le_trans (Nat.add_le_add_left x2 _) (Nat.le_of_ble_eq_true rfl)) ?_
  have e9 : cA = cB := va_K.one hK2 4 1 rfl rfl (fun C h => by cases h)
  rw [e9] at hP hD
  have hP : va_P G vwCl [(b7, .inl (cB, expL z, .inl (fun _ => 0)))] H := hP
  have hD : va_D A [(b7, .inl (cB, expL z, .inl (fun _ => 0)))] := hD
  refine lv_astore_n hx hb dJL_toString_14 rfl hl (by decide) rfl (fun ls hl => ?_)
  have hl : lv_has ls 4 [(3, .ref b7), (2, .int (nI (expL z))), (0, .long (lI z))] := hl
  refine lv_lload_n hx hb dJL_toString_15 rfl (lv_at hl 2 rfl) ?_
  refine lv_iload_n hx hb dJL_toString_16 rfl (lv_at hl 1 rfl) ?_
  refine lv_aload_n hx hb dJL_toString_17 rfl (lv_at hl 0 rfl) ?_
  refine jnI (Wr := []) (W2 := fun g7 => [(b7, .inl (cB, expL z, .inl g7))]) (rSE (n := 3) (As := [.long (lI z), .int (nI (expL z)), .ref b7]) (rest := []) (digE_ok _ _) (hE.2.2) hS hA hx hb hml hown hts (c_getChars o1 o2 b7 (fun _ => 0) z h1 h2 _) kw_3_85 kw_3_83 kw_3_84 kw_1_11 (by decide +kernel) ⟨Nat.le_of_ble_eq_true rfl, Nat.le_of_ble_eq_true rfl⟩ hK hP hD [0] rfl rfl rfl rfl hl.1 rfl (lv_room (Nat.le_of_ble_eq_true rfl)) dJL_toString_18 ⟨Nat.le_of_ble_eq_true rfl, Nat.le_of_ble_eq_true rfl⟩) hP hD hS hA [0] [] [0] rfl rfl rfl (by decide) (fun _ => rfl) rfl (fun o7 g7 H locs hg7 hP hD hS => ?_)
  have hP : va_P G vwCl [(b7, .inl (cB, expL z, .inl g7))] H := hP
  have hD : va_D A [(b7, .inl (cB, expL z, .inl g7))] := hD
  refine lv_pop hx hb dJL_toString_21 rfl ?_
  refine va_new (ci := 6) (fs := [.null, .int 0, .int 0, .int 0]) (C := RJS) (T := TJS) (N := 4) hx hb hts inJS tyJS tyJS_ok hown (hts _ kw_3_92) (hts _ kw_3_93) (hts _ kw_1_7) hK hP hD hS hA rfl (fun j hj => by rcases (show j = 0 ∨ j = 1 ∨ j = 2 ∨ j = 3 by omega) with rfl | rfl | rfl | rfl <;> rfl) (Nat.le_of_ble_eq_true rfl) (Nat.le_of_ble_eq_true rfl) dJL_toString_22 (fun q7 H hP hD hS => ?_)
  have hP : va_P G vwCl [(b7, .inl (cB, expL z, .inl g7)), (q7, .inr (6, [.null, .int 0, .int 0, .int 0]))] H := hP
  have hD : va_D A [(b7, .inl (cB, expL z, .inl g7)), (q7, .inr (6, [.null, .int 0, .int 0, .int 0]))] := hD
  refine lv_dup hx hb dJL_toString_25 rfl ?_
  refine lv_aload_n hx hb dJL_toString_26 rfl (lv_at hl 0 rfl) ?_
  refine lv_iconst (v := nI 0) hx hb dJL_toString_27 (by decide) ?_
  refine jnV (Wr := [(b7, .inl (cB, expL z, .inl g7))]) (W2 := fun _y => [(q7, .inr (6, [.ref b7, .int (nI 0), .int 0, .int 0])), (b7, .inl (cB, expL z, .inl g7))]) (rI (n := 2) (As := [.ref b7, .int (nI 0)]) (rest := [.ref q7]) hx hb hml hown hts (c_JSinit q7 b7 _) kw_3_96 kw_3_94 kw_3_95 kw_1_7 rfl (by decide +kernel) ⟨Nat.le_of_ble_eq_true rfl, Nat.le_of_ble_eq_true rfl⟩ hK hP hD [1] rfl rfl rfl rfl hl.1 rfl (lv_room (Nat.le_of_ble_eq_true rfl)) dJL_toString_28 ⟨Nat.le_of_ble_eq_true rfl, Nat.le_of_ble_eq_true rfl⟩) hP hD hS hA [1] [0] [1, 0] rfl rfl rfl (by decide) (fun _ => rfl) rfl (fun _y H locs _hq hP hD hS => ?_)
  have hP : va_P G vwCl [(q7, .inr (6, [.ref b7, .int (nI 0), .int 0, .int 0])), (b7, .inl (cB, expL z, .inl g7))] H := hP
  have hD : va_D A [(q7, .inr (6, [.ref b7, .int (nI 0), .int 0, .int 0])), (b7, .inl (cB, expL z, .inl g7))] := hD
  exact fin _ (b7, g7) _ _ _ _ dJL_toString_31 hg7 hP hD hS
abbrev rmM_putNumber : Room := { frames := 5, cells := 2, slots := 8, locals := 110 }
set_option maxRecDepth 100000 in
set_option maxHeartbeats 1500000 in
theorem c_putNumber (r0 : Option Nat) (o1 o2 : Nat) (m9 : Nat → Nat) (len code bits least used : Int32) (f : Nat → Int32) (L : List Nat) (z : Int) (h1 : -1000 < z) (h2 : z < 1000) (hT : Bx f L) (hn : L.length + 4 ≤ 64) : CEv (numE r0 o1 o2) l G (tyL cI cB cC cJ) yM_putNumber cM_putNumber 3 rmM_putNumber [.ref (m9 0), .long (lI z)] [mO m9 len code bits least used (nI L.length), (m9 3, .inl (cB, 4096, .inl f))] (fun f2 : Nat → Int32 => Bx f2 (L ++ expT z)) (fun f2 => [mO m9 len code bits least used (nI ((L ++ expT z).length)), (m9 3, .inl (cB, 4096, .inl f2))]) := by
  obtain ⟨x1, x2⟩ := expL_le z
  have hz9 : z.natAbs < 1000 := by omega
  have hx9 := exp_lt hz9
  have hel := expL_len z
  refine mkVE cM_putNumber 3 RM (by decide) rfl (Nat.le_of_ble_eq_true rfl) ?_
  intro p e s m args below meth c A Q ls hx hb hml hts hown hnm hK hP hD hA hE hl fin
  have hS : va_S A s.heap s.heap [] := va_S.rf
  have hl : lv_has ls 3 [(0, .ref (m9 0)), (1, .long (lI z))] := hl
  have hP : va_P G vwCl [(m9 0, .inr (5, [.ref (m9 1), .int len, .int code, .int bits, .int least, .ref (m9 2), .int used, .ref (m9 4), .ref (m9 6), .ref (m9 8), .ref (m9 10), .ref (m9 12), .ref (m9 3), .int (nI L.length)])), (m9 3, .inl (cB, 4096, .inl f))] s.heap := hP
  have hD : va_D A [(m9 0, .inr (5, [.ref (m9 1), .int len, .int code, .int bits, .int least, .ref (m9 2), .int used, .ref (m9 4), .ref (m9 6), .ref (m9 8), .ref (m9 10), .ref (m9 12), .ref (m9 3), .int (nI L.length)])), (m9 3, .inl (cB, 4096, .inl f))] := hD
  have hE : numE r0 o1 o2 A s s.heap := hE
  refine lv_aload_n hx hb dM_putNumber_0 rfl (lv_at hl 0 rfl) ?_
  refine lv_lload_n hx hb dM_putNumber_1 rfl (lv_at hl 1 rfl) ?_
  refine jnR (Wr := [(m9 0, .inr (5, [.ref (m9 1), .int len, .int code, .int bits, .int least, .ref (m9 2), .int used, .ref (m9 4), .ref (m9 6), .ref (m9 8), .ref (m9 10), .ref (m9 12), .ref (m9 3), .int (nI L.length)])), (m9 3, .inl (cB, 4096, .inl f))]) (W2 := fun u ra => [(m9 0, .inr (5, [.ref (m9 1), .int len, .int code, .int bits, .int least, .ref (m9 2), .int used, .ref (m9 4), .ref (m9 6), .ref (m9 8), .ref (m9 10), .ref (m9 12), .ref (m9 3), .int (nI L.length)])), (m9 3, .inl (cB, 4096, .inl f)), (ra, .inr (6, [.ref u.1, .int (nI 0), .int 0, .int 0])), (u.1, .inl (cB, expL z, .inl u.2))]) (rSE (n := 1) (As := [.long (lI z)]) (rest := [.ref (m9 0)]) (numE_ok _ _ _) (hE) hS hA hx hb hml hown hts (c_toString r0 o1 o2 z h1 h2 _) kw_3_76 kw_3_74 kw_3_75 kw_1_11 (by decide +kernel) ⟨Nat.le_of_ble_eq_true rfl, Nat.le_of_ble_eq_true rfl⟩ hK hP hD [] rfl rfl rfl rfl hl.1 rfl (lv_room (Nat.le_of_ble_eq_true rfl)) dM_putNumber_2 ⟨Nat.le_of_ble_eq_true rfl, Nat.le_of_ble_eq_true rfl⟩) hP hD hS hA [] [0, 1] [0, 1, 2, 3] rfl rfl rfl (by decide) (fun _ _ => rfl) rfl (fun u ra H locs hq hP hD hS => ?_)
  have hP : va_P G vwCl [(m9 0, .inr (5, [.ref (m9 1), .int len, .int code, .int bits, .int least, .ref (m9 2), .int used, .ref (m9 4), .ref (m9 6), .ref (m9 8), .ref (m9 10), .ref (m9 12), .ref (m9 3), .int (nI L.length)])), (m9 3, .inl (cB, 4096, .inl f)), (ra, .inr (6, [.ref u.1, .int (nI 0), .int 0, .int 0])), (u.1, .inl (cB, expL z, .inl u.2))] H := hP
  have hD : va_D A [(m9 0, .inr (5, [.ref (m9 1), .int len, .int code, .int bits, .int least, .ref (m9 2), .int used, .ref (m9 4), .ref (m9 6), .ref (m9 8), .ref (m9 10), .ref (m9 12), .ref (m9 3), .int (nI L.length)])), (m9 3, .inl (cB, 4096, .inl f)), (ra, .inr (6, [.ref u.1, .int (nI 0), .int 0, .int 0])), (u.1, .inl (cB, expL z, .inl u.2))] := hD
  obtain ⟨b7, g7⟩ := u
  have hq : ∀ j, j < expL z → g7 j = nI ((expT z).getD j 0) := hq
  have hP : va_P G vwCl [(m9 0, .inr (5, [.ref (m9 1), .int len, .int code, .int bits, .int least, .ref (m9 2), .int used, .ref (m9 4), .ref (m9 6), .ref (m9 8), .ref (m9 10), .ref (m9 12), .ref (m9 3), .int (nI L.length)])), (m9 3, .inl (cB, 4096, .inl f)), (ra, .inr (6, [.ref b7, .int (nI 0), .int 0, .int 0])), (b7, .inl (cB, expL z, .inl g7))] H := hP
  have hD : va_D A [(m9 0, .inr (5, [.ref (m9 1), .int len, .int code, .int bits, .int least, .ref (m9 2), .int used, .ref (m9 4), .ref (m9 6), .ref (m9 8), .ref (m9 10), .ref (m9 12), .ref (m9 3), .int (nI L.length)])), (m9 3, .inl (cB, 4096, .inl f)), (ra, .inr (6, [.ref b7, .int (nI 0), .int 0, .int 0])), (b7, .inl (cB, expL z, .inl g7))] := hD
  have hE2 : strE r0 ra b7 (expL z) g7 (va_A [(m9 0, .inr (5, [.ref (m9 1), .int len, .int code, .int bits, .int least, .ref (m9 2), .int used, .ref (m9 4), .ref (m9 6), .ref (m9 8), .ref (m9 10), .ref (m9 12), .ref (m9 3), .int (nI L.length)])), (m9 3, .inl (cB, 4096, .inl f))] H.size) s H := str_new (i0 := 2) (i1 := 3) hts hK hP hD [0, 1] rfl rfl rfl (by decide) (by decide) ((EOk_Z _ _ _ _).carry hE.1 hS hA hD [0, 1] rfl) ((EOk_Z _ _ _ _).carry hE.2.1 hS hA hD [0, 1] rfl)
  refine jnV (Wr := [(ra, .inr (6, [.ref b7, .int (nI 0), .int 0, .int 0])), (b7, .inl (cB, expL z, .inl g7))]) (W2 := fun f2 => [(m9 0, .inr (5, [.ref (m9 1), .int len, .int code, .int bits, .int least, .ref (m9 2), .int used, .ref (m9 4), .ref (m9 6), .ref (m9 8), .ref (m9 10), .ref (m9 12), .ref (m9 3), .int (nI ((L ++ pre (fun j => (expT z).getD j 0) (expL z)).length))])), (m9 3, .inl (cB, 4096, .inl f2))]) (rVF (n := 1) (As := [.ref ra]) (rest := []) (strE_ok _ _ _ _ _) hE2 hx hb hml hown hts (c_puts r0 ra b7 (expL z) g7 m9 len code bits least used f L (fun j => (expT z).getD j 0) hT (fun j hj => ⟨hq j hj, getD_lt hx9 j⟩) (by omega) _) kw_3_4 kw_3_1 kw_3_3 kw_0_19 kw_1_5 (by decide +kernel) ⟨Nat.le_of_ble_eq_true rfl, Nat.le_of_ble_eq_true rfl⟩ hK hP hD [0, 1] rfl rfl (va_recv (q := (RM, TM, 14)) (ci := 5) (q0 := 0) hK hP rfl rfl) rfl rfl hl.1 rfl (lv_room (Nat.le_of_ble_eq_true rfl)) dM_putNumber_5 ⟨Nat.le_of_ble_eq_true rfl, Nat.le_of_ble_eq_true rfl⟩) hP hD hS hA [0, 1] [2, 3] [2, 3] rfl rfl rfl (by decide) (fun _ => rfl) rfl (fun f2 H locs hq2 hP hD hS => ?_)
  have hP : va_P G vwCl [(m9 0, .inr (5, [.ref (m9 1), .int len, .int code, .int bits, .int least, .ref (m9 2), .int used, .ref (m9 4), .ref (m9 6), .ref (m9 8), .ref (m9 10), .ref (m9 12), .ref (m9 3), .int (nI ((L ++ pre (fun j => (expT z).getD j 0) (expL z)).length))])), (m9 3, .inl (cB, 4096, .inl f2))] H := hP
  have hD : va_D A [(m9 0, .inr (5, [.ref (m9 1), .int len, .int code, .int bits, .int least, .ref (m9 2), .int used, .ref (m9 4), .ref (m9 6), .ref (m9 8), .ref (m9 10), .ref (m9 12), .ref (m9 3), .int (nI ((L ++ pre (fun j => (expT z).getD j 0) (expL z)).length))])), (m9 3, .inl (cB, 4096, .inl f2))] := hD
  have e9 : pre (fun j => (expT z).getD j 0) (expL z) = expT z := by rw [pre_text _ _ (by omega), List.take_of_length_le (by omega)]
  rw [e9] at hP hD hq2
  have hP : va_P G vwCl [(m9 0, .inr (5, [.ref (m9 1), .int len, .int code, .int bits, .int least, .ref (m9 2), .int used, .ref (m9 4), .ref (m9 6), .ref (m9 8), .ref (m9 10), .ref (m9 12), .ref (m9 3), .int (nI ((L ++ expT z).length))])), (m9 3, .inl (cB, 4096, .inl f2))] H := hP
  have hD : va_D A [(m9 0, .inr (5, [.ref (m9 1), .int len, .int code, .int bits, .int least, .ref (m9 2), .int used, .ref (m9 4), .ref (m9 6), .ref (m9 8), .ref (m9 10), .ref (m9 12), .ref (m9 3), .int (nI ((L ++ expT z).length))])), (m9 3, .inl (cB, 4096, .inl f2))] := hD
  exact fin (f2) _ _ _ _ dM_putNumber_8 (hq2) hP hD hS
end MOTOSTRI
