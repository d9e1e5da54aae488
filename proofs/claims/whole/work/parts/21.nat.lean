/-! ShortestPrinter.Natural -/
section NAT
variable {l : Launch} {G : va_G} {cI cB cC cJ : ClassId}
abbrev rmN_append : Room := { frames := 0, cells := 0, slots := 0, locals := 0 }
set_option maxRecDepth 100000 in
set_option maxHeartbeats 4000000 in
theorem c_append (h0 hL u : Nat) (f : Nat → Int32) (x : Int32) (hu : u ≤ 28) : CTv l G (tyL cI cB cC cJ) yN_append cN_append 2 rmN_append [.ref h0, .int x] (wN cI h0 hL (f, u)) (fun q => q = apd f u x) (wN cI h0 hL) := by
  refine mkV cN_append 2 RN (by decide) rfl (Nat.le_of_ble_eq_true rfl) ?_
  intro p e s m args below meth c A Q ls hx hb hml hts hown hnm hK hP hD hA hl fin
  have hS : va_S A s.heap s.heap [] := va_S.rf
  have hl : lv_has ls 2 [(0, .ref h0), (1, .int x)] := hl
  have hP : va_P G vwCl [(h0, .inr (0, [.ref hL, .int (nI u)])), (hL, .inl (cI, 28, .inl f))] s.heap := hP
  have hD : va_D A [(h0, .inr (0, [.ref hL, .int (nI u)])), (hL, .inl (cI, 28, .inl f))] := hD
  refine lv_iload_n hx hb dN_append_0 rfl (lv_at hl 1 rfl) ?_
  refine lv_if_eq (tgt := 33) hx hb dN_append_1 (by decide) (fun hc => ?_) (fun hc => ?_)
  · exact fin (f, u) _ _ _ _ dN_append_33 (by unfold apd; rw [if_neg (fun h => h.1 hc)]) hP hD hS
  · refine lv_aload_n hx hb dN_append_4 rfl (lv_at hl 0 rfl) ?_
    refine va_get (D := G) (ci := 0) (v := .int (nI u)) (C := RN) (T := TN) (N := 2) hx hb hts inN hown hK hP 0 rfl rfl 1 (by decide) (hts _ kw_1_53) (fun _ h9 => h9) rfl dN_append_5 ?_
    refine lv_bipush (v := nI 28) hx hb dN_append_8 (by decide) ?_
    refine lv_icmp_ge (tgt := 33) hx hb dN_append_10 (by decide) (fun hc2 => ?_) (fun hc2 => ?_)
    · have h3 : 28 ≤ u := (nI_leI (by decide) (by omega)).mp hc2
      exact fin (f, u) _ _ _ _ dN_append_33 (by unfold apd; rw [if_neg (fun h => by omega)]) hP hD hS
    · have h3 : u < 28 := by
        rcases Nat.lt_or_ge u 28 with h | h
        · exact h
        · exact absurd (nI_le h (by omega)) hc2
      refine lv_aload_n hx hb dN_append_13 rfl (lv_at hl 0 rfl) ?_
      refine va_get (D := G) (ci := 0) (v := .ref hL) (C := RN) (T := TN) (N := 2) hx hb hts inN hown hK hP 0 rfl rfl 0 (by decide) (hts _ kw_1_52) (fun _ h9 => h9) rfl dN_append_14 ?_
      refine lv_aload_n hx hb dN_append_17 rfl (lv_at hl 0 rfl) ?_
      refine va_get (D := G) (ci := 0) (v := .int (nI u)) (C := RN) (T := TN) (N := 2) hx hb hts inN hown hK hP 0 rfl rfl 1 (by decide) (hts _ kw_1_53) (fun _ h9 => h9) rfl dN_append_18 ?_
      refine lv_iload_n hx hb dN_append_21 rfl (lv_at hl 1 rfl) ?_
      refine st_i hx hb hK hP hD hS 1 0 rfl rfl u (rfl) (h3) (by decide) dN_append_22 (fun H locs hP hD hS => ?_)
      have hP : va_P G vwCl [(h0, .inr (0, [.ref hL, .int (nI u)])), (hL, .inl (cI, 28, .inl (upd f u x)))] H := hP
      have hD : va_D A [(h0, .inr (0, [.ref hL, .int (nI u)])), (hL, .inl (cI, 28, .inl (upd f u x)))] := hD
      refine lv_aload_n hx hb dN_append_23 rfl (lv_at hl 0 rfl) ?_
      refine lv_dup hx hb dN_append_24 rfl ?_
      refine va_get (D := G) (ci := 0) (v := .int (nI u)) (C := RN) (T := TN) (N := 2) hx hb hts inN hown hK hP 0 rfl rfl 1 (by decide) (hts _ kw_1_53) (fun _ h9 => h9) rfl dN_append_25 ?_
      refine lv_iconst (v := nI 1) hx hb dN_append_28 (by decide) ?_
      refine lv_iadd hx hb dN_append_29 ?_
      refine tp_i (y := nI (u + 1)) (nI_add u 1) ?_
      refine va_put (D := G) (ci := 0) (v := .int (nI (u + 1))) (C := RN) (T := TN) (N := 2) hx hb hts inN tyN tyN_ok nmN hown hK hP hD hS 0 rfl rfl 1 (by decide) (hts _ kw_1_53) (fun _ h9 => h9) rfl (tyN_ok 1 (by decide)) (rfl) (rfl) (Nat.le_of_ble_eq_true rfl) dN_append_30 (fun H locs hP hD hS => ?_)
      have hP : va_P G vwCl [(h0, .inr (0, [.ref hL, .int (nI (u + 1))])), (hL, .inl (cI, 28, .inl (upd f u x)))] H := hP
      have hD : va_D A [(h0, .inr (0, [.ref hL, .int (nI (u + 1))])), (hL, .inl (cI, 28, .inl (upd f u x)))] := hD
      exact fin (upd f u x, u + 1) _ _ _ _ dN_append_33 (by unfold apd; rw [if_pos ⟨hc, h3⟩]) hP hD hS
abbrev rmN_clear : Room := { frames := 0, cells := 0, slots := 0, locals := 0 }
set_option maxRecDepth 100000 in
set_option maxHeartbeats 4000000 in
theorem c_clear (h0 hL u : Nat) (f : Nat → Int32) (hu : u ≤ 28) : CTv l G (tyL cI cB cC cJ) yN_clear cN_clear 2 rmN_clear [.ref h0] (wN cI h0 hL (f, u)) (fun g : Nat → Int32 => ∀ j, g j = if j < u then 0 else f j) (fun g => wN cI h0 hL (g, 0)) := by
  refine mkV cN_clear 2 RN (by decide) rfl (Nat.le_of_ble_eq_true rfl) ?_
  intro p e s m args below meth c A Q ls hx hb hml hts hown hnm hK hP hD hA hl fin
  have hS : va_S A s.heap s.heap [] := va_S.rf
  have hl : lv_has ls 2 [(0, .ref h0)] := hl
  have hP : va_P G vwCl [(h0, .inr (0, [.ref hL, .int (nI u)])), (hL, .inl (cI, 28, .inl f))] s.heap := hP
  have hD : va_D A [(h0, .inr (0, [.ref hL, .int (nI u)])), (hL, .inl (cI, 28, .inl f))] := hD
  refine lv_iconst (v := nI 0) hx hb dN_clear_0 (by decide) ?_
  refine lv_istore_n hx hb dN_clear_1 rfl hl (by decide) rfl (fun ls hl => ?_)
  have hl : lv_has ls 2 [(1, .int (nI 0)), (0, .ref h0)] := hl
  have lp : ∀ (n : Nat) (i : Nat) (g : Nat → Int32) (H : Heap) (locs : List Loc) (ls : Array Slot), u - i < n → i ≤ u → (∀ j, g j = if j < i then 0 else f j) → va_P G vwCl [(h0, .inr (0, [.ref hL, .int (nI u)])), (hL, .inl (cI, 28, .inl g))] H → va_D A [(h0, .inr (0, [.ref hL, .int (nI u)])), (hL, .inl (cI, 28, .inl g))] → va_S A s.heap H locs → lv_has ls 2 [(1, .int (nI i)), (0, .ref h0)] → W p l e rmN_clear s m args below meth c H locs 0 0 Q (F0 m 2 ls []) := by
    intro n
    induction n with
    | zero => intro i g H locs ls hn; exact absurd hn (Nat.not_lt_zero _)
    | succ n ih =>
      intro i g H locs ls hn hi hg hP hD hS hl
      refine lv_iload_n hx hb dN_clear_2 rfl (lv_at hl 0 rfl) ?_
      refine lv_aload_n hx hb dN_clear_3 rfl (lv_at hl 1 rfl) ?_
      refine va_get (D := G) (ci := 0) (v := .int (nI u)) (C := RN) (T := TN) (N := 2) hx hb hts inN hown hK hP 0 rfl rfl 1 (by decide) (hts _ kw_1_53) (fun _ h9 => h9) rfl dN_clear_4 ?_
      refine lv_icmp_ge (tgt := 23) hx hb dN_clear_7 (by decide) (fun hc => ?_) (fun hc => ?_)
      · have h3 : u ≤ i := (nI_leI (by omega) (by omega)).mp hc
        have h4 : i = u := by omega
        subst h4
        refine lv_aload_n hx hb dN_clear_23 rfl (lv_at hl 1 rfl) ?_
        refine lv_iconst (v := nI 0) hx hb dN_clear_24 (by decide) ?_
        refine va_put (D := G) (ci := 0) (v := .int (nI 0)) (C := RN) (T := TN) (N := 2) hx hb hts inN tyN tyN_ok nmN hown hK hP hD hS 0 rfl rfl 1 (by decide) (hts _ kw_1_53) (fun _ h9 => h9) rfl (tyN_ok 1 (by decide)) (rfl) (rfl) (Nat.le_of_ble_eq_true rfl) dN_clear_25 (fun H locs hP hD hS => ?_)
        have hP : va_P G vwCl [(h0, .inr (0, [.ref hL, .int (nI 0)])), (hL, .inl (cI, 28, .inl g))] H := hP
        have hD : va_D A [(h0, .inr (0, [.ref hL, .int (nI 0)])), (hL, .inl (cI, 28, .inl g))] := hD
        exact fin (g) _ _ _ _ dN_clear_28 (hg) hP hD hS
      · have h3 : i < u := by
          rcases Nat.lt_or_ge i u with h | h
          · exact h
          · exact absurd (nI_le h (by omega)) hc
        refine lv_aload_n hx hb dN_clear_10 rfl (lv_at hl 1 rfl) ?_
        refine va_get (D := G) (ci := 0) (v := .ref hL) (C := RN) (T := TN) (N := 2) hx hb hts inN hown hK hP 0 rfl rfl 0 (by decide) (hts _ kw_1_52) (fun _ h9 => h9) rfl dN_clear_11 ?_
        refine lv_iload_n hx hb dN_clear_14 rfl (lv_at hl 0 rfl) ?_
        refine lv_iconst (v := nI 0) hx hb dN_clear_15 (by decide) ?_
        refine st_i hx hb hK hP hD hS 1 0 rfl rfl i (rfl) (by omega) (by decide) dN_clear_16 (fun H locs hP hD hS => ?_)
        have hP : va_P G vwCl [(h0, .inr (0, [.ref hL, .int (nI u)])), (hL, .inl (cI, 28, .inl (upd g i (nI 0))))] H := hP
        have hD : va_D A [(h0, .inr (0, [.ref hL, .int (nI u)])), (hL, .inl (cI, 28, .inl (upd g i (nI 0))))] := hD
        refine lv_iinc (k := 0) (v := nI (i + 1)) hx hb dN_clear_17 hl rfl (nI_1 i) (by decide) rfl (fun ls hl => ?_)
        have hl : lv_has ls 2 [(1, .int (nI (i + 1))), (0, .ref h0)] := hl
        refine lv_goto (tgt := 2) hx hb dN_clear_20 (by decide) ?_
        exact ih (i + 1) (upd g i (nI 0)) _ _ _ (by omega) (by omega) (fun j => by
            by_cases hj : j = i
            · subst hj; rw [pk_us, if_pos (by omega)]; rfl
            · rw [pk_un hj, hg j]; congr 1; apply propext; omega) hP hD hS hl
  exact lp (_ + 1) 0 f _ _ _ (Nat.lt_succ_self _) (Nat.zero_le _) (fun j => by rw [if_neg (Nat.not_lt_zero j)]) hP hD hS hl
abbrev rmN_multiply : Room := { frames := 1, cells := 0, slots := 0, locals := 21 }
set_option maxRecDepth 100000 in
set_option maxHeartbeats 4000000 in
theorem c_multiply (h0 hL u k v : Nat) (f : Nat → Int32) (hv : Nt f u v) (hk : k < 2 ^ 31) (hb9 : v * k < 2 ^ 896) : CTv l G (tyL cI cB cC cJ) yN_multiply cN_multiply 5 rmN_multiply [.ref h0, .int (nI k)] (wN cI h0 hL (f, u)) (fun q => Nt q.1 q.2 (v * k)) (wN cI h0 hL) := by
  have hu := hv.1
  refine mkV cN_multiply 5 RN (by decide) rfl (Nat.le_of_ble_eq_true rfl) ?_
  intro p e s m args below meth c A Q ls hx hb hml hts hown hnm hK hP hD hA hl fin
  have hS : va_S A s.heap s.heap [] := va_S.rf
  have hl : lv_has ls 5 [(0, .ref h0), (1, .int (nI k))] := hl
  have hP : va_P G vwCl [(h0, .inr (0, [.ref hL, .int (nI u)])), (hL, .inl (cI, 28, .inl f))] s.heap := hP
  have hD : va_D A [(h0, .inr (0, [.ref hL, .int (nI u)])), (hL, .inl (cI, 28, .inl f))] := hD
  refine lv_lconst (v := lN 0) hx hb dN_multiply_0 (by decide) ?_
  refine lv_lstore_n hx hb dN_multiply_1 rfl hl (by decide) rfl (fun ls hl => ?_)
  have hl : lv_has ls 5 [(2, .long (lN 0)), (0, .ref h0), (1, .int (nI k))] := hl
  refine lv_iconst (v := nI 0) hx hb dN_multiply_2 (by decide) ?_
  refine lv_istore hx hb dN_multiply_3 hl (by decide) rfl (fun ls hl => ?_)
  have hl : lv_has ls 5 [(4, .int (nI 0)), (2, .long (lN 0)), (0, .ref h0), (1, .int (nI k))] := hl
  have lp : ∀ (n : Nat) (i : Nat) (g : Nat → Int32) (cy : Nat) (H : Heap) (locs : List Loc) (ls : Array Slot), u - i < n → i ≤ u → cy ≤ k → (∀ j, i ≤ j → g j = f j) → nv g i + cy * 2 ^ (32 * i) = nv f i * k → va_P G vwCl [(h0, .inr (0, [.ref hL, .int (nI u)])), (hL, .inl (cI, 28, .inl g))] H → va_D A [(h0, .inr (0, [.ref hL, .int (nI u)])), (hL, .inl (cI, 28, .inl g))] → va_S A s.heap H locs → lv_has ls 5 [(4, .int (nI i)), (2, .long (lN cy)), (0, .ref h0), (1, .int (nI k))] → W p l e rmN_multiply s m args below meth c H locs 0 0 Q (F0 m 5 ls []) := by
    intro n
    induction n with
    | zero => intro i g cy H locs ls hn; exact absurd hn (Nat.not_lt_zero _)
    | succ n ih =>
      intro i g cy H locs ls hn hi hcy hg hs hP hD hS hl
      refine lv_iload hx hb dN_multiply_5 (lv_at hl 0 rfl) ?_
      refine lv_aload_n hx hb dN_multiply_7 rfl (lv_at hl 2 rfl) ?_
      refine va_get (D := G) (ci := 0) (v := .int (nI u)) (C := RN) (T := TN) (N := 2) hx hb hts inN hown hK hP 0 rfl rfl 1 (by decide) (hts _ kw_1_53) (fun _ h9 => h9) rfl dN_multiply_8 ?_
      refine lv_icmp_ge (tgt := 52) hx hb dN_multiply_11 (by decide) (fun hc => ?_) (fun hc => ?_)
      · have h3 : u ≤ i := (nI_leI (by omega) (by omega)).mp hc
        have h4 : i = u := by omega
        subst h4
        refine lv_aload_n hx hb dN_multiply_52 rfl (lv_at hl 2 rfl) ?_
        refine lv_lload_n hx hb dN_multiply_53 rfl (lv_at hl 1 rfl) ?_
        refine lv_l2i (v := nI cy) hx hb dN_multiply_54 (lN_i cy) ?_
        refine jnV (Wr := []) (W2 := fun u => [(h0, .inr (0, [.ref hL, .int (nI u.2)])), (hL, .inl (cI, 28, .inl u.1))]) (rV (n := 1) (As := [.int (nI cy)]) (rest := []) hx hb hml hown hts (c_append h0 hL i g (nI cy) hu _) kw_1_209 kw_1_206 kw_1_208 kw_0_4 kw_1_4 (by decide +kernel) ⟨Nat.le_of_ble_eq_true rfl, Nat.le_of_ble_eq_true rfl⟩ hK hP hD [0, 1] rfl rfl 0 rfl rfl rfl rfl hl.1 rfl (lv_room (Nat.le_of_ble_eq_true rfl)) dN_multiply_55 ⟨Nat.le_of_ble_eq_true rfl, Nat.le_of_ble_eq_true rfl⟩) hP hD hS hA [0, 1] [] [0, 1] rfl rfl rfl (by decide) (fun _ => rfl) rfl (fun u H locs hq hP hD hS => ?_)
        have hP : va_P G vwCl [(h0, .inr (0, [.ref hL, .int (nI u.2)])), (hL, .inl (cI, 28, .inl u.1))] H := hP
        have hD : va_D A [(h0, .inr (0, [.ref hL, .int (nI u.2)])), (hL, .inl (cI, 28, .inl u.1))] := hD
        exact fin (u) _ _ _ _ dN_multiply_58 (by rw [hq]; exact mul_end hv hs hg (by omega) hb9) hP hD hS
      · have h3 : i < u := by
          rcases Nat.lt_or_ge i u with h | h
          · exact h
          · exact absurd (nI_le h (by omega)) hc
        have hlt := ul_lt (f i)
        have hmul : ul (f i) * k ≤ 4294967295 * k := Nat.mul_le_mul_right k (by omega)
        have hgi := hg i (Nat.le_refl i)
        refine lv_lload_n hx hb dN_multiply_14 rfl (lv_at hl 1 rfl) ?_
        refine lv_aload_n hx hb dN_multiply_15 rfl (lv_at hl 2 rfl) ?_
        refine va_get (D := G) (ci := 0) (v := .ref hL) (C := RN) (T := TN) (N := 2) hx hb hts inN hown hK hP 0 rfl rfl 0 (by decide) (hts _ kw_1_52) (fun _ h9 => h9) rfl dN_multiply_16 ?_
        refine lv_iload hx hb dN_multiply_19 (lv_at hl 0 rfl) ?_
        refine ld_i hx hb hK hP 1 0 rfl rfl i (rfl) (by omega) (by decide) dN_multiply_21 ?_
        refine tp_i (y := f i) (hgi) ?_
        refine lv_i2l (v := (f i).toInt64) hx hb dN_multiply_22 (rfl) ?_
        refine lv_ldc2 (v := 4294967295) hx hb hown (hts _ kw_1_205) dN_multiply_23 ?_
        refine lv_land hx hb dN_multiply_26 ?_
        refine tp_l (y := lN (ul (f i))) (ul_mask (f i)) ?_
        refine lv_iload_n hx hb dN_multiply_27 rfl (lv_at hl 3 rfl) ?_
        refine lv_i2l (v := lN k) hx hb dN_multiply_28 (nI_l hk) ?_
        refine lv_lmul hx hb dN_multiply_29 ?_
        refine tp_l (y := lN (ul (f i) * k)) (lN_mul _ _) ?_
        refine lv_ladd hx hb dN_multiply_30 ?_
        refine tp_l (y := lN (cy + ul (f i) * k)) (lN_add _ _) ?_
        refine lv_lstore_n hx hb dN_multiply_31 rfl hl (by decide) rfl (fun ls hl => ?_)
        have hl : lv_has ls 5 [(2, .long (lN (cy + ul (f i) * k))), (4, .int (nI i)), (0, .ref h0), (1, .int (nI k))] := hl
        refine lv_aload_n hx hb dN_multiply_32 rfl (lv_at hl 2 rfl) ?_
        refine va_get (D := G) (ci := 0) (v := .ref hL) (C := RN) (T := TN) (N := 2) hx hb hts inN hown hK hP 0 rfl rfl 0 (by decide) (hts _ kw_1_52) (fun _ h9 => h9) rfl dN_multiply_33 ?_
        refine lv_iload hx hb dN_multiply_36 (lv_at hl 1 rfl) ?_
        refine lv_lload_n hx hb dN_multiply_38 rfl (lv_at hl 0 rfl) ?_
        refine lv_l2i (v := nI (cy + ul (f i) * k)) hx hb dN_multiply_39 (lN_i _) ?_
        refine st_i hx hb hK hP hD hS 1 0 rfl rfl i (rfl) (by omega) (by decide) dN_multiply_40 (fun H locs hP hD hS => ?_)
        have hP : va_P G vwCl [(h0, .inr (0, [.ref hL, .int (nI u)])), (hL, .inl (cI, 28, .inl (upd g i (nI (cy + ul (f i) * k)))))] H := hP
        have hD : va_D A [(h0, .inr (0, [.ref hL, .int (nI u)])), (hL, .inl (cI, 28, .inl (upd g i (nI (cy + ul (f i) * k)))))] := hD
        refine lv_lload_n hx hb dN_multiply_41 rfl (lv_at hl 0 rfl) ?_
        refine lv_bipush (v := nI 32) hx hb dN_multiply_42 (by decide) ?_
        refine lv_lushr (v := lN ((cy + ul (f i) * k) / 2 ^ 32)) hx hb dN_multiply_44 (wb_shr (by omega) (by decide)) ?_
        refine lv_lstore_n hx hb dN_multiply_45 rfl hl (by decide) rfl (fun ls hl => ?_)
        have hl : lv_has ls 5 [(2, .long (lN ((cy + ul (f i) * k) / 2 ^ 32))), (4, .int (nI i)), (0, .ref h0), (1, .int (nI k))] := hl
        refine lv_iinc (k := 1) (v := nI (i + 1)) hx hb dN_multiply_46 hl rfl (nI_1 i) (by decide) rfl (fun ls hl => ?_)
        have hl : lv_has ls 5 [(4, .int (nI (i + 1))), (2, .long (lN ((cy + ul (f i) * k) / 2 ^ 32))), (0, .ref h0), (1, .int (nI k))] := hl
        refine lv_goto (tgt := 5) hx hb dN_multiply_49 (by decide) ?_
        exact ih (i + 1) (upd g i (nI (cy + ul (f i) * k))) ((cy + ul (f i) * k) / 2 ^ 32) _ _ _ (by omega) (by omega) (by omega) (fun j hj => by rw [pk_un (by omega), hg j (by omega)]) (mul_step hs rfl) hP hD hS hl
  exact lp (_ + 1) 0 f 0 _ _ _ (Nat.lt_succ_self _) (Nat.zero_le _) (Nat.zero_le _) (fun _ _ => rfl) (by simp [nv]) hP hD hS hl
end NAT
