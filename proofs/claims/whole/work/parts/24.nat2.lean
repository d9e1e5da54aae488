section NATB
variable {l : Launch} {G : va_G} {cI cB cC cJ : ClassId}
abbrev rmN_init : Room := { frames := 1, cells := 1, slots := 28, locals := 12 }
set_option maxRecDepth 100000 in
set_option maxHeartbeats 4000000 in
theorem c_Ninit (h0 : Nat) : CTv l G (tyL cI cB cC cJ) yN_init cN_init 1 rmN_init [.ref h0] [(h0, .inr (0, [.null, .int 0]))] (fun _ : Nat => True) (fun q => wN cI h0 q (fun _ => 0, 0)) := by
  refine mkV cN_init 1 RN (by decide) rfl (Nat.le_of_ble_eq_true rfl) ?_
  intro p e s m args below meth c A Q ls hx hb hml hts hown hnm hK hP hD hA hl fin
  have hS : va_S A s.heap s.heap [] := va_S.rf
  have hl : lv_has ls 1 [(0, .ref h0)] := hl
  have hP : va_P G vwCl [(h0, .inr (0, [.null, .int 0]))] s.heap := hP
  have hD : va_D A [(h0, .inr (0, [.null, .int 0]))] := hD
  have hin : meth.name = "<init>" := hnm
  refine lv_aload_n hx hb dN_init_0 rfl (lv_at hl 0 rfl) ?_
  refine W.objInit hx hb hown (hts _ kw_1_51) (hts _ kw_1_24) (hts _ kw_1_25) rfl (by rw [hml]; exact hl.1) rfl dN_init_1 (Nat.le_of_ble_eq_true rfl) (Nat.le_of_ble_eq_true rfl) ?_
  refine W.eq (g2 := F0 m 4 ls []) rfl ?_
  refine lv_aload_n hx hb dN_init_4 rfl (lv_at hl 0 rfl) ?_
  refine lv_bipush (v := nI 28) hx hb dN_init_5 (by decide) ?_
  refine va_newa (atype := .int) (ty := .int) (N' := 28) (a0 := (28, .inl (fun _ => 0))) hx hb (hts _ kw_1_59) rfl hK hP hD hS hA (fun _ => rfl) (by decide) (by decide) (by decide) (Nat.le_of_ble_eq_true rfl) (Nat.le_of_ble_eq_true rfl) dN_init_7 (fun q7 cA H hK2 hP hD hS => ?_)
  have e9 : cA = cI := va_K.one hK2 4 0 rfl rfl (fun C h => by cases h)
  rw [e9] at hP hD
  have hP : va_P G vwCl [(h0, .inr (0, [.null, .int 0])), (q7, .inl (cI, 28, .inl (fun _ => 0)))] H := hP
  have hD : va_D A [(h0, .inr (0, [.null, .int 0])), (q7, .inl (cI, 28, .inl (fun _ => 0)))] := hD
  refine va_putF (D := G) (ci := 0) (v := .ref q7) (C := RN) (T := TN) (N := 2) hx hb hts inN tyN tyN_ok nmN hown hK hP hD hS 0 rfl rfl 0 (by decide) (hts _ kw_1_52) (fun _ h9 => h9) rfl hin rfl (tyN_ok 0 (by decide)) (rfl) (rfl) (Nat.le_of_ble_eq_true rfl) dN_init_9 (fun H locs hP hD hS => ?_)
  have hP : va_P G vwCl [(h0, .inr (0, [.ref q7, .int 0])), (q7, .inl (cI, 28, .inl (fun _ => 0)))] H := hP
  have hD : va_D A [(h0, .inr (0, [.ref q7, .int 0])), (q7, .inl (cI, 28, .inl (fun _ => 0)))] := hD
  refine lv_aload_n hx hb dN_init_12 rfl (lv_at hl 0 rfl) ?_
  refine lv_iconst (v := nI 0) hx hb dN_init_13 (by decide) ?_
  refine va_put (D := G) (ci := 0) (v := .int (nI 0)) (C := RN) (T := TN) (N := 2) hx hb hts inN tyN tyN_ok nmN hown hK hP hD hS 0 rfl rfl 1 (by decide) (hts _ kw_1_53) (fun _ h9 => h9) rfl (tyN_ok 1 (by decide)) (rfl) (rfl) (Nat.le_of_ble_eq_true rfl) dN_init_14 (fun H locs hP hD hS => ?_)
  have hP : va_P G vwCl [(h0, .inr (0, [.ref q7, .int (nI 0)])), (q7, .inl (cI, 28, .inl (fun _ => 0)))] H := hP
  have hD : va_D A [(h0, .inr (0, [.ref q7, .int (nI 0)])), (q7, .inl (cI, 28, .inl (fun _ => 0)))] := hD
  exact fin (q7) _ _ _ _ dN_init_17 (trivial) hP hD hS
abbrev rmN_subtract : Room := { frames := 0, cells := 0, slots := 0, locals := 0 }
set_option maxRecDepth 100000 in
set_option maxHeartbeats 4000000 in
theorem c_subtract (h0 hL k0 kL u v t w : Nat) (f o : Nat → Int32) (hv : Nt f u v) (hw : Nt o t w) (hle : w ≤ v) : CTv l G (tyL cI cB cC cJ) yN_subtract cN_subtract 5 rmN_subtract [.ref h0, .ref k0] (wN cI h0 hL (f, u) ++ wN cI k0 kL (o, t)) (fun g : Nat → Int32 => Nt g u (v - w)) (fun g => wN cI h0 hL (g, u) ++ wN cI k0 kL (o, t)) := by
  have hu := hv.1
  refine mkV cN_subtract 5 RN (by decide) rfl (Nat.le_of_ble_eq_true rfl) ?_
  intro p e s m args below meth c A Q ls hx hb hml hts hown hnm hK hP hD hA hl fin
  have hS : va_S A s.heap s.heap [] := va_S.rf
  have hl : lv_has ls 5 [(0, .ref h0), (1, .ref k0)] := hl
  have hP : va_P G vwCl [(h0, .inr (0, [.ref hL, .int (nI u)])), (hL, .inl (cI, 28, .inl f)), (k0, .inr (0, [.ref kL, .int (nI t)])), (kL, .inl (cI, 28, .inl o))] s.heap := hP
  have hD : va_D A [(h0, .inr (0, [.ref hL, .int (nI u)])), (hL, .inl (cI, 28, .inl f)), (k0, .inr (0, [.ref kL, .int (nI t)])), (kL, .inl (cI, 28, .inl o))] := hD
  refine lv_lconst (v := lI 0) hx hb dN_subtract_0 (by decide) ?_
  refine lv_lstore_n hx hb dN_subtract_1 rfl hl (by decide) rfl (fun ls hl => ?_)
  have hl : lv_has ls 5 [(2, .long (lI 0)), (0, .ref h0), (1, .ref k0)] := hl
  refine lv_iconst (v := nI 0) hx hb dN_subtract_2 (by decide) ?_
  refine lv_istore hx hb dN_subtract_3 hl (by decide) rfl (fun ls hl => ?_)
  have hl : lv_has ls 5 [(4, .int (nI 0)), (2, .long (lI 0)), (0, .ref h0), (1, .ref k0)] := hl
  have lp : ∀ (n : Nat) (i : Nat) (g : Nat → Int32) (z : Int) (H : Heap) (locs : List Loc) (ls : Array Slot), u - i < n → i ≤ u → (z = 0 ∨ z = -1) → (∀ j, i ≤ j → g j = f j) → (nv g i : Int) + z * 2 ^ (32 * i) = nv f i - nv o i → va_P G vwCl [(h0, .inr (0, [.ref hL, .int (nI u)])), (hL, .inl (cI, 28, .inl g)), (k0, .inr (0, [.ref kL, .int (nI t)])), (kL, .inl (cI, 28, .inl o))] H → va_D A [(h0, .inr (0, [.ref hL, .int (nI u)])), (hL, .inl (cI, 28, .inl g)), (k0, .inr (0, [.ref kL, .int (nI t)])), (kL, .inl (cI, 28, .inl o))] → va_S A s.heap H locs → lv_has ls 5 [(4, .int (nI i)), (2, .long (lI z)), (0, .ref h0), (1, .ref k0)] → W p l e rmN_subtract s m args below meth c H locs 0 0 Q (F0 m 5 ls []) := by
    intro n
    induction n with
    | zero => intro i g z H locs ls hn; exact absurd hn (Nat.not_lt_zero _)
    | succ n ih =>
      intro i g z H locs ls hn hi hz hg hs hP hD hS hl
      refine lv_iload hx hb dN_subtract_5 (lv_at hl 0 rfl) ?_
      refine lv_aload_n hx hb dN_subtract_7 rfl (lv_at hl 2 rfl) ?_
      refine va_get (D := G) (ci := 0) (v := .int (nI u)) (C := RN) (T := TN) (N := 2) hx hb hts inN hown hK hP 0 rfl rfl 1 (by decide) (hts _ kw_1_53) (fun _ h9 => h9) rfl dN_subtract_8 ?_
      refine lv_icmp_ge (tgt := 62) hx hb dN_subtract_11 (by decide) (fun hc => ?_) (fun hc => ?_)
      · have h3 : u ≤ i := (nI_leI (by omega) (by omega)).mp hc
        have h4 : i = u := by omega
        subst h4
        exact fin (g) _ _ _ _ dN_subtract_62 (sub_end hv hw hle hs hz hg) hP hD hS
      · have h3 : i < u := by
          rcases Nat.lt_or_ge i u with h | h
          · exact h
          · exact absurd (nI_le h (by omega)) hc
        have hlt := ul_lt (f i)
        have hlo := ul_lt (o i)
        have hgi := hg i (Nat.le_refl i)
        refine lv_lload_n hx hb dN_subtract_14 rfl (lv_at hl 1 rfl) ?_
        refine lv_aload_n hx hb dN_subtract_15 rfl (lv_at hl 2 rfl) ?_
        refine va_get (D := G) (ci := 0) (v := .ref hL) (C := RN) (T := TN) (N := 2) hx hb hts inN hown hK hP 0 rfl rfl 0 (by decide) (hts _ kw_1_52) (fun _ h9 => h9) rfl dN_subtract_16 ?_
        refine lv_iload hx hb dN_subtract_19 (lv_at hl 0 rfl) ?_
        refine ld_i hx hb hK hP 1 0 rfl rfl i (rfl) (by omega) (by decide) dN_subtract_21 ?_
        refine tp_i (y := f i) (hgi) ?_
        refine lv_i2l (v := (f i).toInt64) hx hb dN_subtract_22 (rfl) ?_
        refine lv_ldc2 (v := 4294967295) hx hb hown (hts _ kw_1_205) dN_subtract_23 ?_
        refine lv_land hx hb dN_subtract_26 ?_
        refine tp_l (y := lN (ul (f i))) (ul_mask (f i)) ?_
        refine lv_aload_n hx hb dN_subtract_27 rfl (lv_at hl 3 rfl) ?_
        refine va_get (D := G) (ci := 0) (v := .ref kL) (C := RN) (T := TN) (N := 2) hx hb hts inN hown hK hP 2 rfl rfl 0 (by decide) (hts _ kw_1_52) (fun _ h9 => h9) rfl dN_subtract_28 ?_
        refine lv_iload hx hb dN_subtract_31 (lv_at hl 0 rfl) ?_
        refine ld_i hx hb hK hP 3 0 rfl rfl i (rfl) (by omega) (by decide) dN_subtract_33 ?_
        refine lv_i2l (v := (o i).toInt64) hx hb dN_subtract_34 (rfl) ?_
        refine lv_ldc2 (v := 4294967295) hx hb hown (hts _ kw_1_205) dN_subtract_35 ?_
        refine lv_land hx hb dN_subtract_38 ?_
        refine tp_l (y := lN (ul (o i))) (ul_mask (o i)) ?_
        refine lv_lsub hx hb dN_subtract_39 ?_
        refine tp_l (y := lI ((ul (f i) : Int) - ul (o i))) (by rw [← lI_nat, ← lI_nat, lI_sub]) ?_
        refine lv_ladd hx hb dN_subtract_40 ?_
        refine tp_l (y := lI (z + ((ul (f i) : Int) - ul (o i)))) (lI_add _ _) ?_
        refine lv_lstore_n hx hb dN_subtract_41 rfl hl (by decide) rfl (fun ls hl => ?_)
        have hl : lv_has ls 5 [(2, .long (lI (z + ((ul (f i) : Int) - ul (o i))))), (4, .int (nI i)), (0, .ref h0), (1, .ref k0)] := hl
        refine lv_aload_n hx hb dN_subtract_42 rfl (lv_at hl 2 rfl) ?_
        refine va_get (D := G) (ci := 0) (v := .ref hL) (C := RN) (T := TN) (N := 2) hx hb hts inN hown hK hP 0 rfl rfl 0 (by decide) (hts _ kw_1_52) (fun _ h9 => h9) rfl dN_subtract_43 ?_
        refine lv_iload hx hb dN_subtract_46 (lv_at hl 1 rfl) ?_
        refine lv_lload_n hx hb dN_subtract_48 rfl (lv_at hl 0 rfl) ?_
        refine lv_l2i (v := iI (z + ((ul (f i) : Int) - ul (o i)))) hx hb dN_subtract_49 (lI_i _) ?_
        refine st_i hx hb hK hP hD hS 1 0 rfl rfl i (rfl) (by omega) (by decide) dN_subtract_50 (fun H locs hP hD hS => ?_)
        have hP : va_P G vwCl [(h0, .inr (0, [.ref hL, .int (nI u)])), (hL, .inl (cI, 28, .inl (upd g i (iI (z + ((ul (f i) : Int) - ul (o i))))))), (k0, .inr (0, [.ref kL, .int (nI t)])), (kL, .inl (cI, 28, .inl o))] H := hP
        have hD : va_D A [(h0, .inr (0, [.ref hL, .int (nI u)])), (hL, .inl (cI, 28, .inl (upd g i (iI (z + ((ul (f i) : Int) - ul (o i))))))), (k0, .inr (0, [.ref kL, .int (nI t)])), (kL, .inl (cI, 28, .inl o))] := hD
        refine lv_lload_n hx hb dN_subtract_51 rfl (lv_at hl 0 rfl) ?_
        refine lv_bipush (v := nI 32) hx hb dN_subtract_52 (by decide) ?_
        refine lv_lshr (v := lI ((z + ((ul (f i) : Int) - ul (o i))) / 2 ^ 32)) hx hb dN_subtract_54 (lI_shr (by omega) (by omega)) ?_
        refine lv_lstore_n hx hb dN_subtract_55 rfl hl (by decide) rfl (fun ls hl => ?_)
        have hl : lv_has ls 5 [(2, .long (lI ((z + ((ul (f i) : Int) - ul (o i))) / 2 ^ 32))), (4, .int (nI i)), (0, .ref h0), (1, .ref k0)] := hl
        refine lv_iinc (k := 1) (v := nI (i + 1)) hx hb dN_subtract_56 hl rfl (nI_1 i) (by decide) rfl (fun ls hl => ?_)
        have hl : lv_has ls 5 [(4, .int (nI (i + 1))), (2, .long (lI ((z + ((ul (f i) : Int) - ul (o i))) / 2 ^ 32))), (0, .ref h0), (1, .ref k0)] := hl
        refine lv_goto (tgt := 5) hx hb dN_subtract_59 (by decide) ?_
        exact ih (i + 1) (upd g i (iI (z + ((ul (f i) : Int) - ul (o i))))) ((z + ((ul (f i) : Int) - ul (o i))) / 2 ^ 32) _ _ _ (by omega) (by omega) (by omega) (fun j hj => by rw [pk_un (by omega), hg j (by omega)]) (sub_step hs rfl) hP hD hS hl
  exact lp (_ + 1) 0 f 0 _ _ _ (Nat.lt_succ_self _) (Nat.zero_le _) (Or.inl rfl) (fun _ _ => rfl) (by simp [nv]) hP hD hS hl
abbrev rmN_compare : Room := { frames := 1, cells := 0, slots := 0, locals := 23 }
set_option maxRecDepth 100000 in
set_option maxHeartbeats 4000000 in
theorem c_compare (h0 hL k0 kL u v t w : Nat) (f o : Nat → Int32) (hv : Nt f u v) (hw : Nt o t w) : CTi l G (tyL cI cB cC cJ) yN_compare cN_compare 4 .int rmN_compare [.ref h0, .ref k0] (wN cI h0 hL (f, u) ++ wN cI k0 kL (o, t)) (fun r (_ : Unit) => r = cm v w) (fun _ => wN cI h0 hL (f, u) ++ wN cI k0 kL (o, t)) := by
  have hu := hv.1
  have ht := hw.1
  refine mkI cN_compare 4 RN .int (by decide) rfl (Nat.le_of_ble_eq_true rfl) ?_
  intro p e s m args below meth c A Q ls hx hb hml hts hown hnm hK hP hD hA hl fin
  have hS : va_S A s.heap s.heap [] := va_S.rf
  have hl : lv_has ls 4 [(0, .ref h0), (1, .ref k0)] := hl
  have hP : va_P G vwCl [(h0, .inr (0, [.ref hL, .int (nI u)])), (hL, .inl (cI, 28, .inl f)), (k0, .inr (0, [.ref kL, .int (nI t)])), (kL, .inl (cI, 28, .inl o))] s.heap := hP
  have hD : va_D A [(h0, .inr (0, [.ref hL, .int (nI u)])), (hL, .inl (cI, 28, .inl f)), (k0, .inr (0, [.ref kL, .int (nI t)])), (kL, .inl (cI, 28, .inl o))] := hD
  refine lv_aload_n hx hb dN_compare_0 rfl (lv_at hl 0 rfl) ?_
  refine va_get (D := G) (ci := 0) (v := .int (nI u)) (C := RN) (T := TN) (N := 2) hx hb hts inN hown hK hP 0 rfl rfl 1 (by decide) (hts _ kw_1_53) (fun _ h9 => h9) rfl dN_compare_1 ?_
  refine lv_aload_n hx hb dN_compare_4 rfl (lv_at hl 1 rfl) ?_
  refine va_get (D := G) (ci := 0) (v := .int (nI t)) (C := RN) (T := TN) (N := 2) hx hb hts inN hown hK hP 2 rfl rfl 1 (by decide) (hts _ kw_1_53) (fun _ h9 => h9) rfl dN_compare_5 ?_
  refine va_mmax hx hb (hml.trans hl.1.symm) hown (hts _ kw_1_216) (hts _ kw_1_187) (hts _ kw_1_13) (hts _ kw_1_188) (Nat.le_of_ble_eq_true rfl) (Nat.le_of_ble_eq_true rfl) (Nat.le_of_ble_eq_true rfl) (Nat.le_of_ble_eq_true rfl) dN_compare_8 ?_
  refine lv_iconst (v := nI 1) hx hb dN_compare_11 (by decide) ?_
  refine lv_isub hx hb dN_compare_12 ?_
  refine tp_i (y := iI ((max u t : Nat) - 1 : Int)) (max_i hu ht) ?_
  refine lv_istore_n hx hb dN_compare_13 rfl hl (by decide) rfl (fun ls hl => ?_)
  have hl : lv_has ls 4 [(2, .int (iI ((max u t : Nat) - 1 : Int))), (0, .ref h0), (1, .ref k0)] := hl
  have lp : ∀ (n : Nat) (i : Nat) (H : Heap) (locs : List Loc) (ls : Array Slot), i < n → i ≤ 28 → (∀ j, i ≤ j → j < 28 → f j = o j) → va_P G vwCl [(h0, .inr (0, [.ref hL, .int (nI u)])), (hL, .inl (cI, 28, .inl f)), (k0, .inr (0, [.ref kL, .int (nI t)])), (kL, .inl (cI, 28, .inl o))] H → va_D A [(h0, .inr (0, [.ref hL, .int (nI u)])), (hL, .inl (cI, 28, .inl f)), (k0, .inr (0, [.ref kL, .int (nI t)])), (kL, .inl (cI, 28, .inl o))] → va_S A s.heap H locs → lv_has ls 4 [(2, .int (iI ((i : Nat) - 1 : Int))), (0, .ref h0), (1, .ref k0)] → W p l e rmN_compare s m args below meth c H locs 0 0 Q (F0 m 14 ls []) := by
    intro n
    induction n with
    | zero => intro i H locs ls hn; exact absurd hn (Nat.not_lt_zero _)
    | succ n ih =>
      intro i H locs ls hn hi he hP hD hS hl
      refine lv_iload_n hx hb dN_compare_14 rfl (lv_at hl 0 rfl) ?_
      refine lv_if_lt (tgt := 56) hx hb dN_compare_15 (by decide) (fun hc => ?_) (fun hc => ?_)
      · have h3 := (iI_lt (b := 0) (by omega) (by omega) (by decide) (by decide)).mp hc
        have h4 : i = 0 := by omega
        subst h4
        refine lv_iconst (v := nI 0) hx hb dN_compare_56 (by decide) ?_
        exact fin (nI 0) (()) _ _ _ _ dN_compare_57 (rfl) ((cm_all hv hw he).symm) hP hD hS
      · have h3 : ¬ ((i : Nat) - 1 : Int) < 0 := fun h => hc ((iI_lt (b := 0) (by omega) (by omega) (by decide) (by decide)).mpr h)
        obtain ⟨k, rfl⟩ : ∃ k, i = k + 1 := ⟨i - 1, by omega⟩
        have hlf := ul_lt (f k)
        have hlo := ul_lt (o k)
        refine lv_aload_n hx hb dN_compare_18 rfl (lv_at hl 1 rfl) ?_
        refine va_get (D := G) (ci := 0) (v := .ref hL) (C := RN) (T := TN) (N := 2) hx hb hts inN hown hK hP 0 rfl rfl 0 (by decide) (hts _ kw_1_52) (fun _ h9 => h9) rfl dN_compare_19 ?_
        refine lv_iload_n hx hb dN_compare_22 rfl (lv_at hl 0 rfl) ?_
        refine tp_i (y := nI k) (dec_i k) ?_
        refine ld_i hx hb hK hP 1 0 rfl rfl k (rfl) (by omega) (by decide) dN_compare_23 ?_
        refine lv_i2l (v := (f k).toInt64) hx hb dN_compare_24 (rfl) ?_
        refine lv_ldc2 (v := 4294967295) hx hb hown (hts _ kw_1_205) dN_compare_25 ?_
        refine lv_land hx hb dN_compare_28 ?_
        refine tp_l (y := lN (ul (f k))) (ul_mask (f k)) ?_
        refine lv_aload_n hx hb dN_compare_29 rfl (lv_at hl 2 rfl) ?_
        refine va_get (D := G) (ci := 0) (v := .ref kL) (C := RN) (T := TN) (N := 2) hx hb hts inN hown hK hP 2 rfl rfl 0 (by decide) (hts _ kw_1_52) (fun _ h9 => h9) rfl dN_compare_30 ?_
        refine lv_iload_n hx hb dN_compare_33 rfl (lv_at hl 0 rfl) ?_
        refine tp_i (y := nI k) (dec_i k) ?_
        refine ld_i hx hb hK hP 3 0 rfl rfl k (rfl) (by omega) (by decide) dN_compare_34 ?_
        refine lv_i2l (v := (o k).toInt64) hx hb dN_compare_35 (rfl) ?_
        refine lv_ldc2 (v := 4294967295) hx hb hown (hts _ kw_1_205) dN_compare_36 ?_
        refine lv_land hx hb dN_compare_39 ?_
        refine tp_l (y := lN (ul (o k))) (ul_mask (o k)) ?_
        refine jnI (Wr := [(h0, .inr (0, [.ref hL, .int (nI u)])), (hL, .inl (cI, 28, .inl f)), (k0, .inr (0, [.ref kL, .int (nI t)])), (kL, .inl (cI, 28, .inl o))]) (W2 := fun y => [(h0, .inr (0, [.ref hL, .int (nI u)])), (hL, .inl (cI, 28, .inl f)), (k0, .inr (0, [.ref kL, .int (nI t)])), (kL, .inl (cI, 28, .inl o))]) (rS (n := 2) (As := [.long (lN (ul (f k))), .long (lN (ul (o k)))]) (rest := []) hx hb hml hown hts (c_lcompare (ul (f k)) (ul (o k)) (by omega) (by omega) _) kw_1_219 kw_1_217 kw_1_218 kw_1_11 (by decide +kernel) ⟨Nat.le_of_ble_eq_true rfl, Nat.le_of_ble_eq_true rfl⟩ hK hP hD [] rfl rfl rfl rfl hl.1 rfl (lv_room (Nat.le_of_ble_eq_true rfl)) dN_compare_40 ⟨Nat.le_of_ble_eq_true rfl, Nat.le_of_ble_eq_true rfl⟩) hP hD hS hA [] [0, 1, 2, 3] [0, 1, 2, 3] rfl rfl rfl (by decide) (fun _ => rfl) rfl (fun r y H locs hq hP hD hS => ?_)
        have hP : va_P G vwCl [(h0, .inr (0, [.ref hL, .int (nI u)])), (hL, .inl (cI, 28, .inl f)), (k0, .inr (0, [.ref kL, .int (nI t)])), (kL, .inl (cI, 28, .inl o))] H := hP
        have hD : va_D A [(h0, .inr (0, [.ref hL, .int (nI u)])), (hL, .inl (cI, 28, .inl f)), (k0, .inr (0, [.ref kL, .int (nI t)])), (kL, .inl (cI, 28, .inl o))] := hD
        refine lv_istore_n hx hb dN_compare_43 rfl hl (by decide) rfl (fun ls hl => ?_)
        have hl : lv_has ls 4 [(3, .int r), (2, .int (iI (((k + 1 : Nat) : Int) - 1))), (0, .ref h0), (1, .ref k0)] := hl
        refine lv_iload_n hx hb dN_compare_44 rfl (lv_at hl 0 rfl) ?_
        refine lv_if_eq (tgt := 50) hx hb dN_compare_45 (by decide) (fun hc2 => ?_) (fun hc2 => ?_)
        · rw [hq] at hc2
          have he2 := ul_inj (cm_0 hc2)
          refine lv_iinc (k := 1) (v := iI ((k : Nat) - 1 : Int)) hx hb dN_compare_50 hl rfl (by rw [dec_i k, ← iI_nat]; exact iI_add _ _) (by decide) rfl (fun ls hl => ?_)
          have hl : lv_has ls 4 [(2, .int (iI ((k : Nat) - 1 : Int))), (3, .int r), (0, .ref h0), (1, .ref k0)] := hl
          refine lv_goto (tgt := 14) hx hb dN_compare_53 (by decide) ?_
          have hl : lv_has ls 4 [(2, .int (iI ((k : Nat) - 1 : Int))), (0, .ref h0), (1, .ref k0)] := lv_sub hl [0, 2, 3] rfl
          exact ih k _ _ _ (by omega) (by omega) (fun j h1 h2 => by
              by_cases hj : j = k
              · rw [hj]; exact he2
              · exact he j (by omega) h2) hP hD hS hl
        · refine lv_iload_n hx hb dN_compare_48 rfl (lv_at hl 0 rfl) ?_
          exact fin (r) (()) _ _ _ _ dN_compare_49 (rfl) (by rw [hq] at hc2 ⊢; exact cmp_at hv hw (by omega) he hc2) hP hD hS
  exact lp (_ + 1) (max u t) _ _ _ (Nat.lt_succ_self _) (by omega) (fun j h1 h2 => by rw [hv.2.1 j (by omega) h2, hw.2.1 j (by omega) h2]) hP hD hS hl
abbrev rmN_setSum : Room := { frames := 1, cells := 0, slots := 0, locals := 21 }
set_option maxRecDepth 100000 in
set_option maxHeartbeats 4000000 in
theorem c_setSum (h0 hL a0 aL b0 bL u v ua va ub vb : Nat) (f fa fb : Nat → Int32) (hv : Nt f u v) (ha : Nt fa ua va) (hb8 : Nt fb ub vb) (hb9 : va + vb < 2 ^ 896) : CTv l G (tyL cI cB cC cJ) yN_setSum cN_setSum 6 rmN_setSum [.ref h0, .ref a0, .ref b0] (wN cI h0 hL (f, u) ++ wN cI a0 aL (fa, ua) ++ wN cI b0 bL (fb, ub)) (fun q : (Nat → Int32) × Nat => Nt q.1 q.2 (va + vb)) (fun q => wN cI h0 hL q ++ wN cI a0 aL (fa, ua) ++ wN cI b0 bL (fb, ub)) := by
  have hu := hv.1
  have hua := ha.1
  have hub := hb8.1
  refine mkV cN_setSum 6 RN (by decide) rfl (Nat.le_of_ble_eq_true rfl) ?_
  intro p e s m args below meth c A Q ls hx hb hml hts hown hnm hK hP hD hA hl fin
  have hS : va_S A s.heap s.heap [] := va_S.rf
  have hl : lv_has ls 6 [(0, .ref h0), (1, .ref a0), (2, .ref b0)] := hl
  have hP : va_P G vwCl [(h0, .inr (0, [.ref hL, .int (nI u)])), (hL, .inl (cI, 28, .inl f)), (a0, .inr (0, [.ref aL, .int (nI ua)])), (aL, .inl (cI, 28, .inl fa)), (b0, .inr (0, [.ref bL, .int (nI ub)])), (bL, .inl (cI, 28, .inl fb))] s.heap := hP
  have hD : va_D A [(h0, .inr (0, [.ref hL, .int (nI u)])), (hL, .inl (cI, 28, .inl f)), (a0, .inr (0, [.ref aL, .int (nI ua)])), (aL, .inl (cI, 28, .inl fa)), (b0, .inr (0, [.ref bL, .int (nI ub)])), (bL, .inl (cI, 28, .inl fb))] := hD
  refine lv_aload_n hx hb dN_setSum_0 rfl (lv_at hl 0 rfl) ?_
  refine jnV (Wr := [(a0, .inr (0, [.ref aL, .int (nI ua)])), (aL, .inl (cI, 28, .inl fa)), (b0, .inr (0, [.ref bL, .int (nI ub)])), (bL, .inl (cI, 28, .inl fb))]) (W2 := fun g0 => [(h0, .inr (0, [.ref hL, .int (nI 0)])), (hL, .inl (cI, 28, .inl g0)), (a0, .inr (0, [.ref aL, .int (nI ua)])), (aL, .inl (cI, 28, .inl fa)), (b0, .inr (0, [.ref bL, .int (nI ub)])), (bL, .inl (cI, 28, .inl fb))]) (rV (n := 0) (As := []) (rest := []) hx hb hml hown hts (c_clear h0 hL u f hu _) kw_1_197 kw_1_194 kw_1_196 kw_0_3 kw_1_4 (by decide +kernel) ⟨Nat.le_of_ble_eq_true rfl, Nat.le_of_ble_eq_true rfl⟩ hK hP hD [0, 1] rfl rfl 0 rfl rfl rfl rfl hl.1 rfl (lv_room (Nat.le_of_ble_eq_true rfl)) dN_setSum_1 ⟨Nat.le_of_ble_eq_true rfl, Nat.le_of_ble_eq_true rfl⟩) hP hD hS hA [0, 1] [2, 3, 4, 5] [4, 5, 0, 1, 2, 3] rfl rfl rfl (by decide) (fun _ => rfl) rfl (fun g0 H locs hq0 hP hD hS => ?_)
  have hP : va_P G vwCl [(h0, .inr (0, [.ref hL, .int (nI 0)])), (hL, .inl (cI, 28, .inl g0)), (a0, .inr (0, [.ref aL, .int (nI ua)])), (aL, .inl (cI, 28, .inl fa)), (b0, .inr (0, [.ref bL, .int (nI ub)])), (bL, .inl (cI, 28, .inl fb))] H := hP
  have hD : va_D A [(h0, .inr (0, [.ref hL, .int (nI 0)])), (hL, .inl (cI, 28, .inl g0)), (a0, .inr (0, [.ref aL, .int (nI ua)])), (aL, .inl (cI, 28, .inl fa)), (b0, .inr (0, [.ref bL, .int (nI ub)])), (bL, .inl (cI, 28, .inl fb))] := hD
  have hz0 : ∀ j, j < 28 → g0 j = 0 := fun j hj => by
    rw [hq0 j]
    by_cases h : j < u
    · rw [if_pos h]
    · rw [if_neg h]; exact hv.2.1 j (by omega) hj
  refine lv_aload_n hx hb dN_setSum_4 rfl (lv_at hl 0 rfl) ?_
  refine lv_aload_n hx hb dN_setSum_5 rfl (lv_at hl 1 rfl) ?_
  refine va_get (D := G) (ci := 0) (v := .int (nI ua)) (C := RN) (T := TN) (N := 2) hx hb hts inN hown hK hP 2 rfl rfl 1 (by decide) (hts _ kw_1_53) (fun _ h9 => h9) rfl dN_setSum_6 ?_
  refine lv_aload_n hx hb dN_setSum_9 rfl (lv_at hl 2 rfl) ?_
  refine va_get (D := G) (ci := 0) (v := .int (nI ub)) (C := RN) (T := TN) (N := 2) hx hb hts inN hown hK hP 4 rfl rfl 1 (by decide) (hts _ kw_1_53) (fun _ h9 => h9) rfl dN_setSum_10 ?_
  refine va_mmax hx hb (hml.trans hl.1.symm) hown (hts _ kw_1_216) (hts _ kw_1_187) (hts _ kw_1_13) (hts _ kw_1_188) (Nat.le_of_ble_eq_true rfl) (Nat.le_of_ble_eq_true rfl) (Nat.le_of_ble_eq_true rfl) (Nat.le_of_ble_eq_true rfl) dN_setSum_13 ?_
  refine tp_i (y := nI (max ua ub)) (nmax (by omega) (by omega)) ?_
  refine va_put (D := G) (ci := 0) (v := .int (nI (max ua ub))) (C := RN) (T := TN) (N := 2) hx hb hts inN tyN tyN_ok nmN hown hK hP hD hS 0 rfl rfl 1 (by decide) (hts _ kw_1_53) (fun _ h9 => h9) rfl (tyN_ok 1 (by decide)) (rfl) (rfl) (Nat.le_of_ble_eq_true rfl) dN_setSum_16 (fun H locs hP hD hS => ?_)
  have hP : va_P G vwCl [(h0, .inr (0, [.ref hL, .int (nI (max ua ub))])), (hL, .inl (cI, 28, .inl g0)), (a0, .inr (0, [.ref aL, .int (nI ua)])), (aL, .inl (cI, 28, .inl fa)), (b0, .inr (0, [.ref bL, .int (nI ub)])), (bL, .inl (cI, 28, .inl fb))] H := hP
  have hD : va_D A [(h0, .inr (0, [.ref hL, .int (nI (max ua ub))])), (hL, .inl (cI, 28, .inl g0)), (a0, .inr (0, [.ref aL, .int (nI ua)])), (aL, .inl (cI, 28, .inl fa)), (b0, .inr (0, [.ref bL, .int (nI ub)])), (bL, .inl (cI, 28, .inl fb))] := hD
  refine lv_lconst (v := lN 0) hx hb dN_setSum_19 (by decide) ?_
  refine lv_lstore_n hx hb dN_setSum_20 rfl hl (by decide) rfl (fun ls hl => ?_)
  have hl : lv_has ls 6 [(3, .long (lN 0)), (0, .ref h0), (1, .ref a0), (2, .ref b0)] := hl
  refine lv_iconst (v := nI 0) hx hb dN_setSum_21 (by decide) ?_
  refine lv_istore hx hb dN_setSum_22 hl (by decide) rfl (fun ls hl => ?_)
  have hl : lv_has ls 6 [(5, .int (nI 0)), (3, .long (lN 0)), (0, .ref h0), (1, .ref a0), (2, .ref b0)] := hl
  have lp : ∀ (n : Nat) (i : Nat) (g : Nat → Int32) (cy : Nat) (H : Heap) (locs : List Loc) (ls : Array Slot), max ua ub - i < n → i ≤ max ua ub → cy ≤ 1 → (∀ j, i ≤ j → j < 28 → g j = 0) → nv g i + cy * 2 ^ (32 * i) = nv fa i + nv fb i → va_P G vwCl [(h0, .inr (0, [.ref hL, .int (nI (max ua ub))])), (hL, .inl (cI, 28, .inl g)), (a0, .inr (0, [.ref aL, .int (nI ua)])), (aL, .inl (cI, 28, .inl fa)), (b0, .inr (0, [.ref bL, .int (nI ub)])), (bL, .inl (cI, 28, .inl fb))] H → va_D A [(h0, .inr (0, [.ref hL, .int (nI (max ua ub))])), (hL, .inl (cI, 28, .inl g)), (a0, .inr (0, [.ref aL, .int (nI ua)])), (aL, .inl (cI, 28, .inl fa)), (b0, .inr (0, [.ref bL, .int (nI ub)])), (bL, .inl (cI, 28, .inl fb))] → va_S A s.heap H locs → lv_has ls 6 [(5, .int (nI i)), (3, .long (lN cy)), (0, .ref h0), (1, .ref a0), (2, .ref b0)] → W p l e rmN_setSum s m args below meth c H locs 0 0 Q (F0 m 24 ls []) := by
    intro n
    induction n with
    | zero => intro i g cy H locs ls hn; exact absurd hn (Nat.not_lt_zero _)
    | succ n ih =>
      intro i g cy H locs ls hn hi hcy hg hs hP hD hS hl
      refine lv_iload hx hb dN_setSum_24 (lv_at hl 0 rfl) ?_
      refine lv_aload_n hx hb dN_setSum_26 rfl (lv_at hl 2 rfl) ?_
      refine va_get (D := G) (ci := 0) (v := .int (nI (max ua ub))) (C := RN) (T := TN) (N := 2) hx hb hts inN hown hK hP 0 rfl rfl 1 (by decide) (hts _ kw_1_53) (fun _ h9 => h9) rfl dN_setSum_27 ?_
      refine lv_icmp_ge (tgt := 81) hx hb dN_setSum_30 (by decide) (fun hc => ?_) (fun hc => ?_)
      · have h3 : max ua ub ≤ i := (nI_leI (by omega) (by omega)).mp hc
        have h4 : i = max ua ub := by omega
        refine lv_aload_n hx hb dN_setSum_81 rfl (lv_at hl 2 rfl) ?_
        refine lv_lload_n hx hb dN_setSum_82 rfl (lv_at hl 1 rfl) ?_
        refine lv_l2i (v := nI cy) hx hb dN_setSum_83 (lN_i cy) ?_
        refine jnV (Wr := [(a0, .inr (0, [.ref aL, .int (nI ua)])), (aL, .inl (cI, 28, .inl fa)), (b0, .inr (0, [.ref bL, .int (nI ub)])), (bL, .inl (cI, 28, .inl fb))]) (W2 := fun q => [(h0, .inr (0, [.ref hL, .int (nI q.2)])), (hL, .inl (cI, 28, .inl q.1)), (a0, .inr (0, [.ref aL, .int (nI ua)])), (aL, .inl (cI, 28, .inl fa)), (b0, .inr (0, [.ref bL, .int (nI ub)])), (bL, .inl (cI, 28, .inl fb))]) (rV (n := 1) (As := [.int (nI cy)]) (rest := []) hx hb hml hown hts (c_append h0 hL (max ua ub) g (nI cy) (by omega) _) kw_1_209 kw_1_206 kw_1_208 kw_0_4 kw_1_4 (by decide +kernel) ⟨Nat.le_of_ble_eq_true rfl, Nat.le_of_ble_eq_true rfl⟩ hK hP hD [0, 1] rfl rfl 0 rfl rfl rfl rfl hl.1 rfl (lv_room (Nat.le_of_ble_eq_true rfl)) dN_setSum_84 ⟨Nat.le_of_ble_eq_true rfl, Nat.le_of_ble_eq_true rfl⟩) hP hD hS hA [0, 1] [2, 3, 4, 5] [4, 5, 0, 1, 2, 3] rfl rfl rfl (by decide) (fun _ => rfl) rfl (fun q H locs hq hP hD hS => ?_)
        have hP : va_P G vwCl [(h0, .inr (0, [.ref hL, .int (nI q.2)])), (hL, .inl (cI, 28, .inl q.1)), (a0, .inr (0, [.ref aL, .int (nI ua)])), (aL, .inl (cI, 28, .inl fa)), (b0, .inr (0, [.ref bL, .int (nI ub)])), (bL, .inl (cI, 28, .inl fb))] H := hP
        have hD : va_D A [(h0, .inr (0, [.ref hL, .int (nI q.2)])), (hL, .inl (cI, 28, .inl q.1)), (a0, .inr (0, [.ref aL, .int (nI ua)])), (aL, .inl (cI, 28, .inl fa)), (b0, .inr (0, [.ref bL, .int (nI ub)])), (bL, .inl (cI, 28, .inl fb))] := hD
        rw [h4, ha.full (by omega) (by omega), hb8.full (by omega) (by omega)] at hs
        exact fin (q) _ _ _ _ dN_setSum_87 (by rw [hq]; exact apd_end (by omega) hs (fun j h1 h2 => hg j (by omega) h2) (by omega) hb9) hP hD hS
      · have h3 : i < max ua ub := by
          rcases Nat.lt_or_ge i (max ua ub) with h | h
          · exact h
          · exact absurd (nI_le h (by omega)) hc
        have hla := ul_lt (fa i)
        have hlb := ul_lt (fb i)
        refine lv_lload_n hx hb dN_setSum_33 rfl (lv_at hl 1 rfl) ?_
        refine lv_aload_n hx hb dN_setSum_34 rfl (lv_at hl 3 rfl) ?_
        refine va_get (D := G) (ci := 0) (v := .ref aL) (C := RN) (T := TN) (N := 2) hx hb hts inN hown hK hP 2 rfl rfl 0 (by decide) (hts _ kw_1_52) (fun _ h9 => h9) rfl dN_setSum_35 ?_
        refine lv_iload hx hb dN_setSum_38 (lv_at hl 0 rfl) ?_
        refine ld_i hx hb hK hP 3 0 rfl rfl i (rfl) (by omega) (by decide) dN_setSum_40 ?_
        refine lv_i2l (v := (fa i).toInt64) hx hb dN_setSum_41 (rfl) ?_
        refine lv_ldc2 (v := 4294967295) hx hb hown (hts _ kw_1_205) dN_setSum_42 ?_
        refine lv_land hx hb dN_setSum_45 ?_
        refine tp_l (y := lN (ul (fa i))) (ul_mask (fa i)) ?_
        refine lv_aload_n hx hb dN_setSum_46 rfl (lv_at hl 4 rfl) ?_
        refine va_get (D := G) (ci := 0) (v := .ref bL) (C := RN) (T := TN) (N := 2) hx hb hts inN hown hK hP 4 rfl rfl 0 (by decide) (hts _ kw_1_52) (fun _ h9 => h9) rfl dN_setSum_47 ?_
        refine lv_iload hx hb dN_setSum_50 (lv_at hl 0 rfl) ?_
        refine ld_i hx hb hK hP 5 0 rfl rfl i (rfl) (by omega) (by decide) dN_setSum_52 ?_
        refine lv_i2l (v := (fb i).toInt64) hx hb dN_setSum_53 (rfl) ?_
        refine lv_ldc2 (v := 4294967295) hx hb hown (hts _ kw_1_205) dN_setSum_54 ?_
        refine lv_land hx hb dN_setSum_57 ?_
        refine tp_l (y := lN (ul (fb i))) (ul_mask (fb i)) ?_
        refine lv_ladd hx hb dN_setSum_58 ?_
        refine tp_l (y := lN (ul (fa i) + ul (fb i))) (lN_add _ _) ?_
        refine lv_ladd hx hb dN_setSum_59 ?_
        refine tp_l (y := lN (cy + (ul (fa i) + ul (fb i)))) (lN_add _ _) ?_
        refine lv_lstore_n hx hb dN_setSum_60 rfl hl (by decide) rfl (fun ls hl => ?_)
        have hl : lv_has ls 6 [(3, .long (lN (cy + (ul (fa i) + ul (fb i))))), (5, .int (nI i)), (0, .ref h0), (1, .ref a0), (2, .ref b0)] := hl
        refine lv_aload_n hx hb dN_setSum_61 rfl (lv_at hl 2 rfl) ?_
        refine va_get (D := G) (ci := 0) (v := .ref hL) (C := RN) (T := TN) (N := 2) hx hb hts inN hown hK hP 0 rfl rfl 0 (by decide) (hts _ kw_1_52) (fun _ h9 => h9) rfl dN_setSum_62 ?_
        refine lv_iload hx hb dN_setSum_65 (lv_at hl 1 rfl) ?_
        refine lv_lload_n hx hb dN_setSum_67 rfl (lv_at hl 0 rfl) ?_
        refine lv_l2i (v := nI (cy + (ul (fa i) + ul (fb i)))) hx hb dN_setSum_68 (lN_i _) ?_
        refine st_i hx hb hK hP hD hS 1 0 rfl rfl i (rfl) (by omega) (by decide) dN_setSum_69 (fun H locs hP hD hS => ?_)
        have hP : va_P G vwCl [(h0, .inr (0, [.ref hL, .int (nI (max ua ub))])), (hL, .inl (cI, 28, .inl (upd g i (nI (cy + (ul (fa i) + ul (fb i))))))), (a0, .inr (0, [.ref aL, .int (nI ua)])), (aL, .inl (cI, 28, .inl fa)), (b0, .inr (0, [.ref bL, .int (nI ub)])), (bL, .inl (cI, 28, .inl fb))] H := hP
        have hD : va_D A [(h0, .inr (0, [.ref hL, .int (nI (max ua ub))])), (hL, .inl (cI, 28, .inl (upd g i (nI (cy + (ul (fa i) + ul (fb i))))))), (a0, .inr (0, [.ref aL, .int (nI ua)])), (aL, .inl (cI, 28, .inl fa)), (b0, .inr (0, [.ref bL, .int (nI ub)])), (bL, .inl (cI, 28, .inl fb))] := hD
        refine lv_lload_n hx hb dN_setSum_70 rfl (lv_at hl 0 rfl) ?_
        refine lv_bipush (v := nI 32) hx hb dN_setSum_71 (by decide) ?_
        refine lv_lushr (v := lN ((cy + (ul (fa i) + ul (fb i))) / 2 ^ 32)) hx hb dN_setSum_73 (wb_shr (by omega) (by decide)) ?_
        refine lv_lstore_n hx hb dN_setSum_74 rfl hl (by decide) rfl (fun ls hl => ?_)
        have hl : lv_has ls 6 [(3, .long (lN ((cy + (ul (fa i) + ul (fb i))) / 2 ^ 32))), (5, .int (nI i)), (0, .ref h0), (1, .ref a0), (2, .ref b0)] := hl
        refine lv_iinc (k := 1) (v := nI (i + 1)) hx hb dN_setSum_75 hl rfl (nI_1 i) (by decide) rfl (fun ls hl => ?_)
        have hl : lv_has ls 6 [(5, .int (nI (i + 1))), (3, .long (lN ((cy + (ul (fa i) + ul (fb i))) / 2 ^ 32))), (0, .ref h0), (1, .ref a0), (2, .ref b0)] := hl
        refine lv_goto (tgt := 24) hx hb dN_setSum_78 (by decide) ?_
        exact ih (i + 1) (upd g i (nI (cy + (ul (fa i) + ul (fb i))))) ((cy + (ul (fa i) + ul (fb i))) / 2 ^ 32) _ _ _ (by omega) (by omega) (by omega) (fun j hj hj2 => by rw [pk_un (by omega), hg j (by omega) hj2]) (add_step hs rfl) hP hD hS hl
  exact lp (_ + 1) 0 g0 0 _ _ _ (Nat.lt_succ_self _) (Nat.zero_le _) (Nat.zero_le _) (fun j _ hj => hz0 j hj) (by simp [nv]) hP hD hS hl
set_option maxRecDepth 100000 in
set_option maxHeartbeats 4000000 in
theorem c_setSum1 (h0 hL a0 aL u v ua va : Nat) (f fa : Nat → Int32) (hv : Nt f u v) (ha : Nt fa ua va) (hb9 : va + va < 2 ^ 896) : CTv l G (tyL cI cB cC cJ) yN_setSum cN_setSum 6 rmN_setSum [.ref h0, .ref a0, .ref a0] (wN cI h0 hL (f, u) ++ wN cI a0 aL (fa, ua)) (fun q : (Nat → Int32) × Nat => Nt q.1 q.2 (va + va)) (fun q => wN cI h0 hL q ++ wN cI a0 aL (fa, ua)) := by
  have hu := hv.1
  have hua := ha.1
  refine mkV cN_setSum 6 RN (by decide) rfl (Nat.le_of_ble_eq_true rfl) ?_
  intro p e s m args below meth c A Q ls hx hb hml hts hown hnm hK hP hD hA hl fin
  have hS : va_S A s.heap s.heap [] := va_S.rf
  have hl : lv_has ls 6 [(0, .ref h0), (1, .ref a0), (2, .ref a0)] := hl
  have hP : va_P G vwCl [(h0, .inr (0, [.ref hL, .int (nI u)])), (hL, .inl (cI, 28, .inl f)), (a0, .inr (0, [.ref aL, .int (nI ua)])), (aL, .inl (cI, 28, .inl fa))] s.heap := hP
  have hD : va_D A [(h0, .inr (0, [.ref hL, .int (nI u)])), (hL, .inl (cI, 28, .inl f)), (a0, .inr (0, [.ref aL, .int (nI ua)])), (aL, .inl (cI, 28, .inl fa))] := hD
  refine lv_aload_n hx hb dN_setSum_0 rfl (lv_at hl 0 rfl) ?_
  refine jnV (Wr := [(a0, .inr (0, [.ref aL, .int (nI ua)])), (aL, .inl (cI, 28, .inl fa))]) (W2 := fun g0 => [(h0, .inr (0, [.ref hL, .int (nI 0)])), (hL, .inl (cI, 28, .inl g0)), (a0, .inr (0, [.ref aL, .int (nI ua)])), (aL, .inl (cI, 28, .inl fa))]) (rV (n := 0) (As := []) (rest := []) hx hb hml hown hts (c_clear h0 hL u f hu _) kw_1_197 kw_1_194 kw_1_196 kw_0_3 kw_1_4 (by decide +kernel) ⟨Nat.le_of_ble_eq_true rfl, Nat.le_of_ble_eq_true rfl⟩ hK hP hD [0, 1] rfl rfl 0 rfl rfl rfl rfl hl.1 rfl (lv_room (Nat.le_of_ble_eq_true rfl)) dN_setSum_1 ⟨Nat.le_of_ble_eq_true rfl, Nat.le_of_ble_eq_true rfl⟩) hP hD hS hA [0, 1] [2, 3] [2, 3, 0, 1] rfl rfl rfl (by decide) (fun _ => rfl) rfl (fun g0 H locs hq0 hP hD hS => ?_)
  have hP : va_P G vwCl [(h0, .inr (0, [.ref hL, .int (nI 0)])), (hL, .inl (cI, 28, .inl g0)), (a0, .inr (0, [.ref aL, .int (nI ua)])), (aL, .inl (cI, 28, .inl fa))] H := hP
  have hD : va_D A [(h0, .inr (0, [.ref hL, .int (nI 0)])), (hL, .inl (cI, 28, .inl g0)), (a0, .inr (0, [.ref aL, .int (nI ua)])), (aL, .inl (cI, 28, .inl fa))] := hD
  have hz0 : ∀ j, j < 28 → g0 j = 0 := fun j hj => by
    rw [hq0 j]
    by_cases h : j < u
    · rw [if_pos h]
    · rw [if_neg h]; exact hv.2.1 j (by omega) hj
  refine lv_aload_n hx hb dN_setSum_4 rfl (lv_at hl 0 rfl) ?_
  refine lv_aload_n hx hb dN_setSum_5 rfl (lv_at hl 1 rfl) ?_
  refine va_get (D := G) (ci := 0) (v := .int (nI ua)) (C := RN) (T := TN) (N := 2) hx hb hts inN hown hK hP 2 rfl rfl 1 (by decide) (hts _ kw_1_53) (fun _ h9 => h9) rfl dN_setSum_6 ?_
  refine lv_aload_n hx hb dN_setSum_9 rfl (lv_at hl 2 rfl) ?_
  refine va_get (D := G) (ci := 0) (v := .int (nI ua)) (C := RN) (T := TN) (N := 2) hx hb hts inN hown hK hP 2 rfl rfl 1 (by decide) (hts _ kw_1_53) (fun _ h9 => h9) rfl dN_setSum_10 ?_
  refine va_mmax hx hb (hml.trans hl.1.symm) hown (hts _ kw_1_216) (hts _ kw_1_187) (hts _ kw_1_13) (hts _ kw_1_188) (Nat.le_of_ble_eq_true rfl) (Nat.le_of_ble_eq_true rfl) (Nat.le_of_ble_eq_true rfl) (Nat.le_of_ble_eq_true rfl) dN_setSum_13 ?_
  refine tp_i (y := nI (max ua ua)) (nmax (by omega) (by omega)) ?_
  refine va_put (D := G) (ci := 0) (v := .int (nI (max ua ua))) (C := RN) (T := TN) (N := 2) hx hb hts inN tyN tyN_ok nmN hown hK hP hD hS 0 rfl rfl 1 (by decide) (hts _ kw_1_53) (fun _ h9 => h9) rfl (tyN_ok 1 (by decide)) (rfl) (rfl) (Nat.le_of_ble_eq_true rfl) dN_setSum_16 (fun H locs hP hD hS => ?_)
  have hP : va_P G vwCl [(h0, .inr (0, [.ref hL, .int (nI (max ua ua))])), (hL, .inl (cI, 28, .inl g0)), (a0, .inr (0, [.ref aL, .int (nI ua)])), (aL, .inl (cI, 28, .inl fa))] H := hP
  have hD : va_D A [(h0, .inr (0, [.ref hL, .int (nI (max ua ua))])), (hL, .inl (cI, 28, .inl g0)), (a0, .inr (0, [.ref aL, .int (nI ua)])), (aL, .inl (cI, 28, .inl fa))] := hD
  refine lv_lconst (v := lN 0) hx hb dN_setSum_19 (by decide) ?_
  refine lv_lstore_n hx hb dN_setSum_20 rfl hl (by decide) rfl (fun ls hl => ?_)
  have hl : lv_has ls 6 [(3, .long (lN 0)), (0, .ref h0), (1, .ref a0), (2, .ref a0)] := hl
  refine lv_iconst (v := nI 0) hx hb dN_setSum_21 (by decide) ?_
  refine lv_istore hx hb dN_setSum_22 hl (by decide) rfl (fun ls hl => ?_)
  have hl : lv_has ls 6 [(5, .int (nI 0)), (3, .long (lN 0)), (0, .ref h0), (1, .ref a0), (2, .ref a0)] := hl
  have lp : ∀ (n : Nat) (i : Nat) (g : Nat → Int32) (cy : Nat) (H : Heap) (locs : List Loc) (ls : Array Slot), max ua ua - i < n → i ≤ max ua ua → cy ≤ 1 → (∀ j, i ≤ j → j < 28 → g j = 0) → nv g i + cy * 2 ^ (32 * i) = nv fa i + nv fa i → va_P G vwCl [(h0, .inr (0, [.ref hL, .int (nI (max ua ua))])), (hL, .inl (cI, 28, .inl g)), (a0, .inr (0, [.ref aL, .int (nI ua)])), (aL, .inl (cI, 28, .inl fa))] H → va_D A [(h0, .inr (0, [.ref hL, .int (nI (max ua ua))])), (hL, .inl (cI, 28, .inl g)), (a0, .inr (0, [.ref aL, .int (nI ua)])), (aL, .inl (cI, 28, .inl fa))] → va_S A s.heap H locs → lv_has ls 6 [(5, .int (nI i)), (3, .long (lN cy)), (0, .ref h0), (1, .ref a0), (2, .ref a0)] → W p l e rmN_setSum s m args below meth c H locs 0 0 Q (F0 m 24 ls []) := by
    intro n
    induction n with
    | zero => intro i g cy H locs ls hn; exact absurd hn (Nat.not_lt_zero _)
    | succ n ih =>
      intro i g cy H locs ls hn hi hcy hg hs hP hD hS hl
      refine lv_iload hx hb dN_setSum_24 (lv_at hl 0 rfl) ?_
      refine lv_aload_n hx hb dN_setSum_26 rfl (lv_at hl 2 rfl) ?_
      refine va_get (D := G) (ci := 0) (v := .int (nI (max ua ua))) (C := RN) (T := TN) (N := 2) hx hb hts inN hown hK hP 0 rfl rfl 1 (by decide) (hts _ kw_1_53) (fun _ h9 => h9) rfl dN_setSum_27 ?_
      refine lv_icmp_ge (tgt := 81) hx hb dN_setSum_30 (by decide) (fun hc => ?_) (fun hc => ?_)
      · have h3 : max ua ua ≤ i := (nI_leI (by omega) (by omega)).mp hc
        have h4 : i = max ua ua := by omega
        refine lv_aload_n hx hb dN_setSum_81 rfl (lv_at hl 2 rfl) ?_
        refine lv_lload_n hx hb dN_setSum_82 rfl (lv_at hl 1 rfl) ?_
        refine lv_l2i (v := nI cy) hx hb dN_setSum_83 (lN_i cy) ?_
        refine jnV (Wr := [(a0, .inr (0, [.ref aL, .int (nI ua)])), (aL, .inl (cI, 28, .inl fa))]) (W2 := fun q => [(h0, .inr (0, [.ref hL, .int (nI q.2)])), (hL, .inl (cI, 28, .inl q.1)), (a0, .inr (0, [.ref aL, .int (nI ua)])), (aL, .inl (cI, 28, .inl fa))]) (rV (n := 1) (As := [.int (nI cy)]) (rest := []) hx hb hml hown hts (c_append h0 hL (max ua ua) g (nI cy) (by omega) _) kw_1_209 kw_1_206 kw_1_208 kw_0_4 kw_1_4 (by decide +kernel) ⟨Nat.le_of_ble_eq_true rfl, Nat.le_of_ble_eq_true rfl⟩ hK hP hD [0, 1] rfl rfl 0 rfl rfl rfl rfl hl.1 rfl (lv_room (Nat.le_of_ble_eq_true rfl)) dN_setSum_84 ⟨Nat.le_of_ble_eq_true rfl, Nat.le_of_ble_eq_true rfl⟩) hP hD hS hA [0, 1] [2, 3] [2, 3, 0, 1] rfl rfl rfl (by decide) (fun _ => rfl) rfl (fun q H locs hq hP hD hS => ?_)
        have hP : va_P G vwCl [(h0, .inr (0, [.ref hL, .int (nI q.2)])), (hL, .inl (cI, 28, .inl q.1)), (a0, .inr (0, [.ref aL, .int (nI ua)])), (aL, .inl (cI, 28, .inl fa))] H := hP
        have hD : va_D A [(h0, .inr (0, [.ref hL, .int (nI q.2)])), (hL, .inl (cI, 28, .inl q.1)), (a0, .inr (0, [.ref aL, .int (nI ua)])), (aL, .inl (cI, 28, .inl fa))] := hD
        rw [h4, ha.full (by omega) (by omega)] at hs
        exact fin (q) _ _ _ _ dN_setSum_87 (by rw [hq]; exact apd_end (by omega) hs (fun j h1 h2 => hg j (by omega) h2) (by omega) hb9) hP hD hS
      · have h3 : i < max ua ua := by
          rcases Nat.lt_or_ge i (max ua ua) with h | h
          · exact h
          · exact absurd (nI_le h (by omega)) hc
        have hla := ul_lt (fa i)
        have hlb := ul_lt (fa i)
        refine lv_lload_n hx hb dN_setSum_33 rfl (lv_at hl 1 rfl) ?_
        refine lv_aload_n hx hb dN_setSum_34 rfl (lv_at hl 3 rfl) ?_
        refine va_get (D := G) (ci := 0) (v := .ref aL) (C := RN) (T := TN) (N := 2) hx hb hts inN hown hK hP 2 rfl rfl 0 (by decide) (hts _ kw_1_52) (fun _ h9 => h9) rfl dN_setSum_35 ?_
        refine lv_iload hx hb dN_setSum_38 (lv_at hl 0 rfl) ?_
        refine ld_i hx hb hK hP 3 0 rfl rfl i (rfl) (by omega) (by decide) dN_setSum_40 ?_
        refine lv_i2l (v := (fa i).toInt64) hx hb dN_setSum_41 (rfl) ?_
        refine lv_ldc2 (v := 4294967295) hx hb hown (hts _ kw_1_205) dN_setSum_42 ?_
        refine lv_land hx hb dN_setSum_45 ?_
        refine tp_l (y := lN (ul (fa i))) (ul_mask (fa i)) ?_
        refine lv_aload_n hx hb dN_setSum_46 rfl (lv_at hl 4 rfl) ?_
        refine va_get (D := G) (ci := 0) (v := .ref aL) (C := RN) (T := TN) (N := 2) hx hb hts inN hown hK hP 2 rfl rfl 0 (by decide) (hts _ kw_1_52) (fun _ h9 => h9) rfl dN_setSum_47 ?_
        refine lv_iload hx hb dN_setSum_50 (lv_at hl 0 rfl) ?_
        refine ld_i hx hb hK hP 3 0 rfl rfl i (rfl) (by omega) (by decide) dN_setSum_52 ?_
        refine lv_i2l (v := (fa i).toInt64) hx hb dN_setSum_53 (rfl) ?_
        refine lv_ldc2 (v := 4294967295) hx hb hown (hts _ kw_1_205) dN_setSum_54 ?_
        refine lv_land hx hb dN_setSum_57 ?_
        refine tp_l (y := lN (ul (fa i))) (ul_mask (fa i)) ?_
        refine lv_ladd hx hb dN_setSum_58 ?_
        refine tp_l (y := lN (ul (fa i) + ul (fa i))) (lN_add _ _) ?_
        refine lv_ladd hx hb dN_setSum_59 ?_
        refine tp_l (y := lN (cy + (ul (fa i) + ul (fa i)))) (lN_add _ _) ?_
        refine lv_lstore_n hx hb dN_setSum_60 rfl hl (by decide) rfl (fun ls hl => ?_)
        have hl : lv_has ls 6 [(3, .long (lN (cy + (ul (fa i) + ul (fa i))))), (5, .int (nI i)), (0, .ref h0), (1, .ref a0), (2, .ref a0)] := hl
        refine lv_aload_n hx hb dN_setSum_61 rfl (lv_at hl 2 rfl) ?_
        refine va_get (D := G) (ci := 0) (v := .ref hL) (C := RN) (T := TN) (N := 2) hx hb hts inN hown hK hP 0 rfl rfl 0 (by decide) (hts _ kw_1_52) (fun _ h9 => h9) rfl dN_setSum_62 ?_
        refine lv_iload hx hb dN_setSum_65 (lv_at hl 1 rfl) ?_
        refine lv_lload_n hx hb dN_setSum_67 rfl (lv_at hl 0 rfl) ?_
        refine lv_l2i (v := nI (cy + (ul (fa i) + ul (fa i)))) hx hb dN_setSum_68 (lN_i _) ?_
        refine st_i hx hb hK hP hD hS 1 0 rfl rfl i (rfl) (by omega) (by decide) dN_setSum_69 (fun H locs hP hD hS => ?_)
        have hP : va_P G vwCl [(h0, .inr (0, [.ref hL, .int (nI (max ua ua))])), (hL, .inl (cI, 28, .inl (upd g i (nI (cy + (ul (fa i) + ul (fa i))))))), (a0, .inr (0, [.ref aL, .int (nI ua)])), (aL, .inl (cI, 28, .inl fa))] H := hP
        have hD : va_D A [(h0, .inr (0, [.ref hL, .int (nI (max ua ua))])), (hL, .inl (cI, 28, .inl (upd g i (nI (cy + (ul (fa i) + ul (fa i))))))), (a0, .inr (0, [.ref aL, .int (nI ua)])), (aL, .inl (cI, 28, .inl fa))] := hD
        refine lv_lload_n hx hb dN_setSum_70 rfl (lv_at hl 0 rfl) ?_
        refine lv_bipush (v := nI 32) hx hb dN_setSum_71 (by decide) ?_
        refine lv_lushr (v := lN ((cy + (ul (fa i) + ul (fa i))) / 2 ^ 32)) hx hb dN_setSum_73 (wb_shr (by omega) (by decide)) ?_
        refine lv_lstore_n hx hb dN_setSum_74 rfl hl (by decide) rfl (fun ls hl => ?_)
        have hl : lv_has ls 6 [(3, .long (lN ((cy + (ul (fa i) + ul (fa i))) / 2 ^ 32))), (5, .int (nI i)), (0, .ref h0), (1, .ref a0), (2, .ref a0)] := hl
        refine lv_iinc (k := 1) (v := nI (i + 1)) hx hb dN_setSum_75 hl rfl (nI_1 i) (by decide) rfl (fun ls hl => ?_)
        have hl : lv_has ls 6 [(5, .int (nI (i + 1))), (3, .long (lN ((cy + (ul (fa i) + ul (fa i))) / 2 ^ 32))), (0, .ref h0), (1, .ref a0), (2, .ref a0)] := hl
        refine lv_goto (tgt := 24) hx hb dN_setSum_78 (by decide) ?_
        exact ih (i + 1) (upd g i (nI (cy + (ul (fa i) + ul (fa i))))) ((cy + (ul (fa i) + ul (fa i))) / 2 ^ 32) _ _ _ (by omega) (by omega) (by omega) (fun j hj hj2 => by rw [pk_un (by omega), hg j (by omega) hj2]) (add_step hs rfl) hP hD hS hl
  exact lp (_ + 1) 0 g0 0 _ _ _ (Nat.lt_succ_self _) (Nat.zero_le _) (Nat.zero_le _) (fun j _ hj => hz0 j hj) (by simp [nv]) hP hD hS hl
abbrev rmN_setProduct : Room := { frames := 2, cells := 0, slots := 0, locals := 45 }
set_option maxRecDepth 100000 in
set_option maxHeartbeats 4000000 in
theorem c_setProduct (h0 hL u v x F T : Nat) (f : Nat → Int32) (hv : Nt f u v) (hx9 : x < 2 ^ 63) (hT : T ≤ 830) (hF : F < 2 ^ 30) (hb9 : x * 2 ^ T * 5 ^ F < 2 ^ 896) : CTv l G (tyL cI cB cC cJ) yN_setProduct cN_setProduct 9 rmN_setProduct [.ref h0, .long (lN x), .int (nI F), .int (nI T)] (wN cI h0 hL (f, u)) (fun q : (Nat → Int32) × Nat => Nt q.1 q.2 (x * 2 ^ T * 5 ^ F)) (wN cI h0 hL) := by
  have hu := hv.1
  have h5 : 0 < 5 ^ F := Nat.pow_pos (by decide)
  have eT : 2 ^ T = 2 ^ (32 * (T / 32)) * 2 ^ (T % 32 / 2) * 2 ^ (T % 32 - T % 32 / 2) := by rw [← Nat.pow_add, ← Nat.pow_add]; congr 1; omega
  have hb8 : x * 2 ^ T < 2 ^ 896 := Nat.lt_of_le_of_lt (Nat.le_mul_of_pos_right _ h5) hb9
  refine mkV cN_setProduct 9 RN (by decide) rfl (Nat.le_of_ble_eq_true rfl) ?_
  intro p e s m args below meth c A Q ls hx hb hml hts hown hnm hK hP hD hA hl fin
  have hS : va_S A s.heap s.heap [] := va_S.rf
  have hl : lv_has ls 9 [(0, .ref h0), (1, .long (lN x)), (3, .int (nI F)), (4, .int (nI T))] := hl
  have hP : va_P G vwCl [(h0, .inr (0, [.ref hL, .int (nI u)])), (hL, .inl (cI, 28, .inl f))] s.heap := hP
  have hD : va_D A [(h0, .inr (0, [.ref hL, .int (nI u)])), (hL, .inl (cI, 28, .inl f))] := hD
  refine lv_aload_n hx hb dN_setProduct_0 rfl (lv_at hl 0 rfl) ?_
  refine jnV (Wr := []) (W2 := fun g0 => [(h0, .inr (0, [.ref hL, .int (nI 0)])), (hL, .inl (cI, 28, .inl g0))]) (rV (n := 0) (As := []) (rest := []) hx hb hml hown hts (c_clear h0 hL u f hu _) kw_1_197 kw_1_194 kw_1_196 kw_0_3 kw_1_4 (by decide +kernel) ⟨Nat.le_of_ble_eq_true rfl, Nat.le_of_ble_eq_true rfl⟩ hK hP hD [0, 1] rfl rfl 0 rfl rfl rfl rfl hl.1 rfl (lv_room (Nat.le_of_ble_eq_true rfl)) dN_setProduct_1 ⟨Nat.le_of_ble_eq_true rfl, Nat.le_of_ble_eq_true rfl⟩) hP hD hS hA [0, 1] [] [0, 1] rfl rfl rfl (by decide) (fun _ => rfl) rfl (fun g0 H locs hq0 hP hD hS => ?_)
  have hP : va_P G vwCl [(h0, .inr (0, [.ref hL, .int (nI 0)])), (hL, .inl (cI, 28, .inl g0))] H := hP
  have hD : va_D A [(h0, .inr (0, [.ref hL, .int (nI 0)])), (hL, .inl (cI, 28, .inl g0))] := hD
  have hz0 : ∀ j, j < 28 → g0 j = 0 := fun j hj => by
    rw [hq0 j]
    by_cases h : j < u
    · rw [if_pos h]
    · rw [if_neg h]; exact hv.2.1 j (by omega) hj
  refine lv_iload hx hb dN_setProduct_4 (lv_at hl 3 rfl) ?_
  refine lv_bipush (v := nI 32) hx hb dN_setProduct_6 (by decide) ?_
  refine lv_idiv hx hb dN_setProduct_8 (by decide) ?_
  refine tp_i (y := nI (T / 32)) (pk_div (by omega) (by decide) (by decide)) ?_
  refine lv_bipush (v := nI 26) hx hb dN_setProduct_9 (by decide) ?_
  refine va_mmin hx hb (hml.trans hl.1.symm) hown (hts _ kw_1_198) (hts _ kw_1_199) (hts _ kw_1_13) (hts _ kw_1_200) (Nat.le_of_ble_eq_true rfl) (Nat.le_of_ble_eq_true rfl) (Nat.le_of_ble_eq_true rfl) (Nat.le_of_ble_eq_true rfl) dN_setProduct_11 ?_
  refine tp_i (y := nI (T / 32)) (by rw [if_neg (nI_nlt (by omega) (by omega))]) ?_
  refine lv_istore hx hb dN_setProduct_14 hl (by decide) rfl (fun ls hl => ?_)
  have hl : lv_has ls 9 [(5, .int (nI (T / 32))), (0, .ref h0), (1, .long (lN x)), (3, .int (nI F)), (4, .int (nI T))] := hl
  refine lv_aload_n hx hb dN_setProduct_16 rfl (lv_at hl 1 rfl) ?_
  refine va_get (D := G) (ci := 0) (v := .ref hL) (C := RN) (T := TN) (N := 2) hx hb hts inN hown hK hP 0 rfl rfl 0 (by decide) (hts _ kw_1_52) (fun _ h9 => h9) rfl dN_setProduct_17 ?_
  refine lv_iload hx hb dN_setProduct_20 (lv_at hl 0 rfl) ?_
  refine lv_lload_n hx hb dN_setProduct_22 rfl (lv_at hl 2 rfl) ?_
  refine lv_l2i (v := nI x) hx hb dN_setProduct_23 (lN_i _) ?_
  refine st_i hx hb hK hP hD hS 1 0 rfl rfl (T / 32) (rfl) (by omega) (by decide) dN_setProduct_24 (fun H locs hP hD hS => ?_)
  have hP : va_P G vwCl [(h0, .inr (0, [.ref hL, .int (nI 0)])), (hL, .inl (cI, 28, .inl (upd g0 (T / 32) (nI x))))] H := hP
  have hD : va_D A [(h0, .inr (0, [.ref hL, .int (nI 0)])), (hL, .inl (cI, 28, .inl (upd g0 (T / 32) (nI x))))] := hD
  refine lv_aload_n hx hb dN_setProduct_25 rfl (lv_at hl 1 rfl) ?_
  refine va_get (D := G) (ci := 0) (v := .ref hL) (C := RN) (T := TN) (N := 2) hx hb hts inN hown hK hP 0 rfl rfl 0 (by decide) (hts _ kw_1_52) (fun _ h9 => h9) rfl dN_setProduct_26 ?_
  refine lv_iload hx hb dN_setProduct_29 (lv_at hl 0 rfl) ?_
  refine lv_iconst (v := nI 1) hx hb dN_setProduct_31 (by decide) ?_
  refine lv_iadd hx hb dN_setProduct_32 ?_
  refine tp_i (y := nI (T / 32 + 1)) (nI_add _ _) ?_
  refine lv_lload_n hx hb dN_setProduct_33 rfl (lv_at hl 2 rfl) ?_
  refine lv_bipush (v := nI 32) hx hb dN_setProduct_34 (by decide) ?_
  refine lv_lushr (v := lN (x / 2 ^ 32)) hx hb dN_setProduct_36 (wb_shr (by omega) (by decide)) ?_
  refine lv_l2i (v := nI (x / 2 ^ 32)) hx hb dN_setProduct_37 (lN_i _) ?_
  refine st_i hx hb hK hP hD hS 1 0 rfl rfl (T / 32 + 1) (rfl) (by omega) (by decide) dN_setProduct_38 (fun H locs hP hD hS => ?_)
  have hP : va_P G vwCl [(h0, .inr (0, [.ref hL, .int (nI 0)])), (hL, .inl (cI, 28, .inl (upd (upd g0 (T / 32) (nI x)) (T / 32 + 1) (nI (x / 2 ^ 32)))))] H := hP
  have hD : va_D A [(h0, .inr (0, [.ref hL, .int (nI 0)])), (hL, .inl (cI, 28, .inl (upd (upd g0 (T / 32) (nI x)) (T / 32 + 1) (nI (x / 2 ^ 32)))))] := hD
  refine lv_aload_n hx hb dN_setProduct_39 rfl (lv_at hl 1 rfl) ?_
  refine lv_iload hx hb dN_setProduct_40 (lv_at hl 0 rfl) ?_
  refine lv_iconst (v := nI 2) hx hb dN_setProduct_42 (by decide) ?_
  refine lv_iadd hx hb dN_setProduct_43 ?_
  refine tp_i (y := nI (T / 32 + 2)) (nI_add _ _) ?_
  refine va_put (D := G) (ci := 0) (v := .int (nI (T / 32 + 2))) (C := RN) (T := TN) (N := 2) hx hb hts inN tyN tyN_ok nmN hown hK hP hD hS 0 rfl rfl 1 (by decide) (hts _ kw_1_53) (fun _ h9 => h9) rfl (tyN_ok 1 (by decide)) (rfl) (rfl) (Nat.le_of_ble_eq_true rfl) dN_setProduct_44 (fun H locs hP hD hS => ?_)
  have hP : va_P G vwCl [(h0, .inr (0, [.ref hL, .int (nI (T / 32 + 2))])), (hL, .inl (cI, 28, .inl (upd (upd g0 (T / 32) (nI x)) (T / 32 + 1) (nI (x / 2 ^ 32)))))] H := hP
  have hD : va_D A [(h0, .inr (0, [.ref hL, .int (nI (T / 32 + 2))])), (hL, .inl (cI, 28, .inl (upd (upd g0 (T / 32) (nI x)) (T / 32 + 1) (nI (x / 2 ^ 32)))))] := hD
  refine lv_iload hx hb dN_setProduct_47 (lv_at hl 4 rfl) ?_
  refine lv_bipush (v := nI 32) hx hb dN_setProduct_49 (by decide) ?_
  refine lv_irem hx hb dN_setProduct_51 (by decide) ?_
  refine tp_i (y := nI (T % 32)) (pk_rem (by omega) (by decide) (by decide)) ?_
  refine lv_istore hx hb dN_setProduct_52 hl (by decide) rfl (fun ls hl => ?_)
  have hl : lv_has ls 9 [(6, .int (nI (T % 32))), (5, .int (nI (T / 32))), (0, .ref h0), (1, .long (lN x)), (3, .int (nI F)), (4, .int (nI T))] := hl
  refine lv_aload_n hx hb dN_setProduct_54 rfl (lv_at hl 2 rfl) ?_
  refine lv_iconst (v := nI 1) hx hb dN_setProduct_55 (by decide) ?_
  refine lv_iload hx hb dN_setProduct_56 (lv_at hl 0 rfl) ?_
  refine lv_iconst (v := nI 2) hx hb dN_setProduct_58 (by decide) ?_
  refine lv_idiv hx hb dN_setProduct_59 (by decide) ?_
  refine tp_i (y := nI (T % 32 / 2)) (pk_div (by omega) (by decide) (by decide)) ?_
  refine lv_ishl hx hb dN_setProduct_60 ?_
  refine tp_i (y := nI (2 ^ (T % 32 / 2))) (shl1 _ (by omega)) ?_
  have n1 := set_two (g := g0) (a := T / 32) (x := x) (by omega) (by omega) hz0
  have p1 : 2 ^ (T % 32 / 2) < 2 ^ 31 := Nat.pow_lt_pow_right (by decide) (by omega)
  have p2 : 2 ^ (T % 32 - T % 32 / 2) < 2 ^ 31 := Nat.pow_lt_pow_right (by decide) (by omega)
  have b2 : x * 2 ^ (32 * (T / 32)) * 2 ^ (T % 32 / 2) * 2 ^ (T % 32 - T % 32 / 2) < 2 ^ 896 := by rw [eT, ← Nat.mul_assoc, ← Nat.mul_assoc] at hb8; exact hb8
  have b1 : x * 2 ^ (32 * (T / 32)) * 2 ^ (T % 32 / 2) < 2 ^ 896 := Nat.lt_of_le_of_lt (Nat.le_mul_of_pos_right _ (Nat.pow_pos (by decide))) b2
  refine jnV (Wr := []) (W2 := fun q1 => [(h0, .inr (0, [.ref hL, .int (nI q1.2)])), (hL, .inl (cI, 28, .inl q1.1))]) (rV (n := 1) (As := [.int (nI (2 ^ (T % 32 / 2)))]) (rest := []) hx hb hml hown hts (c_multiply h0 hL (T / 32 + 2) (2 ^ (T % 32 / 2)) (x * 2 ^ (32 * (T / 32))) _ n1 p1 b1 _) kw_1_204 kw_1_201 kw_1_202 kw_1_203 kw_1_4 (by decide +kernel) ⟨Nat.le_of_ble_eq_true rfl, Nat.le_of_ble_eq_true rfl⟩ hK hP hD [0, 1] rfl rfl 0 rfl rfl rfl rfl hl.1 rfl (lv_room (Nat.le_of_ble_eq_true rfl)) dN_setProduct_61 ⟨Nat.le_of_ble_eq_true rfl, Nat.le_of_ble_eq_true rfl⟩) hP hD hS hA [0, 1] [] [0, 1] rfl rfl rfl (by decide) (fun _ => rfl) rfl (fun q1 H locs n2 hP hD hS => ?_)
  have hP : va_P G vwCl [(h0, .inr (0, [.ref hL, .int (nI q1.2)])), (hL, .inl (cI, 28, .inl q1.1))] H := hP
  have hD : va_D A [(h0, .inr (0, [.ref hL, .int (nI q1.2)])), (hL, .inl (cI, 28, .inl q1.1))] := hD
  refine lv_aload_n hx hb dN_setProduct_64 rfl (lv_at hl 2 rfl) ?_
  refine lv_iconst (v := nI 1) hx hb dN_setProduct_65 (by decide) ?_
  refine lv_iload hx hb dN_setProduct_66 (lv_at hl 0 rfl) ?_
  refine lv_iload hx hb dN_setProduct_68 (lv_at hl 0 rfl) ?_
  refine lv_iconst (v := nI 2) hx hb dN_setProduct_70 (by decide) ?_
  refine lv_idiv hx hb dN_setProduct_71 (by decide) ?_
  refine tp_i (y := nI (T % 32 / 2)) (pk_div (by omega) (by decide) (by decide)) ?_
  refine lv_isub hx hb dN_setProduct_72 ?_
  refine tp_i (y := nI (T % 32 - T % 32 / 2)) (pk_sub (by omega)) ?_
  refine lv_ishl hx hb dN_setProduct_73 ?_
  refine tp_i (y := nI (2 ^ (T % 32 - T % 32 / 2))) (shl1 _ (by omega)) ?_
  refine jnV (Wr := []) (W2 := fun q2 => [(h0, .inr (0, [.ref hL, .int (nI q2.2)])), (hL, .inl (cI, 28, .inl q2.1))]) (rV (n := 1) (As := [.int (nI (2 ^ (T % 32 - T % 32 / 2)))]) (rest := []) hx hb hml hown hts (c_multiply h0 hL q1.2 (2 ^ (T % 32 - T % 32 / 2)) _ q1.1 n2 p2 b2 _) kw_1_204 kw_1_201 kw_1_202 kw_1_203 kw_1_4 (by decide +kernel) ⟨Nat.le_of_ble_eq_true rfl, Nat.le_of_ble_eq_true rfl⟩ hK hP hD [0, 1] rfl rfl 0 rfl rfl rfl rfl hl.1 rfl (lv_room (Nat.le_of_ble_eq_true rfl)) dN_setProduct_74 ⟨Nat.le_of_ble_eq_true rfl, Nat.le_of_ble_eq_true rfl⟩) hP hD hS hA [0, 1] [] [0, 1] rfl rfl rfl (by decide) (fun _ => rfl) rfl (fun q2 H locs n3 hP hD hS => ?_)
  have hP : va_P G vwCl [(h0, .inr (0, [.ref hL, .int (nI q2.2)])), (hL, .inl (cI, 28, .inl q2.1))] H := hP
  have hD : va_D A [(h0, .inr (0, [.ref hL, .int (nI q2.2)])), (hL, .inl (cI, 28, .inl q2.1))] := hD
  have n4 : Nt q2.1 q2.2 (x * 2 ^ T) := by rw [eT, ← Nat.mul_assoc, ← Nat.mul_assoc]; exact n3
  refine lv_iload_n hx hb dN_setProduct_77 rfl (lv_at hl 4 rfl) ?_
  refine lv_istore hx hb dN_setProduct_78 hl (by decide) rfl (fun ls hl => ?_)
  have hl : lv_has ls 9 [(7, .int (nI F)), (6, .int (nI (T % 32))), (5, .int (nI (T / 32))), (0, .ref h0), (1, .long (lN x)), (3, .int (nI F)), (4, .int (nI T))] := hl
  have hl : lv_has ls 9 [(7, .int (nI F)), (0, .ref h0)] := lv_sub hl [0, 3] rfl
  have lp : ∀ (n : Nat) (z : Nat) (q : (Nat → Int32) × Nat) (H : Heap) (locs : List Loc) (ls : Array Slot), z < n → z ≤ F → Nt q.1 q.2 (x * 2 ^ T * 5 ^ (F - z)) → va_P G vwCl [(h0, .inr (0, [.ref hL, .int (nI q.2)])), (hL, .inl (cI, 28, .inl q.1))] H → va_D A [(h0, .inr (0, [.ref hL, .int (nI q.2)])), (hL, .inl (cI, 28, .inl q.1))] → va_S A s.heap H locs → lv_has ls 9 [(7, .int (nI z)), (0, .ref h0)] → W p l e rmN_setProduct s m args below meth c H locs 0 0 Q (F0 m 80 ls []) := by
    intro n
    induction n with
    | zero => intro z q H locs ls hn; exact absurd hn (Nat.not_lt_zero _)
    | succ n ih =>
      intro z q H locs ls hn hz hq hP hD hS hl
      refine lv_iload hx hb dN_setProduct_80 (lv_at hl 0 rfl) ?_
      refine lv_bipush (v := nI 13) hx hb dN_setProduct_82 (by decide) ?_
      refine lv_icmp_lt (tgt := 99) hx hb dN_setProduct_84 (by decide) (fun hc => ?_) (fun hc => ?_)
      · have h3 : z < 13 := (nI_ltI (by omega) (by decide)).mp hc
        refine lv_iconst (v := nI 1) hx hb dN_setProduct_99 (by decide) ?_
        refine lv_istore hx hb dN_setProduct_100 hl (by decide) rfl (fun ls hl => ?_)
        have hl : lv_has ls 9 [(8, .int (nI 1)), (7, .int (nI z)), (0, .ref h0)] := hl
        clear ih hn
        have hl : lv_has ls 9 [(8, .int (nI (5 ^ (z - z)))), (7, .int (nI z)), (0, .ref h0)] := by rw [Nat.sub_self]; exact hl
        have lq : ∀ (n : Nat) (y : Nat) (H : Heap) (locs : List Loc) (ls : Array Slot), y < n → y ≤ z → va_P G vwCl [(h0, .inr (0, [.ref hL, .int (nI q.2)])), (hL, .inl (cI, 28, .inl q.1))] H → va_D A [(h0, .inr (0, [.ref hL, .int (nI q.2)])), (hL, .inl (cI, 28, .inl q.1))] → va_S A s.heap H locs → lv_has ls 9 [(8, .int (nI (5 ^ (z - y)))), (7, .int (nI y)), (0, .ref h0)] → W p l e rmN_setProduct s m args below meth c H locs 0 0 Q (F0 m 102 ls []) := by
          intro n
          induction n with
          | zero => intro y H locs ls hn; exact absurd hn (Nat.not_lt_zero _)
          | succ n ih =>
            intro y H locs ls hn hy hP hD hS hl
            refine lv_iload hx hb dN_setProduct_102 (lv_at hl 1 rfl) ?_
            refine lv_if_le (tgt := 119) hx hb dN_setProduct_104 (by decide) (fun hc2 => ?_) (fun hc2 => ?_)
            · have h4 : y ≤ 0 := (nI_leI (by omega) (by decide)).mp hc2
              have h5 : y = 0 := by omega
              subst h5
              have p3 : 5 ^ (z - 0) ≤ 5 ^ 12 := Nat.pow_le_pow_right (by decide) (by omega)
              have b4 : x * 2 ^ T * 5 ^ (F - z) * 5 ^ (z - 0) = x * 2 ^ T * 5 ^ F := by rw [Nat.mul_assoc, ← Nat.pow_add]; congr 2; omega
              refine lv_aload_n hx hb dN_setProduct_119 rfl (lv_at hl 2 rfl) ?_
              refine lv_iload hx hb dN_setProduct_120 (lv_at hl 0 rfl) ?_
              refine jnV (Wr := []) (W2 := fun q4 => [(h0, .inr (0, [.ref hL, .int (nI q4.2)])), (hL, .inl (cI, 28, .inl q4.1))]) (rV (n := 1) (As := [.int (nI (5 ^ (z - 0)))]) (rest := []) hx hb hml hown hts (c_multiply h0 hL q.2 (5 ^ (z - 0)) _ q.1 hq (by omega) (by rw [b4]; exact hb9) _) kw_1_204 kw_1_201 kw_1_202 kw_1_203 kw_1_4 (by decide +kernel) ⟨Nat.le_of_ble_eq_true rfl, Nat.le_of_ble_eq_true rfl⟩ hK hP hD [0, 1] rfl rfl 0 rfl rfl rfl rfl hl.1 rfl (lv_room (Nat.le_of_ble_eq_true rfl)) dN_setProduct_122 ⟨Nat.le_of_ble_eq_true rfl, Nat.le_of_ble_eq_true rfl⟩) hP hD hS hA [0, 1] [] [0, 1] rfl rfl rfl (by decide) (fun _ => rfl) rfl (fun q4 H locs n5 hP hD hS => ?_)
              have hP : va_P G vwCl [(h0, .inr (0, [.ref hL, .int (nI q4.2)])), (hL, .inl (cI, 28, .inl q4.1))] H := hP
              have hD : va_D A [(h0, .inr (0, [.ref hL, .int (nI q4.2)])), (hL, .inl (cI, 28, .inl q4.1))] := hD
              exact fin (q4) _ _ _ _ dN_setProduct_125 (by rw [← b4]; exact n5) hP hD hS
            · have h4 : 0 < y := by
                rcases Nat.eq_zero_or_pos y with h | h
                · subst h; exact absurd (Int32.le_refl (0 : Int32)) hc2
                · exact h
              obtain ⟨y, rfl⟩ : ∃ k, y = k + 1 := ⟨y - 1, by omega⟩
              refine lv_iload hx hb dN_setProduct_107 (lv_at hl 0 rfl) ?_
              refine lv_iconst (v := nI 5) hx hb dN_setProduct_109 (by decide) ?_
              refine lv_imul hx hb dN_setProduct_110 ?_
              refine tp_i (y := nI (5 ^ (z - y))) (by rw [pk_mul, ← Nat.pow_succ]; congr 2; omega) ?_
              refine lv_istore hx hb dN_setProduct_111 hl (by decide) rfl (fun ls hl => ?_)
              have hl : lv_has ls 9 [(8, .int (nI (5 ^ (z - y)))), (7, .int (nI (y + 1))), (0, .ref h0)] := hl
              refine lv_iinc (k := 1) (v := nI y) hx hb dN_setProduct_113 hl rfl (pk_m1 y) (by decide) rfl (fun ls hl => ?_)
              have hl : lv_has ls 9 [(7, .int (nI y)), (8, .int (nI (5 ^ (z - y)))), (0, .ref h0)] := hl
              refine lv_goto (tgt := 102) hx hb dN_setProduct_116 (by decide) ?_
              have hl : lv_has ls 9 [(8, .int (nI (5 ^ (z - y)))), (7, .int (nI y)), (0, .ref h0)] := lv_sub hl [1, 0, 2] rfl
              exact ih y _ _ _ (by omega) (by omega) hP hD hS hl
        exact lq (_ + 1) z _ _ _ (Nat.lt_succ_self _) (Nat.le_refl _) hP hD hS hl
      · have h3 : 13 ≤ z := by
          rcases Nat.lt_or_ge z 13 with h | h
          · exact absurd ((nI_ltI (by omega) (by decide)).mpr h) hc
          · exact h
        have b4 : x * 2 ^ T * 5 ^ (F - z) * 1220703125 = x * 2 ^ T * 5 ^ (F - (z - 13)) := by rw [Nat.mul_assoc, show 1220703125 = 5 ^ 13 by decide, ← Nat.pow_add]; congr 2; omega
        have b5 : x * 2 ^ T * 5 ^ (F - (z - 13)) ≤ x * 2 ^ T * 5 ^ F := Nat.mul_le_mul_left _ (Nat.pow_le_pow_right (by decide) (by omega))
        refine lv_aload_n hx hb dN_setProduct_87 rfl (lv_at hl 1 rfl) ?_
        refine lv_ldc (v := 1220703125) hx hb hown (hts _ kw_1_210) dN_setProduct_88 ?_
        refine tp_i (y := nI 1220703125) (rfl) ?_
        refine jnV (Wr := []) (W2 := fun q4 => [(h0, .inr (0, [.ref hL, .int (nI q4.2)])), (hL, .inl (cI, 28, .inl q4.1))]) (rV (n := 1) (As := [.int (nI 1220703125)]) (rest := []) hx hb hml hown hts (c_multiply h0 hL q.2 1220703125 _ q.1 hq (by decide) (by rw [b4]; exact Nat.lt_of_le_of_lt b5 hb9) _) kw_1_204 kw_1_201 kw_1_202 kw_1_203 kw_1_4 (by decide +kernel) ⟨Nat.le_of_ble_eq_true rfl, Nat.le_of_ble_eq_true rfl⟩ hK hP hD [0, 1] rfl rfl 0 rfl rfl rfl rfl hl.1 rfl (lv_room (Nat.le_of_ble_eq_true rfl)) dN_setProduct_90 ⟨Nat.le_of_ble_eq_true rfl, Nat.le_of_ble_eq_true rfl⟩) hP hD hS hA [0, 1] [] [0, 1] rfl rfl rfl (by decide) (fun _ => rfl) rfl (fun q4 H locs n5 hP hD hS => ?_)
        have hP : va_P G vwCl [(h0, .inr (0, [.ref hL, .int (nI q4.2)])), (hL, .inl (cI, 28, .inl q4.1))] H := hP
        have hD : va_D A [(h0, .inr (0, [.ref hL, .int (nI q4.2)])), (hL, .inl (cI, 28, .inl q4.1))] := hD
        refine lv_iinc (k := 0) (v := nI (z - 13)) hx hb dN_setProduct_93 hl rfl (by
            have e : nI z = nI (z - 13) + nI 13 := by rw [nI_add]; congr 1; omega
            rw [e, Int32.add_assoc, show nI 13 + Int32.ofInt (-13) = 0 by decide, Int32.add_zero]) (by decide) rfl (fun ls hl => ?_)
        have hl : lv_has ls 9 [(7, .int (nI (z - 13))), (0, .ref h0)] := hl
        refine lv_goto (tgt := 80) hx hb dN_setProduct_96 (by decide) ?_
        exact ih (z - 13) q4 _ _ _ (by omega) (by omega) (by rw [← b4]; exact n5) hP hD hS hl
  exact lp (_ + 1) F q2 _ _ _ (Nat.lt_succ_self _) (Nat.le_refl _) (by rw [Nat.sub_self, Nat.pow_zero, Nat.mul_one]; exact n4) hP hD hS hl
end NATB
