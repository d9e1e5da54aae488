section MOTIMESM
variable {l : Launch} {G : va_G} {cI cB cC cJ : ClassId}
abbrev rmM_times : Room := { frames := 0, cells := 0, slots := 0, locals := 0 }
set_option maxRecDepth 100000 in
set_option maxHeartbeats 4000000 in
theorem c_times (m9 : Nat → Nat) (len code bits least held : Int32) (u v k : Nat) (f : Nat → Int64) (hv : Nw f u v) (hk0 : 0 < k) (hk : k ≤ 2 ^ 29) (hb9 : v * k < 10 ^ 1440) : CTv l G (tyL cI cB cC cJ) yM_times cM_times 6 rmM_times [.ref (m9 0), .long (lN k)] [mO m9 len code bits least (nI u) held, (m9 2, .inl (cJ, 160, .inr (.inl f)))] (fun q : (Nat → Int64) × Nat => Nw q.1 q.2 (v * k)) (fun q => [mO m9 len code bits least (nI q.2) held, (m9 2, .inl (cJ, 160, .inr (.inl q.1)))]) := by
  have hu := hv.1
  refine mkV cM_times 6 RM (by decide) rfl (Nat.le_of_ble_eq_true rfl) ?_
  intro p e s m args below meth c A Q ls hx hb hml hts hown hnm hK hP hD hA hl fin
  have hS : va_S A s.heap s.heap [] := va_S.rf
  have hl : lv_has ls 6 [(0, .ref (m9 0)), (1, .long (lN k))] := hl
  have hP : va_P G vwCl [(m9 0, .inr (5, [.ref (m9 1), .int len, .int code, .int bits, .int least, .ref (m9 2), .int (nI u), .ref (m9 4), .ref (m9 6), .ref (m9 8), .ref (m9 10), .ref (m9 12), .ref (m9 3), .int held])), (m9 2, .inl (cJ, 160, .inr (.inl f)))] s.heap := hP
  have hD : va_D A [(m9 0, .inr (5, [.ref (m9 1), .int len, .int code, .int bits, .int least, .ref (m9 2), .int (nI u), .ref (m9 4), .ref (m9 6), .ref (m9 8), .ref (m9 10), .ref (m9 12), .ref (m9 3), .int held])), (m9 2, .inl (cJ, 160, .inr (.inl f)))] := hD
  refine lv_lconst (v := lN 0) hx hb dM_times_0 (by decide) ?_
  refine lv_lstore_n hx hb dM_times_1 rfl hl (by decide) rfl (fun ls hl => ?_)
  have hl : lv_has ls 6 [(3, .long (lN 0)), (0, .ref (m9 0)), (1, .long (lN k))] := hl
  refine lv_iconst (v := nI 0) hx hb dM_times_2 (by decide) ?_
  refine lv_istore hx hb dM_times_3 hl (by decide) rfl (fun ls hl => ?_)
  have hl : lv_has ls 6 [(5, .int (nI 0)), (3, .long (lN 0)), (0, .ref (m9 0)), (1, .long (lN k))] := hl
  have lp : ∀ (fu : Nat) (i : Nat) (g : Nat → Int64) (cy : Nat) (H : Heap) (locs : List Loc) (ls : Array Slot), u - i < fu → i ≤ u → cy < k → (∀ j, i ≤ j → g j = f j) → (∀ j, j < i → lu (g j) < 1000000000) → nw g i + cy * 10 ^ (9 * i) = nw f i * k → va_P G vwCl [(m9 0, .inr (5, [.ref (m9 1), .int len, .int code, .int bits, .int least, .ref (m9 2), .int (nI u), .ref (m9 4), .ref (m9 6), .ref (m9 8), .ref (m9 10), .ref (m9 12), .ref (m9 3), .int held])), (m9 2, .inl (cJ, 160, .inr (.inl g)))] H → va_D A [(m9 0, .inr (5, [.ref (m9 1), .int len, .int code, .int bits, .int least, .ref (m9 2), .int (nI u), .ref (m9 4), .ref (m9 6), .ref (m9 8), .ref (m9 10), .ref (m9 12), .ref (m9 3), .int held])), (m9 2, .inl (cJ, 160, .inr (.inl g)))] → va_S A s.heap H locs → lv_has ls 6 [(5, .int (nI i)), (3, .long (lN cy)), (0, .ref (m9 0)), (1, .long (lN k))] → W p l e rmM_times s m args below meth c H locs 0 0 Q (F0 m 5 ls []) := by
    intro fu
    induction fu with
    | zero => intro i g cy H locs ls hfu; exact absurd hfu (Nat.not_lt_zero _)
    | succ fu ih =>
      intro i g cy H locs ls hfu hi hcy hg hg9 hs hP hD hS hl
      refine lv_iload hx hb dM_times_5 (lv_at hl 0 rfl) ?_
      refine lv_aload_n hx hb dM_times_7 rfl (lv_at hl 2 rfl) ?_
      refine va_get (D := G) (ci := 5) (v := .int (nI u)) (C := RM) (T := TM) (N := 14) hx hb hts inM hown hK hP 0 rfl rfl 6 (by decide) (hts _ kw_2_160) (fun _ h9 => h9) rfl dM_times_8 ?_
      refine lv_icmp_ge (tgt := 50) hx hb dM_times_11 (by decide) (fun hc => ?_) (fun hc => ?_)
      · have h3 : u ≤ i := (nI_leI (by omega) (by omega)).mp hc
        have h4 : i = u := by omega
        subst h4
        refine lv_lload_n hx hb dM_times_50 rfl (lv_at hl 1 rfl) ?_
        refine lv_lconst (v := lN 0) hx hb dM_times_51 (by decide) ?_
        refine W.lcmp hx hb dM_times_52 ?_
        refine lv_if_le (tgt := 76) hx hb dM_times_53 (by decide) (fun hc2 => ?_) (fun hc2 => ?_)
        · have h5 : cy ≤ 0 := (pk_lLE (by omega) (by decide)).mp ((lg_cmp_le _ _).mp hc2)
          have h6 : cy = 0 := by omega
          subst h6
          exact fin (g, i) _ _ _ _ dM_times_76 (times_end0 hv hg9 hs) hP hD hS
        · have h5 : ¬ cy ≤ 0 := fun h => hc2 ((lg_cmp_le _ _).mpr ((pk_lLE (by omega) (by decide)).mpr h))
          have h6 := times_room hv hs (by omega) hb9
          refine lv_aload_n hx hb dM_times_56 rfl (lv_at hl 2 rfl) ?_
          refine va_get (D := G) (ci := 5) (v := .ref (m9 2)) (C := RM) (T := TM) (N := 14) hx hb hts inM hown hK hP 0 rfl rfl 5 (by decide) (hts _ kw_2_159) (fun _ h9 => h9) rfl dM_times_57 ?_
          refine lv_aload_n hx hb dM_times_60 rfl (lv_at hl 2 rfl) ?_
          refine va_get (D := G) (ci := 5) (v := .int (nI i)) (C := RM) (T := TM) (N := 14) hx hb hts inM hown hK hP 0 rfl rfl 6 (by decide) (hts _ kw_2_160) (fun _ h9 => h9) rfl dM_times_61 ?_
          refine lv_lload_n hx hb dM_times_64 rfl (lv_at hl 1 rfl) ?_
          refine st_l hx hb hK hP hD hS 1 3 rfl rfl i (rfl) (by omega) (by decide) dM_times_65 (fun H locs hP hD hS => ?_)
          have hP : va_P G vwCl [(m9 0, .inr (5, [.ref (m9 1), .int len, .int code, .int bits, .int least, .ref (m9 2), .int (nI i), .ref (m9 4), .ref (m9 6), .ref (m9 8), .ref (m9 10), .ref (m9 12), .ref (m9 3), .int held])), (m9 2, .inl (cJ, 160, .inr (.inl (vp_updL g i (lN cy)))))] H := hP
          have hD : va_D A [(m9 0, .inr (5, [.ref (m9 1), .int len, .int code, .int bits, .int least, .ref (m9 2), .int (nI i), .ref (m9 4), .ref (m9 6), .ref (m9 8), .ref (m9 10), .ref (m9 12), .ref (m9 3), .int held])), (m9 2, .inl (cJ, 160, .inr (.inl (vp_updL g i (lN cy)))))] := hD
          refine lv_aload_n hx hb dM_times_66 rfl (lv_at hl 2 rfl) ?_
          refine lv_dup hx hb dM_times_67 rfl ?_
          refine va_get (D := G) (ci := 5) (v := .int (nI i)) (C := RM) (T := TM) (N := 14) hx hb hts inM hown hK hP 0 rfl rfl 6 (by decide) (hts _ kw_2_160) (fun _ h9 => h9) rfl dM_times_68 ?_
          refine lv_iconst (v := nI 1) hx hb dM_times_71 (by decide) ?_
          refine lv_iadd hx hb dM_times_72 ?_
          refine tp_i (y := nI (i + 1)) (nI_add i 1) ?_
          refine va_put (D := G) (ci := 5) (v := .int (nI (i + 1))) (C := RM) (T := TM) (N := 14) hx hb hts inM tyM tyM_ok nmM hown hK hP hD hS 0 rfl rfl 6 (by decide) (hts _ kw_2_160) (fun _ h9 => h9) rfl (tyM_ok 6 (by decide)) (rfl) (rfl) (Nat.le_of_ble_eq_true rfl) dM_times_73 (fun H locs hP hD hS => ?_)
          have hP : va_P G vwCl [(m9 0, .inr (5, [.ref (m9 1), .int len, .int code, .int bits, .int least, .ref (m9 2), .int (nI (i + 1)), .ref (m9 4), .ref (m9 6), .ref (m9 8), .ref (m9 10), .ref (m9 12), .ref (m9 3), .int held])), (m9 2, .inl (cJ, 160, .inr (.inl (vp_updL g i (lN cy)))))] H := hP
          have hD : va_D A [(m9 0, .inr (5, [.ref (m9 1), .int len, .int code, .int bits, .int least, .ref (m9 2), .int (nI (i + 1)), .ref (m9 4), .ref (m9 6), .ref (m9 8), .ref (m9 10), .ref (m9 12), .ref (m9 3), .int held])), (m9 2, .inl (cJ, 160, .inr (.inl (vp_updL g i (lN cy)))))] := hD
          exact fin (vp_updL g i (lN cy), i + 1) _ _ _ _ dM_times_76 (times_end hv hg9 hs (by omega) h6) hP hD hS
      · have h3 : i < u := by
          rcases Nat.lt_or_ge i u with h | h
          · exact h
          · exact absurd (nI_le h (by omega)) hc
        have hlt := hv.2.1 i h3
        have hmul : lu (f i) * k ≤ 999999999 * k := Nat.mul_le_mul_right k (by omega)
        have hgi : g i = lN (lu (f i)) := by rw [lN_lu]; exact hg i (Nat.le_refl i)
        refine lv_lload_n hx hb dM_times_14 rfl (lv_at hl 1 rfl) ?_
        refine lv_aload_n hx hb dM_times_15 rfl (lv_at hl 2 rfl) ?_
        refine va_get (D := G) (ci := 5) (v := .ref (m9 2)) (C := RM) (T := TM) (N := 14) hx hb hts inM hown hK hP 0 rfl rfl 5 (by decide) (hts _ kw_2_159) (fun _ h9 => h9) rfl dM_times_16 ?_
        refine lv_iload hx hb dM_times_19 (lv_at hl 0 rfl) ?_
        refine ld_l hx hb hK hP 1 3 rfl rfl i (rfl) (by omega) (by decide) dM_times_21 ?_
        refine tp_l (y := lN (lu (f i))) (hgi) ?_
        refine lv_lload_n hx hb dM_times_22 rfl (lv_at hl 3 rfl) ?_
        refine lv_lmul hx hb dM_times_23 ?_
        refine tp_l (y := lN (lu (f i) * k)) (lN_mul _ _) ?_
        refine lv_ladd hx hb dM_times_24 ?_
        refine tp_l (y := lN (cy + lu (f i) * k)) (lN_add _ _) ?_
        refine lv_lstore_n hx hb dM_times_25 rfl hl (by decide) rfl (fun ls hl => ?_)
        have hl : lv_has ls 6 [(3, .long (lN (cy + lu (f i) * k))), (5, .int (nI i)), (0, .ref (m9 0)), (1, .long (lN k))] := hl
        refine lv_aload_n hx hb dM_times_26 rfl (lv_at hl 2 rfl) ?_
        refine va_get (D := G) (ci := 5) (v := .ref (m9 2)) (C := RM) (T := TM) (N := 14) hx hb hts inM hown hK hP 0 rfl rfl 5 (by decide) (hts _ kw_2_159) (fun _ h9 => h9) rfl dM_times_27 ?_
        refine lv_iload hx hb dM_times_30 (lv_at hl 1 rfl) ?_
        refine lv_lload_n hx hb dM_times_32 rfl (lv_at hl 0 rfl) ?_
        refine lv_ldc2 (v := 1000000000) hx hb hown (hts _ kw_3_33) dM_times_33 ?_
        refine tp_l (y := lN 1000000000) (rfl) ?_
        refine lv_lrem hx hb dM_times_36 (by decide) ?_
        refine tp_l (y := lN ((cy + lu (f i) * k) % 1000000000)) (pk_lRem (by omega) (by decide) (by decide)) ?_
        refine st_l hx hb hK hP hD hS 1 3 rfl rfl i (rfl) (by omega) (by decide) dM_times_37 (fun H locs hP hD hS => ?_)
        have hP : va_P G vwCl [(m9 0, .inr (5, [.ref (m9 1), .int len, .int code, .int bits, .int least, .ref (m9 2), .int (nI u), .ref (m9 4), .ref (m9 6), .ref (m9 8), .ref (m9 10), .ref (m9 12), .ref (m9 3), .int held])), (m9 2, .inl (cJ, 160, .inr (.inl (vp_updL g i (lN ((cy + lu (f i) * k) % 1000000000))))))] H := hP
        have hD : va_D A [(m9 0, .inr (5, [.ref (m9 1), .int len, .int code, .int bits, .int least, .ref (m9 2), .int (nI u), .ref (m9 4), .ref (m9 6), .ref (m9 8), .ref (m9 10), .ref (m9 12), .ref (m9 3), .int held])), (m9 2, .inl (cJ, 160, .inr (.inl (vp_updL g i (lN ((cy + lu (f i) * k) % 1000000000))))))] := hD
        refine lv_lload_n hx hb dM_times_38 rfl (lv_at hl 0 rfl) ?_
        refine lv_ldc2 (v := 1000000000) hx hb hown (hts _ kw_3_33) dM_times_39 ?_
        refine tp_l (y := lN 1000000000) (rfl) ?_
        refine lv_ldiv hx hb dM_times_42 (by decide) ?_
        refine tp_l (y := lN ((cy + lu (f i) * k) / 1000000000)) (pk_lDiv (by omega) (by decide) (by decide)) ?_
        refine lv_lstore_n hx hb dM_times_43 rfl hl (by decide) rfl (fun ls hl => ?_)
        have hl : lv_has ls 6 [(3, .long (lN ((cy + lu (f i) * k) / 1000000000))), (5, .int (nI i)), (0, .ref (m9 0)), (1, .long (lN k))] := hl
        refine lv_iinc (k := 1) (v := nI (i + 1)) hx hb dM_times_44 hl rfl (nI_1 i) (by decide) rfl (fun ls hl => ?_)
        have hl : lv_has ls 6 [(5, .int (nI (i + 1))), (3, .long (lN ((cy + lu (f i) * k) / 1000000000))), (0, .ref (m9 0)), (1, .long (lN k))] := hl
        refine lv_goto (tgt := 5) hx hb dM_times_47 (by decide) ?_
        exact ih (i + 1) (vp_updL g i (lN ((cy + lu (f i) * k) % 1000000000))) ((cy + lu (f i) * k) / 1000000000) _ _ _ (by omega) (by omega) (by omega) (fun j hj => by rw [pk_uLn (by omega), hg j (by omega)]) (fun j hj => by
            by_cases he : j = i
            · subst he; rw [pk_uLs, lu_lN (by omega)]; omega
            · rw [pk_uLn he]; exact hg9 j (by omega)) (times_step hs rfl) hP hD hS hl
  exact lp (_ + 1) 0 f 0 _ _ _ (Nat.lt_succ_self _) (Nat.zero_le _) (hk0) (fun _ _ => rfl) (fun j hj => absurd hj (Nat.not_lt_zero j)) (by simp [nw]) hP hD hS hl
abbrev rmM_more : Room := { frames := 0, cells := 0, slots := 0, locals := 0 }
set_option maxRecDepth 100000 in
set_option maxHeartbeats 4000000 in
theorem c_more (h0 hd n : Nat) (p9 : Int) (f : Nat → Int32) (g : Nat → Nat) (hr : Rd f n g) (hn : 0 < n) (hn9 : n ≤ 100) (hg0 : g 0 ≠ 0) : CTv l G (tyL cI cB cC cJ) yM_more cM_more 3 rmM_more [.ref h0] (wR cB h0 hd (f, n, p9)) (fun q : (Nat → Int32) × (Nat → Nat) × Nat => Rd q.1 (n + q.2.2) q.2.1 ∧ q.2.2 ≤ 1 ∧ q.2.1 0 ≠ 0 ∧ dv q.2.1 (n + q.2.2) = dv g n + 1) (fun q => wR cB h0 hd (q.1, n + q.2.2, p9 + q.2.2)) := by
  refine mkV cM_more 3 RM (by decide) rfl (Nat.le_of_ble_eq_true rfl) ?_
  intro p e s m args below meth c A Q ls hx hb hml hts hown hnm hK hP hD hA hl fin
  have hS : va_S A s.heap s.heap [] := va_S.rf
  have hl : lv_has ls 3 [(0, .ref h0)] := hl
  have hP : va_P G vwCl [(h0, .inr (4, [.ref hd, .int (nI n), .int (iI p9)])), (hd, .inl (cB, 1300, .inl f))] s.heap := hP
  have hD : va_D A [(h0, .inr (4, [.ref hd, .int (nI n), .int (iI p9)])), (hd, .inl (cB, 1300, .inl f))] := hD
  refine lv_aload_n hx hb dM_more_0 rfl (lv_at hl 0 rfl) ?_
  refine va_get (D := G) (ci := 4) (v := .int (nI n)) (C := RW) (T := TW) (N := 3) hx hb hts inW hown hK hP 0 rfl rfl 1 (by decide) (hts _ kw_2_144) (fun _ h9 => h9) rfl dM_more_1 ?_
  refine lv_iconst (v := nI 1) hx hb dM_more_4 (by decide) ?_
  refine lv_isub hx hb dM_more_5 ?_
  refine tp_i (y := iI ((n : Nat) - 1 : Int)) (sub1 n) ?_
  refine lv_istore_n hx hb dM_more_6 rfl hl (by decide) rfl (fun ls hl => ?_)
  have hl : lv_has ls 3 [(1, .int (iI ((n : Nat) - 1 : Int))), (0, .ref h0)] := hl
  have j35 : ∀ (k : Nat) (f1 : Nat → Int32) (H : Heap) (locs : List Loc) (ls : Array Slot), k ≤ n → (∀ j, k ≤ j → j < n → g j = 9 ∧ f1 j = nI 0) → (∀ j, j < k → f1 j = f j) → (0 < k → g (k - 1) ≠ 9) → va_P G vwCl [(h0, .inr (4, [.ref hd, .int (nI n), .int (iI p9)])), (hd, .inl (cB, 1300, .inl f1))] H → va_D A [(h0, .inr (4, [.ref hd, .int (nI n), .int (iI p9)])), (hd, .inl (cB, 1300, .inl f1))] → va_S A s.heap H locs → lv_has ls 3 [(1, .int (iI ((k : Nat) - 1 : Int))), (0, .ref h0)] → W p l e rmM_more s m args below meth c H locs 0 0 Q (F0 m 35 ls []) := by
    intro k f1 H locs ls hk h9 hf hx9 hP hD hS hl
    refine lv_iload_n hx hb dM_more_35 rfl (lv_at hl 0 rfl) ?_
    refine lv_if_lt (tgt := 53) hx hb dM_more_36 (by decide) (fun hc => ?_) (fun hc => ?_)
    · have h3 := (iI_lt (b := 0) (by omega) (by omega) (by decide) (by decide)).mp hc
      have h4 : k = 0 := by omega
      subst h4
      refine lv_aload_n hx hb dM_more_53 rfl (lv_at hl 1 rfl) ?_
      refine va_get (D := G) (ci := 4) (v := .int (nI n)) (C := RW) (T := TW) (N := 3) hx hb hts inW hown hK hP 0 rfl rfl 1 (by decide) (hts _ kw_2_144) (fun _ h9 => h9) rfl dM_more_54 ?_
      refine lv_istore_n hx hb dM_more_57 rfl hl (by decide) rfl (fun ls hl => ?_)
      have hl : lv_has ls 3 [(2, .int (nI n)), (1, .int (iI ((0 : Nat) - 1 : Int))), (0, .ref h0)] := hl
      have hl : lv_has ls 3 [(2, .int (nI n)), (0, .ref h0)] := lv_sub hl [0, 2] rfl
      have lq : ∀ (fu : Nat) (k : Nat) (f2 : Nat → Int32) (H : Heap) (locs : List Loc) (ls : Array Slot), k < fu → k ≤ n → (∀ j, j ≤ n → j ≠ k → f2 j = nI 0) → va_P G vwCl [(h0, .inr (4, [.ref hd, .int (nI n), .int (iI p9)])), (hd, .inl (cB, 1300, .inl f2))] H → va_D A [(h0, .inr (4, [.ref hd, .int (nI n), .int (iI p9)])), (hd, .inl (cB, 1300, .inl f2))] → va_S A s.heap H locs → lv_has ls 3 [(2, .int (nI k)), (0, .ref h0)] → W p l e rmM_more s m args below meth c H locs 0 0 Q (F0 m 58 ls []) := by
        intro fu
        induction fu with
        | zero => intro k f2 H locs ls hfu; exact absurd hfu (Nat.not_lt_zero _)
        | succ fu ih =>
          intro k f2 H locs ls hfu hk2 h2 hP hD hS hl
          refine lv_iload_n hx hb dM_more_58 rfl (lv_at hl 0 rfl) ?_
          refine lv_if_le (tgt := 82) hx hb dM_more_59 (by decide) (fun hc2 => ?_) (fun hc2 => ?_)
          · have h5 : k ≤ 0 := (nI_leI (by omega) (by decide)).mp hc2
            have h6 : k = 0 := by omega
            subst h6
            refine lv_aload_n hx hb dM_more_82 rfl (lv_at hl 1 rfl) ?_
            refine va_get (D := G) (ci := 4) (v := .ref hd) (C := RW) (T := TW) (N := 3) hx hb hts inW hown hK hP 0 rfl rfl 0 (by decide) (hts _ kw_2_143) (fun _ h9 => h9) rfl dM_more_83 ?_
            refine lv_iconst (v := nI 0) hx hb dM_more_86 (by decide) ?_
            refine lv_iconst (v := nI 1) hx hb dM_more_87 (by decide) ?_
            refine st_b (x' := (nI 1)) hx hb hK hP hD hS 1 1 rfl rfl 0 (rfl) (by omega) (by decide) (narb (by decide)) dM_more_88 (fun H locs hP hD hS => ?_)
            have hP : va_P G vwCl [(h0, .inr (4, [.ref hd, .int (nI n), .int (iI p9)])), (hd, .inl (cB, 1300, .inl (upd f2 0 (nI 1))))] H := hP
            have hD : va_D A [(h0, .inr (4, [.ref hd, .int (nI n), .int (iI p9)])), (hd, .inl (cB, 1300, .inl (upd f2 0 (nI 1))))] := hD
            refine lv_aload_n hx hb dM_more_89 rfl (lv_at hl 1 rfl) ?_
            refine lv_dup hx hb dM_more_90 rfl ?_
            refine va_get (D := G) (ci := 4) (v := .int (nI n)) (C := RW) (T := TW) (N := 3) hx hb hts inW hown hK hP 0 rfl rfl 1 (by decide) (hts _ kw_2_144) (fun _ h9 => h9) rfl dM_more_91 ?_
            refine lv_iconst (v := nI 1) hx hb dM_more_94 (by decide) ?_
            refine lv_iadd hx hb dM_more_95 ?_
            refine tp_i (y := nI (n + 1)) (nI_add n 1) ?_
            refine va_put (D := G) (ci := 4) (v := .int (nI (n + 1))) (C := RW) (T := TW) (N := 3) hx hb hts inW tyW tyW_ok nmW hown hK hP hD hS 0 rfl rfl 1 (by decide) (hts _ kw_2_144) (fun _ h9 => h9) rfl (tyW_ok 1 (by decide)) (rfl) (rfl) (Nat.le_of_ble_eq_true rfl) dM_more_96 (fun H locs hP hD hS => ?_)
            have hP : va_P G vwCl [(h0, .inr (4, [.ref hd, .int (nI (n + 1)), .int (iI p9)])), (hd, .inl (cB, 1300, .inl (upd f2 0 (nI 1))))] H := hP
            have hD : va_D A [(h0, .inr (4, [.ref hd, .int (nI (n + 1)), .int (iI p9)])), (hd, .inl (cB, 1300, .inl (upd f2 0 (nI 1))))] := hD
            refine lv_aload_n hx hb dM_more_99 rfl (lv_at hl 1 rfl) ?_
            refine lv_dup hx hb dM_more_100 rfl ?_
            refine va_get (D := G) (ci := 4) (v := .int (iI p9)) (C := RW) (T := TW) (N := 3) hx hb hts inW hown hK hP 0 rfl rfl 2 (by decide) (hts _ kw_2_145) (fun _ h9 => h9) rfl dM_more_101 ?_
            refine lv_iconst (v := nI 1) hx hb dM_more_104 (by decide) ?_
            refine lv_iadd hx hb dM_more_105 ?_
            refine tp_i (y := iI (p9 + (1 : Nat))) (iI_nI p9 1) ?_
            refine va_put (D := G) (ci := 4) (v := .int (iI (p9 + (1 : Nat)))) (C := RW) (T := TW) (N := 3) hx hb hts inW tyW tyW_ok nmW hown hK hP hD hS 0 rfl rfl 2 (by decide) (hts _ kw_2_145) (fun _ h9 => h9) rfl (tyW_ok 2 (by decide)) (rfl) (rfl) (Nat.le_of_ble_eq_true rfl) dM_more_106 (fun H locs hP hD hS => ?_)
            have hP : va_P G vwCl [(h0, .inr (4, [.ref hd, .int (nI (n + 1)), .int (iI (p9 + (1 : Nat)))])), (hd, .inl (cB, 1300, .inl (upd f2 0 (nI 1))))] H := hP
            have hD : va_D A [(h0, .inr (4, [.ref hd, .int (nI (n + 1)), .int (iI (p9 + (1 : Nat)))])), (hd, .inl (cB, 1300, .inl (upd f2 0 (nI 1))))] := hD
            exact fin (upd f2 0 (nI 1), moreA, 1) _ _ _ _ dM_more_109 (moreA_rd hn9 h2 (fun j hj => (h9 j (Nat.zero_le j) hj).1)) hP hD hS
          · have h5 : 0 < k := by
              rcases Nat.eq_zero_or_pos k with h | h
              · subst h; exact absurd (Int32.le_refl (0 : Int32)) hc2
              · exact h
            obtain ⟨k, rfl⟩ : ∃ i, k = i + 1 := ⟨k - 1, by omega⟩
            refine lv_aload_n hx hb dM_more_62 rfl (lv_at hl 1 rfl) ?_
            refine va_get (D := G) (ci := 4) (v := .ref hd) (C := RW) (T := TW) (N := 3) hx hb hts inW hown hK hP 0 rfl rfl 0 (by decide) (hts _ kw_2_143) (fun _ h9 => h9) rfl dM_more_63 ?_
            refine lv_iload_n hx hb dM_more_66 rfl (lv_at hl 0 rfl) ?_
            refine lv_aload_n hx hb dM_more_67 rfl (lv_at hl 1 rfl) ?_
            refine va_get (D := G) (ci := 4) (v := .ref hd) (C := RW) (T := TW) (N := 3) hx hb hts inW hown hK hP 0 rfl rfl 0 (by decide) (hts _ kw_2_143) (fun _ h9 => h9) rfl dM_more_68 ?_
            refine lv_iload_n hx hb dM_more_71 rfl (lv_at hl 0 rfl) ?_
            refine lv_iconst (v := nI 1) hx hb dM_more_72 (by decide) ?_
            refine lv_isub hx hb dM_more_73 ?_
            refine tp_i (y := nI k) (nI_pred k) ?_
            refine ld_b hx hb hK hP 1 1 rfl rfl k (rfl) (by omega) (by decide) dM_more_74 ?_
            refine tp_i (y := nI 0) (h2 k (by omega) (by omega)) ?_
            refine st_b (x' := (nI 0)) hx hb hK hP hD hS 1 1 rfl rfl (k + 1) (rfl) (by omega) (by decide) (narb (by decide)) dM_more_75 (fun H locs hP hD hS => ?_)
            have hP : va_P G vwCl [(h0, .inr (4, [.ref hd, .int (nI n), .int (iI p9)])), (hd, .inl (cB, 1300, .inl (upd f2 (k + 1) (nI 0))))] H := hP
            have hD : va_D A [(h0, .inr (4, [.ref hd, .int (nI n), .int (iI p9)])), (hd, .inl (cB, 1300, .inl (upd f2 (k + 1) (nI 0))))] := hD
            refine lv_iinc (k := 0) (v := nI k) hx hb dM_more_76 hl rfl (pk_m1 k) (by decide) rfl (fun ls hl => ?_)
            have hl : lv_has ls 3 [(2, .int (nI k)), (0, .ref h0)] := hl
            refine lv_goto (tgt := 58) hx hb dM_more_79 (by decide) ?_
            have hl : lv_has ls 3 [(2, .int (nI k)), (0, .ref h0)] := lv_sub hl [0, 1] rfl
            exact ih k (upd f2 (k + 1) (nI 0)) _ _ _ (by omega) (by omega) (fun j h1 h3 => by
                by_cases he : j = k + 1
                · subst he; rw [pk_us]
                · rw [pk_un he]; exact h2 j h1 he) hP hD hS hl
      exact lq (_ + 1) n f1 _ _ _ (Nat.lt_succ_self _) (Nat.le_refl _) (fun j h1 h2 => (h9 j (Nat.zero_le j) (by omega)).2) hP hD hS hl
    · have h3 : ¬ ((k : Nat) - 1 : Int) < 0 := fun h => hc ((iI_lt (b := 0) (by omega) (by omega) (by decide) (by decide)).mpr h)
      obtain ⟨k, rfl⟩ : ∃ i, k = i + 1 := ⟨k - 1, by omega⟩
      have hk1 := hr.2 k (by omega)
      have hx8 : g k ≠ 9 := hx9 (by omega)
      have hfk : f1 k = nI (g k) := by rw [hf k (by omega)]; exact hk1.1
      refine lv_aload_n hx hb dM_more_39 rfl (lv_at hl 1 rfl) ?_
      refine va_get (D := G) (ci := 4) (v := .ref hd) (C := RW) (T := TW) (N := 3) hx hb hts inW hown hK hP 0 rfl rfl 0 (by decide) (hts _ kw_2_143) (fun _ h9 => h9) rfl dM_more_40 ?_
      refine lv_iload_n hx hb dM_more_43 rfl (lv_at hl 0 rfl) ?_
      refine tp_i (y := nI k) (dec_i k) ?_
      refine lv_dup2_11 hx hb dM_more_44 rfl rfl ?_
      refine ld_b hx hb hK hP 1 1 rfl rfl k (rfl) (by omega) (by decide) dM_more_45 ?_
      refine tp_i (y := nI (g k)) (hfk) ?_
      refine lv_iconst (v := nI 1) hx hb dM_more_46 (by decide) ?_
      refine lv_iadd hx hb dM_more_47 ?_
      refine tp_i (y := nI (g k + 1)) (nI_add _ 1) ?_
      refine lv_i2b (v := nI (g k + 1)) hx hb dM_more_48 (nar_byte (by omega)) ?_
      refine st_b (x' := (nI (g k + 1))) hx hb hK hP hD hS 1 1 rfl rfl k (rfl) (by omega) (by decide) (narb (by omega)) dM_more_49 (fun H locs hP hD hS => ?_)
      have hP : va_P G vwCl [(h0, .inr (4, [.ref hd, .int (nI n), .int (iI p9)])), (hd, .inl (cB, 1300, .inl (upd f1 k (nI (g k + 1)))))] H := hP
      have hD : va_D A [(h0, .inr (4, [.ref hd, .int (nI n), .int (iI p9)])), (hd, .inl (cB, 1300, .inl (upd f1 k (nI (g k + 1)))))] := hD
      refine lv_goto (tgt := 109) hx hb dM_more_50 (by decide) ?_
      have hP : va_P G vwCl [(h0, .inr (4, [.ref hd, .int (nI (n + 0)), .int (iI (p9 + ((0 : Nat) : Int)))])), (hd, .inl (cB, 1300, .inl (upd f1 k (nI (g k + 1)))))] H := by rw [show p9 + ((0 : Nat) : Int) = p9 by omega]; exact hP
      have hD : va_D A [(h0, .inr (4, [.ref hd, .int (nI (n + 0)), .int (iI (p9 + ((0 : Nat) : Int)))])), (hd, .inl (cB, 1300, .inl (upd f1 k (nI (g k + 1)))))] := by rw [show p9 + ((0 : Nat) : Int) = p9 by omega]; exact hD
      exact fin (upd f1 k (nI (g k + 1)), moreB g k, 0) _ _ _ _ dM_more_109 (moreB_rd hr (by omega) hg0 hx8 hf h9) hP hD hS
  have lp : ∀ (fu : Nat) (k : Nat) (f1 : Nat → Int32) (H : Heap) (locs : List Loc) (ls : Array Slot), k < fu → k ≤ n → (∀ j, k ≤ j → j < n → g j = 9 ∧ f1 j = nI 0) → (∀ j, j < k → f1 j = f j) → va_P G vwCl [(h0, .inr (4, [.ref hd, .int (nI n), .int (iI p9)])), (hd, .inl (cB, 1300, .inl f1))] H → va_D A [(h0, .inr (4, [.ref hd, .int (nI n), .int (iI p9)])), (hd, .inl (cB, 1300, .inl f1))] → va_S A s.heap H locs → lv_has ls 3 [(1, .int (iI ((k : Nat) - 1 : Int))), (0, .ref h0)] → W p l e rmM_more s m args below meth c H locs 0 0 Q (F0 m 7 ls []) := by
    intro fu
    induction fu with
    | zero => intro k f1 H locs ls hfu; exact absurd hfu (Nat.not_lt_zero _)
    | succ fu ih =>
      intro k f1 H locs ls hfu hk h9 hf hP hD hS hl
      refine lv_iload_n hx hb dM_more_7 rfl (lv_at hl 0 rfl) ?_
      refine lv_if_lt (tgt := 35) hx hb dM_more_8 (by decide) (fun hc => ?_) (fun hc => ?_)
      · have h3 := (iI_lt (b := 0) (by omega) (by omega) (by decide) (by decide)).mp hc
        have h4 : k = 0 := by omega
        subst h4
        exact j35 0 f1 _ _ _ (hk) (h9) (hf) (fun h => absurd h (Nat.lt_irrefl 0)) hP hD hS hl
      · have h3 : ¬ ((k : Nat) - 1 : Int) < 0 := fun h => hc ((iI_lt (b := 0) (by omega) (by omega) (by decide) (by decide)).mpr h)
        obtain ⟨k, rfl⟩ : ∃ i, k = i + 1 := ⟨k - 1, by omega⟩
        have hk1 := hr.2 k (by omega)
        have hfk : f1 k = nI (g k) := by rw [hf k (by omega)]; exact hk1.1
        refine lv_aload_n hx hb dM_more_11 rfl (lv_at hl 1 rfl) ?_
        refine va_get (D := G) (ci := 4) (v := .ref hd) (C := RW) (T := TW) (N := 3) hx hb hts inW hown hK hP 0 rfl rfl 0 (by decide) (hts _ kw_2_143) (fun _ h9 => h9) rfl dM_more_12 ?_
        refine lv_iload_n hx hb dM_more_15 rfl (lv_at hl 0 rfl) ?_
        refine tp_i (y := nI k) (dec_i k) ?_
        refine ld_b hx hb hK hP 1 1 rfl rfl k (rfl) (by omega) (by decide) dM_more_16 ?_
        refine tp_i (y := nI (g k)) (hfk) ?_
        refine lv_bipush (v := nI 9) hx hb dM_more_17 (by decide) ?_
        refine lv_icmp_ne (tgt := 35) hx hb dM_more_19 (by decide) (fun hc2 => ?_) (fun hc2 => ?_)
        · exact j35 (k + 1) f1 _ _ _ (hk) (h9) (hf) (fun _ h => hc2 (by rw [show g k = 9 from h])) hP hD hS hl
        · have h5 : g k = 9 := (nI_eq (by omega) (by decide)).mp hc2
          refine lv_aload_n hx hb dM_more_22 rfl (lv_at hl 1 rfl) ?_
          refine va_get (D := G) (ci := 4) (v := .ref hd) (C := RW) (T := TW) (N := 3) hx hb hts inW hown hK hP 0 rfl rfl 0 (by decide) (hts _ kw_2_143) (fun _ h9 => h9) rfl dM_more_23 ?_
          refine lv_iload_n hx hb dM_more_26 rfl (lv_at hl 0 rfl) ?_
          refine tp_i (y := nI k) (dec_i k) ?_
          refine lv_iconst (v := nI 0) hx hb dM_more_27 (by decide) ?_
          refine st_b (x' := (nI 0)) hx hb hK hP hD hS 1 1 rfl rfl k (rfl) (by omega) (by decide) (narb (by decide)) dM_more_28 (fun H locs hP hD hS => ?_)
          have hP : va_P G vwCl [(h0, .inr (4, [.ref hd, .int (nI n), .int (iI p9)])), (hd, .inl (cB, 1300, .inl (upd f1 k (nI 0))))] H := hP
          have hD : va_D A [(h0, .inr (4, [.ref hd, .int (nI n), .int (iI p9)])), (hd, .inl (cB, 1300, .inl (upd f1 k (nI 0))))] := hD
          refine lv_iinc (k := 0) (v := iI ((k : Nat) - 1 : Int)) hx hb dM_more_29 hl rfl (by rw [dec_i k, ← iI_nat]; exact iI_add _ _) (by decide) rfl (fun ls hl => ?_)
          have hl : lv_has ls 3 [(1, .int (iI ((k : Nat) - 1 : Int))), (0, .ref h0)] := hl
          refine lv_goto (tgt := 7) hx hb dM_more_32 (by decide) ?_
          have hl : lv_has ls 3 [(1, .int (iI ((k : Nat) - 1 : Int))), (0, .ref h0)] := lv_sub hl [0, 1] rfl
          exact ih k (upd f1 k (nI 0)) _ _ _ (by omega) (by omega) (fun j h1 h2 => by
              by_cases he : j = k
              · subst he; rw [pk_us]; exact ⟨h5, rfl⟩
              · rw [pk_un he]; exact h9 j (by omega) h2) (fun j hj => by rw [pk_un (by omega)]; exact hf j (by omega)) hP hD hS hl
  exact lp (_ + 1) n f _ _ _ (Nat.lt_succ_self _) (Nat.le_refl _) (fun j h1 h2 => by omega) (fun _ _ => rfl) hP hD hS hl
end MOTIMESM
