section MOCOMPAR
variable {l : Launch} {G : va_G} {cI cB cC cJ : ClassId}
abbrev rmM_compare : Room := { frames := 0, cells := 0, slots := 0, locals := 0 }
set_option maxRecDepth 100000 in
set_option maxHeartbeats 4000000 in
theorem c_mcompare (ad rh rd n1 n2 : Nat) (p1 p2 : Int) (f1 f2 : Nat → Int32) (g1 g2 : Nat → Nat) (v1 v2 : Nat) (h1 : Rw (f1, n1, p1) g1 v1) (h2 : Rw (f2, n2, p2) g2 v2) : CTi l G (tyL cI cB cC cJ) yM_compare cM_compare 8 .int rmM_compare [.ref ad, .int (nI n1), .long (lI p1), .ref rh] ((ad, .inl (cB, 1300, .inl f1)) :: wR cB rh rd (f2, n2, p2)) (fun r (_ : Unit) => r = cm v1 v2) (fun _ => ((ad, .inl (cB, 1300, .inl f1)) :: wR cB rh rd (f2, n2, p2))) := by
  obtain ⟨⟨a1, a2⟩, a3, a4, a5, a6⟩ := h1
  obtain ⟨⟨b1, b2⟩, b3, b4, b5, b6⟩ := h2
  dsimp only at a1 a2 a3 a4 a5 a6 b1 b2 b3 b4 b5 b6
  have a7 := a3.1
  have b7 := b3.1
  refine mkI cM_compare 8 RM .int (by decide) rfl (Nat.le_of_ble_eq_true rfl) ?_
  intro p e s m args below meth c A Q ls hx hb hml hts hown hnm hK hP hD hA hl fin
  have hS : va_S A s.heap s.heap [] := va_S.rf
  have hl : lv_has ls 8 [(0, .ref ad), (1, .int (nI n1)), (2, .long (lI p1)), (4, .ref rh)] := hl
  have hP : va_P G vwCl [(ad, .inl (cB, 1300, .inl f1)), (rh, .inr (4, [.ref rd, .int (nI n2), .int (iI p2)])), (rd, .inl (cB, 1300, .inl f2))] s.heap := hP
  have hD : va_D A [(ad, .inl (cB, 1300, .inl f1)), (rh, .inr (4, [.ref rd, .int (nI n2), .int (iI p2)])), (rd, .inl (cB, 1300, .inl f2))] := hD
  refine lv_iload_n hx hb dM_compare_0 rfl (lv_at hl 1 rfl) ?_
  refine lv_if_eq (tgt := 12) hx hb dM_compare_1 (by decide) (fun hc => absurd hc (nI_ne0 a7 (by omega))) (fun _ => ?_)
  refine lv_aload hx hb dM_compare_4 (lv_at hl 3 rfl) ?_
  refine va_get (D := G) (ci := 4) (v := .int (nI n2)) (C := RW) (T := TW) (N := 3) hx hb hts inW hown hK hP 1 rfl rfl 1 (by decide) (hts _ kw_2_144) (fun _ h9 => h9) rfl dM_compare_6 ?_
  refine lv_if_ne (tgt := 34) hx hb dM_compare_9 (by decide) (fun _ => ?_) (fun hc => absurd hc (nI_ne0 b7 (by omega)))
  refine lv_lload_n hx hb dM_compare_34 rfl (lv_at hl 2 rfl) ?_
  refine lv_aload hx hb dM_compare_35 (lv_at hl 3 rfl) ?_
  refine va_get (D := G) (ci := 4) (v := .int (iI p2)) (C := RW) (T := TW) (N := 3) hx hb hts inW hown hK hP 1 rfl rfl 2 (by decide) (hts _ kw_2_145) (fun _ h9 => h9) rfl dM_compare_37 ?_
  refine lv_i2l (v := lI p2) hx hb dM_compare_40 (iI_l (by omega) (by omega)) ?_
  refine W.lcmp hx hb dM_compare_41 ?_
  refine lv_if_eq (tgt := 62) hx hb dM_compare_42 (by decide) (fun hc => ?_) (fun hc => ?_)
  · have hp : p1 = p2 := (lI_eq (by omega) (by omega) (by omega) (by omega)).mp ((lg_cmp_eq _ _).mp hc)
    subst hp
    refine lv_iconst (v := nI 0) hx hb dM_compare_62 (by decide) ?_
    refine lv_istore hx hb dM_compare_63 hl (by decide) rfl (fun ls hl => ?_)
    have hl : lv_has ls 8 [(5, .int (nI 0)), (0, .ref ad), (1, .int (nI n1)), (2, .long (lI p1)), (4, .ref rh)] := hl
    have hl : lv_has ls 8 [(5, .int (nI 0)), (0, .ref ad), (1, .int (nI n1)), (4, .ref rh)] := lv_sub hl [0, 1, 2, 4] rfl
    have lp : ∀ (fu : Nat) (i : Nat) (H : Heap) (locs : List Loc) (ls : Array Slot), 1300 - i < fu → i ≤ 1300 → (∀ j, j < i → pad g1 n1 j = pad g2 n2 j) → va_P G vwCl [(ad, .inl (cB, 1300, .inl f1)), (rh, .inr (4, [.ref rd, .int (nI n2), .int (iI p1)])), (rd, .inl (cB, 1300, .inl f2))] H → va_D A [(ad, .inl (cB, 1300, .inl f1)), (rh, .inr (4, [.ref rd, .int (nI n2), .int (iI p1)])), (rd, .inl (cB, 1300, .inl f2))] → va_S A s.heap H locs → lv_has ls 8 [(5, .int (nI i)), (0, .ref ad), (1, .int (nI n1)), (4, .ref rh)] → W p l e rmM_compare s m args below meth c H locs 0 0 Q (F0 m 65 ls []) := by
      intro fu
      induction fu with
      | zero => intro i H locs ls hfu; exact absurd hfu (Nat.not_lt_zero _)
      | succ fu ih =>
        intro i H locs ls hfu hi he hP hD hS hl
        have j121 : ∀  (H : Heap) (locs : List Loc) (ls : Array Slot), (i < n1 ∨ i < n2) → va_P G vwCl [(ad, .inl (cB, 1300, .inl f1)), (rh, .inr (4, [.ref rd, .int (nI n2), .int (iI p1)])), (rd, .inl (cB, 1300, .inl f2))] H → va_D A [(ad, .inl (cB, 1300, .inl f1)), (rh, .inr (4, [.ref rd, .int (nI n2), .int (iI p1)])), (rd, .inl (cB, 1300, .inl f2))] → va_S A s.heap H locs → lv_has ls 8 [(7, .int (nI (pad g2 n2 i))), (6, .int (nI (pad g1 n1 i))), (5, .int (nI i)), (0, .ref ad), (1, .int (nI n1)), (4, .ref rh)] → W p l e rmM_compare s m args below meth c H locs 0 0 Q (F0 m 121 ls []) := by
          intro  H locs ls hi9 hP hD hS hl
          have q1 := pad_lt (fun j hj => (a2 j hj).2) i
          have q2 := pad_lt (fun j hj => (b2 j hj).2) i
          refine lv_iload hx hb dM_compare_121 (lv_at hl 1 rfl) ?_
          refine lv_iload hx hb dM_compare_123 (lv_at hl 0 rfl) ?_
          refine lv_icmp_eq (tgt := 141) hx hb dM_compare_125 (by decide) (fun hc => ?_) (fun hc => ?_)
          · have e9 : pad g1 n1 i = pad g2 n2 i := (nI_eq (by omega) (by omega)).mp hc
            refine lv_iinc (k := 2) (v := nI (i + 1)) hx hb dM_compare_141 hl rfl (nI_1 i) (by decide) rfl (fun ls hl => ?_)
            have hl : lv_has ls 8 [(5, .int (nI (i + 1))), (7, .int (nI (pad g2 n2 i))), (6, .int (nI (pad g1 n1 i))), (0, .ref ad), (1, .int (nI n1)), (4, .ref rh)] := hl
            refine lv_goto (tgt := 65) hx hb dM_compare_144 (by decide) ?_
            have hl : lv_has ls 8 [(5, .int (nI (i + 1))), (0, .ref ad), (1, .int (nI n1)), (4, .ref rh)] := lv_sub hl [0, 3, 4, 5] rfl
            exact ih (i + 1) _ _ _ (by omega) (by omega) (fun j hj => by
                by_cases h : j = i
                · subst h; exact e9
                · exact he j (by omega)) hP hD hS hl
          · have e9 : ¬ pad g1 n1 i = pad g2 n2 i := fun h => hc (by rw [h])
            refine lv_iload hx hb dM_compare_128 (lv_at hl 1 rfl) ?_
            refine lv_iload hx hb dM_compare_130 (lv_at hl 0 rfl) ?_
            refine lv_icmp_ge (tgt := 139) hx hb dM_compare_132 (by decide) (fun hc2 => ?_) (fun hc2 => ?_)
            · have e8 := (nI_leI (by omega) (by omega)).mp hc2
              refine lv_iconst (v := nI 1) hx hb dM_compare_139 (by decide) ?_
              exact fin (nI 1) (()) _ _ _ _ dM_compare_140 (rfl) (by rw [← a6, ← b6, cm_gt (cmp_less (fun j hj => (b2 j hj).2) (fun j hj => (a2 j hj).2) b4 a4 hi9.symm (fun j hj => (he j hj).symm) (by omega))]) hP hD hS
            · have e8 : ¬ pad g2 n2 i ≤ pad g1 n1 i := fun h => hc2 ((nI_leI (by omega) (by omega)).mpr h)
              refine lv_iconst (v := (-1)) hx hb dM_compare_135 (by decide) ?_
              refine lv_goto (tgt := 140) hx hb dM_compare_136 (by decide) ?_
              exact fin (-1) (()) _ _ _ _ dM_compare_140 (rfl) (by rw [← a6, ← b6, cm_lt (cmp_less (fun j hj => (a2 j hj).2) (fun j hj => (b2 j hj).2) a4 b4 hi9 he (by omega))]) hP hD hS
        by_cases hi1 : i < n1
        · refine lv_iload hx hb dM_compare_65 (lv_at hl 0 rfl) ?_
          refine lv_iload_n hx hb dM_compare_67 rfl (lv_at hl 2 rfl) ?_
          refine lv_icmp_lt (tgt := 81) hx hb dM_compare_68 (by decide) (fun _ => ?_) (fun hc => absurd (nI_lt hi1 (by omega)) hc)
          refine lv_iload hx hb dM_compare_81 (lv_at hl 0 rfl) ?_
          refine lv_iload_n hx hb dM_compare_83 rfl (lv_at hl 2 rfl) ?_
          by_cases hi2 : i < n2
          · refine lv_icmp_ge (tgt := 94) hx hb dM_compare_84 (by decide) (fun hc => absurd hc (nI_ge hi1 (by omega))) (fun _ => ?_)
            refine lv_aload_n hx hb dM_compare_87 rfl (lv_at hl 1 rfl) ?_
            refine lv_iload hx hb dM_compare_88 (lv_at hl 0 rfl) ?_
            refine ld_b hx hb hK hP 0 1 rfl rfl i (rfl) (by omega) (by decide) dM_compare_90 ?_
            refine tp_i (y := nI (pad g1 n1 i)) (pad_nI ⟨a1, a2⟩ hi1) ?_
            refine lv_goto (tgt := 95) hx hb dM_compare_91 (by decide) ?_
            refine lv_istore hx hb dM_compare_95 hl (by decide) rfl (fun ls hl => ?_)
            have hl : lv_has ls 8 [(6, .int (nI (pad g1 n1 i))), (5, .int (nI i)), (0, .ref ad), (1, .int (nI n1)), (4, .ref rh)] := hl
            refine lv_iload hx hb dM_compare_97 (lv_at hl 1 rfl) ?_
            refine lv_aload hx hb dM_compare_99 (lv_at hl 4 rfl) ?_
            refine va_get (D := G) (ci := 4) (v := .int (nI n2)) (C := RW) (T := TW) (N := 3) hx hb hts inW hown hK hP 1 rfl rfl 1 (by decide) (hts _ kw_2_144) (fun _ h9 => h9) rfl dM_compare_101 ?_
            refine lv_icmp_ge (tgt := 118) hx hb dM_compare_104 (by decide) (fun hc => absurd hc (nI_ge hi2 (by omega))) (fun _ => ?_)
            refine lv_aload hx hb dM_compare_107 (lv_at hl 4 rfl) ?_
            refine va_get (D := G) (ci := 4) (v := .ref rd) (C := RW) (T := TW) (N := 3) hx hb hts inW hown hK hP 1 rfl rfl 0 (by decide) (hts _ kw_2_143) (fun _ h9 => h9) rfl dM_compare_109 ?_
            refine lv_iload hx hb dM_compare_112 (lv_at hl 1 rfl) ?_
            refine ld_b hx hb hK hP 2 1 rfl rfl i (rfl) (by omega) (by decide) dM_compare_114 ?_
            refine tp_i (y := nI (pad g2 n2 i)) (pad_nI ⟨b1, b2⟩ hi2) ?_
            refine lv_goto (tgt := 119) hx hb dM_compare_115 (by decide) ?_
            refine lv_istore hx hb dM_compare_119 hl (by decide) rfl (fun ls hl => ?_)
            have hl : lv_has ls 8 [(7, .int (nI (pad g2 n2 i))), (6, .int (nI (pad g1 n1 i))), (5, .int (nI i)), (0, .ref ad), (1, .int (nI n1)), (4, .ref rh)] := hl
            have hl : lv_has ls 8 [(7, .int (nI (pad g2 n2 i))), (6, .int (nI (pad g1 n1 i))), (5, .int (nI i)), (0, .ref ad), (1, .int (nI n1)), (4, .ref rh)] := lv_sub hl [0, 1, 2, 3, 4, 5] rfl
            exact j121  _ _ _ (Or.inl hi1) hP hD hS hl
          · refine lv_icmp_ge (tgt := 94) hx hb dM_compare_84 (by decide) (fun hc => absurd hc (nI_ge hi1 (by omega))) (fun _ => ?_)
            refine lv_aload_n hx hb dM_compare_87 rfl (lv_at hl 1 rfl) ?_
            refine lv_iload hx hb dM_compare_88 (lv_at hl 0 rfl) ?_
            refine ld_b hx hb hK hP 0 1 rfl rfl i (rfl) (by omega) (by decide) dM_compare_90 ?_
            refine tp_i (y := nI (pad g1 n1 i)) (pad_nI ⟨a1, a2⟩ hi1) ?_
            refine lv_goto (tgt := 95) hx hb dM_compare_91 (by decide) ?_
            refine lv_istore hx hb dM_compare_95 hl (by decide) rfl (fun ls hl => ?_)
            have hl : lv_has ls 8 [(6, .int (nI (pad g1 n1 i))), (5, .int (nI i)), (0, .ref ad), (1, .int (nI n1)), (4, .ref rh)] := hl
            refine lv_iload hx hb dM_compare_97 (lv_at hl 1 rfl) ?_
            refine lv_aload hx hb dM_compare_99 (lv_at hl 4 rfl) ?_
            refine va_get (D := G) (ci := 4) (v := .int (nI n2)) (C := RW) (T := TW) (N := 3) hx hb hts inW hown hK hP 1 rfl rfl 1 (by decide) (hts _ kw_2_144) (fun _ h9 => h9) rfl dM_compare_101 ?_
            refine lv_icmp_ge (tgt := 118) hx hb dM_compare_104 (by decide) (fun _ => ?_) (fun hc => absurd (nI_le (by omega) (by omega)) hc)
            refine lv_iconst (v := nI 0) hx hb dM_compare_118 (by decide) ?_
            refine tp_i (y := nI (pad g2 n2 i)) (by rw [pad_0 hi2]) ?_
            refine lv_istore hx hb dM_compare_119 hl (by decide) rfl (fun ls hl => ?_)
            have hl : lv_has ls 8 [(7, .int (nI (pad g2 n2 i))), (6, .int (nI (pad g1 n1 i))), (5, .int (nI i)), (0, .ref ad), (1, .int (nI n1)), (4, .ref rh)] := hl
            have hl : lv_has ls 8 [(7, .int (nI (pad g2 n2 i))), (6, .int (nI (pad g1 n1 i))), (5, .int (nI i)), (0, .ref ad), (1, .int (nI n1)), (4, .ref rh)] := lv_sub hl [0, 1, 2, 3, 4, 5] rfl
            exact j121  _ _ _ (Or.inl hi1) hP hD hS hl
        · refine lv_iload hx hb dM_compare_65 (lv_at hl 0 rfl) ?_
          refine lv_iload_n hx hb dM_compare_67 rfl (lv_at hl 2 rfl) ?_
          refine lv_icmp_lt (tgt := 81) hx hb dM_compare_68 (by decide) (fun hc => absurd hc (nI_nlt (by omega) (by omega))) (fun _ => ?_)
          refine lv_iload hx hb dM_compare_71 (lv_at hl 0 rfl) ?_
          refine lv_aload hx hb dM_compare_73 (lv_at hl 3 rfl) ?_
          refine va_get (D := G) (ci := 4) (v := .int (nI n2)) (C := RW) (T := TW) (N := 3) hx hb hts inW hown hK hP 1 rfl rfl 1 (by decide) (hts _ kw_2_144) (fun _ h9 => h9) rfl dM_compare_75 ?_
          by_cases hi2 : i < n2
          · refine lv_icmp_ge (tgt := 147) hx hb dM_compare_78 (by decide) (fun hc => absurd hc (nI_ge hi2 (by omega))) (fun _ => ?_)
            refine lv_iload hx hb dM_compare_81 (lv_at hl 0 rfl) ?_
            refine lv_iload_n hx hb dM_compare_83 rfl (lv_at hl 2 rfl) ?_
            refine lv_icmp_ge (tgt := 94) hx hb dM_compare_84 (by decide) (fun _ => ?_) (fun hc => absurd (nI_le (by omega) (by omega)) hc)
            refine lv_iconst (v := nI 0) hx hb dM_compare_94 (by decide) ?_
            refine tp_i (y := nI (pad g1 n1 i)) (by rw [pad_0 hi1]) ?_
            refine lv_istore hx hb dM_compare_95 hl (by decide) rfl (fun ls hl => ?_)
            have hl : lv_has ls 8 [(6, .int (nI (pad g1 n1 i))), (5, .int (nI i)), (0, .ref ad), (1, .int (nI n1)), (4, .ref rh)] := hl
            refine lv_iload hx hb dM_compare_97 (lv_at hl 1 rfl) ?_
            refine lv_aload hx hb dM_compare_99 (lv_at hl 4 rfl) ?_
            refine va_get (D := G) (ci := 4) (v := .int (nI n2)) (C := RW) (T := TW) (N := 3) hx hb hts inW hown hK hP 1 rfl rfl 1 (by decide) (hts _ kw_2_144) (fun _ h9 => h9) rfl dM_compare_101 ?_
            refine lv_icmp_ge (tgt := 118) hx hb dM_compare_104 (by decide) (fun hc => absurd hc (nI_ge hi2 (by omega))) (fun _ => ?_)
            refine lv_aload hx hb dM_compare_107 (lv_at hl 4 rfl) ?_
            refine va_get (D := G) (ci := 4) (v := .ref rd) (C := RW) (T := TW) (N := 3) hx hb hts inW hown hK hP 1 rfl rfl 0 (by decide) (hts _ kw_2_143) (fun _ h9 => h9) rfl dM_compare_109 ?_
            refine lv_iload hx hb dM_compare_112 (lv_at hl 1 rfl) ?_
            refine ld_b hx hb hK hP 2 1 rfl rfl i (rfl) (by omega) (by decide) dM_compare_114 ?_
            refine tp_i (y := nI (pad g2 n2 i)) (pad_nI ⟨b1, b2⟩ hi2) ?_
            refine lv_goto (tgt := 119) hx hb dM_compare_115 (by decide) ?_
            refine lv_istore hx hb dM_compare_119 hl (by decide) rfl (fun ls hl => ?_)
            have hl : lv_has ls 8 [(7, .int (nI (pad g2 n2 i))), (6, .int (nI (pad g1 n1 i))), (5, .int (nI i)), (0, .ref ad), (1, .int (nI n1)), (4, .ref rh)] := hl
            have hl : lv_has ls 8 [(7, .int (nI (pad g2 n2 i))), (6, .int (nI (pad g1 n1 i))), (5, .int (nI i)), (0, .ref ad), (1, .int (nI n1)), (4, .ref rh)] := lv_sub hl [0, 1, 2, 3, 4, 5] rfl
            exact j121  _ _ _ (Or.inr hi2) hP hD hS hl
          · refine lv_icmp_ge (tgt := 147) hx hb dM_compare_78 (by decide) (fun _ => ?_) (fun hc => absurd (nI_le (by omega) (by omega)) hc)
            refine lv_iconst (v := nI 0) hx hb dM_compare_147 (by decide) ?_
            exact fin (nI 0) (()) _ _ _ _ dM_compare_148 (rfl) (by rw [← a6, ← b6, cmp_same a4 b4 (by omega) (by omega) he, cm_self]; rfl) hP hD hS
    exact lp (_ + 1) 0 _ _ _ (Nat.lt_succ_self _) (Nat.zero_le _) (fun j hj => absurd hj (Nat.not_lt_zero j)) hP hD hS hl
  · have hp : ¬ p1 = p2 := fun h => hc ((lg_cmp_eq _ _).mpr (by rw [h]))
    refine lv_lload_n hx hb dM_compare_45 rfl (lv_at hl 2 rfl) ?_
    refine lv_aload hx hb dM_compare_46 (lv_at hl 3 rfl) ?_
    refine va_get (D := G) (ci := 4) (v := .int (iI p2)) (C := RW) (T := TW) (N := 3) hx hb hts inW hown hK hP 1 rfl rfl 2 (by decide) (hts _ kw_2_145) (fun _ h9 => h9) rfl dM_compare_48 ?_
    refine lv_i2l (v := lI p2) hx hb dM_compare_51 (iI_l (by omega) (by omega)) ?_
    refine W.lcmp hx hb dM_compare_52 ?_
    refine lv_if_ge (tgt := 60) hx hb dM_compare_53 (by decide) (fun hc2 => ?_) (fun hc2 => ?_)
    · have h5 := (lI_le (by omega) (by omega) (by omega) (by omega)).mp ((lg_cmp_ge _ _).mp hc2)
      refine lv_iconst (v := nI 1) hx hb dM_compare_60 (by decide) ?_
      exact fin (nI 1) (()) _ _ _ _ dM_compare_61 (rfl) (by rw [← a6, ← b6, cm_gt (cmp_p b3 a3 b4 a4 (by omega))]) hP hD hS
    · have h5 : ¬ p2 ≤ p1 := fun h => hc2 ((lg_cmp_ge _ _).mpr ((lI_le (by omega) (by omega) (by omega) (by omega)).mpr h))
      refine lv_iconst (v := (-1)) hx hb dM_compare_56 (by decide) ?_
      refine lv_goto (tgt := 61) hx hb dM_compare_57 (by decide) ?_
      exact fin (-1) (()) _ _ _ _ dM_compare_61 (rfl) (by rw [← a6, ← b6, cm_lt (cmp_p a3 b3 a4 b4 (by omega))]) hP hD hS
abbrev rmM_reads : Room := { frames := 1, cells := 0, slots := 0, locals := 27 }
set_option maxRecDepth 100000 in
set_option maxHeartbeats 4000000 in
theorem c_reads (m9 : Nat → Nat) (len code bits least used held : Int32) (rh rd : Nat) (rL rH r : R3) (gL gH g : Nat → Nat) (vL vH v c9 : Nat) (hL : Rw rL gL vL) (hH : Rw rH gH vH) (hr : Rw r g v) (hc9 : c9 < 2 ^ 63) : CTi l G (tyL cI cB cC cJ) yM_reads cM_reads 6 .boolean rmM_reads [.ref (m9 0), .ref rh, .long (lN c9)] (mO m9 len code bits least used held :: (wR cB (m9 6) (m9 7) rL ++ wR cB (m9 8) (m9 9) rH ++ wR cB rh rd r)) (fun y (_ : Unit) => (y = nI 1 ∧ rds c9 vL vH v) ∨ (y = nI 0 ∧ ¬ rds c9 vL vH v)) (fun _ => (mO m9 len code bits least used held :: (wR cB (m9 6) (m9 7) rL ++ wR cB (m9 8) (m9 9) rH ++ wR cB rh rd r))) := by
  have r5 := hr.2.2.2.1
  have r4 := hr.2.2.1
  refine mkI cM_reads 6 RM .boolean (by decide) rfl (Nat.le_of_ble_eq_true rfl) ?_
  intro p e s m args below meth c A Q ls hx hb hml hts hown hnm hK hP hD hA hl fin
  have hS : va_S A s.heap s.heap [] := va_S.rf
  have hl : lv_has ls 6 [(0, .ref (m9 0)), (1, .ref rh), (2, .long (lN c9))] := hl
  have hP : va_P G vwCl [(m9 0, .inr (5, [.ref (m9 1), .int len, .int code, .int bits, .int least, .ref (m9 2), .int used, .ref (m9 4), .ref (m9 6), .ref (m9 8), .ref (m9 10), .ref (m9 12), .ref (m9 3), .int held])), (m9 6, .inr (4, [.ref (m9 7), .int (nI rL.2.1), .int (iI rL.2.2)])), (m9 7, .inl (cB, 1300, .inl rL.1)), (m9 8, .inr (4, [.ref (m9 9), .int (nI rH.2.1), .int (iI rH.2.2)])), (m9 9, .inl (cB, 1300, .inl rH.1)), (rh, .inr (4, [.ref rd, .int (nI r.2.1), .int (iI r.2.2)])), (rd, .inl (cB, 1300, .inl r.1))] s.heap := hP
  have hD : va_D A [(m9 0, .inr (5, [.ref (m9 1), .int len, .int code, .int bits, .int least, .ref (m9 2), .int used, .ref (m9 4), .ref (m9 6), .ref (m9 8), .ref (m9 10), .ref (m9 12), .ref (m9 3), .int held])), (m9 6, .inr (4, [.ref (m9 7), .int (nI rL.2.1), .int (iI rL.2.2)])), (m9 7, .inl (cB, 1300, .inl rL.1)), (m9 8, .inr (4, [.ref (m9 9), .int (nI rH.2.1), .int (iI rH.2.2)])), (m9 9, .inl (cB, 1300, .inl rH.1)), (rh, .inr (4, [.ref rd, .int (nI r.2.1), .int (iI r.2.2)])), (rd, .inl (cB, 1300, .inl r.1))] := hD
  refine lv_aload_n hx hb dM_reads_0 rfl (lv_at hl 1 rfl) ?_
  refine va_get (D := G) (ci := 4) (v := .ref rd) (C := RW) (T := TW) (N := 3) hx hb hts inW hown hK hP 5 rfl rfl 0 (by decide) (hts _ kw_2_143) (fun _ h9 => h9) rfl dM_reads_1 ?_
  refine lv_aload_n hx hb dM_reads_4 rfl (lv_at hl 1 rfl) ?_
  refine va_get (D := G) (ci := 4) (v := .int (nI r.2.1)) (C := RW) (T := TW) (N := 3) hx hb hts inW hown hK hP 5 rfl rfl 1 (by decide) (hts _ kw_2_144) (fun _ h9 => h9) rfl dM_reads_5 ?_
  refine lv_aload_n hx hb dM_reads_8 rfl (lv_at hl 1 rfl) ?_
  refine va_get (D := G) (ci := 4) (v := .int (iI r.2.2)) (C := RW) (T := TW) (N := 3) hx hb hts inW hown hK hP 5 rfl rfl 2 (by decide) (hts _ kw_2_145) (fun _ h9 => h9) rfl dM_reads_9 ?_
  refine lv_i2l (v := lI r.2.2) hx hb dM_reads_12 (iI_l (by omega) (by omega)) ?_
  refine lv_aload_n hx hb dM_reads_13 rfl (lv_at hl 0 rfl) ?_
  refine va_get (D := G) (ci := 5) (v := .ref (m9 6)) (C := RM) (T := TM) (N := 14) hx hb hts inM hown hK hP 0 rfl rfl 8 (by decide) (hts _ kw_2_162) (fun _ h9 => h9) rfl dM_reads_14 ?_
  refine jnI (Wr := [(m9 0, .inr (5, [.ref (m9 1), .int len, .int code, .int bits, .int least, .ref (m9 2), .int used, .ref (m9 4), .ref (m9 6), .ref (m9 8), .ref (m9 10), .ref (m9 12), .ref (m9 3), .int held])), (m9 8, .inr (4, [.ref (m9 9), .int (nI rH.2.1), .int (iI rH.2.2)])), (m9 9, .inl (cB, 1300, .inl rH.1)), (rh, .inr (4, [.ref rd, .int (nI r.2.1), .int (iI r.2.2)]))]) (W2 := fun y1 => [(m9 0, .inr (5, [.ref (m9 1), .int len, .int code, .int bits, .int least, .ref (m9 2), .int used, .ref (m9 4), .ref (m9 6), .ref (m9 8), .ref (m9 10), .ref (m9 12), .ref (m9 3), .int held])), (m9 6, .inr (4, [.ref (m9 7), .int (nI rL.2.1), .int (iI rL.2.2)])), (m9 7, .inl (cB, 1300, .inl rL.1)), (m9 8, .inr (4, [.ref (m9 9), .int (nI rH.2.1), .int (iI rH.2.2)])), (m9 9, .inl (cB, 1300, .inl rH.1)), (rh, .inr (4, [.ref rd, .int (nI r.2.1), .int (iI r.2.2)])), (rd, .inl (cB, 1300, .inl r.1))]) (rS (n := 4) (As := [.ref rd, .int (nI r.2.1), .long (lI r.2.2), .ref (m9 6)]) (rest := []) hx hb hml hown hts (c_mcompare rd (m9 6) (m9 7) r.2.1 rL.2.1 r.2.2 rL.2.2 r.1 rL.1 g gL v vL hr hL _) kw_3_58 kw_3_56 kw_3_57 kw_1_5 (by decide +kernel) ⟨Nat.le_of_ble_eq_true rfl, Nat.le_of_ble_eq_true rfl⟩ hK hP hD [6, 1, 2] rfl rfl rfl rfl hl.1 rfl (lv_room (Nat.le_of_ble_eq_true rfl)) dM_reads_17 ⟨Nat.le_of_ble_eq_true rfl, Nat.le_of_ble_eq_true rfl⟩) hP hD hS hA [6, 1, 2] [0, 3, 4, 5] [0, 5, 6, 1, 2, 3, 4] rfl rfl rfl (by decide) (fun _ => rfl) rfl (fun o1 y1 H locs q1 hP hD hS => ?_)
  have hP : va_P G vwCl [(m9 0, .inr (5, [.ref (m9 1), .int len, .int code, .int bits, .int least, .ref (m9 2), .int used, .ref (m9 4), .ref (m9 6), .ref (m9 8), .ref (m9 10), .ref (m9 12), .ref (m9 3), .int held])), (m9 6, .inr (4, [.ref (m9 7), .int (nI rL.2.1), .int (iI rL.2.2)])), (m9 7, .inl (cB, 1300, .inl rL.1)), (m9 8, .inr (4, [.ref (m9 9), .int (nI rH.2.1), .int (iI rH.2.2)])), (m9 9, .inl (cB, 1300, .inl rH.1)), (rh, .inr (4, [.ref rd, .int (nI r.2.1), .int (iI r.2.2)])), (rd, .inl (cB, 1300, .inl r.1))] H := hP
  have hD : va_D A [(m9 0, .inr (5, [.ref (m9 1), .int len, .int code, .int bits, .int least, .ref (m9 2), .int used, .ref (m9 4), .ref (m9 6), .ref (m9 8), .ref (m9 10), .ref (m9 12), .ref (m9 3), .int held])), (m9 6, .inr (4, [.ref (m9 7), .int (nI rL.2.1), .int (iI rL.2.2)])), (m9 7, .inl (cB, 1300, .inl rL.1)), (m9 8, .inr (4, [.ref (m9 9), .int (nI rH.2.1), .int (iI rH.2.2)])), (m9 9, .inl (cB, 1300, .inl rH.1)), (rh, .inr (4, [.ref rd, .int (nI r.2.1), .int (iI r.2.2)])), (rd, .inl (cB, 1300, .inl r.1))] := hD
  subst q1
  refine lv_istore hx hb dM_reads_20 hl (by decide) rfl (fun ls hl => ?_)
  have hl : lv_has ls 6 [(4, .int (cm v vL)), (0, .ref (m9 0)), (1, .ref rh), (2, .long (lN c9))] := hl
  refine lv_aload_n hx hb dM_reads_22 rfl (lv_at hl 2 rfl) ?_
  refine va_get (D := G) (ci := 4) (v := .ref rd) (C := RW) (T := TW) (N := 3) hx hb hts inW hown hK hP 5 rfl rfl 0 (by decide) (hts _ kw_2_143) (fun _ h9 => h9) rfl dM_reads_23 ?_
  refine lv_aload_n hx hb dM_reads_26 rfl (lv_at hl 2 rfl) ?_
  refine va_get (D := G) (ci := 4) (v := .int (nI r.2.1)) (C := RW) (T := TW) (N := 3) hx hb hts inW hown hK hP 5 rfl rfl 1 (by decide) (hts _ kw_2_144) (fun _ h9 => h9) rfl dM_reads_27 ?_
  refine lv_aload_n hx hb dM_reads_30 rfl (lv_at hl 2 rfl) ?_
  refine va_get (D := G) (ci := 4) (v := .int (iI r.2.2)) (C := RW) (T := TW) (N := 3) hx hb hts inW hown hK hP 5 rfl rfl 2 (by decide) (hts _ kw_2_145) (fun _ h9 => h9) rfl dM_reads_31 ?_
  refine lv_i2l (v := lI r.2.2) hx hb dM_reads_34 (iI_l (by omega) (by omega)) ?_
  refine lv_aload_n hx hb dM_reads_35 rfl (lv_at hl 1 rfl) ?_
  refine va_get (D := G) (ci := 5) (v := .ref (m9 8)) (C := RM) (T := TM) (N := 14) hx hb hts inM hown hK hP 0 rfl rfl 9 (by decide) (hts _ kw_2_163) (fun _ h9 => h9) rfl dM_reads_36 ?_
  refine jnI (Wr := [(m9 0, .inr (5, [.ref (m9 1), .int len, .int code, .int bits, .int least, .ref (m9 2), .int used, .ref (m9 4), .ref (m9 6), .ref (m9 8), .ref (m9 10), .ref (m9 12), .ref (m9 3), .int held])), (m9 6, .inr (4, [.ref (m9 7), .int (nI rL.2.1), .int (iI rL.2.2)])), (m9 7, .inl (cB, 1300, .inl rL.1)), (rh, .inr (4, [.ref rd, .int (nI r.2.1), .int (iI r.2.2)]))]) (W2 := fun y2 => [(m9 0, .inr (5, [.ref (m9 1), .int len, .int code, .int bits, .int least, .ref (m9 2), .int used, .ref (m9 4), .ref (m9 6), .ref (m9 8), .ref (m9 10), .ref (m9 12), .ref (m9 3), .int held])), (m9 6, .inr (4, [.ref (m9 7), .int (nI rL.2.1), .int (iI rL.2.2)])), (m9 7, .inl (cB, 1300, .inl rL.1)), (m9 8, .inr (4, [.ref (m9 9), .int (nI rH.2.1), .int (iI rH.2.2)])), (m9 9, .inl (cB, 1300, .inl rH.1)), (rh, .inr (4, [.ref rd, .int (nI r.2.1), .int (iI r.2.2)])), (rd, .inl (cB, 1300, .inl r.1))]) (rS (n := 4) (As := [.ref rd, .int (nI r.2.1), .long (lI r.2.2), .ref (m9 8)]) (rest := []) hx hb hml hown hts (c_mcompare rd (m9 8) (m9 9) r.2.1 rH.2.1 r.2.2 rH.2.2 r.1 rH.1 g gH v vH hr hH _) kw_3_58 kw_3_56 kw_3_57 kw_1_5 (by decide +kernel) ⟨Nat.le_of_ble_eq_true rfl, Nat.le_of_ble_eq_true rfl⟩ hK hP hD [6, 3, 4] rfl rfl rfl rfl hl.1 rfl (lv_room (Nat.le_of_ble_eq_true rfl)) dM_reads_39 ⟨Nat.le_of_ble_eq_true rfl, Nat.le_of_ble_eq_true rfl⟩) hP hD hS hA [6, 3, 4] [0, 1, 2, 5] [0, 1, 2, 5, 6, 3, 4] rfl rfl rfl (by decide) (fun _ => rfl) rfl (fun o2 y2 H locs q2 hP hD hS => ?_)
  have hP : va_P G vwCl [(m9 0, .inr (5, [.ref (m9 1), .int len, .int code, .int bits, .int least, .ref (m9 2), .int used, .ref (m9 4), .ref (m9 6), .ref (m9 8), .ref (m9 10), .ref (m9 12), .ref (m9 3), .int held])), (m9 6, .inr (4, [.ref (m9 7), .int (nI rL.2.1), .int (iI rL.2.2)])), (m9 7, .inl (cB, 1300, .inl rL.1)), (m9 8, .inr (4, [.ref (m9 9), .int (nI rH.2.1), .int (iI rH.2.2)])), (m9 9, .inl (cB, 1300, .inl rH.1)), (rh, .inr (4, [.ref rd, .int (nI r.2.1), .int (iI r.2.2)])), (rd, .inl (cB, 1300, .inl r.1))] H := hP
  have hD : va_D A [(m9 0, .inr (5, [.ref (m9 1), .int len, .int code, .int bits, .int least, .ref (m9 2), .int used, .ref (m9 4), .ref (m9 6), .ref (m9 8), .ref (m9 10), .ref (m9 12), .ref (m9 3), .int held])), (m9 6, .inr (4, [.ref (m9 7), .int (nI rL.2.1), .int (iI rL.2.2)])), (m9 7, .inl (cB, 1300, .inl rL.1)), (m9 8, .inr (4, [.ref (m9 9), .int (nI rH.2.1), .int (iI rH.2.2)])), (m9 9, .inl (cB, 1300, .inl rH.1)), (rh, .inr (4, [.ref rd, .int (nI r.2.1), .int (iI r.2.2)])), (rd, .inl (cB, 1300, .inl r.1))] := hD
  subst q2
  refine lv_istore hx hb dM_reads_42 hl (by decide) rfl (fun ls hl => ?_)
  have hl : lv_has ls 6 [(5, .int (cm v vH)), (4, .int (cm v vL)), (0, .ref (m9 0)), (1, .ref rh), (2, .long (lN c9))] := hl
  refine lv_lload_n hx hb dM_reads_44 rfl (lv_at hl 4 rfl) ?_
  refine lv_lconst (v := lN 1) hx hb dM_reads_45 (by decide) ?_
  refine lv_land hx hb dM_reads_46 ?_
  refine tp_l (y := lN (c9 % 2)) (wb_a1 (by omega)) ?_
  refine lv_lconst (v := lN 0) hx hb dM_reads_47 (by decide) ?_
  refine W.lcmp hx hb dM_reads_48 ?_
  refine lv_if_ne (tgt := 70) hx hb dM_reads_49 (by decide) (fun hc => ?_) (fun hc => ?_)
  · have h3 : ¬ c9 % 2 = 0 := fun h => hc ((lg_cmp_eq _ _).mpr (by rw [h]))
    have e9 : rds c9 vL vH v ↔ (vL < v ∧ v < vH) := by unfold rds; rw [if_neg h3]
    refine lv_iload hx hb dM_reads_70 (lv_at hl 1 rfl) ?_
    refine lv_if_le (tgt := 84) hx hb dM_reads_72 (by decide) (fun hc2 => ?_) (fun hc2 => ?_)
    · have h4 := cm_le0.mp hc2
      refine lv_iconst (v := nI 0) hx hb dM_reads_84 (by decide) ?_
      exact fin (nI 0) (()) _ _ _ _ dM_reads_85 (by decide) (Or.inr ⟨rfl, fun h => by have := e9.mp h; omega⟩) hP hD hS
    · have h4 : ¬ v ≤ vL := fun h => hc2 (cm_le0.mpr h)
      refine lv_iload hx hb dM_reads_75 (lv_at hl 0 rfl) ?_
      refine lv_if_ge (tgt := 84) hx hb dM_reads_77 (by decide) (fun hc3 => ?_) (fun hc3 => ?_)
      · have h5 := cm_ge0.mp hc3
        refine lv_iconst (v := nI 0) hx hb dM_reads_84 (by decide) ?_
        exact fin (nI 0) (()) _ _ _ _ dM_reads_85 (by decide) (Or.inr ⟨rfl, fun h => by have := e9.mp h; omega⟩) hP hD hS
      · have h5 : ¬ vH ≤ v := fun h => hc3 (cm_ge0.mpr h)
        refine lv_iconst (v := nI 1) hx hb dM_reads_80 (by decide) ?_
        refine lv_goto (tgt := 85) hx hb dM_reads_81 (by decide) ?_
        exact fin (nI 1) (()) _ _ _ _ dM_reads_85 (by decide) (Or.inl ⟨rfl, e9.mpr (by omega)⟩) hP hD hS
  · have h3 : c9 % 2 = 0 := (pk_lEQ (by omega) (by decide)).mp ((lg_cmp_eq _ _).mp hc)
    have e9 : rds c9 vL vH v ↔ (vL ≤ v ∧ v ≤ vH) := by unfold rds; rw [if_pos h3]
    refine lv_iload hx hb dM_reads_52 (lv_at hl 1 rfl) ?_
    refine lv_if_lt (tgt := 66) hx hb dM_reads_54 (by decide) (fun hc2 => ?_) (fun hc2 => ?_)
    · have h4 := cm_neg.mp hc2
      refine lv_iconst (v := nI 0) hx hb dM_reads_66 (by decide) ?_
      refine lv_goto (tgt := 85) hx hb dM_reads_67 (by decide) ?_
      exact fin (nI 0) (()) _ _ _ _ dM_reads_85 (by decide) (Or.inr ⟨rfl, fun h => by have := e9.mp h; omega⟩) hP hD hS
    · have h4 : ¬ v < vL := fun h => hc2 (cm_neg.mpr h)
      refine lv_iload hx hb dM_reads_57 (lv_at hl 0 rfl) ?_
      refine lv_if_gt (tgt := 66) hx hb dM_reads_59 (by decide) (fun hc3 => ?_) (fun hc3 => ?_)
      · have h5 := cm_pos.mp hc3
        refine lv_iconst (v := nI 0) hx hb dM_reads_66 (by decide) ?_
        refine lv_goto (tgt := 85) hx hb dM_reads_67 (by decide) ?_
        exact fin (nI 0) (()) _ _ _ _ dM_reads_85 (by decide) (Or.inr ⟨rfl, fun h => by have := e9.mp h; omega⟩) hP hD hS
      · have h5 : ¬ vH < v := fun h => hc3 (cm_pos.mpr h)
        refine lv_iconst (v := nI 1) hx hb dM_reads_62 (by decide) ?_
        refine lv_goto (tgt := 85) hx hb dM_reads_63 (by decide) ?_
        exact fin (nI 1) (()) _ _ _ _ dM_reads_85 (by decide) (Or.inl ⟨rfl, e9.mpr (by omega)⟩) hP hD hS
abbrev rmM_cut : Room := { frames := 1, cells := 0, slots := 0, locals := 22 }
set_option maxRecDepth 100000 in
set_option maxHeartbeats 4000000 in
theorem c_cut (m9 : Nat → Nat) (len code bits least used held : Int32) (rh rd : Nat) (rE r0 : R3) (gE : Nat → Nat) (vE n P : Nat) (ab : Bool) (hE9 : Rw rE gE vE) (hP9 : (P : Int) = rE.2.2 + 1100) (hn : 0 < n) (hn9 : n ≤ 20) (hnP : n ≤ P) (hp8 : rE.2.2 ≤ 900) : CTv l G (tyL cI cB cC cJ) yM_cut cM_cut 5 rmM_cut [.ref (m9 0), .int (nI n), .int (bI ab), .ref rh] (mO m9 len code bits least used held :: (wR cB (m9 4) (m9 5) rE ++ wR cB rh rd r0)) (fun q : R3 × (Nat → Nat) => Rw q.1 q.2 (vE / sU P n * sU P n + (if ab then sU P n else 0)) ∧ q.1.2.1 ≤ n + 1) (fun q => mO m9 len code bits least used held :: (wR cB (m9 4) (m9 5) rE ++ wR cB rh rd q.1)) := by
  obtain ⟨⟨a1, a2⟩, a3, a4, a5, a6⟩ := hE9
  have a7 := a3.1
  have cv := cut_val (n := n) (fun j hj => (a2 j hj).2) hP9 (by omega) hnP
  rw [a6] at cv
  refine mkV cM_cut 5 RM (by decide) rfl (Nat.le_of_ble_eq_true rfl) ?_
  intro p e s m args below meth c A Q ls hx hb hml hts hown hnm hK hP hD hA hl fin
  have hS : va_S A s.heap s.heap [] := va_S.rf
  have hl : lv_has ls 5 [(0, .ref (m9 0)), (1, .int (nI n)), (2, .int (bI ab)), (3, .ref rh)] := hl
  have hP : va_P G vwCl [(m9 0, .inr (5, [.ref (m9 1), .int len, .int code, .int bits, .int least, .ref (m9 2), .int used, .ref (m9 4), .ref (m9 6), .ref (m9 8), .ref (m9 10), .ref (m9 12), .ref (m9 3), .int held])), (m9 4, .inr (4, [.ref (m9 5), .int (nI rE.2.1), .int (iI rE.2.2)])), (m9 5, .inl (cB, 1300, .inl rE.1)), (rh, .inr (4, [.ref rd, .int (nI r0.2.1), .int (iI r0.2.2)])), (rd, .inl (cB, 1300, .inl r0.1))] s.heap := hP
  have hD : va_D A [(m9 0, .inr (5, [.ref (m9 1), .int len, .int code, .int bits, .int least, .ref (m9 2), .int used, .ref (m9 4), .ref (m9 6), .ref (m9 8), .ref (m9 10), .ref (m9 12), .ref (m9 3), .int held])), (m9 4, .inr (4, [.ref (m9 5), .int (nI rE.2.1), .int (iI rE.2.2)])), (m9 5, .inl (cB, 1300, .inl rE.1)), (rh, .inr (4, [.ref rd, .int (nI r0.2.1), .int (iI r0.2.2)])), (rd, .inl (cB, 1300, .inl r0.1))] := hD
  have j72 : ∀ (f2 : Nat → Int32) (g2 : Nat → Nat) (n2 : Nat) (p2 : Int) (H : Heap) (locs : List Loc) (ls : Array Slot), Rd f2 n2 g2 → g2 0 ≠ 0 → 0 < n2 → (n2 : Int) ≤ p2 + 1100 → p2 ≤ 1000 → rv g2 n2 p2 = vE / sU P n * sU P n + (if ab then sU P n else 0) → n2 ≤ n + 1 → va_P G vwCl [(m9 0, .inr (5, [.ref (m9 1), .int len, .int code, .int bits, .int least, .ref (m9 2), .int used, .ref (m9 4), .ref (m9 6), .ref (m9 8), .ref (m9 10), .ref (m9 12), .ref (m9 3), .int held])), (m9 4, .inr (4, [.ref (m9 5), .int (nI rE.2.1), .int (iI rE.2.2)])), (m9 5, .inl (cB, 1300, .inl rE.1)), (rh, .inr (4, [.ref rd, .int (nI n2), .int (iI p2)])), (rd, .inl (cB, 1300, .inl f2))] H → va_D A [(m9 0, .inr (5, [.ref (m9 1), .int len, .int code, .int bits, .int least, .ref (m9 2), .int used, .ref (m9 4), .ref (m9 6), .ref (m9 8), .ref (m9 10), .ref (m9 12), .ref (m9 3), .int held])), (m9 4, .inr (4, [.ref (m9 5), .int (nI rE.2.1), .int (iI rE.2.2)])), (m9 5, .inl (cB, 1300, .inl rE.1)), (rh, .inr (4, [.ref rd, .int (nI n2), .int (iI p2)])), (rd, .inl (cB, 1300, .inl f2))] → va_S A s.heap H locs → lv_has ls 5 [(0, .ref (m9 0)), (3, .ref rh)] → W p l e rmM_cut s m args below meth c H locs 0 0 Q (F0 m 72 ls []) := by
    intro f2 g2 n2 p2 H locs ls b1 b2 b3 b4 b5 b6 b7 hP hD hS hl
    have lr : ∀ (fu : Nat) (k : Nat) (H : Heap) (locs : List Loc) (ls : Array Slot), k < fu → k ≤ n2 → 0 < k → rv g2 k p2 = rv g2 n2 p2 → va_P G vwCl [(m9 0, .inr (5, [.ref (m9 1), .int len, .int code, .int bits, .int least, .ref (m9 2), .int used, .ref (m9 4), .ref (m9 6), .ref (m9 8), .ref (m9 10), .ref (m9 12), .ref (m9 3), .int held])), (m9 4, .inr (4, [.ref (m9 5), .int (nI rE.2.1), .int (iI rE.2.2)])), (m9 5, .inl (cB, 1300, .inl rE.1)), (rh, .inr (4, [.ref rd, .int (nI k), .int (iI p2)])), (rd, .inl (cB, 1300, .inl f2))] H → va_D A [(m9 0, .inr (5, [.ref (m9 1), .int len, .int code, .int bits, .int least, .ref (m9 2), .int used, .ref (m9 4), .ref (m9 6), .ref (m9 8), .ref (m9 10), .ref (m9 12), .ref (m9 3), .int held])), (m9 4, .inr (4, [.ref (m9 5), .int (nI rE.2.1), .int (iI rE.2.2)])), (m9 5, .inl (cB, 1300, .inl rE.1)), (rh, .inr (4, [.ref rd, .int (nI k), .int (iI p2)])), (rd, .inl (cB, 1300, .inl f2))] → va_S A s.heap H locs → lv_has ls 5 [(0, .ref (m9 0)), (3, .ref rh)] → W p l e rmM_cut s m args below meth c H locs 0 0 Q (F0 m 72 ls []) := by
      intro fu
      induction fu with
      | zero => intro k H locs ls hfu; exact absurd hfu (Nat.not_lt_zero _)
      | succ fu ih =>
        intro k H locs ls hfu hk hk0 hv hP hD hS hl
        have hb1 := b1.1
        obtain ⟨k, rfl⟩ : ∃ i, k = i + 1 := ⟨k - 1, by omega⟩
        have hd := b1.2 k (by omega)
        refine lv_aload_n hx hb dM_cut_72 rfl (lv_at hl 1 rfl) ?_
        refine va_get (D := G) (ci := 4) (v := .int (nI (k + 1))) (C := RW) (T := TW) (N := 3) hx hb hts inW hown hK hP 3 rfl rfl 1 (by decide) (hts _ kw_2_144) (fun _ h9 => h9) rfl dM_cut_73 ?_
        refine lv_if_le (tgt := 106) hx hb dM_cut_76 (by decide) (fun hc => absurd hc (nI_nle (by omega) (by omega))) (fun _ => ?_)
        refine lv_aload_n hx hb dM_cut_79 rfl (lv_at hl 1 rfl) ?_
        refine va_get (D := G) (ci := 4) (v := .ref rd) (C := RW) (T := TW) (N := 3) hx hb hts inW hown hK hP 3 rfl rfl 0 (by decide) (hts _ kw_2_143) (fun _ h9 => h9) rfl dM_cut_80 ?_
        refine lv_aload_n hx hb dM_cut_83 rfl (lv_at hl 1 rfl) ?_
        refine va_get (D := G) (ci := 4) (v := .int (nI (k + 1))) (C := RW) (T := TW) (N := 3) hx hb hts inW hown hK hP 3 rfl rfl 1 (by decide) (hts _ kw_2_144) (fun _ h9 => h9) rfl dM_cut_84 ?_
        refine lv_iconst (v := nI 1) hx hb dM_cut_87 (by decide) ?_
        refine lv_isub hx hb dM_cut_88 ?_
        refine tp_i (y := nI k) (nI_pred k) ?_
        refine ld_b hx hb hK hP 4 1 rfl rfl k (rfl) (by omega) (by decide) dM_cut_89 ?_
        refine tp_i (y := nI (g2 k)) (hd.1) ?_
        refine lv_if_ne (tgt := 106) hx hb dM_cut_90 (by decide) (fun hc => ?_) (fun hc => ?_)
        · have h5 : g2 k ≠ 0 := fun h => hc (by rw [h]; rfl)
          exact fin ((f2, k + 1, p2), g2) _ _ _ _ dM_cut_106 (⟨⟨⟨by show k + 1 ≤ 1290; omega, fun j hj => b1.2 j (Nat.lt_of_lt_of_le hj hk)⟩, ⟨Nat.succ_pos k, fun j hj => (b1.2 j (Nat.lt_of_lt_of_le hj hk)).2, b2, h5⟩, by show ((k + 1 : Nat) : Int) ≤ p2 + 1100; omega, b5, by rw [← b6]; exact hv⟩, by show k + 1 ≤ n + 1; omega⟩) hP hD hS
        · have h5 : g2 k = 0 := (nI_eq (by omega) (by decide)).mp hc
          have h6 : 0 < k := by
            rcases Nat.eq_zero_or_pos k with h | h
            · subst h; exact absurd h5 b2
            · exact h
          refine lv_aload_n hx hb dM_cut_93 rfl (lv_at hl 1 rfl) ?_
          refine lv_dup hx hb dM_cut_94 rfl ?_
          refine va_get (D := G) (ci := 4) (v := .int (nI (k + 1))) (C := RW) (T := TW) (N := 3) hx hb hts inW hown hK hP 3 rfl rfl 1 (by decide) (hts _ kw_2_144) (fun _ h9 => h9) rfl dM_cut_95 ?_
          refine lv_iconst (v := nI 1) hx hb dM_cut_98 (by decide) ?_
          refine lv_isub hx hb dM_cut_99 ?_
          refine tp_i (y := nI k) (nI_pred k) ?_
          refine va_put (D := G) (ci := 4) (v := .int (nI k)) (C := RW) (T := TW) (N := 3) hx hb hts inW tyW tyW_ok nmW hown hK hP hD hS 3 rfl rfl 1 (by decide) (hts _ kw_2_144) (fun _ h9 => h9) rfl (tyW_ok 1 (by decide)) (rfl) (rfl) (Nat.le_of_ble_eq_true rfl) dM_cut_100 (fun H locs hP hD hS => ?_)
          have hP : va_P G vwCl [(m9 0, .inr (5, [.ref (m9 1), .int len, .int code, .int bits, .int least, .ref (m9 2), .int used, .ref (m9 4), .ref (m9 6), .ref (m9 8), .ref (m9 10), .ref (m9 12), .ref (m9 3), .int held])), (m9 4, .inr (4, [.ref (m9 5), .int (nI rE.2.1), .int (iI rE.2.2)])), (m9 5, .inl (cB, 1300, .inl rE.1)), (rh, .inr (4, [.ref rd, .int (nI k), .int (iI p2)])), (rd, .inl (cB, 1300, .inl f2))] H := hP
          have hD : va_D A [(m9 0, .inr (5, [.ref (m9 1), .int len, .int code, .int bits, .int least, .ref (m9 2), .int used, .ref (m9 4), .ref (m9 6), .ref (m9 8), .ref (m9 10), .ref (m9 12), .ref (m9 3), .int held])), (m9 4, .inr (4, [.ref (m9 5), .int (nI rE.2.1), .int (iI rE.2.2)])), (m9 5, .inl (cB, 1300, .inl rE.1)), (rh, .inr (4, [.ref rd, .int (nI k), .int (iI p2)])), (rd, .inl (cB, 1300, .inl f2))] := hD
          refine lv_goto (tgt := 72) hx hb dM_cut_103 (by decide) ?_
          exact ih k _ _ _ (by omega) (by omega) (h6) (by rw [← hv]; exact (strip_val (by omega) h5).symm) hP hD hS hl
    exact lr (_ + 1) n2 _ _ _ (Nat.lt_succ_self _) (Nat.le_refl _) (b3) (rfl) hP hD hS hl
  refine lv_aload_n hx hb dM_cut_0 rfl (lv_at hl 3 rfl) ?_
  refine lv_aload_n hx hb dM_cut_1 rfl (lv_at hl 0 rfl) ?_
  refine va_get (D := G) (ci := 5) (v := .ref (m9 4)) (C := RM) (T := TM) (N := 14) hx hb hts inM hown hK hP 0 rfl rfl 7 (by decide) (hts _ kw_2_161) (fun _ h9 => h9) rfl dM_cut_2 ?_
  refine va_get (D := G) (ci := 4) (v := .int (iI rE.2.2)) (C := RW) (T := TW) (N := 3) hx hb hts inW hown hK hP 1 rfl rfl 2 (by decide) (hts _ kw_2_145) (fun _ h9 => h9) rfl dM_cut_5 ?_
  refine va_put (D := G) (ci := 4) (v := .int (iI rE.2.2)) (C := RW) (T := TW) (N := 3) hx hb hts inW tyW tyW_ok nmW hown hK hP hD hS 3 rfl rfl 2 (by decide) (hts _ kw_2_145) (fun _ h9 => h9) rfl (tyW_ok 2 (by decide)) (rfl) (rfl) (Nat.le_of_ble_eq_true rfl) dM_cut_8 (fun H locs hP hD hS => ?_)
  have hP : va_P G vwCl [(m9 0, .inr (5, [.ref (m9 1), .int len, .int code, .int bits, .int least, .ref (m9 2), .int used, .ref (m9 4), .ref (m9 6), .ref (m9 8), .ref (m9 10), .ref (m9 12), .ref (m9 3), .int held])), (m9 4, .inr (4, [.ref (m9 5), .int (nI rE.2.1), .int (iI rE.2.2)])), (m9 5, .inl (cB, 1300, .inl rE.1)), (rh, .inr (4, [.ref rd, .int (nI r0.2.1), .int (iI rE.2.2)])), (rd, .inl (cB, 1300, .inl r0.1))] H := hP
  have hD : va_D A [(m9 0, .inr (5, [.ref (m9 1), .int len, .int code, .int bits, .int least, .ref (m9 2), .int used, .ref (m9 4), .ref (m9 6), .ref (m9 8), .ref (m9 10), .ref (m9 12), .ref (m9 3), .int held])), (m9 4, .inr (4, [.ref (m9 5), .int (nI rE.2.1), .int (iI rE.2.2)])), (m9 5, .inl (cB, 1300, .inl rE.1)), (rh, .inr (4, [.ref rd, .int (nI r0.2.1), .int (iI rE.2.2)])), (rd, .inl (cB, 1300, .inl r0.1))] := hD
  refine lv_aload_n hx hb dM_cut_11 rfl (lv_at hl 3 rfl) ?_
  refine lv_iload_n hx hb dM_cut_12 rfl (lv_at hl 1 rfl) ?_
  refine va_put (D := G) (ci := 4) (v := .int (nI n)) (C := RW) (T := TW) (N := 3) hx hb hts inW tyW tyW_ok nmW hown hK hP hD hS 3 rfl rfl 1 (by decide) (hts _ kw_2_144) (fun _ h9 => h9) rfl (tyW_ok 1 (by decide)) (rfl) (rfl) (Nat.le_of_ble_eq_true rfl) dM_cut_13 (fun H locs hP hD hS => ?_)
  have hP : va_P G vwCl [(m9 0, .inr (5, [.ref (m9 1), .int len, .int code, .int bits, .int least, .ref (m9 2), .int used, .ref (m9 4), .ref (m9 6), .ref (m9 8), .ref (m9 10), .ref (m9 12), .ref (m9 3), .int held])), (m9 4, .inr (4, [.ref (m9 5), .int (nI rE.2.1), .int (iI rE.2.2)])), (m9 5, .inl (cB, 1300, .inl rE.1)), (rh, .inr (4, [.ref rd, .int (nI n), .int (iI rE.2.2)])), (rd, .inl (cB, 1300, .inl r0.1))] H := hP
  have hD : va_D A [(m9 0, .inr (5, [.ref (m9 1), .int len, .int code, .int bits, .int least, .ref (m9 2), .int used, .ref (m9 4), .ref (m9 6), .ref (m9 8), .ref (m9 10), .ref (m9 12), .ref (m9 3), .int held])), (m9 4, .inr (4, [.ref (m9 5), .int (nI rE.2.1), .int (iI rE.2.2)])), (m9 5, .inl (cB, 1300, .inl rE.1)), (rh, .inr (4, [.ref rd, .int (nI n), .int (iI rE.2.2)])), (rd, .inl (cB, 1300, .inl r0.1))] := hD
  refine lv_iconst (v := nI 0) hx hb dM_cut_16 (by decide) ?_
  refine lv_istore hx hb dM_cut_17 hl (by decide) rfl (fun ls hl => ?_)
  have hl : lv_has ls 5 [(4, .int (nI 0)), (0, .ref (m9 0)), (1, .int (nI n)), (2, .int (bI ab)), (3, .ref rh)] := hl
  have hl : lv_has ls 5 [(4, .int (nI 0)), (0, .ref (m9 0)), (1, .int (nI n)), (2, .int (bI ab)), (3, .ref rh)] := lv_sub hl [0, 1, 2, 3, 4] rfl
  have lp : ∀ (fu : Nat) (i : Nat) (f1 : Nat → Int32) (H : Heap) (locs : List Loc) (ls : Array Slot), n - i < fu → i ≤ n → (∀ j, j < i → f1 j = nI (pad gE rE.2.1 j)) → va_P G vwCl [(m9 0, .inr (5, [.ref (m9 1), .int len, .int code, .int bits, .int least, .ref (m9 2), .int used, .ref (m9 4), .ref (m9 6), .ref (m9 8), .ref (m9 10), .ref (m9 12), .ref (m9 3), .int held])), (m9 4, .inr (4, [.ref (m9 5), .int (nI rE.2.1), .int (iI rE.2.2)])), (m9 5, .inl (cB, 1300, .inl rE.1)), (rh, .inr (4, [.ref rd, .int (nI n), .int (iI rE.2.2)])), (rd, .inl (cB, 1300, .inl f1))] H → va_D A [(m9 0, .inr (5, [.ref (m9 1), .int len, .int code, .int bits, .int least, .ref (m9 2), .int used, .ref (m9 4), .ref (m9 6), .ref (m9 8), .ref (m9 10), .ref (m9 12), .ref (m9 3), .int held])), (m9 4, .inr (4, [.ref (m9 5), .int (nI rE.2.1), .int (iI rE.2.2)])), (m9 5, .inl (cB, 1300, .inl rE.1)), (rh, .inr (4, [.ref rd, .int (nI n), .int (iI rE.2.2)])), (rd, .inl (cB, 1300, .inl f1))] → va_S A s.heap H locs → lv_has ls 5 [(4, .int (nI i)), (0, .ref (m9 0)), (1, .int (nI n)), (2, .int (bI ab)), (3, .ref rh)] → W p l e rmM_cut s m args below meth c H locs 0 0 Q (F0 m 19 ls []) := by
    intro fu
    induction fu with
    | zero => intro i f1 H locs ls hfu; exact absurd hfu (Nat.not_lt_zero _)
    | succ fu ih =>
      intro i f1 H locs ls hfu hi h1 hP hD hS hl
      refine lv_iload hx hb dM_cut_19 (lv_at hl 0 rfl) ?_
      refine lv_iload_n hx hb dM_cut_21 rfl (lv_at hl 2 rfl) ?_
      refine lv_icmp_ge (tgt := 64) hx hb dM_cut_22 (by decide) (fun hc => ?_) (fun hc => ?_)
      · have h3 : n ≤ i := (nI_leI (by omega) (by omega)).mp hc
        have h4 : i = n := by omega
        subst h4
        have hrd : Rd f1 i (pad gE rE.2.1) := ⟨by omega, fun j hj => ⟨h1 j hj, pad_lt (fun j hj => (a2 j hj).2) j⟩⟩
        have hp0 : pad gE rE.2.1 0 ≠ 0 := by rw [show pad gE rE.2.1 0 = gE 0 from if_pos a7]; exact a3.2.2.1
        refine lv_iload_n hx hb dM_cut_64 rfl (lv_at hl 3 rfl) ?_
        refine lv_if_eq (tgt := 72) hx hb dM_cut_65 (by decide) (fun hc2 => ?_) (fun hc2 => ?_)
        · have e9 := bI_eq hc2
          subst e9
          have hl : lv_has ls 5 [(0, .ref (m9 0)), (3, .ref rh)] := lv_sub hl [1, 4] rfl
          exact j72 f1 (pad gE rE.2.1) i rE.2.2 _ _ _ (hrd) (hp0) (hn) (by omega) (a5) (cv) (by omega) hP hD hS hl
        · have e9 := bI_ne hc2
          subst e9
          refine lv_aload_n hx hb dM_cut_68 rfl (lv_at hl 4 rfl) ?_
          refine jnV (Wr := [(m9 0, .inr (5, [.ref (m9 1), .int len, .int code, .int bits, .int least, .ref (m9 2), .int used, .ref (m9 4), .ref (m9 6), .ref (m9 8), .ref (m9 10), .ref (m9 12), .ref (m9 3), .int held])), (m9 4, .inr (4, [.ref (m9 5), .int (nI rE.2.1), .int (iI rE.2.2)])), (m9 5, .inl (cB, 1300, .inl rE.1))]) (W2 := fun q => [(m9 0, .inr (5, [.ref (m9 1), .int len, .int code, .int bits, .int least, .ref (m9 2), .int used, .ref (m9 4), .ref (m9 6), .ref (m9 8), .ref (m9 10), .ref (m9 12), .ref (m9 3), .int held])), (m9 4, .inr (4, [.ref (m9 5), .int (nI rE.2.1), .int (iI rE.2.2)])), (m9 5, .inl (cB, 1300, .inl rE.1)), (rh, .inr (4, [.ref rd, .int (nI (i + q.2.2)), .int (iI (rE.2.2 + q.2.2))])), (rd, .inl (cB, 1300, .inl q.1))]) (rS (n := 1) (As := [.ref rh]) (rest := []) hx hb hml hown hts (c_more rh rd i rE.2.2 f1 (pad gE rE.2.1) hrd hn (by omega) hp0 _) kw_3_51 kw_3_49 kw_3_50 kw_1_5 (by decide +kernel) ⟨Nat.le_of_ble_eq_true rfl, Nat.le_of_ble_eq_true rfl⟩ hK hP hD [3, 4] rfl rfl rfl rfl hl.1 rfl (lv_room (Nat.le_of_ble_eq_true rfl)) dM_cut_69 ⟨Nat.le_of_ble_eq_true rfl, Nat.le_of_ble_eq_true rfl⟩) hP hD hS hA [3, 4] [0, 1, 2] [0, 1, 2, 3, 4] rfl rfl rfl (by decide) (fun _ => rfl) rfl (fun q H locs hq hP hD hS => ?_)
          have hP : va_P G vwCl [(m9 0, .inr (5, [.ref (m9 1), .int len, .int code, .int bits, .int least, .ref (m9 2), .int used, .ref (m9 4), .ref (m9 6), .ref (m9 8), .ref (m9 10), .ref (m9 12), .ref (m9 3), .int held])), (m9 4, .inr (4, [.ref (m9 5), .int (nI rE.2.1), .int (iI rE.2.2)])), (m9 5, .inl (cB, 1300, .inl rE.1)), (rh, .inr (4, [.ref rd, .int (nI (i + q.2.2)), .int (iI (rE.2.2 + q.2.2))])), (rd, .inl (cB, 1300, .inl q.1))] H := hP
          have hD : va_D A [(m9 0, .inr (5, [.ref (m9 1), .int len, .int code, .int bits, .int least, .ref (m9 2), .int used, .ref (m9 4), .ref (m9 6), .ref (m9 8), .ref (m9 10), .ref (m9 12), .ref (m9 3), .int held])), (m9 4, .inr (4, [.ref (m9 5), .int (nI rE.2.1), .int (iI rE.2.2)])), (m9 5, .inl (cB, 1300, .inl rE.1)), (rh, .inr (4, [.ref rd, .int (nI (i + q.2.2)), .int (iI (rE.2.2 + q.2.2))])), (rd, .inl (cB, 1300, .inl q.1))] := hD
          have hl : lv_has ls 5 [(0, .ref (m9 0)), (3, .ref rh)] := lv_sub hl [1, 4] rfl
          obtain ⟨m1, m2, m3, m4⟩ := hq
          exact j72 q.1 q.2.1 (i + q.2.2) (rE.2.2 + q.2.2) _ _ _ (m1) (m3) (by omega) (by omega) (by omega) (by rw [more_val m4 (by omega), show rv (pad gE rE.2.1) i rE.2.2 = _ from cv, if_pos rfl]; unfold sU; rw [show (rE.2.2 + 1100 - (i : Int)).toNat = P - i by omega]) (by omega) hP hD hS hl
      · have h3 : i < n := by
          rcases Nat.lt_or_ge i n with h | h
          · exact h
          · exact absurd (nI_le h (by omega)) hc
        refine lv_aload_n hx hb dM_cut_25 rfl (lv_at hl 4 rfl) ?_
        refine va_get (D := G) (ci := 4) (v := .ref rd) (C := RW) (T := TW) (N := 3) hx hb hts inW hown hK hP 3 rfl rfl 0 (by decide) (hts _ kw_2_143) (fun _ h9 => h9) rfl dM_cut_26 ?_
        refine lv_iload hx hb dM_cut_29 (lv_at hl 0 rfl) ?_
        refine lv_iload hx hb dM_cut_31 (lv_at hl 0 rfl) ?_
        refine lv_aload_n hx hb dM_cut_33 rfl (lv_at hl 1 rfl) ?_
        refine va_get (D := G) (ci := 5) (v := .ref (m9 4)) (C := RM) (T := TM) (N := 14) hx hb hts inM hown hK hP 0 rfl rfl 7 (by decide) (hts _ kw_2_161) (fun _ h9 => h9) rfl dM_cut_34 ?_
        refine va_get (D := G) (ci := 4) (v := .int (nI rE.2.1)) (C := RW) (T := TW) (N := 3) hx hb hts inW hown hK hP 1 rfl rfl 1 (by decide) (hts _ kw_2_144) (fun _ h9 => h9) rfl dM_cut_37 ?_
        by_cases hi9 : i < rE.2.1
        · refine lv_icmp_ge (tgt := 56) hx hb dM_cut_40 (by decide) (fun hc => absurd hc (nI_ge hi9 (by omega))) (fun _ => ?_)
          refine lv_aload_n hx hb dM_cut_43 rfl (lv_at hl 1 rfl) ?_
          refine va_get (D := G) (ci := 5) (v := .ref (m9 4)) (C := RM) (T := TM) (N := 14) hx hb hts inM hown hK hP 0 rfl rfl 7 (by decide) (hts _ kw_2_161) (fun _ h9 => h9) rfl dM_cut_44 ?_
          refine va_get (D := G) (ci := 4) (v := .ref (m9 5)) (C := RW) (T := TW) (N := 3) hx hb hts inW hown hK hP 1 rfl rfl 0 (by decide) (hts _ kw_2_143) (fun _ h9 => h9) rfl dM_cut_47 ?_
          refine lv_iload hx hb dM_cut_50 (lv_at hl 0 rfl) ?_
          refine ld_b hx hb hK hP 2 1 rfl rfl i (rfl) (by omega) (by decide) dM_cut_52 ?_
          refine tp_i (y := nI (pad gE rE.2.1 i)) (pad_nI ⟨a1, a2⟩ hi9) ?_
          have hpl := pad_lt (fun j hj => (a2 j hj).2) i
          refine lv_goto (tgt := 57) hx hb dM_cut_53 (by decide) ?_
          refine st_b (x' := (nI (pad gE rE.2.1 i))) hx hb hK hP hD hS 4 1 rfl rfl i (rfl) (by omega) (by decide) (narb (by omega)) dM_cut_57 (fun H locs hP hD hS => ?_)
          have hP : va_P G vwCl [(m9 0, .inr (5, [.ref (m9 1), .int len, .int code, .int bits, .int least, .ref (m9 2), .int used, .ref (m9 4), .ref (m9 6), .ref (m9 8), .ref (m9 10), .ref (m9 12), .ref (m9 3), .int held])), (m9 4, .inr (4, [.ref (m9 5), .int (nI rE.2.1), .int (iI rE.2.2)])), (m9 5, .inl (cB, 1300, .inl rE.1)), (rh, .inr (4, [.ref rd, .int (nI n), .int (iI rE.2.2)])), (rd, .inl (cB, 1300, .inl (upd f1 i (nI (pad gE rE.2.1 i)))))] H := hP
          have hD : va_D A [(m9 0, .inr (5, [.ref (m9 1), .int len, .int code, .int bits, .int least, .ref (m9 2), .int used, .ref (m9 4), .ref (m9 6), .ref (m9 8), .ref (m9 10), .ref (m9 12), .ref (m9 3), .int held])), (m9 4, .inr (4, [.ref (m9 5), .int (nI rE.2.1), .int (iI rE.2.2)])), (m9 5, .inl (cB, 1300, .inl rE.1)), (rh, .inr (4, [.ref rd, .int (nI n), .int (iI rE.2.2)])), (rd, .inl (cB, 1300, .inl (upd f1 i (nI (pad gE rE.2.1 i)))))] := hD
          refine lv_iinc (k := 0) (v := nI (i + 1)) hx hb dM_cut_58 hl rfl (nI_1 i) (by decide) rfl (fun ls hl => ?_)
          have hl : lv_has ls 5 [(4, .int (nI (i + 1))), (0, .ref (m9 0)), (1, .int (nI n)), (2, .int (bI ab)), (3, .ref rh)] := hl
          refine lv_goto (tgt := 19) hx hb dM_cut_61 (by decide) ?_
          have hl : lv_has ls 5 [(4, .int (nI (i + 1))), (0, .ref (m9 0)), (1, .int (nI n)), (2, .int (bI ab)), (3, .ref rh)] := lv_sub hl [0, 1, 2, 3, 4] rfl
          exact ih (i + 1) (upd f1 i (nI (pad gE rE.2.1 i))) _ _ _ (by omega) (by omega) (fun j hj => by
              by_cases he : j = i
              · subst he; rw [pk_us]
              · rw [pk_un he]; exact h1 j (by omega)) hP hD hS hl
        · refine lv_icmp_ge (tgt := 56) hx hb dM_cut_40 (by decide) (fun _ => ?_) (fun hc => absurd (nI_le (by omega) (by omega)) hc)
          refine lv_iconst (v := nI 0) hx hb dM_cut_56 (by decide) ?_
          refine tp_i (y := nI (pad gE rE.2.1 i)) (by rw [pad_0 hi9]) ?_
          have hpl := pad_lt (fun j hj => (a2 j hj).2) i
          refine st_b (x' := (nI (pad gE rE.2.1 i))) hx hb hK hP hD hS 4 1 rfl rfl i (rfl) (by omega) (by decide) (narb (by omega)) dM_cut_57 (fun H locs hP hD hS => ?_)
          have hP : va_P G vwCl [(m9 0, .inr (5, [.ref (m9 1), .int len, .int code, .int bits, .int least, .ref (m9 2), .int used, .ref (m9 4), .ref (m9 6), .ref (m9 8), .ref (m9 10), .ref (m9 12), .ref (m9 3), .int held])), (m9 4, .inr (4, [.ref (m9 5), .int (nI rE.2.1), .int (iI rE.2.2)])), (m9 5, .inl (cB, 1300, .inl rE.1)), (rh, .inr (4, [.ref rd, .int (nI n), .int (iI rE.2.2)])), (rd, .inl (cB, 1300, .inl (upd f1 i (nI (pad gE rE.2.1 i)))))] H := hP
          have hD : va_D A [(m9 0, .inr (5, [.ref (m9 1), .int len, .int code, .int bits, .int least, .ref (m9 2), .int used, .ref (m9 4), .ref (m9 6), .ref (m9 8), .ref (m9 10), .ref (m9 12), .ref (m9 3), .int held])), (m9 4, .inr (4, [.ref (m9 5), .int (nI rE.2.1), .int (iI rE.2.2)])), (m9 5, .inl (cB, 1300, .inl rE.1)), (rh, .inr (4, [.ref rd, .int (nI n), .int (iI rE.2.2)])), (rd, .inl (cB, 1300, .inl (upd f1 i (nI (pad gE rE.2.1 i)))))] := hD
          refine lv_iinc (k := 0) (v := nI (i + 1)) hx hb dM_cut_58 hl rfl (nI_1 i) (by decide) rfl (fun ls hl => ?_)
          have hl : lv_has ls 5 [(4, .int (nI (i + 1))), (0, .ref (m9 0)), (1, .int (nI n)), (2, .int (bI ab)), (3, .ref rh)] := hl
          refine lv_goto (tgt := 19) hx hb dM_cut_61 (by decide) ?_
          have hl : lv_has ls 5 [(4, .int (nI (i + 1))), (0, .ref (m9 0)), (1, .int (nI n)), (2, .int (bI ab)), (3, .ref rh)] := lv_sub hl [0, 1, 2, 3, 4] rfl
          exact ih (i + 1) (upd f1 i (nI (pad gE rE.2.1 i))) _ _ _ (by omega) (by omega) (fun j hj => by
              by_cases he : j = i
              · subst he; rw [pk_us]
              · rw [pk_un he]; exact h1 j (by omega)) hP hD hS hl
  exact lp (_ + 1) 0 r0.1 _ _ _ (Nat.lt_succ_self _) (Nat.zero_le _) (fun j hj => absurd hj (Nat.not_lt_zero j)) hP hD hS hl
end MOCOMPAR
