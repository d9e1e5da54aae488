section SHB
variable {l : Launch} {G : va_G} {cI cB cC cJ : ClassId}
abbrev rmS_keep : Room := { frames := 0, cells := 0, slots := 0, locals := 0 }
set_option maxRecDepth 100000 in
set_option maxHeartbeats 4000000 in
theorem c_keep (a : Nat → Nat) (nW nR nB nA nS : Q2) (d : Nat → Int32) (cnt pt : Int32) (num : Nat) (pw : Int) (h0 : 0 < num) (h1 : num ≤ 10 ^ 17) : CTv l G (tyL cI cB cC cJ) yS_keep cS_keep 9 rmS_keep [.ref (a 0), .long (lN num), .int (iI pw)] (wS cI cC a nW nR nB nA nS d cnt pt) (fun q : (Nat → Int32) × Nat × Nat × Nat => q.2.1 * 10 ^ q.2.2.1 = num ∧ q.2.1 % 10 ≠ 0 ∧ 0 < q.2.2.2 ∧ q.2.2.2 ≤ 17 ∧ 10 ^ (q.2.2.2 - 1) ≤ q.2.1 ∧ q.2.1 < 10 ^ q.2.2.2 ∧ ∀ j, j < q.2.2.2 → q.1 j = nI (48 + dgs q.2.1 q.2.2.2 j)) (fun q => wS cI cC a nW nR nB nA nS q.1 (nI q.2.2.2) (iI (pw + q.2.2.1 + q.2.2.2))) := by
  refine mkV cS_keep 9 RS (by decide) rfl (Nat.le_of_ble_eq_true rfl) ?_
  intro p e s m args below meth c A Q ls hx hb hml hts hown hnm hK hP hD hA hl fin
  have hS : va_S A s.heap s.heap [] := va_S.rf
  have hl : lv_has ls 9 [(0, .ref (a 0)), (1, .long (lN num)), (3, .int (iI pw))] := hl
  have hP : va_P G vwCl [(a 0, .inr (1, [.ref (a 1), .ref (a 3), .ref (a 5), .ref (a 7), .ref (a 9), .ref (a 11), .int cnt, .int pt])), (a 1, .inr (0, [.ref (a 2), .int (nI nW.2)])), (a 2, .inl (cI, 28, .inl nW.1)), (a 3, .inr (0, [.ref (a 4), .int (nI nR.2)])), (a 4, .inl (cI, 28, .inl nR.1)), (a 5, .inr (0, [.ref (a 6), .int (nI nB.2)])), (a 6, .inl (cI, 28, .inl nB.1)), (a 7, .inr (0, [.ref (a 8), .int (nI nA.2)])), (a 8, .inl (cI, 28, .inl nA.1)), (a 9, .inr (0, [.ref (a 10), .int (nI nS.2)])), (a 10, .inl (cI, 28, .inl nS.1)), (a 11, .inl (cC, 17, .inl d))] s.heap := hP
  have hD : va_D A [(a 0, .inr (1, [.ref (a 1), .ref (a 3), .ref (a 5), .ref (a 7), .ref (a 9), .ref (a 11), .int cnt, .int pt])), (a 1, .inr (0, [.ref (a 2), .int (nI nW.2)])), (a 2, .inl (cI, 28, .inl nW.1)), (a 3, .inr (0, [.ref (a 4), .int (nI nR.2)])), (a 4, .inl (cI, 28, .inl nR.1)), (a 5, .inr (0, [.ref (a 6), .int (nI nB.2)])), (a 6, .inl (cI, 28, .inl nB.1)), (a 7, .inr (0, [.ref (a 8), .int (nI nA.2)])), (a 8, .inl (cI, 28, .inl nA.1)), (a 9, .inr (0, [.ref (a 10), .int (nI nS.2)])), (a 10, .inl (cI, 28, .inl nS.1)), (a 11, .inl (cC, 17, .inl d))] := hD
  have j84 : ∀ (lf : Nat) (z : Nat) (n : Nat) (H : Heap) (locs : List Loc) (ls : Array Slot), lf * 10 ^ z = num → lf % 10 ≠ 0 → 0 < n → n ≤ 17 → 10 ^ (n - 1) ≤ lf → lf < 10 ^ n → lf ≤ 10 ^ 17 → va_P G vwCl [(a 0, .inr (1, [.ref (a 1), .ref (a 3), .ref (a 5), .ref (a 7), .ref (a 9), .ref (a 11), .int (nI n), .int pt])), (a 1, .inr (0, [.ref (a 2), .int (nI nW.2)])), (a 2, .inl (cI, 28, .inl nW.1)), (a 3, .inr (0, [.ref (a 4), .int (nI nR.2)])), (a 4, .inl (cI, 28, .inl nR.1)), (a 5, .inr (0, [.ref (a 6), .int (nI nB.2)])), (a 6, .inl (cI, 28, .inl nB.1)), (a 7, .inr (0, [.ref (a 8), .int (nI nA.2)])), (a 8, .inl (cI, 28, .inl nA.1)), (a 9, .inr (0, [.ref (a 10), .int (nI nS.2)])), (a 10, .inl (cI, 28, .inl nS.1)), (a 11, .inl (cC, 17, .inl d))] H → va_D A [(a 0, .inr (1, [.ref (a 1), .ref (a 3), .ref (a 5), .ref (a 7), .ref (a 9), .ref (a 11), .int (nI n), .int pt])), (a 1, .inr (0, [.ref (a 2), .int (nI nW.2)])), (a 2, .inl (cI, 28, .inl nW.1)), (a 3, .inr (0, [.ref (a 4), .int (nI nR.2)])), (a 4, .inl (cI, 28, .inl nR.1)), (a 5, .inr (0, [.ref (a 6), .int (nI nB.2)])), (a 6, .inl (cI, 28, .inl nB.1)), (a 7, .inr (0, [.ref (a 8), .int (nI nA.2)])), (a 8, .inl (cI, 28, .inl nA.1)), (a 9, .inr (0, [.ref (a 10), .int (nI nS.2)])), (a 10, .inl (cI, 28, .inl nS.1)), (a 11, .inl (cC, 17, .inl d))] → va_S A s.heap H locs → lv_has ls 9 [(6, .int (nI z)), (4, .long (lN lf)), (0, .ref (a 0)), (3, .int (iI pw))] → W p l e rmS_keep s m args below meth c H locs 0 0 Q (F0 m 84 ls []) := by
    intro lf z n H locs ls g1 g2 g3 g4 g5 g6 g7 hP hD hS hl
    refine lv_aload_n hx hb dS_keep_84 rfl (lv_at hl 2 rfl) ?_
    refine va_get (D := G) (ci := 1) (v := .int (nI n)) (C := RS) (T := TS) (N := 8) hx hb hts inS hown hK hP 0 rfl rfl 6 (by decide) (hts _ kw_1_66) (fun _ h9 => h9) rfl dS_keep_85 ?_
    refine lv_iconst (v := nI 1) hx hb dS_keep_88 (by decide) ?_
    refine lv_isub hx hb dS_keep_89 ?_
    refine tp_i (y := iI ((n : Nat) - 1 : Int)) (sub1 n) ?_
    refine lv_istore hx hb dS_keep_90 hl (by decide) rfl (fun ls hl => ?_)
    have hl : lv_has ls 9 [(7, .int (iI ((n : Nat) - 1 : Int))), (6, .int (nI z)), (4, .long (lN lf)), (0, .ref (a 0)), (3, .int (iI pw))] := hl
    have hl : lv_has ls 9 [(7, .int (iI ((n : Nat) - 1 : Int))), (6, .int (nI z)), (4, .long (lN (lf / 10 ^ (n - n)))), (0, .ref (a 0)), (3, .int (iI pw))] := by
      rw [Nat.sub_self, Nat.pow_zero, Nat.div_one]; exact hl
    have lr : ∀ (fu : Nat) (k : Nat) (g : Nat → Int32) (H : Heap) (locs : List Loc) (ls : Array Slot), k < fu → k ≤ n → (∀ j, k ≤ j → j < n → g j = nI (48 + dgs lf n j)) → va_P G vwCl [(a 0, .inr (1, [.ref (a 1), .ref (a 3), .ref (a 5), .ref (a 7), .ref (a 9), .ref (a 11), .int (nI n), .int pt])), (a 1, .inr (0, [.ref (a 2), .int (nI nW.2)])), (a 2, .inl (cI, 28, .inl nW.1)), (a 3, .inr (0, [.ref (a 4), .int (nI nR.2)])), (a 4, .inl (cI, 28, .inl nR.1)), (a 5, .inr (0, [.ref (a 6), .int (nI nB.2)])), (a 6, .inl (cI, 28, .inl nB.1)), (a 7, .inr (0, [.ref (a 8), .int (nI nA.2)])), (a 8, .inl (cI, 28, .inl nA.1)), (a 9, .inr (0, [.ref (a 10), .int (nI nS.2)])), (a 10, .inl (cI, 28, .inl nS.1)), (a 11, .inl (cC, 17, .inl g))] H → va_D A [(a 0, .inr (1, [.ref (a 1), .ref (a 3), .ref (a 5), .ref (a 7), .ref (a 9), .ref (a 11), .int (nI n), .int pt])), (a 1, .inr (0, [.ref (a 2), .int (nI nW.2)])), (a 2, .inl (cI, 28, .inl nW.1)), (a 3, .inr (0, [.ref (a 4), .int (nI nR.2)])), (a 4, .inl (cI, 28, .inl nR.1)), (a 5, .inr (0, [.ref (a 6), .int (nI nB.2)])), (a 6, .inl (cI, 28, .inl nB.1)), (a 7, .inr (0, [.ref (a 8), .int (nI nA.2)])), (a 8, .inl (cI, 28, .inl nA.1)), (a 9, .inr (0, [.ref (a 10), .int (nI nS.2)])), (a 10, .inl (cI, 28, .inl nS.1)), (a 11, .inl (cC, 17, .inl g))] → va_S A s.heap H locs → lv_has ls 9 [(7, .int (iI ((k : Nat) - 1 : Int))), (6, .int (nI z)), (4, .long (lN (lf / 10 ^ (n - k)))), (0, .ref (a 0)), (3, .int (iI pw))] → W p l e rmS_keep s m args below meth c H locs 0 0 Q (F0 m 92 ls []) := by
      intro fu
      induction fu with
      | zero => intro k g H locs ls hn; exact absurd hn (Nat.not_lt_zero _)
      | succ fu ih =>
        intro k g H locs ls hn hk hg hP hD hS hl
        refine lv_iload hx hb dS_keep_92 (lv_at hl 0 rfl) ?_
        refine lv_if_lt (tgt := 130) hx hb dS_keep_94 (by decide) (fun hc => ?_) (fun hc => ?_)
        · have h3 := (iI_lt (b := 0) (by omega) (by omega) (by decide) (by decide)).mp hc
          have h4 : k = 0 := by omega
          subst h4
          refine lv_aload_n hx hb dS_keep_130 rfl (lv_at hl 3 rfl) ?_
          refine lv_iload_n hx hb dS_keep_131 rfl (lv_at hl 4 rfl) ?_
          refine lv_iload hx hb dS_keep_132 (lv_at hl 1 rfl) ?_
          refine lv_iadd hx hb dS_keep_134 ?_
          refine tp_i (y := iI (pw + z)) (iI_nI pw z) ?_
          refine lv_aload_n hx hb dS_keep_135 rfl (lv_at hl 3 rfl) ?_
          refine va_get (D := G) (ci := 1) (v := .int (nI n)) (C := RS) (T := TS) (N := 8) hx hb hts inS hown hK hP 0 rfl rfl 6 (by decide) (hts _ kw_1_66) (fun _ h9 => h9) rfl dS_keep_136 ?_
          refine lv_iadd hx hb dS_keep_139 ?_
          refine tp_i (y := iI (pw + z + n)) (iI_nI _ n) ?_
          refine va_put (D := G) (ci := 1) (v := .int (iI (pw + z + n))) (C := RS) (T := TS) (N := 8) hx hb hts inS tyS tyS_ok nmS hown hK hP hD hS 0 rfl rfl 7 (by decide) (hts _ kw_1_67) (fun _ h9 => h9) rfl (tyS_ok 7 (by decide)) (rfl) (rfl) (Nat.le_of_ble_eq_true rfl) dS_keep_140 (fun H locs hP hD hS => ?_)
          have hP : va_P G vwCl [(a 0, .inr (1, [.ref (a 1), .ref (a 3), .ref (a 5), .ref (a 7), .ref (a 9), .ref (a 11), .int (nI n), .int (iI (pw + z + n))])), (a 1, .inr (0, [.ref (a 2), .int (nI nW.2)])), (a 2, .inl (cI, 28, .inl nW.1)), (a 3, .inr (0, [.ref (a 4), .int (nI nR.2)])), (a 4, .inl (cI, 28, .inl nR.1)), (a 5, .inr (0, [.ref (a 6), .int (nI nB.2)])), (a 6, .inl (cI, 28, .inl nB.1)), (a 7, .inr (0, [.ref (a 8), .int (nI nA.2)])), (a 8, .inl (cI, 28, .inl nA.1)), (a 9, .inr (0, [.ref (a 10), .int (nI nS.2)])), (a 10, .inl (cI, 28, .inl nS.1)), (a 11, .inl (cC, 17, .inl g))] H := hP
          have hD : va_D A [(a 0, .inr (1, [.ref (a 1), .ref (a 3), .ref (a 5), .ref (a 7), .ref (a 9), .ref (a 11), .int (nI n), .int (iI (pw + z + n))])), (a 1, .inr (0, [.ref (a 2), .int (nI nW.2)])), (a 2, .inl (cI, 28, .inl nW.1)), (a 3, .inr (0, [.ref (a 4), .int (nI nR.2)])), (a 4, .inl (cI, 28, .inl nR.1)), (a 5, .inr (0, [.ref (a 6), .int (nI nB.2)])), (a 6, .inl (cI, 28, .inl nB.1)), (a 7, .inr (0, [.ref (a 8), .int (nI nA.2)])), (a 8, .inl (cI, 28, .inl nA.1)), (a 9, .inr (0, [.ref (a 10), .int (nI nS.2)])), (a 10, .inl (cI, 28, .inl nS.1)), (a 11, .inl (cC, 17, .inl g))] := hD
          exact fin (g, lf, z, n) _ _ _ _ dS_keep_143 (⟨g1, g2, g3, g4, g5, g6, fun j hj => hg j (Nat.zero_le j) hj⟩) hP hD hS
        · have h3 : ¬ ((k : Nat) - 1 : Int) < 0 := fun h => hc ((iI_lt (b := 0) (by omega) (by omega) (by decide) (by decide)).mpr h)
          obtain ⟨k, rfl⟩ : ∃ i, k = i + 1 := ⟨k - 1, by omega⟩
          have hq : lf / 10 ^ (n - (k + 1)) ≤ lf := Nat.div_le_self _ _
          refine lv_aload_n hx hb dS_keep_97 rfl (lv_at hl 3 rfl) ?_
          refine va_get (D := G) (ci := 1) (v := .ref (a 11)) (C := RS) (T := TS) (N := 8) hx hb hts inS hown hK hP 0 rfl rfl 5 (by decide) (hts _ kw_1_65) (fun _ h9 => h9) rfl dS_keep_98 ?_
          refine lv_iload hx hb dS_keep_101 (lv_at hl 0 rfl) ?_
          refine tp_i (y := nI k) (dec_i k) ?_
          refine lv_ldc2 (v := 48) hx hb hown (hts _ kw_2_10) dS_keep_103 ?_
          refine tp_l (y := lN 48) (rfl) ?_
          refine lv_lload hx hb dS_keep_106 (lv_at hl 2 rfl) ?_
          refine lv_ldc2 (v := 10) hx hb hown (hts _ kw_1_221) dS_keep_108 ?_
          refine tp_l (y := lN 10) (rfl) ?_
          refine lv_lrem hx hb dS_keep_111 (by decide) ?_
          refine tp_l (y := lN (lf / 10 ^ (n - (k + 1)) % 10)) (pk_lRem (by omega) (by decide) (by decide)) ?_
          refine lv_ladd hx hb dS_keep_112 ?_
          refine tp_l (y := lN (48 + lf / 10 ^ (n - (k + 1)) % 10)) (lN_add _ _) ?_
          refine lv_l2i (v := nI (48 + lf / 10 ^ (n - (k + 1)) % 10)) hx hb dS_keep_113 (lN_i _) ?_
          refine lv_i2c (v := nI (48 + lf / 10 ^ (n - (k + 1)) % 10)) hx hb dS_keep_114 (chr_nI (by omega)) ?_
          refine st_c (x' := (nI (48 + lf / 10 ^ (n - (k + 1)) % 10))) hx hb hK hP hD hS 11 2 rfl rfl k (rfl) (by omega) (by decide) (nar_char (by omega)) dS_keep_115 (fun H locs hP hD hS => ?_)
          have hP : va_P G vwCl [(a 0, .inr (1, [.ref (a 1), .ref (a 3), .ref (a 5), .ref (a 7), .ref (a 9), .ref (a 11), .int (nI n), .int pt])), (a 1, .inr (0, [.ref (a 2), .int (nI nW.2)])), (a 2, .inl (cI, 28, .inl nW.1)), (a 3, .inr (0, [.ref (a 4), .int (nI nR.2)])), (a 4, .inl (cI, 28, .inl nR.1)), (a 5, .inr (0, [.ref (a 6), .int (nI nB.2)])), (a 6, .inl (cI, 28, .inl nB.1)), (a 7, .inr (0, [.ref (a 8), .int (nI nA.2)])), (a 8, .inl (cI, 28, .inl nA.1)), (a 9, .inr (0, [.ref (a 10), .int (nI nS.2)])), (a 10, .inl (cI, 28, .inl nS.1)), (a 11, .inl (cC, 17, .inl (upd g k (nI (48 + lf / 10 ^ (n - (k + 1)) % 10)))))] H := hP
          have hD : va_D A [(a 0, .inr (1, [.ref (a 1), .ref (a 3), .ref (a 5), .ref (a 7), .ref (a 9), .ref (a 11), .int (nI n), .int pt])), (a 1, .inr (0, [.ref (a 2), .int (nI nW.2)])), (a 2, .inl (cI, 28, .inl nW.1)), (a 3, .inr (0, [.ref (a 4), .int (nI nR.2)])), (a 4, .inl (cI, 28, .inl nR.1)), (a 5, .inr (0, [.ref (a 6), .int (nI nB.2)])), (a 6, .inl (cI, 28, .inl nB.1)), (a 7, .inr (0, [.ref (a 8), .int (nI nA.2)])), (a 8, .inl (cI, 28, .inl nA.1)), (a 9, .inr (0, [.ref (a 10), .int (nI nS.2)])), (a 10, .inl (cI, 28, .inl nS.1)), (a 11, .inl (cC, 17, .inl (upd g k (nI (48 + lf / 10 ^ (n - (k + 1)) % 10)))))] := hD
          refine lv_lload hx hb dS_keep_116 (lv_at hl 2 rfl) ?_
          refine lv_ldc2 (v := 10) hx hb hown (hts _ kw_1_221) dS_keep_118 ?_
          refine tp_l (y := lN 10) (rfl) ?_
          refine lv_ldiv hx hb dS_keep_121 (by decide) ?_
          refine tp_l (y := lN (lf / 10 ^ (n - k))) (by rw [pk_lDiv (by omega) (by decide) (by decide), div_step, show n - (k + 1) + 1 = n - k by omega]) ?_
          refine lv_lstore hx hb dS_keep_122 hl (by decide) rfl (fun ls hl => ?_)
          have hl : lv_has ls 9 [(4, .long (lN (lf / 10 ^ (n - k)))), (7, .int (iI (((k + 1 : Nat) : Int) - 1))), (6, .int (nI z)), (0, .ref (a 0)), (3, .int (iI pw))] := hl
          refine lv_iinc (k := 1) (v := iI ((k : Nat) - 1 : Int)) hx hb dS_keep_124 hl rfl (by rw [dec_i k, ← iI_nat]; exact iI_add _ _) (by decide) rfl (fun ls hl => ?_)
          have hl : lv_has ls 9 [(7, .int (iI ((k : Nat) - 1 : Int))), (4, .long (lN (lf / 10 ^ (n - k)))), (6, .int (nI z)), (0, .ref (a 0)), (3, .int (iI pw))] := hl
          refine lv_goto (tgt := 92) hx hb dS_keep_127 (by decide) ?_
          have hl : lv_has ls 9 [(7, .int (iI ((k : Nat) - 1 : Int))), (6, .int (nI z)), (4, .long (lN (lf / 10 ^ (n - k)))), (0, .ref (a 0)), (3, .int (iI pw))] := lv_sub hl [0, 2, 1, 3, 4] rfl
          exact ih k (upd g k (nI (48 + lf / 10 ^ (n - (k + 1)) % 10))) _ _ _ (by omega) (by omega) (fun j h1 h2 => by
              by_cases hj : j = k
              · subst hj; rw [pk_us, dgs_at (by omega)]
              · rw [pk_un hj]; exact hg j (by omega) h2) hP hD hS hl
    exact lr (_ + 1) n d _ _ _ (Nat.lt_succ_self _) (Nat.le_refl _) (fun j h1 h2 => by omega) hP hD hS hl
  have j38 : ∀ (lf : Nat) (z : Nat) (H : Heap) (locs : List Loc) (ls : Array Slot), lf * 10 ^ z = num → lf % 10 ≠ 0 → lf ≤ 10 ^ 17 → va_P G vwCl [(a 0, .inr (1, [.ref (a 1), .ref (a 3), .ref (a 5), .ref (a 7), .ref (a 9), .ref (a 11), .int cnt, .int pt])), (a 1, .inr (0, [.ref (a 2), .int (nI nW.2)])), (a 2, .inl (cI, 28, .inl nW.1)), (a 3, .inr (0, [.ref (a 4), .int (nI nR.2)])), (a 4, .inl (cI, 28, .inl nR.1)), (a 5, .inr (0, [.ref (a 6), .int (nI nB.2)])), (a 6, .inl (cI, 28, .inl nB.1)), (a 7, .inr (0, [.ref (a 8), .int (nI nA.2)])), (a 8, .inl (cI, 28, .inl nA.1)), (a 9, .inr (0, [.ref (a 10), .int (nI nS.2)])), (a 10, .inl (cI, 28, .inl nS.1)), (a 11, .inl (cC, 17, .inl d))] H → va_D A [(a 0, .inr (1, [.ref (a 1), .ref (a 3), .ref (a 5), .ref (a 7), .ref (a 9), .ref (a 11), .int cnt, .int pt])), (a 1, .inr (0, [.ref (a 2), .int (nI nW.2)])), (a 2, .inl (cI, 28, .inl nW.1)), (a 3, .inr (0, [.ref (a 4), .int (nI nR.2)])), (a 4, .inl (cI, 28, .inl nR.1)), (a 5, .inr (0, [.ref (a 6), .int (nI nB.2)])), (a 6, .inl (cI, 28, .inl nB.1)), (a 7, .inr (0, [.ref (a 8), .int (nI nA.2)])), (a 8, .inl (cI, 28, .inl nA.1)), (a 9, .inr (0, [.ref (a 10), .int (nI nS.2)])), (a 10, .inl (cI, 28, .inl nS.1)), (a 11, .inl (cC, 17, .inl d))] → va_S A s.heap H locs → lv_has ls 9 [(6, .int (nI z)), (4, .long (lN lf)), (0, .ref (a 0)), (3, .int (iI pw))] → W p l e rmS_keep s m args below meth c H locs 0 0 Q (F0 m 38 ls []) := by
    intro lf z H locs ls g1 g2 g7 hP hD hS hl
    refine lv_aload_n hx hb dS_keep_38 rfl (lv_at hl 2 rfl) ?_
    refine lv_iconst (v := nI 0) hx hb dS_keep_39 (by decide) ?_
    refine va_put (D := G) (ci := 1) (v := .int (nI 0)) (C := RS) (T := TS) (N := 8) hx hb hts inS tyS tyS_ok nmS hown hK hP hD hS 0 rfl rfl 6 (by decide) (hts _ kw_1_66) (fun _ h9 => h9) rfl (tyS_ok 6 (by decide)) (rfl) (rfl) (Nat.le_of_ble_eq_true rfl) dS_keep_40 (fun H locs hP hD hS => ?_)
    have hP : va_P G vwCl [(a 0, .inr (1, [.ref (a 1), .ref (a 3), .ref (a 5), .ref (a 7), .ref (a 9), .ref (a 11), .int (nI 0), .int pt])), (a 1, .inr (0, [.ref (a 2), .int (nI nW.2)])), (a 2, .inl (cI, 28, .inl nW.1)), (a 3, .inr (0, [.ref (a 4), .int (nI nR.2)])), (a 4, .inl (cI, 28, .inl nR.1)), (a 5, .inr (0, [.ref (a 6), .int (nI nB.2)])), (a 6, .inl (cI, 28, .inl nB.1)), (a 7, .inr (0, [.ref (a 8), .int (nI nA.2)])), (a 8, .inl (cI, 28, .inl nA.1)), (a 9, .inr (0, [.ref (a 10), .int (nI nS.2)])), (a 10, .inl (cI, 28, .inl nS.1)), (a 11, .inl (cC, 17, .inl d))] H := hP
    have hD : va_D A [(a 0, .inr (1, [.ref (a 1), .ref (a 3), .ref (a 5), .ref (a 7), .ref (a 9), .ref (a 11), .int (nI 0), .int pt])), (a 1, .inr (0, [.ref (a 2), .int (nI nW.2)])), (a 2, .inl (cI, 28, .inl nW.1)), (a 3, .inr (0, [.ref (a 4), .int (nI nR.2)])), (a 4, .inl (cI, 28, .inl nR.1)), (a 5, .inr (0, [.ref (a 6), .int (nI nB.2)])), (a 6, .inl (cI, 28, .inl nB.1)), (a 7, .inr (0, [.ref (a 8), .int (nI nA.2)])), (a 8, .inl (cI, 28, .inl nA.1)), (a 9, .inr (0, [.ref (a 10), .int (nI nS.2)])), (a 10, .inl (cI, 28, .inl nS.1)), (a 11, .inl (cC, 17, .inl d))] := hD
    refine lv_lload hx hb dS_keep_43 (lv_at hl 1 rfl) ?_
    refine lv_lstore hx hb dS_keep_45 hl (by decide) rfl (fun ls hl => ?_)
    have hl : lv_has ls 9 [(7, .long (lN lf)), (6, .int (nI z)), (4, .long (lN lf)), (0, .ref (a 0)), (3, .int (iI pw))] := hl
    have hl : lv_has ls 9 [(7, .long (lN (lf / 10 ^ 0))), (6, .int (nI z)), (4, .long (lN lf)), (0, .ref (a 0)), (3, .int (iI pw))] := by
      rw [Nat.pow_zero, Nat.div_one]; exact hl
    have lq : ∀ (fu : Nat) (n : Nat) (H : Heap) (locs : List Loc) (ls : Array Slot), 17 - n < fu → n ≤ 17 → (n = 0 ∨ 10 ^ (n - 1) ≤ lf) → va_P G vwCl [(a 0, .inr (1, [.ref (a 1), .ref (a 3), .ref (a 5), .ref (a 7), .ref (a 9), .ref (a 11), .int (nI n), .int pt])), (a 1, .inr (0, [.ref (a 2), .int (nI nW.2)])), (a 2, .inl (cI, 28, .inl nW.1)), (a 3, .inr (0, [.ref (a 4), .int (nI nR.2)])), (a 4, .inl (cI, 28, .inl nR.1)), (a 5, .inr (0, [.ref (a 6), .int (nI nB.2)])), (a 6, .inl (cI, 28, .inl nB.1)), (a 7, .inr (0, [.ref (a 8), .int (nI nA.2)])), (a 8, .inl (cI, 28, .inl nA.1)), (a 9, .inr (0, [.ref (a 10), .int (nI nS.2)])), (a 10, .inl (cI, 28, .inl nS.1)), (a 11, .inl (cC, 17, .inl d))] H → va_D A [(a 0, .inr (1, [.ref (a 1), .ref (a 3), .ref (a 5), .ref (a 7), .ref (a 9), .ref (a 11), .int (nI n), .int pt])), (a 1, .inr (0, [.ref (a 2), .int (nI nW.2)])), (a 2, .inl (cI, 28, .inl nW.1)), (a 3, .inr (0, [.ref (a 4), .int (nI nR.2)])), (a 4, .inl (cI, 28, .inl nR.1)), (a 5, .inr (0, [.ref (a 6), .int (nI nB.2)])), (a 6, .inl (cI, 28, .inl nB.1)), (a 7, .inr (0, [.ref (a 8), .int (nI nA.2)])), (a 8, .inl (cI, 28, .inl nA.1)), (a 9, .inr (0, [.ref (a 10), .int (nI nS.2)])), (a 10, .inl (cI, 28, .inl nS.1)), (a 11, .inl (cC, 17, .inl d))] → va_S A s.heap H locs → lv_has ls 9 [(7, .long (lN (lf / 10 ^ n))), (6, .int (nI z)), (4, .long (lN lf)), (0, .ref (a 0)), (3, .int (iI pw))] → W p l e rmS_keep s m args below meth c H locs 0 0 Q (F0 m 47 ls []) := by
      intro fu
      induction fu with
      | zero => intro n H locs ls hn; exact absurd hn (Nat.not_lt_zero _)
      | succ fu ih =>
        intro n H locs ls hn hn1 hn2 hP hD hS hl
        have hq : lf / 10 ^ n ≤ lf := Nat.div_le_self _ _
        refine lv_aload_n hx hb dS_keep_47 rfl (lv_at hl 3 rfl) ?_
        refine va_get (D := G) (ci := 1) (v := .int (nI n)) (C := RS) (T := TS) (N := 8) hx hb hts inS hown hK hP 0 rfl rfl 6 (by decide) (hts _ kw_1_66) (fun _ h9 => h9) rfl dS_keep_48 ?_
        refine lv_bipush (v := nI 17) hx hb dS_keep_51 (by decide) ?_
        refine lv_icmp_ge (tgt := 84) hx hb dS_keep_53 (by decide) (fun hc => ?_) (fun hc => ?_)
        · have h3 : 17 ≤ n := (nI_leI (by decide) (by omega)).mp hc
          have h4 : n = 17 := by omega
          subst h4
          have hl : lv_has ls 9 [(6, .int (nI z)), (4, .long (lN lf)), (0, .ref (a 0)), (3, .int (iI pw))] := lv_sub hl [1, 2, 3, 4] rfl
          exact j84 lf z 17 _ _ _ (g1) (g2) (by decide) (by decide) (by omega) (by omega) (g7) hP hD hS hl
        · have h3 : n < 17 := by
            rcases Nat.lt_or_ge n 17 with h | h
            · exact h
            · exact absurd (nI_le h (by omega)) hc
          refine lv_lload hx hb dS_keep_56 (lv_at hl 0 rfl) ?_
          refine lv_lconst (v := lN 0) hx hb dS_keep_58 (by decide) ?_
          refine W.lcmp hx hb dS_keep_59 ?_
          refine lv_if_le (tgt := 84) hx hb dS_keep_60 (by decide) (fun hc2 => ?_) (fun hc2 => ?_)
          · have h4 : lf / 10 ^ n ≤ 0 := (pk_lLE (by omega) (by decide)).mp ((lg_cmp_le _ _).mp hc2)
            have h5 : lf < 10 ^ n := by
              rcases Nat.lt_or_ge lf (10 ^ n) with h | h
              · exact h
              · exact absurd (Nat.div_pos h (Nat.pow_pos (by decide))) (by omega)
            have h6 : 0 < n := by
              rcases Nat.eq_zero_or_pos n with h | h
              · subst h; omega
              · exact h
            have hl : lv_has ls 9 [(6, .int (nI z)), (4, .long (lN lf)), (0, .ref (a 0)), (3, .int (iI pw))] := lv_sub hl [1, 2, 3, 4] rfl
            exact j84 lf z n _ _ _ (g1) (g2) (h6) (hn1) (hn2.elim (fun h => by omega) (fun h => h)) (h5) (g7) hP hD hS hl
          · have h4 : ¬ lf / 10 ^ n ≤ 0 := fun h => hc2 ((lg_cmp_le _ _).mpr ((pk_lLE (by omega) (by decide)).mpr h))
            have h5 : 10 ^ n ≤ lf := by
              rcases Nat.lt_or_ge lf (10 ^ n) with h | h
              · exact absurd (Nat.le_of_eq (Nat.div_eq_of_lt h)) h4
              · exact h
            refine lv_aload_n hx hb dS_keep_63 rfl (lv_at hl 3 rfl) ?_
            refine lv_dup hx hb dS_keep_64 rfl ?_
            refine va_get (D := G) (ci := 1) (v := .int (nI n)) (C := RS) (T := TS) (N := 8) hx hb hts inS hown hK hP 0 rfl rfl 6 (by decide) (hts _ kw_1_66) (fun _ h9 => h9) rfl dS_keep_65 ?_
            refine lv_iconst (v := nI 1) hx hb dS_keep_68 (by decide) ?_
            refine lv_iadd hx hb dS_keep_69 ?_
            refine tp_i (y := nI (n + 1)) (nI_add n 1) ?_
            refine va_put (D := G) (ci := 1) (v := .int (nI (n + 1))) (C := RS) (T := TS) (N := 8) hx hb hts inS tyS tyS_ok nmS hown hK hP hD hS 0 rfl rfl 6 (by decide) (hts _ kw_1_66) (fun _ h9 => h9) rfl (tyS_ok 6 (by decide)) (rfl) (rfl) (Nat.le_of_ble_eq_true rfl) dS_keep_70 (fun H locs hP hD hS => ?_)
            have hP : va_P G vwCl [(a 0, .inr (1, [.ref (a 1), .ref (a 3), .ref (a 5), .ref (a 7), .ref (a 9), .ref (a 11), .int (nI (n + 1)), .int pt])), (a 1, .inr (0, [.ref (a 2), .int (nI nW.2)])), (a 2, .inl (cI, 28, .inl nW.1)), (a 3, .inr (0, [.ref (a 4), .int (nI nR.2)])), (a 4, .inl (cI, 28, .inl nR.1)), (a 5, .inr (0, [.ref (a 6), .int (nI nB.2)])), (a 6, .inl (cI, 28, .inl nB.1)), (a 7, .inr (0, [.ref (a 8), .int (nI nA.2)])), (a 8, .inl (cI, 28, .inl nA.1)), (a 9, .inr (0, [.ref (a 10), .int (nI nS.2)])), (a 10, .inl (cI, 28, .inl nS.1)), (a 11, .inl (cC, 17, .inl d))] H := hP
            have hD : va_D A [(a 0, .inr (1, [.ref (a 1), .ref (a 3), .ref (a 5), .ref (a 7), .ref (a 9), .ref (a 11), .int (nI (n + 1)), .int pt])), (a 1, .inr (0, [.ref (a 2), .int (nI nW.2)])), (a 2, .inl (cI, 28, .inl nW.1)), (a 3, .inr (0, [.ref (a 4), .int (nI nR.2)])), (a 4, .inl (cI, 28, .inl nR.1)), (a 5, .inr (0, [.ref (a 6), .int (nI nB.2)])), (a 6, .inl (cI, 28, .inl nB.1)), (a 7, .inr (0, [.ref (a 8), .int (nI nA.2)])), (a 8, .inl (cI, 28, .inl nA.1)), (a 9, .inr (0, [.ref (a 10), .int (nI nS.2)])), (a 10, .inl (cI, 28, .inl nS.1)), (a 11, .inl (cC, 17, .inl d))] := hD
            refine lv_lload hx hb dS_keep_73 (lv_at hl 0 rfl) ?_
            refine lv_ldc2 (v := 10) hx hb hown (hts _ kw_1_221) dS_keep_75 ?_
            refine tp_l (y := lN 10) (rfl) ?_
            refine lv_ldiv hx hb dS_keep_78 (by decide) ?_
            refine tp_l (y := lN (lf / 10 ^ (n + 1))) (by rw [pk_lDiv (by omega) (by decide) (by decide), div_step]) ?_
            refine lv_lstore hx hb dS_keep_79 hl (by decide) rfl (fun ls hl => ?_)
            have hl : lv_has ls 9 [(7, .long (lN (lf / 10 ^ (n + 1)))), (6, .int (nI z)), (4, .long (lN lf)), (0, .ref (a 0)), (3, .int (iI pw))] := hl
            refine lv_goto (tgt := 47) hx hb dS_keep_81 (by decide) ?_
            have hl : lv_has ls 9 [(7, .long (lN (lf / 10 ^ (n + 1)))), (6, .int (nI z)), (4, .long (lN lf)), (0, .ref (a 0)), (3, .int (iI pw))] := lv_sub hl [0, 1, 2, 3, 4] rfl
            exact ih (n + 1) _ _ _ (by omega) (by omega) (Or.inr h5) hP hD hS hl
    exact lq (_ + 1) 0 _ _ _ (Nat.lt_succ_self _) (by decide) (Or.inl rfl) hP hD hS hl
  refine lv_lload_n hx hb dS_keep_0 rfl (lv_at hl 1 rfl) ?_
  refine lv_lstore hx hb dS_keep_1 hl (by decide) rfl (fun ls hl => ?_)
  have hl : lv_has ls 9 [(4, .long (lN num)), (0, .ref (a 0)), (1, .long (lN num)), (3, .int (iI pw))] := hl
  refine lv_iconst (v := nI 0) hx hb dS_keep_3 (by decide) ?_
  refine lv_istore hx hb dS_keep_4 hl (by decide) rfl (fun ls hl => ?_)
  have hl : lv_has ls 9 [(6, .int (nI 0)), (4, .long (lN num)), (0, .ref (a 0)), (1, .long (lN num)), (3, .int (iI pw))] := hl
  have hl : lv_has ls 9 [(6, .int (nI 0)), (4, .long (lN num)), (0, .ref (a 0)), (3, .int (iI pw))] := lv_sub hl [0, 1, 2, 4] rfl
  have lp : ∀ (fu : Nat) (z : Nat) (lf : Nat) (H : Heap) (locs : List Loc) (ls : Array Slot), 17 - z < fu → z ≤ 17 → lf * 10 ^ z = num → va_P G vwCl [(a 0, .inr (1, [.ref (a 1), .ref (a 3), .ref (a 5), .ref (a 7), .ref (a 9), .ref (a 11), .int cnt, .int pt])), (a 1, .inr (0, [.ref (a 2), .int (nI nW.2)])), (a 2, .inl (cI, 28, .inl nW.1)), (a 3, .inr (0, [.ref (a 4), .int (nI nR.2)])), (a 4, .inl (cI, 28, .inl nR.1)), (a 5, .inr (0, [.ref (a 6), .int (nI nB.2)])), (a 6, .inl (cI, 28, .inl nB.1)), (a 7, .inr (0, [.ref (a 8), .int (nI nA.2)])), (a 8, .inl (cI, 28, .inl nA.1)), (a 9, .inr (0, [.ref (a 10), .int (nI nS.2)])), (a 10, .inl (cI, 28, .inl nS.1)), (a 11, .inl (cC, 17, .inl d))] H → va_D A [(a 0, .inr (1, [.ref (a 1), .ref (a 3), .ref (a 5), .ref (a 7), .ref (a 9), .ref (a 11), .int cnt, .int pt])), (a 1, .inr (0, [.ref (a 2), .int (nI nW.2)])), (a 2, .inl (cI, 28, .inl nW.1)), (a 3, .inr (0, [.ref (a 4), .int (nI nR.2)])), (a 4, .inl (cI, 28, .inl nR.1)), (a 5, .inr (0, [.ref (a 6), .int (nI nB.2)])), (a 6, .inl (cI, 28, .inl nB.1)), (a 7, .inr (0, [.ref (a 8), .int (nI nA.2)])), (a 8, .inl (cI, 28, .inl nA.1)), (a 9, .inr (0, [.ref (a 10), .int (nI nS.2)])), (a 10, .inl (cI, 28, .inl nS.1)), (a 11, .inl (cC, 17, .inl d))] → va_S A s.heap H locs → lv_has ls 9 [(6, .int (nI z)), (4, .long (lN lf)), (0, .ref (a 0)), (3, .int (iI pw))] → W p l e rmS_keep s m args below meth c H locs 0 0 Q (F0 m 6 ls []) := by
    intro fu
    induction fu with
    | zero => intro z lf H locs ls hn; exact absurd hn (Nat.not_lt_zero _)
    | succ fu ih =>
      intro z lf H locs ls hn hz g1 hP hD hS hl
      have g7 : lf ≤ num := by rw [← g1]; exact Nat.le_mul_of_pos_right _ (Nat.pow_pos (by decide))
      refine lv_iload hx hb dS_keep_6 (lv_at hl 0 rfl) ?_
      refine lv_bipush (v := nI 17) hx hb dS_keep_8 (by decide) ?_
      refine lv_icmp_ge (tgt := 38) hx hb dS_keep_10 (by decide) (fun hc => ?_) (fun hc => ?_)
      · have h3 : 17 ≤ z := (nI_leI (by decide) (by omega)).mp hc
        have h4 : z = 17 := by omega
        subst h4
        exact j38 lf 17 _ _ _ (g1) (strip_end g1 h0 h1) (by omega) hP hD hS hl
      · have h3 : z < 17 := by
          rcases Nat.lt_or_ge z 17 with h | h
          · exact h
          · exact absurd (nI_le h (by omega)) hc
        refine lv_lload hx hb dS_keep_13 (lv_at hl 1 rfl) ?_
        refine lv_ldc2 (v := 10) hx hb hown (hts _ kw_1_221) dS_keep_15 ?_
        refine tp_l (y := lN 10) (rfl) ?_
        refine lv_lrem hx hb dS_keep_18 (by decide) ?_
        refine tp_l (y := lN (lf % 10)) (pk_lRem (by omega) (by decide) (by decide)) ?_
        refine lv_lconst (v := lN 0) hx hb dS_keep_19 (by decide) ?_
        refine W.lcmp hx hb dS_keep_20 ?_
        refine lv_if_ne (tgt := 38) hx hb dS_keep_21 (by decide) (fun hc2 => ?_) (fun hc2 => ?_)
        · exact j38 lf z _ _ _ (g1) (fun h => hc2 ((lg_cmp_eq _ _).mpr (by rw [h]))) (by omega) hP hD hS hl
        · have h4 : lf % 10 = 0 := (pk_lEQ (by omega) (by decide)).mp ((lg_cmp_eq _ _).mp hc2)
          refine lv_lload hx hb dS_keep_24 (lv_at hl 1 rfl) ?_
          refine lv_ldc2 (v := 10) hx hb hown (hts _ kw_1_221) dS_keep_26 ?_
          refine tp_l (y := lN 10) (rfl) ?_
          refine lv_ldiv hx hb dS_keep_29 (by decide) ?_
          refine tp_l (y := lN (lf / 10)) (pk_lDiv (by omega) (by decide) (by decide)) ?_
          refine lv_lstore hx hb dS_keep_30 hl (by decide) rfl (fun ls hl => ?_)
          have hl : lv_has ls 9 [(4, .long (lN (lf / 10))), (6, .int (nI z)), (0, .ref (a 0)), (3, .int (iI pw))] := hl
          refine lv_iinc (k := 1) (v := nI (z + 1)) hx hb dS_keep_32 hl rfl (nI_1 z) (by decide) rfl (fun ls hl => ?_)
          have hl : lv_has ls 9 [(6, .int (nI (z + 1))), (4, .long (lN (lf / 10))), (0, .ref (a 0)), (3, .int (iI pw))] := hl
          refine lv_goto (tgt := 6) hx hb dS_keep_35 (by decide) ?_
          have hl : lv_has ls 9 [(6, .int (nI (z + 1))), (4, .long (lN (lf / 10))), (0, .ref (a 0)), (3, .int (iI pw))] := lv_sub hl [0, 1, 2, 3] rfl
          exact ih (z + 1) (lf / 10) _ _ _ (by omega) (by omega) (strip_ok g1 h4) hP hD hS hl
  exact lp (_ + 1) 0 num _ _ _ (Nat.lt_succ_self _) (by decide) (Nat.mul_one _) hP hD hS hl
abbrev rmS_start : Room := { frames := 3, cells := 0, slots := 0, locals := 73 }
set_option maxRecDepth 100000 in
set_option maxHeartbeats 4000000 in
theorem c_start (a : Nat → Nat) (nW nR nB nA nS : Q2) (d : Nat → Int32) (cnt pt : Int32) (c9 B qn vW vR vB vA : Nat) (cl : Bool) (hB : B ≤ 52) (h1 : 2 ^ B ≤ c9) (h2 : c9 < 2 ^ (B + 1)) (hl9 : qn + B < 2098) (hW : Nt nW.1 nW.2 vW) (hR : Nt nR.1 nR.2 vR) (hBq : Nt nB.1 nB.2 vB) (hAq : Nt nA.1 nA.2 vA) : CTv l G (tyL cI cB cC cJ) yS_start cS_start 9 rmS_start [.ref (a 0), .long (lN c9), .int (iI ((qn : Nat) - 1074 : Int)), .int (bI cl)] (wS cI cC a nW nR nB nA nS d cnt pt) (fun q : Q2 × Q2 × Q2 × Q2 × Nat × Nat × Nat => StOk qn c9 cl q.1 q.2.1 q.2.2.1 q.2.2.2.1 q.2.2.2.2.1 q.2.2.2.2.2.1 q.2.2.2.2.2.2) (fun q => wS cI cC a q.1 q.2.1 q.2.2.1 q.2.2.2.1 nS d cnt (iI ((q.2.2.2.2.1 : Nat) - 1100 : Int))) := by
  obtain ⟨P, hPt⟩ : ∃ P, P = ptN (qn + B) := ⟨_, rfl⟩
  obtain ⟨-, -, a3, a4, a5, -, -, a8, a9⟩ := est_ok hl9
  rw [← hPt] at a3 a4 a5 a8 a9
  obtain ⟨s1, s2, s3, s4, s5⟩ := start_sz hB h2 hPt hl9
  have hb : (2 : Nat) ^ 890 ≤ 2 ^ 896 := Nat.pow_le_pow_right (by decide) (by decide)
  have t1 := Nat.lt_of_lt_of_le s1 hb
  have t3 : 1 * 2 ^ (P - (qn + 24)) * 5 ^ (P - 1100) * 10 < 2 ^ 896 := Nat.lt_of_lt_of_le (Nat.lt_of_le_of_lt (Nat.mul_le_mul_left _ (by decide)) s3) hb
  have t3b : 1 * 2 ^ (P - (qn + 24)) * 5 ^ (P - 1100) < 2 ^ 896 := Nat.lt_of_le_of_lt (Nat.le_mul_of_pos_right _ (by decide)) t3
  have hcp : 0 < c9 := Nat.lt_of_lt_of_le (Nat.pow_pos (by decide)) h1
  have hcl : c9 < 2 ^ 53 := Nat.lt_of_lt_of_le h2 (Nat.pow_le_pow_right (by decide) (by omega))
  have t2 : ∀ k, k ≤ 4 * c9 → k * 2 ^ (qn + 24 - P) * 5 ^ (1100 - P) < 2 ^ 896 := fun k hk => Nat.lt_of_le_of_lt (Nat.mul_le_mul_right _ (Nat.mul_le_mul_right _ hk)) t1
  clear s1 s2 s3 hb
  refine mkV cS_start 9 RS (by decide) rfl (Nat.le_of_ble_eq_true rfl) ?_
  intro p e s m args below meth c A Q ls hx hb hml hts hown hnm hK hP hD hA hl fin
  have hS : va_S A s.heap s.heap [] := va_S.rf
  have hl : lv_has ls 9 [(0, .ref (a 0)), (1, .long (lN c9)), (3, .int (iI ((qn : Nat) - 1074 : Int))), (4, .int (bI cl))] := hl
  have hP : va_P G vwCl [(a 0, .inr (1, [.ref (a 1), .ref (a 3), .ref (a 5), .ref (a 7), .ref (a 9), .ref (a 11), .int cnt, .int pt])), (a 1, .inr (0, [.ref (a 2), .int (nI nW.2)])), (a 2, .inl (cI, 28, .inl nW.1)), (a 3, .inr (0, [.ref (a 4), .int (nI nR.2)])), (a 4, .inl (cI, 28, .inl nR.1)), (a 5, .inr (0, [.ref (a 6), .int (nI nB.2)])), (a 6, .inl (cI, 28, .inl nB.1)), (a 7, .inr (0, [.ref (a 8), .int (nI nA.2)])), (a 8, .inl (cI, 28, .inl nA.1)), (a 9, .inr (0, [.ref (a 10), .int (nI nS.2)])), (a 10, .inl (cI, 28, .inl nS.1)), (a 11, .inl (cC, 17, .inl d))] s.heap := hP
  have hD : va_D A [(a 0, .inr (1, [.ref (a 1), .ref (a 3), .ref (a 5), .ref (a 7), .ref (a 9), .ref (a 11), .int cnt, .int pt])), (a 1, .inr (0, [.ref (a 2), .int (nI nW.2)])), (a 2, .inl (cI, 28, .inl nW.1)), (a 3, .inr (0, [.ref (a 4), .int (nI nR.2)])), (a 4, .inl (cI, 28, .inl nR.1)), (a 5, .inr (0, [.ref (a 6), .int (nI nB.2)])), (a 6, .inl (cI, 28, .inl nB.1)), (a 7, .inr (0, [.ref (a 8), .int (nI nA.2)])), (a 8, .inl (cI, 28, .inl nA.1)), (a 9, .inr (0, [.ref (a 10), .int (nI nS.2)])), (a 10, .inl (cI, 28, .inl nS.1)), (a 11, .inl (cC, 17, .inl d))] := hD
  refine lv_iload_n hx hb dS_start_0 rfl (lv_at hl 2 rfl) ?_
  refine lv_iconst (v := nI 2) hx hb dS_start_1 (by decide) ?_
  refine lv_isub hx hb dS_start_2 ?_
  refine tp_i (y := iI ((qn : Int) - 1076)) (by rw [iI_snI]; congr 1; omega) ?_
  refine lv_istore hx hb dS_start_3 hl (by decide) rfl (fun ls hl => ?_)
  have hl : lv_has ls 9 [(5, .int (iI ((qn : Int) - 1076))), (0, .ref (a 0)), (1, .long (lN c9)), (3, .int (iI ((qn : Nat) - 1074 : Int))), (4, .int (bI cl))] := hl
  refine lv_iload_n hx hb dS_start_5 rfl (lv_at hl 3 rfl) ?_
  refine lv_bipush (v := nI 63) hx hb dS_start_6 (by decide) ?_
  refine lv_iadd hx hb dS_start_8 ?_
  refine tp_i (y := iI ((qn : Int) - 1011)) (by rw [iI_nI]; congr 1; omega) ?_
  refine lv_lload_n hx hb dS_start_9 rfl (lv_at hl 2 rfl) ?_
  refine jnI (Wr := [(a 0, .inr (1, [.ref (a 1), .ref (a 3), .ref (a 5), .ref (a 7), .ref (a 9), .ref (a 11), .int cnt, .int pt])), (a 1, .inr (0, [.ref (a 2), .int (nI nW.2)])), (a 2, .inl (cI, 28, .inl nW.1)), (a 3, .inr (0, [.ref (a 4), .int (nI nR.2)])), (a 4, .inl (cI, 28, .inl nR.1)), (a 5, .inr (0, [.ref (a 6), .int (nI nB.2)])), (a 6, .inl (cI, 28, .inl nB.1)), (a 7, .inr (0, [.ref (a 8), .int (nI nA.2)])), (a 8, .inl (cI, 28, .inl nA.1)), (a 9, .inr (0, [.ref (a 10), .int (nI nS.2)])), (a 10, .inl (cI, 28, .inl nS.1)), (a 11, .inl (cC, 17, .inl d))]) (W2 := fun y => [(a 0, .inr (1, [.ref (a 1), .ref (a 3), .ref (a 5), .ref (a 7), .ref (a 9), .ref (a 11), .int cnt, .int pt])), (a 1, .inr (0, [.ref (a 2), .int (nI nW.2)])), (a 2, .inl (cI, 28, .inl nW.1)), (a 3, .inr (0, [.ref (a 4), .int (nI nR.2)])), (a 4, .inl (cI, 28, .inl nR.1)), (a 5, .inr (0, [.ref (a 6), .int (nI nB.2)])), (a 6, .inl (cI, 28, .inl nB.1)), (a 7, .inr (0, [.ref (a 8), .int (nI nA.2)])), (a 8, .inl (cI, 28, .inl nA.1)), (a 9, .inr (0, [.ref (a 10), .int (nI nS.2)])), (a 10, .inl (cI, 28, .inl nS.1)), (a 11, .inl (cC, 17, .inl d))]) (rS (n := 1) (As := [.long (lN c9)]) (rest := [.int (iI ((qn : Int) - 1011))]) hx hb hml hown hts (c_lnlz c9 B h1 h2 (by omega) _) kw_1_180 kw_1_178 kw_1_179 kw_1_11 (by decide +kernel) ⟨Nat.le_of_ble_eq_true rfl, Nat.le_of_ble_eq_true rfl⟩ hK hP hD [] rfl rfl rfl rfl hl.1 rfl (lv_room (Nat.le_of_ble_eq_true rfl)) dS_start_10 ⟨Nat.le_of_ble_eq_true rfl, Nat.le_of_ble_eq_true rfl⟩) hP hD hS hA [] [0, 1, 2, 3, 4, 5, 6, 7, 8, 9, 10, 11] [0, 1, 2, 3, 4, 5, 6, 7, 8, 9, 10, 11] rfl rfl rfl (by decide) (fun _ => rfl) rfl (fun o y H locs hq hP hD hS => ?_)
  have hP : va_P G vwCl [(a 0, .inr (1, [.ref (a 1), .ref (a 3), .ref (a 5), .ref (a 7), .ref (a 9), .ref (a 11), .int cnt, .int pt])), (a 1, .inr (0, [.ref (a 2), .int (nI nW.2)])), (a 2, .inl (cI, 28, .inl nW.1)), (a 3, .inr (0, [.ref (a 4), .int (nI nR.2)])), (a 4, .inl (cI, 28, .inl nR.1)), (a 5, .inr (0, [.ref (a 6), .int (nI nB.2)])), (a 6, .inl (cI, 28, .inl nB.1)), (a 7, .inr (0, [.ref (a 8), .int (nI nA.2)])), (a 8, .inl (cI, 28, .inl nA.1)), (a 9, .inr (0, [.ref (a 10), .int (nI nS.2)])), (a 10, .inl (cI, 28, .inl nS.1)), (a 11, .inl (cC, 17, .inl d))] H := hP
  have hD : va_D A [(a 0, .inr (1, [.ref (a 1), .ref (a 3), .ref (a 5), .ref (a 7), .ref (a 9), .ref (a 11), .int cnt, .int pt])), (a 1, .inr (0, [.ref (a 2), .int (nI nW.2)])), (a 2, .inl (cI, 28, .inl nW.1)), (a 3, .inr (0, [.ref (a 4), .int (nI nR.2)])), (a 4, .inl (cI, 28, .inl nR.1)), (a 5, .inr (0, [.ref (a 6), .int (nI nB.2)])), (a 6, .inl (cI, 28, .inl nB.1)), (a 7, .inr (0, [.ref (a 8), .int (nI nA.2)])), (a 8, .inl (cI, 28, .inl nA.1)), (a 9, .inr (0, [.ref (a 10), .int (nI nS.2)])), (a 10, .inl (cI, 28, .inl nS.1)), (a 11, .inl (cC, 17, .inl d))] := hD
  subst hq
  refine lv_isub hx hb dS_start_13 ?_
  refine tp_i (y := iI (((qn + B : Nat) : Int) - 1074)) (by rw [iI_snI]; congr 1; omega) ?_
  refine lv_istore hx hb dS_start_14 hl (by decide) rfl (fun ls hl => ?_)
  have hl : lv_has ls 9 [(6, .int (iI (((qn + B : Nat) : Int) - 1074))), (5, .int (iI ((qn : Int) - 1076))), (0, .ref (a 0)), (1, .long (lN c9)), (3, .int (iI ((qn : Nat) - 1074 : Int))), (4, .int (bI cl))] := hl
  refine lv_aload_n hx hb dS_start_16 rfl (lv_at hl 2 rfl) ?_
  refine lv_iconst (v := nI 1) hx hb dS_start_17 (by decide) ?_
  refine lv_iload hx hb dS_start_18 (lv_at hl 0 rfl) ?_
  refine lv_i2l (v := lI (((qn + B : Nat) : Int) - 1074)) hx hb dS_start_20 (iI_l (by omega) (by omega)) ?_
  refine lv_ldc2 (v := 661971961083) hx hb hown (hts _ kw_1_185) dS_start_21 ?_
  refine tp_l (y := lI 661971961083) (by decide) ?_
  refine lv_lmul hx hb dS_start_24 ?_
  refine tp_l (y := lI ((((qn + B : Nat) : Int) - 1074) * 661971961083)) (lI_mul _ _) ?_
  refine lv_bipush (v := nI 41) hx hb dS_start_25 (by decide) ?_
  refine lv_lshr (v := lI ((((qn + B : Nat) : Int) - 1074) * 661971961083 / 2199023255552)) hx hb dS_start_27 (lI_shr41 (by omega) (by omega)) ?_
  refine lv_l2i (v := iI ((((qn + B : Nat) : Int) - 1074) * 661971961083 / 2199023255552)) hx hb dS_start_28 (lI_i _) ?_
  refine lv_iadd hx hb dS_start_29 ?_
  refine tp_i (y := iI ((P : Nat) - 1100 : Int)) (by rw [← iI_nat, iI_add]; congr 1; rw [a5]; unfold pt0; omega) ?_
  refine va_put (D := G) (ci := 1) (v := .int (iI ((P : Nat) - 1100 : Int))) (C := RS) (T := TS) (N := 8) hx hb hts inS tyS tyS_ok nmS hown hK hP hD hS 0 rfl rfl 7 (by decide) (hts _ kw_1_67) (fun _ h9 => h9) rfl (tyS_ok 7 (by decide)) (rfl) (rfl) (Nat.le_of_ble_eq_true rfl) dS_start_30 (fun H locs hP hD hS => ?_)
  have hP : va_P G vwCl [(a 0, .inr (1, [.ref (a 1), .ref (a 3), .ref (a 5), .ref (a 7), .ref (a 9), .ref (a 11), .int cnt, .int (iI ((P : Nat) - 1100 : Int))])), (a 1, .inr (0, [.ref (a 2), .int (nI nW.2)])), (a 2, .inl (cI, 28, .inl nW.1)), (a 3, .inr (0, [.ref (a 4), .int (nI nR.2)])), (a 4, .inl (cI, 28, .inl nR.1)), (a 5, .inr (0, [.ref (a 6), .int (nI nB.2)])), (a 6, .inl (cI, 28, .inl nB.1)), (a 7, .inr (0, [.ref (a 8), .int (nI nA.2)])), (a 8, .inl (cI, 28, .inl nA.1)), (a 9, .inr (0, [.ref (a 10), .int (nI nS.2)])), (a 10, .inl (cI, 28, .inl nS.1)), (a 11, .inl (cC, 17, .inl d))] H := hP
  have hD : va_D A [(a 0, .inr (1, [.ref (a 1), .ref (a 3), .ref (a 5), .ref (a 7), .ref (a 9), .ref (a 11), .int cnt, .int (iI ((P : Nat) - 1100 : Int))])), (a 1, .inr (0, [.ref (a 2), .int (nI nW.2)])), (a 2, .inl (cI, 28, .inl nW.1)), (a 3, .inr (0, [.ref (a 4), .int (nI nR.2)])), (a 4, .inl (cI, 28, .inl nR.1)), (a 5, .inr (0, [.ref (a 6), .int (nI nB.2)])), (a 6, .inl (cI, 28, .inl nB.1)), (a 7, .inr (0, [.ref (a 8), .int (nI nA.2)])), (a 8, .inl (cI, 28, .inl nA.1)), (a 9, .inr (0, [.ref (a 10), .int (nI nS.2)])), (a 10, .inl (cI, 28, .inl nS.1)), (a 11, .inl (cC, 17, .inl d))] := hD
  refine lv_aload_n hx hb dS_start_33 rfl (lv_at hl 2 rfl) ?_
  refine va_get (D := G) (ci := 1) (v := .int (iI ((P : Nat) - 1100 : Int))) (C := RS) (T := TS) (N := 8) hx hb hts inS hown hK hP 0 rfl rfl 7 (by decide) (hts _ kw_1_67) (fun _ h9 => h9) rfl dS_start_34 ?_
  refine lv_ineg hx hb dS_start_37 ?_
  refine tp_i (y := iI (1100 - (P : Nat) : Int)) (by rw [iI_neg]; congr 1; omega) ?_
  refine lv_iconst (v := nI 0) hx hb dS_start_38 (by decide) ?_
  refine va_mmax hx hb (hml.trans hl.1.symm) hown (hts _ kw_1_186) (hts _ kw_1_187) (hts _ kw_1_13) (hts _ kw_1_188) (Nat.le_of_ble_eq_true rfl) (Nat.le_of_ble_eq_true rfl) (Nat.le_of_ble_eq_true rfl) (Nat.le_of_ble_eq_true rfl) dS_start_39 ?_
  refine tp_i (y := nI (1100 - P)) (by rw [imax0 (by omega) (by omega)]; congr 1; omega) ?_
  refine lv_istore hx hb dS_start_42 hl (by decide) rfl (fun ls hl => ?_)
  have hl : lv_has ls 9 [(7, .int (nI (1100 - P))), (6, .int (iI (((qn + B : Nat) : Int) - 1074))), (5, .int (iI ((qn : Int) - 1076))), (0, .ref (a 0)), (1, .long (lN c9)), (3, .int (iI ((qn : Nat) - 1074 : Int))), (4, .int (bI cl))] := hl
  refine lv_iload hx hb dS_start_44 (lv_at hl 2 rfl) ?_
  refine lv_aload_n hx hb dS_start_46 rfl (lv_at hl 3 rfl) ?_
  refine va_get (D := G) (ci := 1) (v := .int (iI ((P : Nat) - 1100 : Int))) (C := RS) (T := TS) (N := 8) hx hb hts inS hown hK hP 0 rfl rfl 7 (by decide) (hts _ kw_1_67) (fun _ h9 => h9) rfl dS_start_47 ?_
  refine lv_isub hx hb dS_start_50 ?_
  refine tp_i (y := iI ((qn : Int) + 24 - P)) (by rw [iI_sub]; congr 1; omega) ?_
  refine lv_iconst (v := nI 0) hx hb dS_start_51 (by decide) ?_
  refine va_mmax hx hb (hml.trans hl.1.symm) hown (hts _ kw_1_186) (hts _ kw_1_187) (hts _ kw_1_13) (hts _ kw_1_188) (Nat.le_of_ble_eq_true rfl) (Nat.le_of_ble_eq_true rfl) (Nat.le_of_ble_eq_true rfl) (Nat.le_of_ble_eq_true rfl) dS_start_52 ?_
  refine tp_i (y := nI (qn + 24 - P)) (by rw [imax0 (by omega) (by omega)]; congr 1; omega) ?_
  refine lv_istore hx hb dS_start_55 hl (by decide) rfl (fun ls hl => ?_)
  have hl : lv_has ls 9 [(8, .int (nI (qn + 24 - P))), (7, .int (nI (1100 - P))), (6, .int (iI (((qn + B : Nat) : Int) - 1074))), (5, .int (iI ((qn : Int) - 1076))), (0, .ref (a 0)), (1, .long (lN c9)), (3, .int (iI ((qn : Nat) - 1074 : Int))), (4, .int (bI cl))] := hl
  refine lv_aload_n hx hb dS_start_57 rfl (lv_at hl 4 rfl) ?_
  refine va_get (D := G) (ci := 1) (v := .ref (a 3)) (C := RS) (T := TS) (N := 8) hx hb hts inS hown hK hP 0 rfl rfl 1 (by decide) (hts _ kw_1_61) (fun _ h9 => h9) rfl dS_start_58 ?_
  refine lv_ldc2 (v := 4) hx hb hown (hts _ kw_1_189) dS_start_61 ?_
  refine tp_l (y := lN 4) (rfl) ?_
  refine lv_lload_n hx hb dS_start_64 rfl (lv_at hl 5 rfl) ?_
  refine lv_lmul hx hb dS_start_65 ?_
  refine tp_l (y := lN (4 * c9)) (lN_mul _ _) ?_
  refine lv_iload hx hb dS_start_66 (lv_at hl 1 rfl) ?_
  refine lv_iload hx hb dS_start_68 (lv_at hl 0 rfl) ?_
  refine jnV (Wr := [(a 0, .inr (1, [.ref (a 1), .ref (a 3), .ref (a 5), .ref (a 7), .ref (a 9), .ref (a 11), .int cnt, .int (iI ((P : Nat) - 1100 : Int))])), (a 1, .inr (0, [.ref (a 2), .int (nI nW.2)])), (a 2, .inl (cI, 28, .inl nW.1)), (a 5, .inr (0, [.ref (a 6), .int (nI nB.2)])), (a 6, .inl (cI, 28, .inl nB.1)), (a 7, .inr (0, [.ref (a 8), .int (nI nA.2)])), (a 8, .inl (cI, 28, .inl nA.1)), (a 9, .inr (0, [.ref (a 10), .int (nI nS.2)])), (a 10, .inl (cI, 28, .inl nS.1)), (a 11, .inl (cC, 17, .inl d))]) (W2 := fun q1 => [(a 0, .inr (1, [.ref (a 1), .ref (a 3), .ref (a 5), .ref (a 7), .ref (a 9), .ref (a 11), .int cnt, .int (iI ((P : Nat) - 1100 : Int))])), (a 1, .inr (0, [.ref (a 2), .int (nI nW.2)])), (a 2, .inl (cI, 28, .inl nW.1)), (a 3, .inr (0, [.ref (a 4), .int (nI q1.2)])), (a 4, .inl (cI, 28, .inl q1.1)), (a 5, .inr (0, [.ref (a 6), .int (nI nB.2)])), (a 6, .inl (cI, 28, .inl nB.1)), (a 7, .inr (0, [.ref (a 8), .int (nI nA.2)])), (a 8, .inl (cI, 28, .inl nA.1)), (a 9, .inr (0, [.ref (a 10), .int (nI nS.2)])), (a 10, .inl (cI, 28, .inl nS.1)), (a 11, .inl (cC, 17, .inl d))]) (rV (n := 3) (As := [.long (lN (4 * c9)), .int (nI (1100 - P)), .int (nI (qn + 24 - P))]) (rest := []) hx hb hml hown hts (c_setProduct (a 3) (a 4) nR.2 vR (4 * c9) (1100 - P) (qn + 24 - P) nR.1 hR (by omega) (by omega) (by omega) t1 _) kw_1_193 kw_1_190 kw_1_191 kw_1_192 kw_1_4 (by decide +kernel) ⟨Nat.le_of_ble_eq_true rfl, Nat.le_of_ble_eq_true rfl⟩ hK hP hD [3, 4] rfl rfl 3 rfl rfl rfl rfl hl.1 rfl (lv_room (Nat.le_of_ble_eq_true rfl)) dS_start_70 ⟨Nat.le_of_ble_eq_true rfl, Nat.le_of_ble_eq_true rfl⟩) hP hD hS hA [3, 4] [0, 1, 2, 5, 6, 7, 8, 9, 10, 11] [0, 1, 2, 10, 11, 3, 4, 5, 6, 7, 8, 9] rfl rfl rfl (by decide) (fun _ => rfl) rfl (fun q1 H locs n1 hP hD hS => ?_)
  have hP : va_P G vwCl [(a 0, .inr (1, [.ref (a 1), .ref (a 3), .ref (a 5), .ref (a 7), .ref (a 9), .ref (a 11), .int cnt, .int (iI ((P : Nat) - 1100 : Int))])), (a 1, .inr (0, [.ref (a 2), .int (nI nW.2)])), (a 2, .inl (cI, 28, .inl nW.1)), (a 3, .inr (0, [.ref (a 4), .int (nI q1.2)])), (a 4, .inl (cI, 28, .inl q1.1)), (a 5, .inr (0, [.ref (a 6), .int (nI nB.2)])), (a 6, .inl (cI, 28, .inl nB.1)), (a 7, .inr (0, [.ref (a 8), .int (nI nA.2)])), (a 8, .inl (cI, 28, .inl nA.1)), (a 9, .inr (0, [.ref (a 10), .int (nI nS.2)])), (a 10, .inl (cI, 28, .inl nS.1)), (a 11, .inl (cC, 17, .inl d))] H := hP
  have hD : va_D A [(a 0, .inr (1, [.ref (a 1), .ref (a 3), .ref (a 5), .ref (a 7), .ref (a 9), .ref (a 11), .int cnt, .int (iI ((P : Nat) - 1100 : Int))])), (a 1, .inr (0, [.ref (a 2), .int (nI nW.2)])), (a 2, .inl (cI, 28, .inl nW.1)), (a 3, .inr (0, [.ref (a 4), .int (nI q1.2)])), (a 4, .inl (cI, 28, .inl q1.1)), (a 5, .inr (0, [.ref (a 6), .int (nI nB.2)])), (a 6, .inl (cI, 28, .inl nB.1)), (a 7, .inr (0, [.ref (a 8), .int (nI nA.2)])), (a 8, .inl (cI, 28, .inl nA.1)), (a 9, .inr (0, [.ref (a 10), .int (nI nS.2)])), (a 10, .inl (cI, 28, .inl nS.1)), (a 11, .inl (cC, 17, .inl d))] := hD
  refine lv_aload_n hx hb dS_start_73 rfl (lv_at hl 4 rfl) ?_
  refine va_get (D := G) (ci := 1) (v := .ref (a 7)) (C := RS) (T := TS) (N := 8) hx hb hts inS hown hK hP 0 rfl rfl 3 (by decide) (hts _ kw_1_63) (fun _ h9 => h9) rfl dS_start_74 ?_
  refine lv_ldc2 (v := 2) hx hb hown (hts _ kw_1_211) dS_start_77 ?_
  refine tp_l (y := lN 2) (rfl) ?_
  refine lv_iload hx hb dS_start_80 (lv_at hl 1 rfl) ?_
  refine lv_iload hx hb dS_start_82 (lv_at hl 0 rfl) ?_
  refine jnV (Wr := [(a 0, .inr (1, [.ref (a 1), .ref (a 3), .ref (a 5), .ref (a 7), .ref (a 9), .ref (a 11), .int cnt, .int (iI ((P : Nat) - 1100 : Int))])), (a 1, .inr (0, [.ref (a 2), .int (nI nW.2)])), (a 2, .inl (cI, 28, .inl nW.1)), (a 3, .inr (0, [.ref (a 4), .int (nI q1.2)])), (a 4, .inl (cI, 28, .inl q1.1)), (a 5, .inr (0, [.ref (a 6), .int (nI nB.2)])), (a 6, .inl (cI, 28, .inl nB.1)), (a 9, .inr (0, [.ref (a 10), .int (nI nS.2)])), (a 10, .inl (cI, 28, .inl nS.1)), (a 11, .inl (cC, 17, .inl d))]) (W2 := fun q2 => [(a 0, .inr (1, [.ref (a 1), .ref (a 3), .ref (a 5), .ref (a 7), .ref (a 9), .ref (a 11), .int cnt, .int (iI ((P : Nat) - 1100 : Int))])), (a 1, .inr (0, [.ref (a 2), .int (nI nW.2)])), (a 2, .inl (cI, 28, .inl nW.1)), (a 3, .inr (0, [.ref (a 4), .int (nI q1.2)])), (a 4, .inl (cI, 28, .inl q1.1)), (a 5, .inr (0, [.ref (a 6), .int (nI nB.2)])), (a 6, .inl (cI, 28, .inl nB.1)), (a 7, .inr (0, [.ref (a 8), .int (nI q2.2)])), (a 8, .inl (cI, 28, .inl q2.1)), (a 9, .inr (0, [.ref (a 10), .int (nI nS.2)])), (a 10, .inl (cI, 28, .inl nS.1)), (a 11, .inl (cC, 17, .inl d))]) (rV (n := 3) (As := [.long (lN 2), .int (nI (1100 - P)), .int (nI (qn + 24 - P))]) (rest := []) hx hb hml hown hts (c_setProduct (a 7) (a 8) nA.2 vA 2 (1100 - P) (qn + 24 - P) nA.1 hAq (by decide) (by omega) (by omega) (t2 2 (by omega)) _) kw_1_193 kw_1_190 kw_1_191 kw_1_192 kw_1_4 (by decide +kernel) ⟨Nat.le_of_ble_eq_true rfl, Nat.le_of_ble_eq_true rfl⟩ hK hP hD [7, 8] rfl rfl 7 rfl rfl rfl rfl hl.1 rfl (lv_room (Nat.le_of_ble_eq_true rfl)) dS_start_84 ⟨Nat.le_of_ble_eq_true rfl, Nat.le_of_ble_eq_true rfl⟩) hP hD hS hA [7, 8] [0, 1, 2, 3, 4, 5, 6, 9, 10, 11] [0, 1, 2, 3, 4, 5, 6, 10, 11, 7, 8, 9] rfl rfl rfl (by decide) (fun _ => rfl) rfl (fun q2 H locs n2 hP hD hS => ?_)
  have hP : va_P G vwCl [(a 0, .inr (1, [.ref (a 1), .ref (a 3), .ref (a 5), .ref (a 7), .ref (a 9), .ref (a 11), .int cnt, .int (iI ((P : Nat) - 1100 : Int))])), (a 1, .inr (0, [.ref (a 2), .int (nI nW.2)])), (a 2, .inl (cI, 28, .inl nW.1)), (a 3, .inr (0, [.ref (a 4), .int (nI q1.2)])), (a 4, .inl (cI, 28, .inl q1.1)), (a 5, .inr (0, [.ref (a 6), .int (nI nB.2)])), (a 6, .inl (cI, 28, .inl nB.1)), (a 7, .inr (0, [.ref (a 8), .int (nI q2.2)])), (a 8, .inl (cI, 28, .inl q2.1)), (a 9, .inr (0, [.ref (a 10), .int (nI nS.2)])), (a 10, .inl (cI, 28, .inl nS.1)), (a 11, .inl (cC, 17, .inl d))] H := hP
  have hD : va_D A [(a 0, .inr (1, [.ref (a 1), .ref (a 3), .ref (a 5), .ref (a 7), .ref (a 9), .ref (a 11), .int cnt, .int (iI ((P : Nat) - 1100 : Int))])), (a 1, .inr (0, [.ref (a 2), .int (nI nW.2)])), (a 2, .inl (cI, 28, .inl nW.1)), (a 3, .inr (0, [.ref (a 4), .int (nI q1.2)])), (a 4, .inl (cI, 28, .inl q1.1)), (a 5, .inr (0, [.ref (a 6), .int (nI nB.2)])), (a 6, .inl (cI, 28, .inl nB.1)), (a 7, .inr (0, [.ref (a 8), .int (nI q2.2)])), (a 8, .inl (cI, 28, .inl q2.1)), (a 9, .inr (0, [.ref (a 10), .int (nI nS.2)])), (a 10, .inl (cI, 28, .inl nS.1)), (a 11, .inl (cC, 17, .inl d))] := hD
  refine lv_aload_n hx hb dS_start_87 rfl (lv_at hl 4 rfl) ?_
  refine va_get (D := G) (ci := 1) (v := .ref (a 5)) (C := RS) (T := TS) (N := 8) hx hb hts inS hown hK hP 0 rfl rfl 2 (by decide) (hts _ kw_1_62) (fun _ h9 => h9) rfl dS_start_88 ?_
  refine lv_iload hx hb dS_start_91 (lv_at hl 7 rfl) ?_
  have hbe : (if cl then 1 else 2) ≤ 2 := by split <;> decide
  have j103 : ∀  (H : Heap) (locs : List Loc) (ls : Array Slot), va_P G vwCl [(a 0, .inr (1, [.ref (a 1), .ref (a 3), .ref (a 5), .ref (a 7), .ref (a 9), .ref (a 11), .int cnt, .int (iI ((P : Nat) - 1100 : Int))])), (a 1, .inr (0, [.ref (a 2), .int (nI nW.2)])), (a 2, .inl (cI, 28, .inl nW.1)), (a 3, .inr (0, [.ref (a 4), .int (nI q1.2)])), (a 4, .inl (cI, 28, .inl q1.1)), (a 5, .inr (0, [.ref (a 6), .int (nI nB.2)])), (a 6, .inl (cI, 28, .inl nB.1)), (a 7, .inr (0, [.ref (a 8), .int (nI q2.2)])), (a 8, .inl (cI, 28, .inl q2.1)), (a 9, .inr (0, [.ref (a 10), .int (nI nS.2)])), (a 10, .inl (cI, 28, .inl nS.1)), (a 11, .inl (cC, 17, .inl d))] H → va_D A [(a 0, .inr (1, [.ref (a 1), .ref (a 3), .ref (a 5), .ref (a 7), .ref (a 9), .ref (a 11), .int cnt, .int (iI ((P : Nat) - 1100 : Int))])), (a 1, .inr (0, [.ref (a 2), .int (nI nW.2)])), (a 2, .inl (cI, 28, .inl nW.1)), (a 3, .inr (0, [.ref (a 4), .int (nI q1.2)])), (a 4, .inl (cI, 28, .inl q1.1)), (a 5, .inr (0, [.ref (a 6), .int (nI nB.2)])), (a 6, .inl (cI, 28, .inl nB.1)), (a 7, .inr (0, [.ref (a 8), .int (nI q2.2)])), (a 8, .inl (cI, 28, .inl q2.1)), (a 9, .inr (0, [.ref (a 10), .int (nI nS.2)])), (a 10, .inl (cI, 28, .inl nS.1)), (a 11, .inl (cC, 17, .inl d))] → va_S A s.heap H locs → lv_has ls 9 [(8, .int (nI (qn + 24 - P))), (7, .int (nI (1100 - P))), (6, .int (iI (((qn + B : Nat) : Int) - 1074))), (5, .int (iI ((qn : Int) - 1076))), (0, .ref (a 0)), (1, .long (lN c9)), (3, .int (iI ((qn : Nat) - 1074 : Int))), (4, .int (bI cl))] → W p l e rmS_start s m args below meth c H locs 0 0 Q (F0 m 103 ls [.long (lN (if cl then 1 else 2)), .ref (a 5)]) := by
    intro  H locs ls  hP hD hS hl
    refine lv_iload hx hb dS_start_103 (lv_at hl 1 rfl) ?_
    refine lv_iload hx hb dS_start_105 (lv_at hl 0 rfl) ?_
    refine jnV (Wr := [(a 0, .inr (1, [.ref (a 1), .ref (a 3), .ref (a 5), .ref (a 7), .ref (a 9), .ref (a 11), .int cnt, .int (iI ((P : Nat) - 1100 : Int))])), (a 1, .inr (0, [.ref (a 2), .int (nI nW.2)])), (a 2, .inl (cI, 28, .inl nW.1)), (a 3, .inr (0, [.ref (a 4), .int (nI q1.2)])), (a 4, .inl (cI, 28, .inl q1.1)), (a 7, .inr (0, [.ref (a 8), .int (nI q2.2)])), (a 8, .inl (cI, 28, .inl q2.1)), (a 9, .inr (0, [.ref (a 10), .int (nI nS.2)])), (a 10, .inl (cI, 28, .inl nS.1)), (a 11, .inl (cC, 17, .inl d))]) (W2 := fun q3 => [(a 0, .inr (1, [.ref (a 1), .ref (a 3), .ref (a 5), .ref (a 7), .ref (a 9), .ref (a 11), .int cnt, .int (iI ((P : Nat) - 1100 : Int))])), (a 1, .inr (0, [.ref (a 2), .int (nI nW.2)])), (a 2, .inl (cI, 28, .inl nW.1)), (a 3, .inr (0, [.ref (a 4), .int (nI q1.2)])), (a 4, .inl (cI, 28, .inl q1.1)), (a 5, .inr (0, [.ref (a 6), .int (nI q3.2)])), (a 6, .inl (cI, 28, .inl q3.1)), (a 7, .inr (0, [.ref (a 8), .int (nI q2.2)])), (a 8, .inl (cI, 28, .inl q2.1)), (a 9, .inr (0, [.ref (a 10), .int (nI nS.2)])), (a 10, .inl (cI, 28, .inl nS.1)), (a 11, .inl (cC, 17, .inl d))]) (rV (n := 3) (As := [.long (lN (if cl then 1 else 2)), .int (nI (1100 - P)), .int (nI (qn + 24 - P))]) (rest := []) hx hb hml hown hts (c_setProduct (a 5) (a 6) nB.2 vB (if cl then 1 else 2) (1100 - P) (qn + 24 - P) nB.1 hBq (by omega) (by omega) (by omega) (t2 _ (by omega)) _) kw_1_193 kw_1_190 kw_1_191 kw_1_192 kw_1_4 (by decide +kernel) ⟨Nat.le_of_ble_eq_true rfl, Nat.le_of_ble_eq_true rfl⟩ hK hP hD [5, 6] rfl rfl 5 rfl rfl rfl rfl hl.1 rfl (lv_room (Nat.le_of_ble_eq_true rfl)) dS_start_107 ⟨Nat.le_of_ble_eq_true rfl, Nat.le_of_ble_eq_true rfl⟩) hP hD hS hA [5, 6] [0, 1, 2, 3, 4, 7, 8, 9, 10, 11] [0, 1, 2, 3, 4, 10, 11, 5, 6, 7, 8, 9] rfl rfl rfl (by decide) (fun _ => rfl) rfl (fun q3 H locs n3 hP hD hS => ?_)
    have hP : va_P G vwCl [(a 0, .inr (1, [.ref (a 1), .ref (a 3), .ref (a 5), .ref (a 7), .ref (a 9), .ref (a 11), .int cnt, .int (iI ((P : Nat) - 1100 : Int))])), (a 1, .inr (0, [.ref (a 2), .int (nI nW.2)])), (a 2, .inl (cI, 28, .inl nW.1)), (a 3, .inr (0, [.ref (a 4), .int (nI q1.2)])), (a 4, .inl (cI, 28, .inl q1.1)), (a 5, .inr (0, [.ref (a 6), .int (nI q3.2)])), (a 6, .inl (cI, 28, .inl q3.1)), (a 7, .inr (0, [.ref (a 8), .int (nI q2.2)])), (a 8, .inl (cI, 28, .inl q2.1)), (a 9, .inr (0, [.ref (a 10), .int (nI nS.2)])), (a 10, .inl (cI, 28, .inl nS.1)), (a 11, .inl (cC, 17, .inl d))] H := hP
    have hD : va_D A [(a 0, .inr (1, [.ref (a 1), .ref (a 3), .ref (a 5), .ref (a 7), .ref (a 9), .ref (a 11), .int cnt, .int (iI ((P : Nat) - 1100 : Int))])), (a 1, .inr (0, [.ref (a 2), .int (nI nW.2)])), (a 2, .inl (cI, 28, .inl nW.1)), (a 3, .inr (0, [.ref (a 4), .int (nI q1.2)])), (a 4, .inl (cI, 28, .inl q1.1)), (a 5, .inr (0, [.ref (a 6), .int (nI q3.2)])), (a 6, .inl (cI, 28, .inl q3.1)), (a 7, .inr (0, [.ref (a 8), .int (nI q2.2)])), (a 8, .inl (cI, 28, .inl q2.1)), (a 9, .inr (0, [.ref (a 10), .int (nI nS.2)])), (a 10, .inl (cI, 28, .inl nS.1)), (a 11, .inl (cC, 17, .inl d))] := hD
    refine lv_aload_n hx hb dS_start_110 rfl (lv_at hl 4 rfl) ?_
    refine va_get (D := G) (ci := 1) (v := .ref (a 1)) (C := RS) (T := TS) (N := 8) hx hb hts inS hown hK hP 0 rfl rfl 0 (by decide) (hts _ kw_1_60) (fun _ h9 => h9) rfl dS_start_111 ?_
    refine lv_lconst (v := lN 1) hx hb dS_start_114 (by decide) ?_
    refine lv_aload_n hx hb dS_start_115 rfl (lv_at hl 4 rfl) ?_
    refine va_get (D := G) (ci := 1) (v := .int (iI ((P : Nat) - 1100 : Int))) (C := RS) (T := TS) (N := 8) hx hb hts inS hown hK hP 0 rfl rfl 7 (by decide) (hts _ kw_1_67) (fun _ h9 => h9) rfl dS_start_116 ?_
    refine lv_iconst (v := nI 0) hx hb dS_start_119 (by decide) ?_
    refine va_mmax hx hb (hml.trans hl.1.symm) hown (hts _ kw_1_186) (hts _ kw_1_187) (hts _ kw_1_13) (hts _ kw_1_188) (Nat.le_of_ble_eq_true rfl) (Nat.le_of_ble_eq_true rfl) (Nat.le_of_ble_eq_true rfl) (Nat.le_of_ble_eq_true rfl) dS_start_120 ?_
    refine tp_i (y := nI (P - 1100)) (by rw [imax0 (by omega) (by omega)]; congr 1; omega) ?_
    refine lv_aload_n hx hb dS_start_123 rfl (lv_at hl 4 rfl) ?_
    refine va_get (D := G) (ci := 1) (v := .int (iI ((P : Nat) - 1100 : Int))) (C := RS) (T := TS) (N := 8) hx hb hts inS hown hK hP 0 rfl rfl 7 (by decide) (hts _ kw_1_67) (fun _ h9 => h9) rfl dS_start_124 ?_
    refine lv_iload hx hb dS_start_127 (lv_at hl 3 rfl) ?_
    refine lv_isub hx hb dS_start_129 ?_
    refine tp_i (y := iI ((P : Nat) - 24 - (qn : Nat) : Int)) (by rw [iI_sub]; congr 1; omega) ?_
    refine lv_iconst (v := nI 0) hx hb dS_start_130 (by decide) ?_
    refine va_mmax hx hb (hml.trans hl.1.symm) hown (hts _ kw_1_186) (hts _ kw_1_187) (hts _ kw_1_13) (hts _ kw_1_188) (Nat.le_of_ble_eq_true rfl) (Nat.le_of_ble_eq_true rfl) (Nat.le_of_ble_eq_true rfl) (Nat.le_of_ble_eq_true rfl) dS_start_131 ?_
    refine tp_i (y := nI (P - (qn + 24))) (by rw [imax0 (by omega) (by omega)]; congr 1; omega) ?_
    refine jnV (Wr := [(a 0, .inr (1, [.ref (a 1), .ref (a 3), .ref (a 5), .ref (a 7), .ref (a 9), .ref (a 11), .int cnt, .int (iI ((P : Nat) - 1100 : Int))])), (a 3, .inr (0, [.ref (a 4), .int (nI q1.2)])), (a 4, .inl (cI, 28, .inl q1.1)), (a 5, .inr (0, [.ref (a 6), .int (nI q3.2)])), (a 6, .inl (cI, 28, .inl q3.1)), (a 7, .inr (0, [.ref (a 8), .int (nI q2.2)])), (a 8, .inl (cI, 28, .inl q2.1)), (a 9, .inr (0, [.ref (a 10), .int (nI nS.2)])), (a 10, .inl (cI, 28, .inl nS.1)), (a 11, .inl (cC, 17, .inl d))]) (W2 := fun q4 => [(a 0, .inr (1, [.ref (a 1), .ref (a 3), .ref (a 5), .ref (a 7), .ref (a 9), .ref (a 11), .int cnt, .int (iI ((P : Nat) - 1100 : Int))])), (a 1, .inr (0, [.ref (a 2), .int (nI q4.2)])), (a 2, .inl (cI, 28, .inl q4.1)), (a 3, .inr (0, [.ref (a 4), .int (nI q1.2)])), (a 4, .inl (cI, 28, .inl q1.1)), (a 5, .inr (0, [.ref (a 6), .int (nI q3.2)])), (a 6, .inl (cI, 28, .inl q3.1)), (a 7, .inr (0, [.ref (a 8), .int (nI q2.2)])), (a 8, .inl (cI, 28, .inl q2.1)), (a 9, .inr (0, [.ref (a 10), .int (nI nS.2)])), (a 10, .inl (cI, 28, .inl nS.1)), (a 11, .inl (cC, 17, .inl d))]) (rV (n := 3) (As := [.long (lN 1), .int (nI (P - 1100)), .int (nI (P - (qn + 24)))]) (rest := []) hx hb hml hown hts (c_setProduct (a 1) (a 2) nW.2 vW 1 (P - 1100) (P - (qn + 24)) nW.1 hW (by decide) (by omega) (by omega) t3b _) kw_1_193 kw_1_190 kw_1_191 kw_1_192 kw_1_4 (by decide +kernel) ⟨Nat.le_of_ble_eq_true rfl, Nat.le_of_ble_eq_true rfl⟩ hK hP hD [1, 2] rfl rfl 1 rfl rfl rfl rfl hl.1 rfl (lv_room (Nat.le_of_ble_eq_true rfl)) dS_start_134 ⟨Nat.le_of_ble_eq_true rfl, Nat.le_of_ble_eq_true rfl⟩) hP hD hS hA [1, 2] [0, 3, 4, 5, 6, 7, 8, 9, 10, 11] [0, 10, 11, 1, 2, 3, 4, 5, 6, 7, 8, 9] rfl rfl rfl (by decide) (fun _ => rfl) rfl (fun q4 H locs n4 hP hD hS => ?_)
    have hP : va_P G vwCl [(a 0, .inr (1, [.ref (a 1), .ref (a 3), .ref (a 5), .ref (a 7), .ref (a 9), .ref (a 11), .int cnt, .int (iI ((P : Nat) - 1100 : Int))])), (a 1, .inr (0, [.ref (a 2), .int (nI q4.2)])), (a 2, .inl (cI, 28, .inl q4.1)), (a 3, .inr (0, [.ref (a 4), .int (nI q1.2)])), (a 4, .inl (cI, 28, .inl q1.1)), (a 5, .inr (0, [.ref (a 6), .int (nI q3.2)])), (a 6, .inl (cI, 28, .inl q3.1)), (a 7, .inr (0, [.ref (a 8), .int (nI q2.2)])), (a 8, .inl (cI, 28, .inl q2.1)), (a 9, .inr (0, [.ref (a 10), .int (nI nS.2)])), (a 10, .inl (cI, 28, .inl nS.1)), (a 11, .inl (cC, 17, .inl d))] H := hP
    have hD : va_D A [(a 0, .inr (1, [.ref (a 1), .ref (a 3), .ref (a 5), .ref (a 7), .ref (a 9), .ref (a 11), .int cnt, .int (iI ((P : Nat) - 1100 : Int))])), (a 1, .inr (0, [.ref (a 2), .int (nI q4.2)])), (a 2, .inl (cI, 28, .inl q4.1)), (a 3, .inr (0, [.ref (a 4), .int (nI q1.2)])), (a 4, .inl (cI, 28, .inl q1.1)), (a 5, .inr (0, [.ref (a 6), .int (nI q3.2)])), (a 6, .inl (cI, 28, .inl q3.1)), (a 7, .inr (0, [.ref (a 8), .int (nI q2.2)])), (a 8, .inl (cI, 28, .inl q2.1)), (a 9, .inr (0, [.ref (a 10), .int (nI nS.2)])), (a 10, .inl (cI, 28, .inl nS.1)), (a 11, .inl (cC, 17, .inl d))] := hD
    obtain ⟨f1, f2⟩ := start_fin hB h1 h2 hPt hl9 n4 n1 n3 n2
    refine lv_aload_n hx hb dS_start_137 rfl (lv_at hl 4 rfl) ?_
    refine va_get (D := G) (ci := 1) (v := .ref (a 3)) (C := RS) (T := TS) (N := 8) hx hb hts inS hown hK hP 0 rfl rfl 1 (by decide) (hts _ kw_1_61) (fun _ h9 => h9) rfl dS_start_138 ?_
    refine lv_aload_n hx hb dS_start_141 rfl (lv_at hl 4 rfl) ?_
    refine va_get (D := G) (ci := 1) (v := .ref (a 1)) (C := RS) (T := TS) (N := 8) hx hb hts inS hown hK hP 0 rfl rfl 0 (by decide) (hts _ kw_1_60) (fun _ h9 => h9) rfl dS_start_142 ?_
    refine jnI (Wr := [(a 0, .inr (1, [.ref (a 1), .ref (a 3), .ref (a 5), .ref (a 7), .ref (a 9), .ref (a 11), .int cnt, .int (iI ((P : Nat) - 1100 : Int))])), (a 5, .inr (0, [.ref (a 6), .int (nI q3.2)])), (a 6, .inl (cI, 28, .inl q3.1)), (a 7, .inr (0, [.ref (a 8), .int (nI q2.2)])), (a 8, .inl (cI, 28, .inl q2.1)), (a 9, .inr (0, [.ref (a 10), .int (nI nS.2)])), (a 10, .inl (cI, 28, .inl nS.1)), (a 11, .inl (cC, 17, .inl d))]) (W2 := fun y => [(a 0, .inr (1, [.ref (a 1), .ref (a 3), .ref (a 5), .ref (a 7), .ref (a 9), .ref (a 11), .int cnt, .int (iI ((P : Nat) - 1100 : Int))])), (a 1, .inr (0, [.ref (a 2), .int (nI q4.2)])), (a 2, .inl (cI, 28, .inl q4.1)), (a 3, .inr (0, [.ref (a 4), .int (nI q1.2)])), (a 4, .inl (cI, 28, .inl q1.1)), (a 5, .inr (0, [.ref (a 6), .int (nI q3.2)])), (a 6, .inl (cI, 28, .inl q3.1)), (a 7, .inr (0, [.ref (a 8), .int (nI q2.2)])), (a 8, .inl (cI, 28, .inl q2.1)), (a 9, .inr (0, [.ref (a 10), .int (nI nS.2)])), (a 10, .inl (cI, 28, .inl nS.1)), (a 11, .inl (cC, 17, .inl d))]) (rV (n := 1) (As := [.ref (a 1)]) (rest := []) hx hb hml hown hts (c_compare (a 3) (a 4) (a 1) (a 2) q1.2 _ q4.2 _ q1.1 q4.1 n1 n4 _) kw_1_215 kw_1_212 kw_1_213 kw_1_214 kw_1_4 (by decide +kernel) ⟨Nat.le_of_ble_eq_true rfl, Nat.le_of_ble_eq_true rfl⟩ hK hP hD [3, 4, 1, 2] rfl rfl 3 rfl rfl rfl rfl hl.1 rfl (lv_room (Nat.le_of_ble_eq_true rfl)) dS_start_145 ⟨Nat.le_of_ble_eq_true rfl, Nat.le_of_ble_eq_true rfl⟩) hP hD hS hA [3, 4, 1, 2] [0, 5, 6, 7, 8, 9, 10, 11] [0, 10, 11, 8, 9, 1, 2, 3, 4, 5, 6, 7] rfl rfl rfl (by decide) (fun _ => rfl) rfl (fun o y H locs hq hP hD hS => ?_)
    have hP : va_P G vwCl [(a 0, .inr (1, [.ref (a 1), .ref (a 3), .ref (a 5), .ref (a 7), .ref (a 9), .ref (a 11), .int cnt, .int (iI ((P : Nat) - 1100 : Int))])), (a 1, .inr (0, [.ref (a 2), .int (nI q4.2)])), (a 2, .inl (cI, 28, .inl q4.1)), (a 3, .inr (0, [.ref (a 4), .int (nI q1.2)])), (a 4, .inl (cI, 28, .inl q1.1)), (a 5, .inr (0, [.ref (a 6), .int (nI q3.2)])), (a 6, .inl (cI, 28, .inl q3.1)), (a 7, .inr (0, [.ref (a 8), .int (nI q2.2)])), (a 8, .inl (cI, 28, .inl q2.1)), (a 9, .inr (0, [.ref (a 10), .int (nI nS.2)])), (a 10, .inl (cI, 28, .inl nS.1)), (a 11, .inl (cC, 17, .inl d))] H := hP
    have hD : va_D A [(a 0, .inr (1, [.ref (a 1), .ref (a 3), .ref (a 5), .ref (a 7), .ref (a 9), .ref (a 11), .int cnt, .int (iI ((P : Nat) - 1100 : Int))])), (a 1, .inr (0, [.ref (a 2), .int (nI q4.2)])), (a 2, .inl (cI, 28, .inl q4.1)), (a 3, .inr (0, [.ref (a 4), .int (nI q1.2)])), (a 4, .inl (cI, 28, .inl q1.1)), (a 5, .inr (0, [.ref (a 6), .int (nI q3.2)])), (a 6, .inl (cI, 28, .inl q3.1)), (a 7, .inr (0, [.ref (a 8), .int (nI q2.2)])), (a 8, .inl (cI, 28, .inl q2.1)), (a 9, .inr (0, [.ref (a 10), .int (nI nS.2)])), (a 10, .inl (cI, 28, .inl nS.1)), (a 11, .inl (cC, 17, .inl d))] := hD
    refine lv_if_lt (tgt := 170) hx hb dS_start_148 (by decide) (fun hc => ?_) (fun hc => ?_)
    · rw [hq] at hc
      exact fin (q4, q1, q3, q2, P, 5 ^ (1100 - P) * 2 ^ (qn + 24 - P), 1 * 2 ^ (P - (qn + 24)) * 5 ^ (P - 1100)) _ _ _ _ dS_start_170 (f1 (cm_neg.mp hc)) hP hD hS
    · rw [hq] at hc
      refine lv_aload_n hx hb dS_start_151 rfl (lv_at hl 4 rfl) ?_
      refine lv_dup hx hb dS_start_152 rfl ?_
      refine va_get (D := G) (ci := 1) (v := .int (iI ((P : Nat) - 1100 : Int))) (C := RS) (T := TS) (N := 8) hx hb hts inS hown hK hP 0 rfl rfl 7 (by decide) (hts _ kw_1_67) (fun _ h9 => h9) rfl dS_start_153 ?_
      refine lv_iconst (v := nI 1) hx hb dS_start_156 (by decide) ?_
      refine lv_iadd hx hb dS_start_157 ?_
      refine tp_i (y := iI ((P + 1 : Nat) - 1100 : Int)) (by rw [iI_nI]; congr 1; omega) ?_
      refine va_put (D := G) (ci := 1) (v := .int (iI ((P + 1 : Nat) - 1100 : Int))) (C := RS) (T := TS) (N := 8) hx hb hts inS tyS tyS_ok nmS hown hK hP hD hS 0 rfl rfl 7 (by decide) (hts _ kw_1_67) (fun _ h9 => h9) rfl (tyS_ok 7 (by decide)) (rfl) (rfl) (Nat.le_of_ble_eq_true rfl) dS_start_158 (fun H locs hP hD hS => ?_)
      have hP : va_P G vwCl [(a 0, .inr (1, [.ref (a 1), .ref (a 3), .ref (a 5), .ref (a 7), .ref (a 9), .ref (a 11), .int cnt, .int (iI ((P + 1 : Nat) - 1100 : Int))])), (a 1, .inr (0, [.ref (a 2), .int (nI q4.2)])), (a 2, .inl (cI, 28, .inl q4.1)), (a 3, .inr (0, [.ref (a 4), .int (nI q1.2)])), (a 4, .inl (cI, 28, .inl q1.1)), (a 5, .inr (0, [.ref (a 6), .int (nI q3.2)])), (a 6, .inl (cI, 28, .inl q3.1)), (a 7, .inr (0, [.ref (a 8), .int (nI q2.2)])), (a 8, .inl (cI, 28, .inl q2.1)), (a 9, .inr (0, [.ref (a 10), .int (nI nS.2)])), (a 10, .inl (cI, 28, .inl nS.1)), (a 11, .inl (cC, 17, .inl d))] H := hP
      have hD : va_D A [(a 0, .inr (1, [.ref (a 1), .ref (a 3), .ref (a 5), .ref (a 7), .ref (a 9), .ref (a 11), .int cnt, .int (iI ((P + 1 : Nat) - 1100 : Int))])), (a 1, .inr (0, [.ref (a 2), .int (nI q4.2)])), (a 2, .inl (cI, 28, .inl q4.1)), (a 3, .inr (0, [.ref (a 4), .int (nI q1.2)])), (a 4, .inl (cI, 28, .inl q1.1)), (a 5, .inr (0, [.ref (a 6), .int (nI q3.2)])), (a 6, .inl (cI, 28, .inl q3.1)), (a 7, .inr (0, [.ref (a 8), .int (nI q2.2)])), (a 8, .inl (cI, 28, .inl q2.1)), (a 9, .inr (0, [.ref (a 10), .int (nI nS.2)])), (a 10, .inl (cI, 28, .inl nS.1)), (a 11, .inl (cC, 17, .inl d))] := hD
      refine lv_aload_n hx hb dS_start_161 rfl (lv_at hl 4 rfl) ?_
      refine va_get (D := G) (ci := 1) (v := .ref (a 1)) (C := RS) (T := TS) (N := 8) hx hb hts inS hown hK hP 0 rfl rfl 0 (by decide) (hts _ kw_1_60) (fun _ h9 => h9) rfl dS_start_162 ?_
      refine lv_bipush (v := nI 10) hx hb dS_start_165 (by decide) ?_
      refine jnV (Wr := [(a 0, .inr (1, [.ref (a 1), .ref (a 3), .ref (a 5), .ref (a 7), .ref (a 9), .ref (a 11), .int cnt, .int (iI ((P + 1 : Nat) - 1100 : Int))])), (a 3, .inr (0, [.ref (a 4), .int (nI q1.2)])), (a 4, .inl (cI, 28, .inl q1.1)), (a 5, .inr (0, [.ref (a 6), .int (nI q3.2)])), (a 6, .inl (cI, 28, .inl q3.1)), (a 7, .inr (0, [.ref (a 8), .int (nI q2.2)])), (a 8, .inl (cI, 28, .inl q2.1)), (a 9, .inr (0, [.ref (a 10), .int (nI nS.2)])), (a 10, .inl (cI, 28, .inl nS.1)), (a 11, .inl (cC, 17, .inl d))]) (W2 := fun q5 => [(a 0, .inr (1, [.ref (a 1), .ref (a 3), .ref (a 5), .ref (a 7), .ref (a 9), .ref (a 11), .int cnt, .int (iI ((P + 1 : Nat) - 1100 : Int))])), (a 1, .inr (0, [.ref (a 2), .int (nI q5.2)])), (a 2, .inl (cI, 28, .inl q5.1)), (a 3, .inr (0, [.ref (a 4), .int (nI q1.2)])), (a 4, .inl (cI, 28, .inl q1.1)), (a 5, .inr (0, [.ref (a 6), .int (nI q3.2)])), (a 6, .inl (cI, 28, .inl q3.1)), (a 7, .inr (0, [.ref (a 8), .int (nI q2.2)])), (a 8, .inl (cI, 28, .inl q2.1)), (a 9, .inr (0, [.ref (a 10), .int (nI nS.2)])), (a 10, .inl (cI, 28, .inl nS.1)), (a 11, .inl (cC, 17, .inl d))]) (rV (n := 1) (As := [.int (nI 10)]) (rest := []) hx hb hml hown hts (c_multiply (a 1) (a 2) q4.2 10 _ q4.1 n4 (by decide) t3 _) kw_1_204 kw_1_220 kw_1_202 kw_1_203 kw_1_4 (by decide +kernel) ⟨Nat.le_of_ble_eq_true rfl, Nat.le_of_ble_eq_true rfl⟩ hK hP hD [1, 2] rfl rfl 1 rfl rfl rfl rfl hl.1 rfl (lv_room (Nat.le_of_ble_eq_true rfl)) dS_start_167 ⟨Nat.le_of_ble_eq_true rfl, Nat.le_of_ble_eq_true rfl⟩) hP hD hS hA [1, 2] [0, 3, 4, 5, 6, 7, 8, 9, 10, 11] [0, 10, 11, 1, 2, 3, 4, 5, 6, 7, 8, 9] rfl rfl rfl (by decide) (fun _ => rfl) rfl (fun q5 H locs n5 hP hD hS => ?_)
      have hP : va_P G vwCl [(a 0, .inr (1, [.ref (a 1), .ref (a 3), .ref (a 5), .ref (a 7), .ref (a 9), .ref (a 11), .int cnt, .int (iI ((P + 1 : Nat) - 1100 : Int))])), (a 1, .inr (0, [.ref (a 2), .int (nI q5.2)])), (a 2, .inl (cI, 28, .inl q5.1)), (a 3, .inr (0, [.ref (a 4), .int (nI q1.2)])), (a 4, .inl (cI, 28, .inl q1.1)), (a 5, .inr (0, [.ref (a 6), .int (nI q3.2)])), (a 6, .inl (cI, 28, .inl q3.1)), (a 7, .inr (0, [.ref (a 8), .int (nI q2.2)])), (a 8, .inl (cI, 28, .inl q2.1)), (a 9, .inr (0, [.ref (a 10), .int (nI nS.2)])), (a 10, .inl (cI, 28, .inl nS.1)), (a 11, .inl (cC, 17, .inl d))] H := hP
      have hD : va_D A [(a 0, .inr (1, [.ref (a 1), .ref (a 3), .ref (a 5), .ref (a 7), .ref (a 9), .ref (a 11), .int cnt, .int (iI ((P + 1 : Nat) - 1100 : Int))])), (a 1, .inr (0, [.ref (a 2), .int (nI q5.2)])), (a 2, .inl (cI, 28, .inl q5.1)), (a 3, .inr (0, [.ref (a 4), .int (nI q1.2)])), (a 4, .inl (cI, 28, .inl q1.1)), (a 5, .inr (0, [.ref (a 6), .int (nI q3.2)])), (a 6, .inl (cI, 28, .inl q3.1)), (a 7, .inr (0, [.ref (a 8), .int (nI q2.2)])), (a 8, .inl (cI, 28, .inl q2.1)), (a 9, .inr (0, [.ref (a 10), .int (nI nS.2)])), (a 10, .inl (cI, 28, .inl nS.1)), (a 11, .inl (cC, 17, .inl d))] := hD
      exact fin (q5, q1, q3, q2, P + 1, 5 ^ (1100 - P) * 2 ^ (qn + 24 - P), 1 * 2 ^ (P - (qn + 24)) * 5 ^ (P - 1100) * 10) _ _ _ _ dS_start_170 (f2 (fun h => hc (cm_neg.mpr h)) q5 n5) hP hD hS
  refine lv_if_eq (tgt := 100) hx hb dS_start_93 (by decide) (fun hc => ?_) (fun hc => ?_)
  · have e9 := bI_eq hc
    refine lv_ldc2 (v := 2) hx hb hown (hts _ kw_1_211) dS_start_100 ?_
    refine tp_l (y := lN (if cl then 1 else 2)) (by rw [e9]; rfl) ?_
    exact j103  _ _ _  hP hD hS hl
  · have e9 := bI_ne hc
    refine lv_lconst (v := lN 1) hx hb dS_start_96 (by decide) ?_
    refine tp_l (y := lN (if cl then 1 else 2)) (by rw [e9]; rfl) ?_
    refine lv_goto (tgt := 103) hx hb dS_start_97 (by decide) ?_
    exact j103  _ _ _  hP hD hS hl
end SHB
