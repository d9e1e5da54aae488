section MOROW
variable {l : Launch} {G : va_G} {cI cB cC cJ : ClassId}
abbrev rmM_row : Room := { frames := 1, cells := 0, slots := 0, locals := 25 }
set_option maxRecDepth 100000 in
set_option maxHeartbeats 1500000 in
theorem c_row (m9 : Nat → Nat) (len code bits least used held : Int32) (rh rd c9 : Nat) (q : Int) (f0 : Nat → Int64) (r0 : R3) (hc0 : 0 < c9) (hc9 : c9 < 2 ^ 57) (hq1 : -1076 ≤ q) (hq2 : q ≤ 1000) : CTv l G (tyL cI cB cC cJ) yM_row cM_row 9 rmM_row [.ref (m9 0), .long (lN c9), .int (iI q), .ref rh] (mO m9 len code bits least used held :: (m9 2, .inl (cJ, 160, .inr (.inl f0))) :: wR cB rh rd r0) (fun t : (Nat → Int64) × Int32 × R3 × (Nat → Nat) => Rw t.2.2.1 t.2.2.2 (xv c9 q) ∧ t.2.2.1.2.2 ≤ 900) (fun t => mO m9 len code bits least t.2.1 held :: (m9 2, .inl (cJ, 160, .inr (.inl t.1))) :: wR cB rh rd t.2.2.1) := by
  refine mkV cM_row 9 RM (by decide) rfl (Nat.le_of_ble_eq_true rfl) ?_
  intro p e s m args below meth c A Q ls hx hb hml hts hown hnm hK hP hD hA hl fin
  have hS : va_S A s.heap s.heap [] := va_S.rf
  have hl : lv_has ls 9 [(0, .ref (m9 0)), (1, .long (lN c9)), (3, .int (iI q)), (4, .ref rh)] := hl
  have hP : va_P G vwCl [(m9 0, .inr (5, [.ref (m9 1), .int len, .int code, .int bits, .int least, .ref (m9 2), .int used, .ref (m9 4), .ref (m9 6), .ref (m9 8), .ref (m9 10), .ref (m9 12), .ref (m9 3), .int held])), (m9 2, .inl (cJ, 160, .inr (.inl f0))), (rh, .inr (4, [.ref rd, .int (nI r0.2.1), .int (iI r0.2.2)])), (rd, .inl (cB, 1300, .inl r0.1))] s.heap := hP
  have hD : va_D A [(m9 0, .inr (5, [.ref (m9 1), .int len, .int code, .int bits, .int least, .ref (m9 2), .int used, .ref (m9 4), .ref (m9 6), .ref (m9 8), .ref (m9 10), .ref (m9 12), .ref (m9 3), .int held])), (m9 2, .inl (cJ, 160, .inr (.inl f0))), (rh, .inr (4, [.ref rd, .int (nI r0.2.1), .int (iI r0.2.2)])), (rd, .inl (cB, 1300, .inl r0.1))] := hD
  have j276 : ∀ (f : Nat → Int64) (uu : Int32) (f1 : Nat → Int32) (g : Nat → Nat) (n : Nat) (p2 : Int) (H : Heap) (locs : List Loc) (ls : Array Slot), Rd f1 n g → g 0 ≠ 0 → 0 < n → (n : Int) ≤ p2 + 1100 → p2 ≤ 900 → rv g n p2 = xv c9 q → va_P G vwCl [(m9 0, .inr (5, [.ref (m9 1), .int len, .int code, .int bits, .int least, .ref (m9 2), .int uu, .ref (m9 4), .ref (m9 6), .ref (m9 8), .ref (m9 10), .ref (m9 12), .ref (m9 3), .int held])), (m9 2, .inl (cJ, 160, .inr (.inl f))), (rh, .inr (4, [.ref rd, .int (nI n), .int (iI p2)])), (rd, .inl (cB, 1300, .inl f1))] H → va_D A [(m9 0, .inr (5, [.ref (m9 1), .int len, .int code, .int bits, .int least, .ref (m9 2), .int uu, .ref (m9 4), .ref (m9 6), .ref (m9 8), .ref (m9 10), .ref (m9 12), .ref (m9 3), .int held])), (m9 2, .inl (cJ, 160, .inr (.inl f))), (rh, .inr (4, [.ref rd, .int (nI n), .int (iI p2)])), (rd, .inl (cB, 1300, .inl f1))] → va_S A s.heap H locs → lv_has ls 9 [(4, .ref rh)] → W p l e rmM_row s m args below meth c H locs 0 0 Q (F0 m 276 ls []) := by
    intro f uu f1 g n p2 H locs ls b1 b2 b3 b4 b5 b6 hP hD hS hl
    have lr : ∀ (fu : Nat) (k : Nat) (H : Heap) (locs : List Loc) (ls : Array Slot), k < fu → k ≤ n → 0 < k → rv g k p2 = rv g n p2 → va_P G vwCl [(m9 0, .inr (5, [.ref (m9 1), .int len, .int code, .int bits, .int least, .ref (m9 2), .int uu, .ref (m9 4), .ref (m9 6), .ref (m9 8), .ref (m9 10), .ref (m9 12), .ref (m9 3), .int held])), (m9 2, .inl (cJ, 160, .inr (.inl f))), (rh, .inr (4, [.ref rd, .int (nI k), .int (iI p2)])), (rd, .inl (cB, 1300, .inl f1))] H → va_D A [(m9 0, .inr (5, [.ref (m9 1), .int len, .int code, .int bits, .int least, .ref (m9 2), .int uu, .ref (m9 4), .ref (m9 6), .ref (m9 8), .ref (m9 10), .ref (m9 12), .ref (m9 3), .int held])), (m9 2, .inl (cJ, 160, .inr (.inl f))), (rh, .inr (4, [.ref rd, .int (nI k), .int (iI p2)])), (rd, .inl (cB, 1300, .inl f1))] → va_S A s.heap H locs → lv_has ls 9 [(4, .ref rh)] → W p l e rmM_row s m args below meth c H locs 0 0 Q (F0 m 276 ls []) := by
      intro fu
      induction fu with
      | zero => intro k H locs ls hfu; exact absurd hfu (Nat.not_lt_zero _)
      | succ fu ih =>
        intro k H locs ls hfu hk hk0 hv hP hD hS hl
        have hb1 := b1.1
        obtain ⟨k, rfl⟩ : ∃ i, k = i + 1 := ⟨k - 1, by omega⟩
        have hd := b1.2 k (by omega)
        refine lv_aload hx hb dM_row_276 (lv_at hl 0 rfl) ?_
        refine va_get (D := G) (ci := 4) (v := .int (nI (k + 1))) (C := RW) (T := TW) (N := 3) hx hb hts inW hown hK hP 2 rfl rfl 1 (by decide) (hts _ kw_2_144) (fun _ h9 => h9) rfl dM_row_278 ?_
        refine lv_if_le (tgt := 314) hx hb dM_row_281 (by decide) (fun hc => absurd hc (nI_nle (by omega) (by omega))) (fun _ => ?_)
        refine lv_aload hx hb dM_row_284 (lv_at hl 0 rfl) ?_
        refine va_get (D := G) (ci := 4) (v := .ref rd) (C := RW) (T := TW) (N := 3) hx hb hts inW hown hK hP 2 rfl rfl 0 (by decide) (hts _ kw_2_143) (fun _ h9 => h9) rfl dM_row_286 ?_
        refine lv_aload hx hb dM_row_289 (lv_at hl 0 rfl) ?_
        refine va_get (D := G) (ci := 4) (v := .int (nI (k + 1))) (C := RW) (T := TW) (N := 3) hx hb hts inW hown hK hP 2 rfl rfl 1 (by decide) (hts _ kw_2_144) (fun _ h9 => h9) rfl dM_row_291 ?_
        refine lv_iconst (v := nI 1) hx hb dM_row_294 (by decide) ?_
        refine lv_isub hx hb dM_row_295 ?_
        refine tp_i (y := nI k) (nI_pred k) ?_
        refine ld_b hx hb hK hP 3 1 rfl rfl k (rfl) (by omega) (by decide) dM_row_296 ?_
        refine tp_i (y := nI (g k)) (hd.1) ?_
        refine lv_if_ne (tgt := 314) hx hb dM_row_297 (by decide) (fun hc => ?_) (fun hc => ?_)
        · have h5 : g k ≠ 0 := fun h => hc (by rw [h]; rfl)
          exact fin (f, uu, (f1, k + 1, p2), g) _ _ _ _ dM_row_314 (⟨⟨⟨by show k + 1 ≤ 1290; omega, fun j hj => b1.2 j (Nat.lt_of_lt_of_le hj hk)⟩, ⟨Nat.succ_pos k, fun j hj => (b1.2 j (Nat.lt_of_lt_of_le hj hk)).2, b2, h5⟩, by show ((k + 1 : Nat) : Int) ≤ p2 + 1100; omega, by show p2 ≤ 1000; omega, by rw [← b6]; exact hv⟩, b5⟩) hP hD hS
        · have h5 : g k = 0 := (nI_eq (by omega) (by decide)).mp hc
          have h6 : 0 < k := by
            rcases Nat.eq_zero_or_pos k with h | h
            · subst h; exact absurd h5 b2
            · exact h
          refine lv_aload hx hb dM_row_300 (lv_at hl 0 rfl) ?_
          refine lv_dup hx hb dM_row_302 rfl ?_
          refine va_get (D := G) (ci := 4) (v := .int (nI (k + 1))) (C := RW) (T := TW) (N := 3) hx hb hts inW hown hK hP 2 rfl rfl 1 (by decide) (hts _ kw_2_144) (fun _ h9 => h9) rfl dM_row_303 ?_
          refine lv_iconst (v := nI 1) hx hb dM_row_306 (by decide) ?_
          refine lv_isub hx hb dM_row_307 ?_
          refine tp_i (y := nI k) (nI_pred k) ?_
          refine va_put (D := G) (ci := 4) (v := .int (nI k)) (C := RW) (T := TW) (N := 3) hx hb hts inW tyW tyW_ok nmW hown hK hP hD hS 2 rfl rfl 1 (by decide) (hts _ kw_2_144) (fun _ h9 => h9) rfl (tyW_ok 1 (by decide)) (rfl) (rfl) (Nat.le_of_ble_eq_true rfl) dM_row_308 (fun H locs hP hD hS => ?_)
          have hP : va_P G vwCl [(m9 0, .inr (5, [.ref (m9 1), .int len, .int code, .int bits, .int least, .ref (m9 2), .int uu, .ref (m9 4), .ref (m9 6), .ref (m9 8), .ref (m9 10), .ref (m9 12), .ref (m9 3), .int held])), (m9 2, .inl (cJ, 160, .inr (.inl f))), (rh, .inr (4, [.ref rd, .int (nI k), .int (iI p2)])), (rd, .inl (cB, 1300, .inl f1))] H := hP
          have hD : va_D A [(m9 0, .inr (5, [.ref (m9 1), .int len, .int code, .int bits, .int least, .ref (m9 2), .int uu, .ref (m9 4), .ref (m9 6), .ref (m9 8), .ref (m9 10), .ref (m9 12), .ref (m9 3), .int held])), (m9 2, .inl (cJ, 160, .inr (.inl f))), (rh, .inr (4, [.ref rd, .int (nI k), .int (iI p2)])), (rd, .inl (cB, 1300, .inl f1))] := hD
          refine lv_goto (tgt := 276) hx hb dM_row_311 (by decide) ?_
          exact ih k _ _ _ (by omega) (by omega) (h6) (by rw [← hv]; exact (strip_val (by omega) h5).symm) hP hD hS hl
    exact lr (_ + 1) n _ _ _ (Nat.lt_succ_self _) (Nat.le_refl _) (b3) (rfl) hP hD hS hl
  have j150 : ∀ (f : Nat → Int64) (u : Nat) (V : Nat) (qm : Int) (H : Heap) (locs : List Loc) (ls : Array Slot), Nw f u V → 0 < V → V < 10 ^ 780 → qm = min q 0 → V * 10 ^ (qm + 1100).toNat = xv c9 q → va_P G vwCl [(m9 0, .inr (5, [.ref (m9 1), .int len, .int code, .int bits, .int least, .ref (m9 2), .int (nI u), .ref (m9 4), .ref (m9 6), .ref (m9 8), .ref (m9 10), .ref (m9 12), .ref (m9 3), .int held])), (m9 2, .inl (cJ, 160, .inr (.inl f))), (rh, .inr (4, [.ref rd, .int (nI r0.2.1), .int (iI r0.2.2)])), (rd, .inl (cB, 1300, .inl r0.1))] H → va_D A [(m9 0, .inr (5, [.ref (m9 1), .int len, .int code, .int bits, .int least, .ref (m9 2), .int (nI u), .ref (m9 4), .ref (m9 6), .ref (m9 8), .ref (m9 10), .ref (m9 12), .ref (m9 3), .int held])), (m9 2, .inl (cJ, 160, .inr (.inl f))), (rh, .inr (4, [.ref rd, .int (nI r0.2.1), .int (iI r0.2.2)])), (rd, .inl (cB, 1300, .inl r0.1))] → va_S A s.heap H locs → lv_has ls 9 [(0, .ref (m9 0)), (3, .int (iI q)), (4, .ref rh)] → W p l e rmM_row s m args below meth c H locs 0 0 Q (F0 m 150 ls []) := by
    intro f u V qm H locs ls hN hV0 hV hqm hxv hP hD hS hl
    have hu := hN.1
    refine lv_aload hx hb dM_row_150 (lv_at hl 2 rfl) ?_
    refine lv_iconst (v := nI 0) hx hb dM_row_152 (by decide) ?_
    refine va_put (D := G) (ci := 4) (v := .int (nI 0)) (C := RW) (T := TW) (N := 3) hx hb hts inW tyW tyW_ok nmW hown hK hP hD hS 2 rfl rfl 1 (by decide) (hts _ kw_2_144) (fun _ h9 => h9) rfl (tyW_ok 1 (by decide)) (rfl) (rfl) (Nat.le_of_ble_eq_true rfl) dM_row_153 (fun H locs hP hD hS => ?_)
    have hP : va_P G vwCl [(m9 0, .inr (5, [.ref (m9 1), .int len, .int code, .int bits, .int least, .ref (m9 2), .int (nI u), .ref (m9 4), .ref (m9 6), .ref (m9 8), .ref (m9 10), .ref (m9 12), .ref (m9 3), .int held])), (m9 2, .inl (cJ, 160, .inr (.inl f))), (rh, .inr (4, [.ref rd, .int (nI 0), .int (iI r0.2.2)])), (rd, .inl (cB, 1300, .inl r0.1))] H := hP
    have hD : va_D A [(m9 0, .inr (5, [.ref (m9 1), .int len, .int code, .int bits, .int least, .ref (m9 2), .int (nI u), .ref (m9 4), .ref (m9 6), .ref (m9 8), .ref (m9 10), .ref (m9 12), .ref (m9 3), .int held])), (m9 2, .inl (cJ, 160, .inr (.inl f))), (rh, .inr (4, [.ref rd, .int (nI 0), .int (iI r0.2.2)])), (rd, .inl (cB, 1300, .inl r0.1))] := hD
    refine lv_aload_n hx hb dM_row_156 rfl (lv_at hl 0 rfl) ?_
    refine va_get (D := G) (ci := 5) (v := .int (nI u)) (C := RM) (T := TM) (N := 14) hx hb hts inM hown hK hP 0 rfl rfl 6 (by decide) (hts _ kw_2_160) (fun _ h9 => h9) rfl dM_row_157 ?_
    refine lv_iconst (v := nI 1) hx hb dM_row_160 (by decide) ?_
    refine lv_isub hx hb dM_row_161 ?_
    refine tp_i (y := iI ((u : Nat) - 1 : Int)) (sub1 u) ?_
    refine lv_istore hx hb dM_row_162 hl (by decide) rfl (fun ls hl => ?_)
    have hl : lv_has ls 9 [(5, .int (iI ((u : Nat) - 1 : Int))), (0, .ref (m9 0)), (3, .int (iI q)), (4, .ref rh)] := hl
    have hl : lv_has ls 9 [(5, .int (iI ((u : Nat) - 1 : Int))), (0, .ref (m9 0)), (3, .int (iI q)), (4, .ref rh)] := lv_sub hl [0, 1, 2, 3] rfl
    have lo : ∀ (fu : Nat) (k : Nat) (f1 : Nat → Int32) (g : Nat → Nat) (n : Nat) (A8 : Nat) (H : Heap) (locs : List Loc) (ls : Array Slot), k < fu → k ≤ u → Rd f1 n g → dv g n = A8 → (n = 0 → A8 = 0) → (0 < n → g 0 ≠ 0) → V = A8 * 10 ^ (9 * k) + nw f k → va_P G vwCl [(m9 0, .inr (5, [.ref (m9 1), .int len, .int code, .int bits, .int least, .ref (m9 2), .int (nI u), .ref (m9 4), .ref (m9 6), .ref (m9 8), .ref (m9 10), .ref (m9 12), .ref (m9 3), .int held])), (m9 2, .inl (cJ, 160, .inr (.inl f))), (rh, .inr (4, [.ref rd, .int (nI n), .int (iI r0.2.2)])), (rd, .inl (cB, 1300, .inl f1))] H → va_D A [(m9 0, .inr (5, [.ref (m9 1), .int len, .int code, .int bits, .int least, .ref (m9 2), .int (nI u), .ref (m9 4), .ref (m9 6), .ref (m9 8), .ref (m9 10), .ref (m9 12), .ref (m9 3), .int held])), (m9 2, .inl (cJ, 160, .inr (.inl f))), (rh, .inr (4, [.ref rd, .int (nI n), .int (iI r0.2.2)])), (rd, .inl (cB, 1300, .inl f1))] → va_S A s.heap H locs → lv_has ls 9 [(5, .int (iI ((k : Nat) - 1 : Int))), (0, .ref (m9 0)), (3, .int (iI q)), (4, .ref rh)] → W p l e rmM_row s m args below meth c H locs 0 0 Q (F0 m 164 ls []) := by
      intro fu
      induction fu with
      | zero => intro k f1 g n A8 H locs ls hfu; exact absurd hfu (Nat.not_lt_zero _)
      | succ fu ih =>
        intro k f1 g n A8 H locs ls hfu hk hR hA hz hg0 hVA hP hD hS hl
        refine lv_iload hx hb dM_row_164 (lv_at hl 0 rfl) ?_
        refine lv_if_lt (tgt := 256) hx hb dM_row_166 (by decide) (fun hc => ?_) (fun hc => ?_)
        · have h3 := (iI_lt (b := 0) (by omega) (by omega) (by decide) (by decide)).mp hc
          have h4 : k = 0 := by omega
          subst h4
          have hVA2 : A8 = V := by rw [hVA]; show A8 = A8 * 1 + 0; omega
          subst hVA2
          have hn7 := row_n hg0 (Nat.le_of_eq hA) hV
          have hnp : 0 < n := by
            rcases Nat.eq_zero_or_pos n with h | h
            · have := hz h; omega
            · exact h
          refine lv_aload hx hb dM_row_256 (lv_at hl 3 rfl) ?_
          refine lv_aload hx hb dM_row_258 (lv_at hl 3 rfl) ?_
          refine va_get (D := G) (ci := 4) (v := .int (nI n)) (C := RW) (T := TW) (N := 3) hx hb hts inW hown hK hP 2 rfl rfl 1 (by decide) (hts _ kw_2_144) (fun _ h9 => h9) rfl dM_row_260 ?_
          refine lv_iload_n hx hb dM_row_263 rfl (lv_at hl 2 rfl) ?_
          refine lv_if_ge (tgt := 271) hx hb dM_row_264 (by decide) (fun hc2 => ?_) (fun hc2 => ?_)
          · have h5 : 0 ≤ q := (iI_le (a := 0) (by decide) (by decide) (by omega) (by omega)).mp hc2
            refine lv_iconst (v := nI 0) hx hb dM_row_271 (by decide) ?_
            refine lv_iadd hx hb dM_row_272 ?_
            refine tp_i (y := iI ((n : Nat) + qm : Int)) (by rw [show nI 0 = iI 0 from rfl, ← iI_nat, iI_add]; congr 1; omega) ?_
            refine va_put (D := G) (ci := 4) (v := .int (iI ((n : Nat) + qm : Int))) (C := RW) (T := TW) (N := 3) hx hb hts inW tyW tyW_ok nmW hown hK hP hD hS 2 rfl rfl 2 (by decide) (hts _ kw_2_145) (fun _ h9 => h9) rfl (tyW_ok 2 (by decide)) (rfl) (rfl) (Nat.le_of_ble_eq_true rfl) dM_row_273 (fun H locs hP hD hS => ?_)
            have hP : va_P G vwCl [(m9 0, .inr (5, [.ref (m9 1), .int len, .int code, .int bits, .int least, .ref (m9 2), .int (nI u), .ref (m9 4), .ref (m9 6), .ref (m9 8), .ref (m9 10), .ref (m9 12), .ref (m9 3), .int held])), (m9 2, .inl (cJ, 160, .inr (.inl f))), (rh, .inr (4, [.ref rd, .int (nI n), .int (iI ((n : Nat) + qm : Int))])), (rd, .inl (cB, 1300, .inl f1))] H := hP
            have hD : va_D A [(m9 0, .inr (5, [.ref (m9 1), .int len, .int code, .int bits, .int least, .ref (m9 2), .int (nI u), .ref (m9 4), .ref (m9 6), .ref (m9 8), .ref (m9 10), .ref (m9 12), .ref (m9 3), .int held])), (m9 2, .inl (cJ, 160, .inr (.inl f))), (rh, .inr (4, [.ref rd, .int (nI n), .int (iI ((n : Nat) + qm : Int))])), (rd, .inl (cB, 1300, .inl f1))] := hD
            have hl : lv_has ls 9 [(4, .ref rh)] := lv_sub hl [3] rfl
            exact j276 f (nI u) f1 g n ((n : Nat) + qm) _ _ _ (hR) (hg0 hnp) (hnp) (by omega) (by omega) (by unfold rv; rw [hA, ← hxv, show ((n : Nat) + qm + 1100 - (n : Nat) : Int) = qm + 1100 by omega]) hP hD hS hl
          · have h5 : ¬ 0 ≤ q := fun h => hc2 ((iI_le (a := 0) (by decide) (by decide) (by omega) (by omega)).mpr h)
            refine lv_iload_n hx hb dM_row_267 rfl (lv_at hl 2 rfl) ?_
            refine lv_goto (tgt := 272) hx hb dM_row_268 (by decide) ?_
            refine lv_iadd hx hb dM_row_272 ?_
            refine tp_i (y := iI ((n : Nat) + qm : Int)) (by rw [← iI_nat, iI_add]; congr 1; omega) ?_
            refine va_put (D := G) (ci := 4) (v := .int (iI ((n : Nat) + qm : Int))) (C := RW) (T := TW) (N := 3) hx hb hts inW tyW tyW_ok nmW hown hK hP hD hS 2 rfl rfl 2 (by decide) (hts _ kw_2_145) (fun _ h9 => h9) rfl (tyW_ok 2 (by decide)) (rfl) (rfl) (Nat.le_of_ble_eq_true rfl) dM_row_273 (fun H locs hP hD hS => ?_)
            have hP : va_P G vwCl [(m9 0, .inr (5, [.ref (m9 1), .int len, .int code, .int bits, .int least, .ref (m9 2), .int (nI u), .ref (m9 4), .ref (m9 6), .ref (m9 8), .ref (m9 10), .ref (m9 12), .ref (m9 3), .int held])), (m9 2, .inl (cJ, 160, .inr (.inl f))), (rh, .inr (4, [.ref rd, .int (nI n), .int (iI ((n : Nat) + qm : Int))])), (rd, .inl (cB, 1300, .inl f1))] H := hP
            have hD : va_D A [(m9 0, .inr (5, [.ref (m9 1), .int len, .int code, .int bits, .int least, .ref (m9 2), .int (nI u), .ref (m9 4), .ref (m9 6), .ref (m9 8), .ref (m9 10), .ref (m9 12), .ref (m9 3), .int held])), (m9 2, .inl (cJ, 160, .inr (.inl f))), (rh, .inr (4, [.ref rd, .int (nI n), .int (iI ((n : Nat) + qm : Int))])), (rd, .inl (cB, 1300, .inl f1))] := hD
            have hl : lv_has ls 9 [(4, .ref rh)] := lv_sub hl [3] rfl
            exact j276 f (nI u) f1 g n ((n : Nat) + qm) _ _ _ (hR) (hg0 hnp) (hnp) (by omega) (by omega) (by unfold rv; rw [hA, ← hxv, show ((n : Nat) + qm + 1100 - (n : Nat) : Int) = qm + 1100 by omega]) hP hD hS hl
        · have h3 : ¬ ((k : Nat) - 1 : Int) < 0 := fun h => hc ((iI_lt (b := 0) (by omega) (by omega) (by decide) (by decide)).mpr h)
          obtain ⟨k, rfl⟩ : ∃ i, k = i + 1 := ⟨k - 1, by omega⟩
          have hy9 := hN.2.1 k (by omega)
          have hVt := top_limb hVA
          have hT9 : 0 < 10 ^ (9 * k) := Nat.pow_pos (by decide)
          have hle9 : (A8 * 10 ^ 9 + lu (f k)) * 10 ^ (9 * k) ≤ V := by rw [hVt]; exact Nat.le_add_right _ _
          have hfk : f k = lN (lu (f k)) := (lN_lu _).symm
          refine lv_ldc2 (v := 100000000) hx hb hown (hts _ kw_3_41) dM_row_169 ?_
          refine tp_l (y := lN (10 ^ 8 / 10 ^ 0)) (by decide) ?_
          refine lv_lstore hx hb dM_row_172 hl (by decide) rfl (fun ls hl => ?_)
          have hl : lv_has ls 9 [(6, .long (lN (10 ^ 8 / 10 ^ 0))), (5, .int (iI (((k + 1 : Nat) : Int) - 1))), (0, .ref (m9 0)), (3, .int (iI q)), (4, .ref rh)] := hl
          have hl : lv_has ls 9 [(6, .long (lN (10 ^ 8 / 10 ^ 0))), (5, .int (iI (((k + 1 : Nat) : Int) - 1))), (0, .ref (m9 0)), (3, .int (iI q)), (4, .ref rh)] := lv_sub hl [0, 1, 2, 3, 4] rfl
          have hA0 : dv g n = A8 * 10 ^ 0 + lu (f k) / 10 ^ (9 - 0) := by rw [hA, Nat.pow_zero, Nat.mul_one, Nat.div_eq_of_lt hy9, Nat.add_zero]
          have hz0 : n = 0 → A8 * 10 ^ 0 + lu (f k) / 10 ^ (9 - 0) = 0 := fun h => by rw [hz h, Nat.zero_mul, Nat.div_eq_of_lt hy9]
          have iho := ih
          have li : ∀ (fu : Nat) (j : Nat) (f2 : Nat → Int32) (g2 : Nat → Nat) (n2 : Nat) (H : Heap) (locs : List Loc) (ls : Array Slot), 9 - j < fu → j ≤ 9 → Rd f2 n2 g2 → dv g2 n2 = A8 * 10 ^ j + lu (f k) / 10 ^ (9 - j) → (n2 = 0 → A8 * 10 ^ j + lu (f k) / 10 ^ (9 - j) = 0) → (0 < n2 → g2 0 ≠ 0) → va_P G vwCl [(m9 0, .inr (5, [.ref (m9 1), .int len, .int code, .int bits, .int least, .ref (m9 2), .int (nI u), .ref (m9 4), .ref (m9 6), .ref (m9 8), .ref (m9 10), .ref (m9 12), .ref (m9 3), .int held])), (m9 2, .inl (cJ, 160, .inr (.inl f))), (rh, .inr (4, [.ref rd, .int (nI n2), .int (iI r0.2.2)])), (rd, .inl (cB, 1300, .inl f2))] H → va_D A [(m9 0, .inr (5, [.ref (m9 1), .int len, .int code, .int bits, .int least, .ref (m9 2), .int (nI u), .ref (m9 4), .ref (m9 6), .ref (m9 8), .ref (m9 10), .ref (m9 12), .ref (m9 3), .int held])), (m9 2, .inl (cJ, 160, .inr (.inl f))), (rh, .inr (4, [.ref rd, .int (nI n2), .int (iI r0.2.2)])), (rd, .inl (cB, 1300, .inl f2))] → va_S A s.heap H locs → lv_has ls 9 [(6, .long (lN (10 ^ 8 / 10 ^ j))), (5, .int (iI (((k + 1 : Nat) : Int) - 1))), (0, .ref (m9 0)), (3, .int (iI q)), (4, .ref rh)] → W p l e rmM_row s m args below meth c H locs 0 0 Q (F0 m 174 ls []) := by
            intro fu
            induction fu with
            | zero => intro j f2 g2 n2 H locs ls hfu; exact absurd hfu (Nat.not_lt_zero _)
            | succ fu ih =>
              intro j f2 g2 n2 H locs ls hfu hj hR2 hA2 hz2 hg2 hP hD hS hl
              have ht8 : 10 ^ 8 / 10 ^ j ≤ 10 ^ 8 := Nat.div_le_self _ _
              have hn7 := row_n hg2 (by rw [hA2]; exact in_limb hle9 hj hy9 hT9) hV
              refine lv_lload hx hb dM_row_174 (lv_at hl 0 rfl) ?_
              refine lv_lconst (v := lN 0) hx hb dM_row_176 (by decide) ?_
              refine W.lcmp hx hb dM_row_177 ?_
              refine lv_if_le (tgt := 250) hx hb dM_row_178 (by decide) (fun hc2 => ?_) (fun hc2 => ?_)
              · have h5 := (pk_lLE (by omega) (by decide)).mp ((lg_cmp_le _ _).mp hc2)
                have h6 : j = 9 := by
                  rcases Nat.lt_or_ge j 9 with h | h
                  · rw [ten_j h] at h5; have := Nat.pow_pos (n := 8 - j) (show 0 < 10 by decide); omega
                  · omega
                subst h6
                have hl9 : lu (f k) / 10 ^ (9 - 9) = lu (f k) := Nat.div_one _
                rw [hl9] at hA2 hz2
                refine lv_iinc (k := 1) (v := iI ((k : Nat) - 1 : Int)) hx hb dM_row_250 hl rfl (by rw [dec_i k, ← iI_nat]; exact iI_add _ _) (by decide) rfl (fun ls hl => ?_)
                have hl : lv_has ls 9 [(5, .int (iI ((k : Nat) - 1 : Int))), (6, .long (lN (10 ^ 8 / 10 ^ 9))), (0, .ref (m9 0)), (3, .int (iI q)), (4, .ref rh)] := hl
                refine lv_goto (tgt := 164) hx hb dM_row_253 (by decide) ?_
                have hl : lv_has ls 9 [(5, .int (iI ((k : Nat) - 1 : Int))), (0, .ref (m9 0)), (3, .int (iI q)), (4, .ref rh)] := lv_sub hl [0, 2, 3, 4] rfl
                exact iho k f2 g2 n2 (A8 * 10 ^ 9 + lu (f k)) _ _ _ (by omega) (by omega) (hR2) (hA2) (hz2) (hg2) (hVt) hP hD hS hl
              · have h5 : ¬ 10 ^ 8 / 10 ^ j ≤ 0 := fun h => hc2 ((lg_cmp_le _ _).mpr ((pk_lLE (by omega) (by decide)).mpr h))
                have h6 : j < 9 := by
                  rcases Nat.lt_or_ge j 9 with h | h
                  · exact h
                  · rw [show j = 9 by omega] at h5; exact absurd (by decide) h5
                have hdl := dig_limb (A := A8) (y := lu (f k)) h6
                have hd10 : lu (f k) / 10 ^ (8 - j) % 10 < 10 := Nat.mod_lt _ (by decide)
                have hq9 : lu (f k) / 10 ^ (8 - j) ≤ lu (f k) := Nat.div_le_self _ _
                have htp := Nat.pow_pos (n := 8 - j) (show 0 < 10 by decide)
                have hte : 10 ^ (8 - j) ≤ 10 ^ 8 := Nat.pow_le_pow_right (by decide) (by omega)
                have j239 : ∀ (f3 : Nat → Int32) (g3 : Nat → Nat) (n3 : Nat) (H : Heap) (locs : List Loc) (ls : Array Slot), Rd f3 n3 g3 → dv g3 n3 = A8 * 10 ^ (j + 1) + lu (f k) / 10 ^ (9 - (j + 1)) → (n3 = 0 → A8 * 10 ^ (j + 1) + lu (f k) / 10 ^ (9 - (j + 1)) = 0) → (0 < n3 → g3 0 ≠ 0) → va_P G vwCl [(m9 0, .inr (5, [.ref (m9 1), .int len, .int code, .int bits, .int least, .ref (m9 2), .int (nI u), .ref (m9 4), .ref (m9 6), .ref (m9 8), .ref (m9 10), .ref (m9 12), .ref (m9 3), .int held])), (m9 2, .inl (cJ, 160, .inr (.inl f))), (rh, .inr (4, [.ref rd, .int (nI n3), .int (iI r0.2.2)])), (rd, .inl (cB, 1300, .inl f3))] H → va_D A [(m9 0, .inr (5, [.ref (m9 1), .int len, .int code, .int bits, .int least, .ref (m9 2), .int (nI u), .ref (m9 4), .ref (m9 6), .ref (m9 8), .ref (m9 10), .ref (m9 12), .ref (m9 3), .int held])), (m9 2, .inl (cJ, 160, .inr (.inl f))), (rh, .inr (4, [.ref rd, .int (nI n3), .int (iI r0.2.2)])), (rd, .inl (cB, 1300, .inl f3))] → va_S A s.heap H locs → lv_has ls 9 [(6, .long (lN (10 ^ 8 / 10 ^ j))), (5, .int (iI (((k + 1 : Nat) : Int) - 1))), (0, .ref (m9 0)), (3, .int (iI q)), (4, .ref rh)] → W p l e rmM_row s m args below meth c H locs 0 0 Q (F0 m 239 ls []) := by
                  intro f3 g3 n3 H locs ls hR3 hA3 hz3 hg3 hP hD hS hl
                  refine lv_lload hx hb dM_row_239 (lv_at hl 0 rfl) ?_
                  refine lv_ldc2 (v := 10) hx hb hown (hts _ kw_3_42) dM_row_241 ?_
                  refine tp_l (y := lN 10) (rfl) ?_
                  refine lv_ldiv hx hb dM_row_244 (by decide) ?_
                  refine tp_l (y := lN (10 ^ 8 / 10 ^ (j + 1))) (by rw [pk_lDiv (by omega) (by decide) (by decide), div_step]) ?_
                  refine lv_lstore hx hb dM_row_245 hl (by decide) rfl (fun ls hl => ?_)
                  have hl : lv_has ls 9 [(6, .long (lN (10 ^ 8 / 10 ^ (j + 1)))), (5, .int (iI (((k + 1 : Nat) : Int) - 1))), (0, .ref (m9 0)), (3, .int (iI q)), (4, .ref rh)] := hl
                  refine lv_goto (tgt := 174) hx hb dM_row_247 (by decide) ?_
                  have hl : lv_has ls 9 [(6, .long (lN (10 ^ 8 / 10 ^ (j + 1)))), (5, .int (iI (((k + 1 : Nat) : Int) - 1))), (0, .ref (m9 0)), (3, .int (iI q)), (4, .ref rh)] := lv_sub hl [0, 1, 2, 3, 4] rfl
                  exact ih (j + 1) f3 g3 n3 _ _ _ (by omega) (by omega) (hR3) (hA3) (hz3) (hg3) hP hD hS hl
                refine lv_aload_n hx hb dM_row_181 rfl (lv_at hl 2 rfl) ?_
                refine va_get (D := G) (ci := 5) (v := .ref (m9 2)) (C := RM) (T := TM) (N := 14) hx hb hts inM hown hK hP 0 rfl rfl 5 (by decide) (hts _ kw_2_159) (fun _ h9 => h9) rfl dM_row_182 ?_
                refine lv_iload hx hb dM_row_185 (lv_at hl 1 rfl) ?_
                refine tp_i (y := nI k) (dec_i k) ?_
                refine ld_l hx hb hK hP 1 3 rfl rfl k (rfl) (by omega) (by decide) dM_row_187 ?_
                refine tp_l (y := lN (lu (f k))) (hfk) ?_
                refine lv_lload hx hb dM_row_188 (lv_at hl 0 rfl) ?_
                refine tp_l (y := lN (10 ^ (8 - j))) (by rw [ten_j h6]) ?_
                refine lv_ldiv hx hb dM_row_190 (fun h => by have := (pk_lEQ (by omega) (by decide)).mp (show lN (10 ^ (8 - j)) = lN 0 from h); omega) ?_
                refine tp_l (y := lN (lu (f k) / 10 ^ (8 - j))) (pk_lDiv (by omega) htp (by omega)) ?_
                refine lv_ldc2 (v := 10) hx hb hown (hts _ kw_3_42) dM_row_191 ?_
                refine tp_l (y := lN 10) (rfl) ?_
                refine lv_lrem hx hb dM_row_194 (by decide) ?_
                refine tp_l (y := lN (lu (f k) / 10 ^ (8 - j) % 10)) (pk_lRem (by omega) (by decide) (by decide)) ?_
                refine lv_l2i (v := nI (lu (f k) / 10 ^ (8 - j) % 10)) hx hb dM_row_195 (lN_i _) ?_
                refine lv_i2b (v := nI (lu (f k) / 10 ^ (8 - j) % 10)) hx hb dM_row_196 (nar_byte (by omega)) ?_
                refine lv_istore hx hb dM_row_197 hl (by decide) rfl (fun ls hl => ?_)
                have hl : lv_has ls 9 [(8, .int (nI (lu (f k) / 10 ^ (8 - j) % 10))), (6, .long (lN (10 ^ 8 / 10 ^ j))), (5, .int (iI (((k + 1 : Nat) : Int) - 1))), (0, .ref (m9 0)), (3, .int (iI q)), (4, .ref rh)] := hl
                have j215 : ∀  (H : Heap) (locs : List Loc) (ls : Array Slot), (n2 = 0 → lu (f k) / 10 ^ (8 - j) % 10 ≠ 0) → va_P G vwCl [(m9 0, .inr (5, [.ref (m9 1), .int len, .int code, .int bits, .int least, .ref (m9 2), .int (nI u), .ref (m9 4), .ref (m9 6), .ref (m9 8), .ref (m9 10), .ref (m9 12), .ref (m9 3), .int held])), (m9 2, .inl (cJ, 160, .inr (.inl f))), (rh, .inr (4, [.ref rd, .int (nI n2), .int (iI r0.2.2)])), (rd, .inl (cB, 1300, .inl f2))] H → va_D A [(m9 0, .inr (5, [.ref (m9 1), .int len, .int code, .int bits, .int least, .ref (m9 2), .int (nI u), .ref (m9 4), .ref (m9 6), .ref (m9 8), .ref (m9 10), .ref (m9 12), .ref (m9 3), .int held])), (m9 2, .inl (cJ, 160, .inr (.inl f))), (rh, .inr (4, [.ref rd, .int (nI n2), .int (iI r0.2.2)])), (rd, .inl (cB, 1300, .inl f2))] → va_S A s.heap H locs → lv_has ls 9 [(8, .int (nI (lu (f k) / 10 ^ (8 - j) % 10))), (6, .long (lN (10 ^ 8 / 10 ^ j))), (5, .int (iI (((k + 1 : Nat) : Int) - 1))), (0, .ref (m9 0)), (3, .int (iI q)), (4, .ref rh)] → W p l e rmM_row s m args below meth c H locs 0 0 Q (F0 m 215 ls []) := by
                  intro  H locs ls hyn hP hD hS hl
                  refine lv_aload hx hb dM_row_215 (lv_at hl 5 rfl) ?_
                  refine va_get (D := G) (ci := 4) (v := .ref rd) (C := RW) (T := TW) (N := 3) hx hb hts inW hown hK hP 2 rfl rfl 0 (by decide) (hts _ kw_2_143) (fun _ h9 => h9) rfl dM_row_217 ?_
                  refine lv_aload hx hb dM_row_220 (lv_at hl 5 rfl) ?_
                  refine va_get (D := G) (ci := 4) (v := .int (nI n2)) (C := RW) (T := TW) (N := 3) hx hb hts inW hown hK hP 2 rfl rfl 1 (by decide) (hts _ kw_2_144) (fun _ h9 => h9) rfl dM_row_222 ?_
                  refine lv_iload hx hb dM_row_225 (lv_at hl 0 rfl) ?_
                  refine st_b (x' := (nI (lu (f k) / 10 ^ (8 - j) % 10))) hx hb hK hP hD hS 3 1 rfl rfl n2 (rfl) (by omega) (by decide) (narb (by omega)) dM_row_227 (fun H locs hP hD hS => ?_)
                  have hP : va_P G vwCl [(m9 0, .inr (5, [.ref (m9 1), .int len, .int code, .int bits, .int least, .ref (m9 2), .int (nI u), .ref (m9 4), .ref (m9 6), .ref (m9 8), .ref (m9 10), .ref (m9 12), .ref (m9 3), .int held])), (m9 2, .inl (cJ, 160, .inr (.inl f))), (rh, .inr (4, [.ref rd, .int (nI n2), .int (iI r0.2.2)])), (rd, .inl (cB, 1300, .inl (upd f2 n2 (nI (lu (f k) / 10 ^ (8 - j) % 10)))))] H := hP
                  have hD : va_D A [(m9 0, .inr (5, [.ref (m9 1), .int len, .int code, .int bits, .int least, .ref (m9 2), .int (nI u), .ref (m9 4), .ref (m9 6), .ref (m9 8), .ref (m9 10), .ref (m9 12), .ref (m9 3), .int held])), (m9 2, .inl (cJ, 160, .inr (.inl f))), (rh, .inr (4, [.ref rd, .int (nI n2), .int (iI r0.2.2)])), (rd, .inl (cB, 1300, .inl (upd f2 n2 (nI (lu (f k) / 10 ^ (8 - j) % 10)))))] := hD
                  refine lv_aload hx hb dM_row_228 (lv_at hl 5 rfl) ?_
                  refine lv_dup hx hb dM_row_230 rfl ?_
                  refine va_get (D := G) (ci := 4) (v := .int (nI n2)) (C := RW) (T := TW) (N := 3) hx hb hts inW hown hK hP 2 rfl rfl 1 (by decide) (hts _ kw_2_144) (fun _ h9 => h9) rfl dM_row_231 ?_
                  refine lv_iconst (v := nI 1) hx hb dM_row_234 (by decide) ?_
                  refine lv_iadd hx hb dM_row_235 ?_
                  refine tp_i (y := nI (n2 + 1)) (nI_add n2 1) ?_
                  refine va_put (D := G) (ci := 4) (v := .int (nI (n2 + 1))) (C := RW) (T := TW) (N := 3) hx hb hts inW tyW tyW_ok nmW hown hK hP hD hS 2 rfl rfl 1 (by decide) (hts _ kw_2_144) (fun _ h9 => h9) rfl (tyW_ok 1 (by decide)) (rfl) (rfl) (Nat.le_of_ble_eq_true rfl) dM_row_236 (fun H locs hP hD hS => ?_)
                  have hP : va_P G vwCl [(m9 0, .inr (5, [.ref (m9 1), .int len, .int code, .int bits, .int least, .ref (m9 2), .int (nI u), .ref (m9 4), .ref (m9 6), .ref (m9 8), .ref (m9 10), .ref (m9 12), .ref (m9 3), .int held])), (m9 2, .inl (cJ, 160, .inr (.inl f))), (rh, .inr (4, [.ref rd, .int (nI (n2 + 1)), .int (iI r0.2.2)])), (rd, .inl (cB, 1300, .inl (upd f2 n2 (nI (lu (f k) / 10 ^ (8 - j) % 10)))))] H := hP
                  have hD : va_D A [(m9 0, .inr (5, [.ref (m9 1), .int len, .int code, .int bits, .int least, .ref (m9 2), .int (nI u), .ref (m9 4), .ref (m9 6), .ref (m9 8), .ref (m9 10), .ref (m9 12), .ref (m9 3), .int held])), (m9 2, .inl (cJ, 160, .inr (.inl f))), (rh, .inr (4, [.ref rd, .int (nI (n2 + 1)), .int (iI r0.2.2)])), (rd, .inl (cB, 1300, .inl (upd f2 n2 (nI (lu (f k) / 10 ^ (8 - j) % 10)))))] := hD
                  have hl : lv_has ls 9 [(6, .long (lN (10 ^ 8 / 10 ^ j))), (5, .int (iI (((k + 1 : Nat) : Int) - 1))), (0, .ref (m9 0)), (3, .int (iI q)), (4, .ref rh)] := lv_sub hl [1, 2, 3, 4, 5] rfl
                  exact j239 (upd f2 n2 (nI (lu (f k) / 10 ^ (8 - j) % 10))) (fun i9 => if i9 = n2 then lu (f k) / 10 ^ (8 - j) % 10 else g2 i9) (n2 + 1) _ _ _ (Rd_push hR2 (by omega) hd10) (by rw [dv_push, hA2, hdl]) (fun h => by omega) (fun _ => by
                      show (if 0 = n2 then lu (f k) / 10 ^ (8 - j) % 10 else g2 0) ≠ 0
                      by_cases h : 0 = n2
                      · rw [if_pos h]; exact hyn h.symm
                      · rw [if_neg h]; exact hg2 (by omega)) hP hD hS hl
                refine lv_aload hx hb dM_row_199 (lv_at hl 5 rfl) ?_
                refine va_get (D := G) (ci := 4) (v := .int (nI n2)) (C := RW) (T := TW) (N := 3) hx hb hts inW hown hK hP 2 rfl rfl 1 (by decide) (hts _ kw_2_144) (fun _ h9 => h9) rfl dM_row_201 ?_
                refine lv_if_ne (tgt := 215) hx hb dM_row_204 (by decide) (fun hc3 => ?_) (fun hc3 => ?_)
                · exact j215  _ _ _ (fun h => absurd (by rw [h]; rfl) hc3) hP hD hS hl
                · have h7 : n2 = 0 := (nI_eq (by omega) (by decide)).mp hc3
                  refine lv_iload hx hb dM_row_207 (lv_at hl 0 rfl) ?_
                  refine lv_if_ne (tgt := 215) hx hb dM_row_209 (by decide) (fun hc4 => ?_) (fun hc4 => ?_)
                  · exact j215  _ _ _ (fun _ h => hc4 (by rw [h]; rfl)) hP hD hS hl
                  · have h8 : lu (f k) / 10 ^ (8 - j) % 10 = 0 := (nI_eq (by omega) (by decide)).mp hc4
                    refine lv_goto (tgt := 239) hx hb dM_row_212 (by decide) ?_
                    have hl : lv_has ls 9 [(6, .long (lN (10 ^ 8 / 10 ^ j))), (5, .int (iI (((k + 1 : Nat) : Int) - 1))), (0, .ref (m9 0)), (3, .int (iI q)), (4, .ref rh)] := lv_sub hl [1, 2, 3, 4, 5] rfl
                    exact j239 f2 g2 n2 _ _ _ (hR2) (by rw [hdl, h8, ← hA2, h7]; rfl) (fun _ => by rw [hdl, h8, hz2 h7]) (hg2) hP hD hS hl
          exact li (_ + 1) 0 f1 g n _ _ _ (Nat.lt_succ_self _) (by decide) (hR) (hA0) (hz0) (hg0) hP hD hS hl
    exact lo (_ + 1) u r0.1 (fun _ => 0) 0 0 _ _ _ (Nat.lt_succ_self _) (Nat.le_refl _) (⟨by decide, fun j hj => absurd hj (Nat.not_lt_zero j)⟩) (rfl) (fun _ => rfl) (fun h => absurd h (Nat.lt_irrefl 0)) (by rw [Nat.zero_mul, Nat.zero_add]; exact hN.2.2.symm) hP hD hS hl
  by_cases hq0 : 0 ≤ q
  · obtain ⟨Q9, rfl⟩ : ∃ Q9 : Nat, q = Q9 := ⟨q.toNat, by omega⟩
    refine lv_aload_n hx hb dM_row_0 rfl (lv_at hl 0 rfl) ?_
    refine lv_iconst (v := nI 0) hx hb dM_row_1 (by decide) ?_
    refine va_put (D := G) (ci := 5) (v := .int (nI 0)) (C := RM) (T := TM) (N := 14) hx hb hts inM tyM tyM_ok nmM hown hK hP hD hS 0 rfl rfl 6 (by decide) (hts _ kw_2_160) (fun _ h9 => h9) rfl (tyM_ok 6 (by decide)) (rfl) (rfl) (Nat.le_of_ble_eq_true rfl) dM_row_2 (fun H locs hP hD hS => ?_)
    have hP : va_P G vwCl [(m9 0, .inr (5, [.ref (m9 1), .int len, .int code, .int bits, .int least, .ref (m9 2), .int (nI 0), .ref (m9 4), .ref (m9 6), .ref (m9 8), .ref (m9 10), .ref (m9 12), .ref (m9 3), .int held])), (m9 2, .inl (cJ, 160, .inr (.inl f0))), (rh, .inr (4, [.ref rd, .int (nI r0.2.1), .int (iI r0.2.2)])), (rd, .inl (cB, 1300, .inl r0.1))] H := hP
    have hD : va_D A [(m9 0, .inr (5, [.ref (m9 1), .int len, .int code, .int bits, .int least, .ref (m9 2), .int (nI 0), .ref (m9 4), .ref (m9 6), .ref (m9 8), .ref (m9 10), .ref (m9 12), .ref (m9 3), .int held])), (m9 2, .inl (cJ, 160, .inr (.inl f0))), (rh, .inr (4, [.ref rd, .int (nI r0.2.1), .int (iI r0.2.2)])), (rd, .inl (cB, 1300, .inl r0.1))] := hD
    refine lv_lload_n hx hb dM_row_5 rfl (lv_at hl 1 rfl) ?_
    refine lv_lstore hx hb dM_row_6 hl (by decide) rfl (fun ls hl => ?_)
    have hl : lv_has ls 9 [(5, .long (lN c9)), (0, .ref (m9 0)), (1, .long (lN c9)), (3, .int (iI ((Q9 : Int)))), (4, .ref rh)] := hl
    have hl : lv_has ls 9 [(5, .long (lN c9)), (0, .ref (m9 0)), (3, .int (iI ((Q9 : Int)))), (4, .ref rh)] := lv_sub hl [0, 1, 3, 4] rfl
    have l1 : ∀ (fu : Nat) (u : Nat) (x9 : Nat) (f : Nat → Int64) (H : Heap) (locs : List Loc) (ls : Array Slot), x9 < fu → u ≤ 2 → nw f u + x9 * 10 ^ (9 * u) = c9 → (∀ j, j < u → lu (f j) < 1000000000) → x9 ≤ c9 → va_P G vwCl [(m9 0, .inr (5, [.ref (m9 1), .int len, .int code, .int bits, .int least, .ref (m9 2), .int (nI u), .ref (m9 4), .ref (m9 6), .ref (m9 8), .ref (m9 10), .ref (m9 12), .ref (m9 3), .int held])), (m9 2, .inl (cJ, 160, .inr (.inl f))), (rh, .inr (4, [.ref rd, .int (nI r0.2.1), .int (iI r0.2.2)])), (rd, .inl (cB, 1300, .inl r0.1))] H → va_D A [(m9 0, .inr (5, [.ref (m9 1), .int len, .int code, .int bits, .int least, .ref (m9 2), .int (nI u), .ref (m9 4), .ref (m9 6), .ref (m9 8), .ref (m9 10), .ref (m9 12), .ref (m9 3), .int held])), (m9 2, .inl (cJ, 160, .inr (.inl f))), (rh, .inr (4, [.ref rd, .int (nI r0.2.1), .int (iI r0.2.2)])), (rd, .inl (cB, 1300, .inl r0.1))] → va_S A s.heap H locs → lv_has ls 9 [(5, .long (lN x9)), (0, .ref (m9 0)), (3, .int (iI ((Q9 : Int)))), (4, .ref rh)] → W p l e rmM_row s m args below meth c H locs 0 0 Q (F0 m 8 ls []) := by
      intro fu
      induction fu with
      | zero => intro u x9 f H locs ls hfu; exact absurd hfu (Nat.not_lt_zero _)
      | succ fu ih =>
        intro u x9 f H locs ls hfu hu hs hf9 hx8 hP hD hS hl
        refine lv_lload hx hb dM_row_8 (lv_at hl 0 rfl) ?_
        refine lv_lconst (v := lN 0) hx hb dM_row_10 (by decide) ?_
        refine W.lcmp hx hb dM_row_11 ?_
        refine lv_if_le (tgt := 51) hx hb dM_row_12 (by decide) (fun hc => ?_) (fun hc => ?_)
        · have h3 : x9 ≤ 0 := (pk_lLE (by omega) (by decide)).mp ((lg_cmp_le _ _).mp hc)
          have h4 : x9 = 0 := by omega
          subst h4
          have hN : Nw f u c9 := ⟨by omega, hf9, by rw [← hs]; omega⟩
          clear ih hfu
          have hl : lv_has ls 9 [(0, .ref (m9 0)), (3, .int (iI ((Q9 : Int)))), (4, .ref rh)] := lv_sub hl [1, 2, 3] rfl
          have j90 : ∀ (t : (Nat → Int64) × Nat) (H : Heap) (locs : List Loc) (ls : Array Slot), Nw t.1 t.2 (c9 * 2 ^ Q9) → va_P G vwCl [(m9 0, .inr (5, [.ref (m9 1), .int len, .int code, .int bits, .int least, .ref (m9 2), .int (nI t.2), .ref (m9 4), .ref (m9 6), .ref (m9 8), .ref (m9 10), .ref (m9 12), .ref (m9 3), .int held])), (m9 2, .inl (cJ, 160, .inr (.inl t.1))), (rh, .inr (4, [.ref rd, .int (nI r0.2.1), .int (iI r0.2.2)])), (rd, .inl (cB, 1300, .inl r0.1))] H → va_D A [(m9 0, .inr (5, [.ref (m9 1), .int len, .int code, .int bits, .int least, .ref (m9 2), .int (nI t.2), .ref (m9 4), .ref (m9 6), .ref (m9 8), .ref (m9 10), .ref (m9 12), .ref (m9 3), .int held])), (m9 2, .inl (cJ, 160, .inr (.inl t.1))), (rh, .inr (4, [.ref rd, .int (nI r0.2.1), .int (iI r0.2.2)])), (rd, .inl (cB, 1300, .inl r0.1))] → va_S A s.heap H locs → lv_has ls 9 [(0, .ref (m9 0)), (3, .int (iI ((Q9 : Int)))), (4, .ref rh)] → W p l e rmM_row s m args below meth c H locs 0 0 Q (F0 m 90 ls []) := by
            intro t H locs ls hN2 hP hD hS hl
            refine lv_iconst (v := nI 0) hx hb dM_row_90 (by decide) ?_
            refine lv_istore hx hb dM_row_91 hl (by decide) rfl (fun ls hl => ?_)
            have hl : lv_has ls 9 [(5, .int (nI 0)), (0, .ref (m9 0)), (3, .int (iI ((Q9 : Int)))), (4, .ref rh)] := hl
            refine lv_iload hx hb dM_row_93 (lv_at hl 0 rfl) ?_
            refine lv_bipush (v := nI 12) hx hb dM_row_95 (by decide) ?_
            refine lv_iadd hx hb dM_row_97 ?_
            refine tp_i (y := iI (0 + 12)) (by rw [show nI 0 = iI 0 from rfl, iI_nI]; rfl) ?_
            refine lv_iload_n hx hb dM_row_98 rfl (lv_at hl 2 rfl) ?_
            refine lv_ineg hx hb dM_row_99 ?_
            refine tp_i (y := iI (-(Q9 : Int))) (iI_neg _) ?_
            refine lv_icmp_gt (tgt := 116) hx hb dM_row_100 (by decide) (fun _ => ?_) (fun hc => absurd ((iI_lt (by omega) (by omega) (by decide) (by decide)).mpr (by omega)) hc)
            refine lv_iconst (v := nI 0) hx hb dM_row_116 (by decide) ?_
            refine lv_istore hx hb dM_row_117 hl (by decide) rfl (fun ls hl => ?_)
            have hl : lv_has ls 9 [(5, .int (nI 0)), (0, .ref (m9 0)), (3, .int (iI ((Q9 : Int)))), (4, .ref rh)] := hl
            refine lv_iload hx hb dM_row_119 (lv_at hl 0 rfl) ?_
            refine lv_iload_n hx hb dM_row_121 rfl (lv_at hl 2 rfl) ?_
            refine lv_if_ge (tgt := 133) hx hb dM_row_122 (by decide) (fun _ => ?_) (fun hc => absurd ((iI_le (a := 0) (by decide) (by decide) (by omega) (by omega)).mpr (by omega)) hc)
            refine lv_iconst (v := nI 0) hx hb dM_row_133 (by decide) ?_
            refine lv_icmp_ge (tgt := 150) hx hb dM_row_134 (by decide) (fun _ => ?_) (fun hc => absurd (Int32.le_refl _) hc)
            have hl : lv_has ls 9 [(0, .ref (m9 0)), (3, .int (iI ((Q9 : Int)))), (4, .ref rh)] := lv_sub hl [1, 2, 3] rfl
            exact j150 t.1 t.2 (c9 * 2 ^ Q9) 0 _ _ _ (hN2) (Nat.mul_pos hc0 (Nat.pow_pos (by decide))) (row_b2 hc9 (by omega)) (by omega) (by rw [show ((0 : Int) + 1100).toNat = 1100 from rfl]; exact xv_pos c9 Q9) hP hD hS hl
          refine lv_iconst (v := nI 0) hx hb dM_row_51 (by decide) ?_
          refine lv_istore hx hb dM_row_52 hl (by decide) rfl (fun ls hl => ?_)
          have hl : lv_has ls 9 [(5, .int (nI 0)), (0, .ref (m9 0)), (3, .int (iI ((Q9 : Int)))), (4, .ref rh)] := hl
          have hl : lv_has ls 9 [(5, .int (nI 0)), (0, .ref (m9 0)), (3, .int (iI ((Q9 : Int)))), (4, .ref rh)] := lv_sub hl [0, 1, 2, 3] rfl
          have l2 : ∀ (fu : Nat) (k : Nat) (t : (Nat → Int64) × Nat) (H : Heap) (locs : List Loc) (ls : Array Slot), Q9 - k < fu → k ≤ Q9 → k % 29 = 0 → Nw t.1 t.2 (c9 * 2 ^ k) → va_P G vwCl [(m9 0, .inr (5, [.ref (m9 1), .int len, .int code, .int bits, .int least, .ref (m9 2), .int (nI t.2), .ref (m9 4), .ref (m9 6), .ref (m9 8), .ref (m9 10), .ref (m9 12), .ref (m9 3), .int held])), (m9 2, .inl (cJ, 160, .inr (.inl t.1))), (rh, .inr (4, [.ref rd, .int (nI r0.2.1), .int (iI r0.2.2)])), (rd, .inl (cB, 1300, .inl r0.1))] H → va_D A [(m9 0, .inr (5, [.ref (m9 1), .int len, .int code, .int bits, .int least, .ref (m9 2), .int (nI t.2), .ref (m9 4), .ref (m9 6), .ref (m9 8), .ref (m9 10), .ref (m9 12), .ref (m9 3), .int held])), (m9 2, .inl (cJ, 160, .inr (.inl t.1))), (rh, .inr (4, [.ref rd, .int (nI r0.2.1), .int (iI r0.2.2)])), (rd, .inl (cB, 1300, .inl r0.1))] → va_S A s.heap H locs → lv_has ls 9 [(5, .int (nI k)), (0, .ref (m9 0)), (3, .int (iI ((Q9 : Int)))), (4, .ref rh)] → W p l e rmM_row s m args below meth c H locs 0 0 Q (F0 m 54 ls []) := by
            intro fu
            induction fu with
            | zero => intro k t H locs ls hfu; exact absurd hfu (Nat.not_lt_zero _)
            | succ fu ih =>
              intro k t H locs ls hfu hk hk29 hN2 hP hD hS hl
              refine lv_iload hx hb dM_row_54 (lv_at hl 0 rfl) ?_
              refine lv_bipush (v := nI 29) hx hb dM_row_56 (by decide) ?_
              refine lv_iadd hx hb dM_row_58 ?_
              refine tp_i (y := iI ((k + 29 : Nat) : Int)) (by rw [nI_add, iI_nat]) ?_
              refine lv_iload_n hx hb dM_row_59 rfl (lv_at hl 2 rfl) ?_
              refine lv_icmp_gt (tgt := 76) hx hb dM_row_60 (by decide) (fun hc2 => ?_) (fun hc2 => ?_)
              · have h5 := (iI_lt (by omega) (by omega) (by omega) (by omega)).mp hc2
                clear ih hfu
                refine lv_iload_n hx hb dM_row_76 rfl (lv_at hl 2 rfl) ?_
                by_cases hq9 : Q9 = 0
                · subst hq9
                  have hk0 : k = 0 := by omega
                  subst hk0
                  refine lv_if_le (tgt := 90) hx hb dM_row_77 (by decide) (fun _ => ?_) (fun hc => absurd (Int32.le_refl (0 : Int32)) hc)
                  have hl : lv_has ls 9 [(0, .ref (m9 0)), (3, .int (iI ((0 : Nat) : Int))), (4, .ref rh)] := lv_sub hl [1, 2, 3] rfl
                  exact j90 t _ _ _ (hN2) hP hD hS hl
                · refine lv_if_le (tgt := 90) hx hb dM_row_77 (by decide) (fun hc => absurd hc (fun h => by have := (iI_le (b := 0) (by omega) (by omega) (by decide) (by decide)).mp h; omega)) (fun _ => ?_)
                  have e9 : c9 * 2 ^ k * 2 ^ (Q9 % 29) = c9 * 2 ^ Q9 := by rw [Nat.mul_assoc, ← Nat.pow_add]; congr 2; omega
                  have hp29 : 2 ^ (Q9 % 29) ≤ 2 ^ 29 := Nat.pow_le_pow_right (by decide) (by omega)
                  refine lv_aload_n hx hb dM_row_80 rfl (lv_at hl 1 rfl) ?_
                  refine lv_lconst (v := lN 1) hx hb dM_row_81 (by decide) ?_
                  refine lv_iload_n hx hb dM_row_82 rfl (lv_at hl 2 rfl) ?_
                  refine tp_i (y := nI Q9) (iI_nat Q9) ?_
                  refine lv_bipush (v := nI 29) hx hb dM_row_83 (by decide) ?_
                  refine lv_irem hx hb dM_row_85 (by decide) ?_
                  refine tp_i (y := nI (Q9 % 29)) (pk_rem (by omega) (by decide) (by decide)) ?_
                  refine lv_lshl (v := lN (2 ^ (Q9 % 29))) hx hb dM_row_86 (by rw [wb_shl 1 (by omega), Nat.one_mul]) ?_
                  refine jnV (Wr := [(rh, .inr (4, [.ref rd, .int (nI r0.2.1), .int (iI r0.2.2)])), (rd, .inl (cB, 1300, .inl r0.1))]) (W2 := fun t2 => [(m9 0, .inr (5, [.ref (m9 1), .int len, .int code, .int bits, .int least, .ref (m9 2), .int (nI t2.2), .ref (m9 4), .ref (m9 6), .ref (m9 8), .ref (m9 10), .ref (m9 12), .ref (m9 3), .int held])), (m9 2, .inl (cJ, 160, .inr (.inl t2.1))), (rh, .inr (4, [.ref rd, .int (nI r0.2.1), .int (iI r0.2.2)])), (rd, .inl (cB, 1300, .inl r0.1))]) (rV (n := 1) (As := [.long (lN (2 ^ (Q9 % 29)))]) (rest := []) hx hb hml hown hts (c_times m9 len code bits least held t.2 _ (2 ^ (Q9 % 29)) t.1 hN2 (Nat.pow_pos (by decide)) hp29 (row_b (row_b2 hc9 (by omega)) hp29) _) kw_3_38 kw_3_35 kw_3_37 kw_0_26 kw_1_5 (by decide +kernel) ⟨Nat.le_of_ble_eq_true rfl, Nat.le_of_ble_eq_true rfl⟩ hK hP hD [0, 1] rfl rfl 0 rfl rfl rfl rfl hl.1 rfl (lv_room (Nat.le_of_ble_eq_true rfl)) dM_row_87 ⟨Nat.le_of_ble_eq_true rfl, Nat.le_of_ble_eq_true rfl⟩) hP hD hS hA [0, 1] [2, 3] [2, 3, 0, 1] rfl rfl rfl (by decide) (fun _ => rfl) rfl (fun t2 H locs hN3 hP hD hS => ?_)
                  have hP : va_P G vwCl [(m9 0, .inr (5, [.ref (m9 1), .int len, .int code, .int bits, .int least, .ref (m9 2), .int (nI t2.2), .ref (m9 4), .ref (m9 6), .ref (m9 8), .ref (m9 10), .ref (m9 12), .ref (m9 3), .int held])), (m9 2, .inl (cJ, 160, .inr (.inl t2.1))), (rh, .inr (4, [.ref rd, .int (nI r0.2.1), .int (iI r0.2.2)])), (rd, .inl (cB, 1300, .inl r0.1))] H := hP
                  have hD : va_D A [(m9 0, .inr (5, [.ref (m9 1), .int len, .int code, .int bits, .int least, .ref (m9 2), .int (nI t2.2), .ref (m9 4), .ref (m9 6), .ref (m9 8), .ref (m9 10), .ref (m9 12), .ref (m9 3), .int held])), (m9 2, .inl (cJ, 160, .inr (.inl t2.1))), (rh, .inr (4, [.ref rd, .int (nI r0.2.1), .int (iI r0.2.2)])), (rd, .inl (cB, 1300, .inl r0.1))] := hD
                  rw [e9] at hN3
                  have hl : lv_has ls 9 [(0, .ref (m9 0)), (3, .int (iI ((Q9 : Int)))), (4, .ref rh)] := lv_sub hl [1, 2, 3] rfl
                  exact j90 t2 _ _ _ (hN3) hP hD hS hl
              · have h5 : ¬ (Q9 : Int) < ((k + 29 : Nat) : Int) := fun h => hc2 ((iI_lt (by omega) (by omega) (by omega) (by omega)).mpr h)
                have e9 : c9 * 2 ^ k * 2 ^ 29 = c9 * 2 ^ (k + 29) := by rw [Nat.mul_assoc, ← Nat.pow_add]
                refine lv_aload_n hx hb dM_row_63 rfl (lv_at hl 1 rfl) ?_
                refine lv_ldc2 (v := 536870912) hx hb hown (hts _ kw_3_34) dM_row_64 ?_
                refine tp_l (y := lN (2 ^ 29)) (by decide) ?_
                refine jnV (Wr := [(rh, .inr (4, [.ref rd, .int (nI r0.2.1), .int (iI r0.2.2)])), (rd, .inl (cB, 1300, .inl r0.1))]) (W2 := fun t2 => [(m9 0, .inr (5, [.ref (m9 1), .int len, .int code, .int bits, .int least, .ref (m9 2), .int (nI t2.2), .ref (m9 4), .ref (m9 6), .ref (m9 8), .ref (m9 10), .ref (m9 12), .ref (m9 3), .int held])), (m9 2, .inl (cJ, 160, .inr (.inl t2.1))), (rh, .inr (4, [.ref rd, .int (nI r0.2.1), .int (iI r0.2.2)])), (rd, .inl (cB, 1300, .inl r0.1))]) (rV (n := 1) (As := [.long (lN (2 ^ 29))]) (rest := []) hx hb hml hown hts (c_times m9 len code bits least held t.2 _ (2 ^ 29) t.1 hN2 (by decide) (Nat.le_refl _) (row_b (row_b2 hc9 (by omega)) (Nat.le_refl _)) _) kw_3_38 kw_3_35 kw_3_37 kw_0_26 kw_1_5 (by decide +kernel) ⟨Nat.le_of_ble_eq_true rfl, Nat.le_of_ble_eq_true rfl⟩ hK hP hD [0, 1] rfl rfl 0 rfl rfl rfl rfl hl.1 rfl (lv_room (Nat.le_of_ble_eq_true rfl)) dM_row_67 ⟨Nat.le_of_ble_eq_true rfl, Nat.le_of_ble_eq_true rfl⟩) hP hD hS hA [0, 1] [2, 3] [2, 3, 0, 1] rfl rfl rfl (by decide) (fun _ => rfl) rfl (fun t2 H locs hN3 hP hD hS => ?_)
                have hP : va_P G vwCl [(m9 0, .inr (5, [.ref (m9 1), .int len, .int code, .int bits, .int least, .ref (m9 2), .int (nI t2.2), .ref (m9 4), .ref (m9 6), .ref (m9 8), .ref (m9 10), .ref (m9 12), .ref (m9 3), .int held])), (m9 2, .inl (cJ, 160, .inr (.inl t2.1))), (rh, .inr (4, [.ref rd, .int (nI r0.2.1), .int (iI r0.2.2)])), (rd, .inl (cB, 1300, .inl r0.1))] H := hP
                have hD : va_D A [(m9 0, .inr (5, [.ref (m9 1), .int len, .int code, .int bits, .int least, .ref (m9 2), .int (nI t2.2), .ref (m9 4), .ref (m9 6), .ref (m9 8), .ref (m9 10), .ref (m9 12), .ref (m9 3), .int held])), (m9 2, .inl (cJ, 160, .inr (.inl t2.1))), (rh, .inr (4, [.ref rd, .int (nI r0.2.1), .int (iI r0.2.2)])), (rd, .inl (cB, 1300, .inl r0.1))] := hD
                rw [e9] at hN3
                refine lv_iinc (k := 0) (v := nI (k + 29)) hx hb dM_row_70 hl rfl (nI_add k 29) (by decide) rfl (fun ls hl => ?_)
                have hl : lv_has ls 9 [(5, .int (nI (k + 29))), (0, .ref (m9 0)), (3, .int (iI ((Q9 : Int)))), (4, .ref rh)] := hl
                refine lv_goto (tgt := 54) hx hb dM_row_73 (by decide) ?_
                have hl : lv_has ls 9 [(5, .int (nI (k + 29))), (0, .ref (m9 0)), (3, .int (iI ((Q9 : Int)))), (4, .ref rh)] := lv_sub hl [0, 1, 2, 3] rfl
                exact ih (k + 29) t2 _ _ _ (by omega) (by omega) (by omega) (hN3) hP hD hS hl
          exact l2 (_ + 1) 0 (f, u) _ _ _ (Nat.lt_succ_self _) (Nat.zero_le _) (rfl) (by rw [Nat.pow_zero, Nat.mul_one]; exact hN) hP hD hS hl
        · have h3 : ¬ x9 ≤ 0 := fun h => hc ((lg_cmp_le _ _).mpr ((pk_lLE (by omega) (by decide)).mpr h))
          have h4 := row_u hs (by omega) (by omega)
          refine lv_aload_n hx hb dM_row_15 rfl (lv_at hl 1 rfl) ?_
          refine va_get (D := G) (ci := 5) (v := .ref (m9 2)) (C := RM) (T := TM) (N := 14) hx hb hts inM hown hK hP 0 rfl rfl 5 (by decide) (hts _ kw_2_159) (fun _ h9 => h9) rfl dM_row_16 ?_
          refine lv_aload_n hx hb dM_row_19 rfl (lv_at hl 1 rfl) ?_
          refine va_get (D := G) (ci := 5) (v := .int (nI u)) (C := RM) (T := TM) (N := 14) hx hb hts inM hown hK hP 0 rfl rfl 6 (by decide) (hts _ kw_2_160) (fun _ h9 => h9) rfl dM_row_20 ?_
          refine lv_lload hx hb dM_row_23 (lv_at hl 0 rfl) ?_
          refine lv_ldc2 (v := 1000000000) hx hb hown (hts _ kw_3_33) dM_row_25 ?_
          refine tp_l (y := lN 1000000000) (rfl) ?_
          refine lv_lrem hx hb dM_row_28 (by decide) ?_
          refine tp_l (y := lN (x9 % 1000000000)) (pk_lRem (by omega) (by decide) (by decide)) ?_
          refine st_l hx hb hK hP hD hS 1 3 rfl rfl u (rfl) (by omega) (by decide) dM_row_29 (fun H locs hP hD hS => ?_)
          have hP : va_P G vwCl [(m9 0, .inr (5, [.ref (m9 1), .int len, .int code, .int bits, .int least, .ref (m9 2), .int (nI u), .ref (m9 4), .ref (m9 6), .ref (m9 8), .ref (m9 10), .ref (m9 12), .ref (m9 3), .int held])), (m9 2, .inl (cJ, 160, .inr (.inl (vp_updL f u (lN (x9 % 1000000000)))))), (rh, .inr (4, [.ref rd, .int (nI r0.2.1), .int (iI r0.2.2)])), (rd, .inl (cB, 1300, .inl r0.1))] H := hP
          have hD : va_D A [(m9 0, .inr (5, [.ref (m9 1), .int len, .int code, .int bits, .int least, .ref (m9 2), .int (nI u), .ref (m9 4), .ref (m9 6), .ref (m9 8), .ref (m9 10), .ref (m9 12), .ref (m9 3), .int held])), (m9 2, .inl (cJ, 160, .inr (.inl (vp_updL f u (lN (x9 % 1000000000)))))), (rh, .inr (4, [.ref rd, .int (nI r0.2.1), .int (iI r0.2.2)])), (rd, .inl (cB, 1300, .inl r0.1))] := hD
          refine lv_aload_n hx hb dM_row_30 rfl (lv_at hl 1 rfl) ?_
          refine lv_dup hx hb dM_row_31 rfl ?_
          refine va_get (D := G) (ci := 5) (v := .int (nI u)) (C := RM) (T := TM) (N := 14) hx hb hts inM hown hK hP 0 rfl rfl 6 (by decide) (hts _ kw_2_160) (fun _ h9 => h9) rfl dM_row_32 ?_
          refine lv_iconst (v := nI 1) hx hb dM_row_35 (by decide) ?_
          refine lv_iadd hx hb dM_row_36 ?_
          refine tp_i (y := nI (u + 1)) (nI_add u 1) ?_
          refine va_put (D := G) (ci := 5) (v := .int (nI (u + 1))) (C := RM) (T := TM) (N := 14) hx hb hts inM tyM tyM_ok nmM hown hK hP hD hS 0 rfl rfl 6 (by decide) (hts _ kw_2_160) (fun _ h9 => h9) rfl (tyM_ok 6 (by decide)) (rfl) (rfl) (Nat.le_of_ble_eq_true rfl) dM_row_37 (fun H locs hP hD hS => ?_)
          have hP : va_P G vwCl [(m9 0, .inr (5, [.ref (m9 1), .int len, .int code, .int bits, .int least, .ref (m9 2), .int (nI (u + 1)), .ref (m9 4), .ref (m9 6), .ref (m9 8), .ref (m9 10), .ref (m9 12), .ref (m9 3), .int held])), (m9 2, .inl (cJ, 160, .inr (.inl (vp_updL f u (lN (x9 % 1000000000)))))), (rh, .inr (4, [.ref rd, .int (nI r0.2.1), .int (iI r0.2.2)])), (rd, .inl (cB, 1300, .inl r0.1))] H := hP
          have hD : va_D A [(m9 0, .inr (5, [.ref (m9 1), .int len, .int code, .int bits, .int least, .ref (m9 2), .int (nI (u + 1)), .ref (m9 4), .ref (m9 6), .ref (m9 8), .ref (m9 10), .ref (m9 12), .ref (m9 3), .int held])), (m9 2, .inl (cJ, 160, .inr (.inl (vp_updL f u (lN (x9 % 1000000000)))))), (rh, .inr (4, [.ref rd, .int (nI r0.2.1), .int (iI r0.2.2)])), (rd, .inl (cB, 1300, .inl r0.1))] := hD
          refine lv_lload hx hb dM_row_40 (lv_at hl 0 rfl) ?_
          refine lv_ldc2 (v := 1000000000) hx hb hown (hts _ kw_3_33) dM_row_42 ?_
          refine tp_l (y := lN 1000000000) (rfl) ?_
          refine lv_ldiv hx hb dM_row_45 (by decide) ?_
          refine tp_l (y := lN (x9 / 1000000000)) (pk_lDiv (by omega) (by decide) (by decide)) ?_
          refine lv_lstore hx hb dM_row_46 hl (by decide) rfl (fun ls hl => ?_)
          have hl : lv_has ls 9 [(5, .long (lN (x9 / 1000000000))), (0, .ref (m9 0)), (3, .int (iI ((Q9 : Int)))), (4, .ref rh)] := hl
          refine lv_goto (tgt := 8) hx hb dM_row_48 (by decide) ?_
          exact ih (u + 1) (x9 / 1000000000) (vp_updL f u (lN (x9 % 1000000000))) _ _ _ (by omega) (by omega) (row_step hs) (fun j hj => by
              by_cases he : j = u
              · subst he; rw [pk_uLs, lu_lN (by omega)]; omega
              · rw [pk_uLn he]; exact hf9 j (by omega)) (by omega) hP hD hS hl
    exact l1 (_ + 1) 0 c9 f0 _ _ _ (Nat.lt_succ_self _) (by decide) (by show 0 + c9 * 1 = c9; omega) (fun j hj => absurd hj (Nat.not_lt_zero j)) (Nat.le_refl _) hP hD hS hl
  · obtain ⟨Q9, rfl⟩ : ∃ Q9 : Nat, q = -(Q9 : Int) := ⟨(-q).toNat, by omega⟩
    refine lv_aload_n hx hb dM_row_0 rfl (lv_at hl 0 rfl) ?_
    refine lv_iconst (v := nI 0) hx hb dM_row_1 (by decide) ?_
    refine va_put (D := G) (ci := 5) (v := .int (nI 0)) (C := RM) (T := TM) (N := 14) hx hb hts inM tyM tyM_ok nmM hown hK hP hD hS 0 rfl rfl 6 (by decide) (hts _ kw_2_160) (fun _ h9 => h9) rfl (tyM_ok 6 (by decide)) (rfl) (rfl) (Nat.le_of_ble_eq_true rfl) dM_row_2 (fun H locs hP hD hS => ?_)
    have hP : va_P G vwCl [(m9 0, .inr (5, [.ref (m9 1), .int len, .int code, .int bits, .int least, .ref (m9 2), .int (nI 0), .ref (m9 4), .ref (m9 6), .ref (m9 8), .ref (m9 10), .ref (m9 12), .ref (m9 3), .int held])), (m9 2, .inl (cJ, 160, .inr (.inl f0))), (rh, .inr (4, [.ref rd, .int (nI r0.2.1), .int (iI r0.2.2)])), (rd, .inl (cB, 1300, .inl r0.1))] H := hP
    have hD : va_D A [(m9 0, .inr (5, [.ref (m9 1), .int len, .int code, .int bits, .int least, .ref (m9 2), .int (nI 0), .ref (m9 4), .ref (m9 6), .ref (m9 8), .ref (m9 10), .ref (m9 12), .ref (m9 3), .int held])), (m9 2, .inl (cJ, 160, .inr (.inl f0))), (rh, .inr (4, [.ref rd, .int (nI r0.2.1), .int (iI r0.2.2)])), (rd, .inl (cB, 1300, .inl r0.1))] := hD
    refine lv_lload_n hx hb dM_row_5 rfl (lv_at hl 1 rfl) ?_
    refine lv_lstore hx hb dM_row_6 hl (by decide) rfl (fun ls hl => ?_)
    have hl : lv_has ls 9 [(5, .long (lN c9)), (0, .ref (m9 0)), (1, .long (lN c9)), (3, .int (iI (-(Q9 : Int)))), (4, .ref rh)] := hl
    have hl : lv_has ls 9 [(5, .long (lN c9)), (0, .ref (m9 0)), (3, .int (iI (-(Q9 : Int)))), (4, .ref rh)] := lv_sub hl [0, 1, 3, 4] rfl
    have l1 : ∀ (fu : Nat) (u : Nat) (x9 : Nat) (f : Nat → Int64) (H : Heap) (locs : List Loc) (ls : Array Slot), x9 < fu → u ≤ 2 → nw f u + x9 * 10 ^ (9 * u) = c9 → (∀ j, j < u → lu (f j) < 1000000000) → x9 ≤ c9 → va_P G vwCl [(m9 0, .inr (5, [.ref (m9 1), .int len, .int code, .int bits, .int least, .ref (m9 2), .int (nI u), .ref (m9 4), .ref (m9 6), .ref (m9 8), .ref (m9 10), .ref (m9 12), .ref (m9 3), .int held])), (m9 2, .inl (cJ, 160, .inr (.inl f))), (rh, .inr (4, [.ref rd, .int (nI r0.2.1), .int (iI r0.2.2)])), (rd, .inl (cB, 1300, .inl r0.1))] H → va_D A [(m9 0, .inr (5, [.ref (m9 1), .int len, .int code, .int bits, .int least, .ref (m9 2), .int (nI u), .ref (m9 4), .ref (m9 6), .ref (m9 8), .ref (m9 10), .ref (m9 12), .ref (m9 3), .int held])), (m9 2, .inl (cJ, 160, .inr (.inl f))), (rh, .inr (4, [.ref rd, .int (nI r0.2.1), .int (iI r0.2.2)])), (rd, .inl (cB, 1300, .inl r0.1))] → va_S A s.heap H locs → lv_has ls 9 [(5, .long (lN x9)), (0, .ref (m9 0)), (3, .int (iI (-(Q9 : Int)))), (4, .ref rh)] → W p l e rmM_row s m args below meth c H locs 0 0 Q (F0 m 8 ls []) := by
      intro fu
      induction fu with
      | zero => intro u x9 f H locs ls hfu; exact absurd hfu (Nat.not_lt_zero _)
      | succ fu ih =>
        intro u x9 f H locs ls hfu hu hs hf9 hx8 hP hD hS hl
        refine lv_lload hx hb dM_row_8 (lv_at hl 0 rfl) ?_
        refine lv_lconst (v := lN 0) hx hb dM_row_10 (by decide) ?_
        refine W.lcmp hx hb dM_row_11 ?_
        refine lv_if_le (tgt := 51) hx hb dM_row_12 (by decide) (fun hc => ?_) (fun hc => ?_)
        · have h3 : x9 ≤ 0 := (pk_lLE (by omega) (by decide)).mp ((lg_cmp_le _ _).mp hc)
          have h4 : x9 = 0 := by omega
          subst h4
          have hN : Nw f u c9 := ⟨by omega, hf9, by rw [← hs]; omega⟩
          clear ih hfu
          have hl : lv_has ls 9 [(0, .ref (m9 0)), (3, .int (iI (-(Q9 : Int)))), (4, .ref rh)] := lv_sub hl [1, 2, 3] rfl
          have hQ0 : 0 < Q9 := by omega
          refine lv_iconst (v := nI 0) hx hb dM_row_51 (by decide) ?_
          refine lv_istore hx hb dM_row_52 hl (by decide) rfl (fun ls hl => ?_)
          have hl : lv_has ls 9 [(5, .int (nI 0)), (0, .ref (m9 0)), (3, .int (iI (-(Q9 : Int)))), (4, .ref rh)] := hl
          refine lv_iload hx hb dM_row_54 (lv_at hl 0 rfl) ?_
          refine lv_bipush (v := nI 29) hx hb dM_row_56 (by decide) ?_
          refine lv_iadd hx hb dM_row_58 ?_
          refine tp_i (y := iI 29) (rfl) ?_
          refine lv_iload_n hx hb dM_row_59 rfl (lv_at hl 2 rfl) ?_
          refine lv_icmp_gt (tgt := 76) hx hb dM_row_60 (by decide) (fun _ => ?_) (fun hc => absurd ((iI_lt (by omega) (by omega) (by decide) (by decide)).mpr (by omega)) hc)
          refine lv_iload_n hx hb dM_row_76 rfl (lv_at hl 2 rfl) ?_
          refine lv_if_le (tgt := 90) hx hb dM_row_77 (by decide) (fun _ => ?_) (fun hc => absurd ((iI_le (b := 0) (by omega) (by omega) (by decide) (by decide)).mpr (by omega)) hc)
          refine lv_iconst (v := nI 0) hx hb dM_row_90 (by decide) ?_
          refine lv_istore hx hb dM_row_91 hl (by decide) rfl (fun ls hl => ?_)
          have hl : lv_has ls 9 [(5, .int (nI 0)), (0, .ref (m9 0)), (3, .int (iI (-(Q9 : Int)))), (4, .ref rh)] := hl
          have hl : lv_has ls 9 [(5, .int (nI 0)), (0, .ref (m9 0)), (3, .int (iI (-(Q9 : Int)))), (4, .ref rh)] := lv_sub hl [0, 1, 2, 3] rfl
          have l2 : ∀ (fu : Nat) (k : Nat) (t : (Nat → Int64) × Nat) (H : Heap) (locs : List Loc) (ls : Array Slot), Q9 - k < fu → k ≤ Q9 → k % 12 = 0 → Nw t.1 t.2 (c9 * 5 ^ k) → va_P G vwCl [(m9 0, .inr (5, [.ref (m9 1), .int len, .int code, .int bits, .int least, .ref (m9 2), .int (nI t.2), .ref (m9 4), .ref (m9 6), .ref (m9 8), .ref (m9 10), .ref (m9 12), .ref (m9 3), .int held])), (m9 2, .inl (cJ, 160, .inr (.inl t.1))), (rh, .inr (4, [.ref rd, .int (nI r0.2.1), .int (iI r0.2.2)])), (rd, .inl (cB, 1300, .inl r0.1))] H → va_D A [(m9 0, .inr (5, [.ref (m9 1), .int len, .int code, .int bits, .int least, .ref (m9 2), .int (nI t.2), .ref (m9 4), .ref (m9 6), .ref (m9 8), .ref (m9 10), .ref (m9 12), .ref (m9 3), .int held])), (m9 2, .inl (cJ, 160, .inr (.inl t.1))), (rh, .inr (4, [.ref rd, .int (nI r0.2.1), .int (iI r0.2.2)])), (rd, .inl (cB, 1300, .inl r0.1))] → va_S A s.heap H locs → lv_has ls 9 [(5, .int (nI k)), (0, .ref (m9 0)), (3, .int (iI (-(Q9 : Int)))), (4, .ref rh)] → W p l e rmM_row s m args below meth c H locs 0 0 Q (F0 m 93 ls []) := by
            intro fu
            induction fu with
            | zero => intro k t H locs ls hfu; exact absurd hfu (Nat.not_lt_zero _)
            | succ fu ih =>
              intro k t H locs ls hfu hk hk12 hN2 hP hD hS hl
              refine lv_iload hx hb dM_row_93 (lv_at hl 0 rfl) ?_
              refine lv_bipush (v := nI 12) hx hb dM_row_95 (by decide) ?_
              refine lv_iadd hx hb dM_row_97 ?_
              refine tp_i (y := nI (k + 12)) (nI_add k 12) ?_
              refine lv_iload_n hx hb dM_row_98 rfl (lv_at hl 2 rfl) ?_
              refine lv_ineg hx hb dM_row_99 ?_
              refine tp_i (y := nI Q9) (by rw [iI_neg, Int.neg_neg, iI_nat]) ?_
              refine lv_icmp_gt (tgt := 116) hx hb dM_row_100 (by decide) (fun hc2 => ?_) (fun hc2 => ?_)
              · have h5 : Q9 < k + 12 := (nI_ltI (by omega) (by omega)).mp hc2
                clear ih hfu
                refine lv_iconst (v := nI 0) hx hb dM_row_116 (by decide) ?_
                refine lv_istore hx hb dM_row_117 hl (by decide) rfl (fun ls hl => ?_)
                have hl : lv_has ls 9 [(5, .int (nI 0)), (0, .ref (m9 0)), (3, .int (iI (-(Q9 : Int)))), (4, .ref rh)] := hl
                have hl : lv_has ls 9 [(5, .int (nI 0)), (0, .ref (m9 0)), (3, .int (iI (-(Q9 : Int)))), (4, .ref rh)] := lv_sub hl [0, 1, 2, 3] rfl
                have l3 : ∀ (fu : Nat) (i : Nat) (t3 : (Nat → Int64) × Nat) (H : Heap) (locs : List Loc) (ls : Array Slot), Q9 % 12 - i < fu → i ≤ Q9 % 12 → Nw t3.1 t3.2 (c9 * 5 ^ (k + i)) → va_P G vwCl [(m9 0, .inr (5, [.ref (m9 1), .int len, .int code, .int bits, .int least, .ref (m9 2), .int (nI t3.2), .ref (m9 4), .ref (m9 6), .ref (m9 8), .ref (m9 10), .ref (m9 12), .ref (m9 3), .int held])), (m9 2, .inl (cJ, 160, .inr (.inl t3.1))), (rh, .inr (4, [.ref rd, .int (nI r0.2.1), .int (iI r0.2.2)])), (rd, .inl (cB, 1300, .inl r0.1))] H → va_D A [(m9 0, .inr (5, [.ref (m9 1), .int len, .int code, .int bits, .int least, .ref (m9 2), .int (nI t3.2), .ref (m9 4), .ref (m9 6), .ref (m9 8), .ref (m9 10), .ref (m9 12), .ref (m9 3), .int held])), (m9 2, .inl (cJ, 160, .inr (.inl t3.1))), (rh, .inr (4, [.ref rd, .int (nI r0.2.1), .int (iI r0.2.2)])), (rd, .inl (cB, 1300, .inl r0.1))] → va_S A s.heap H locs → lv_has ls 9 [(5, .int (nI i)), (0, .ref (m9 0)), (3, .int (iI (-(Q9 : Int)))), (4, .ref rh)] → W p l e rmM_row s m args below meth c H locs 0 0 Q (F0 m 119 ls []) := by
                  intro fu
                  induction fu with
                  | zero => intro i t3 H locs ls hfu; exact absurd hfu (Nat.not_lt_zero _)
                  | succ fu ih =>
                    intro i t3 H locs ls hfu hi hN3 hP hD hS hl
                    refine lv_iload hx hb dM_row_119 (lv_at hl 0 rfl) ?_
                    refine lv_iload_n hx hb dM_row_121 rfl (lv_at hl 2 rfl) ?_
                    refine lv_if_ge (tgt := 133) hx hb dM_row_122 (by decide) (fun hc => absurd hc (fun h => by have := (iI_le (a := 0) (by decide) (by decide) (by omega) (by omega)).mp h; omega)) (fun _ => ?_)
                    refine lv_iload_n hx hb dM_row_125 rfl (lv_at hl 2 rfl) ?_
                    refine lv_ineg hx hb dM_row_126 ?_
                    refine tp_i (y := nI Q9) (by rw [iI_neg, Int.neg_neg, iI_nat]) ?_
                    refine lv_bipush (v := nI 12) hx hb dM_row_127 (by decide) ?_
                    refine lv_irem hx hb dM_row_129 (by decide) ?_
                    refine tp_i (y := nI (Q9 % 12)) (pk_rem (by omega) (by decide) (by decide)) ?_
                    refine lv_goto (tgt := 134) hx hb dM_row_130 (by decide) ?_
                    refine lv_icmp_ge (tgt := 150) hx hb dM_row_134 (by decide) (fun hc3 => ?_) (fun hc3 => ?_)
                    · have h6 : Q9 % 12 ≤ i := (nI_leI (by omega) (by omega)).mp hc3
                      have e9 : k + i = Q9 := by omega
                      rw [e9] at hN3
                      have hl : lv_has ls 9 [(0, .ref (m9 0)), (3, .int (iI (-(Q9 : Int)))), (4, .ref rh)] := lv_sub hl [1, 2, 3] rfl
                      exact j150 t3.1 t3.2 (c9 * 5 ^ Q9) (-(Q9 : Int)) _ _ _ (hN3) (Nat.mul_pos hc0 (Nat.pow_pos (by decide))) (row_b5 hc9 (by omega)) (by omega) (by rw [show (-(Q9 : Int) + 1100).toNat = 1100 - Q9 by omega]; exact xv_neg (by omega)) hP hD hS hl
                    · have h6 : i < Q9 % 12 := by
                        rcases Nat.lt_or_ge i (Q9 % 12) with h | h
                        · exact h
                        · exact absurd (nI_le h (by omega)) hc3
                      have e9 : c9 * 5 ^ (k + i) * 5 = c9 * 5 ^ (k + (i + 1)) := by rw [Nat.mul_assoc, ← Nat.pow_succ]; rfl
                      refine lv_aload_n hx hb dM_row_137 rfl (lv_at hl 1 rfl) ?_
                      refine lv_ldc2 (v := 5) hx hb hown (hts _ kw_3_40) dM_row_138 ?_
                      refine tp_l (y := lN 5) (rfl) ?_
                      refine jnV (Wr := [(rh, .inr (4, [.ref rd, .int (nI r0.2.1), .int (iI r0.2.2)])), (rd, .inl (cB, 1300, .inl r0.1))]) (W2 := fun t4 => [(m9 0, .inr (5, [.ref (m9 1), .int len, .int code, .int bits, .int least, .ref (m9 2), .int (nI t4.2), .ref (m9 4), .ref (m9 6), .ref (m9 8), .ref (m9 10), .ref (m9 12), .ref (m9 3), .int held])), (m9 2, .inl (cJ, 160, .inr (.inl t4.1))), (rh, .inr (4, [.ref rd, .int (nI r0.2.1), .int (iI r0.2.2)])), (rd, .inl (cB, 1300, .inl r0.1))]) (rV (n := 1) (As := [.long (lN 5)]) (rest := []) hx hb hml hown hts (c_times m9 len code bits least held t3.2 _ 5 t3.1 hN3 (by decide) (by decide) (row_b (row_b5 hc9 (by omega)) (by decide)) _) kw_3_38 kw_3_35 kw_3_37 kw_0_26 kw_1_5 (by decide +kernel) ⟨Nat.le_of_ble_eq_true rfl, Nat.le_of_ble_eq_true rfl⟩ hK hP hD [0, 1] rfl rfl 0 rfl rfl rfl rfl hl.1 rfl (lv_room (Nat.le_of_ble_eq_true rfl)) dM_row_141 ⟨Nat.le_of_ble_eq_true rfl, Nat.le_of_ble_eq_true rfl⟩) hP hD hS hA [0, 1] [2, 3] [2, 3, 0, 1] rfl rfl rfl (by decide) (fun _ => rfl) rfl (fun t4 H locs hN4 hP hD hS => ?_)
                      have hP : va_P G vwCl [(m9 0, .inr (5, [.ref (m9 1), .int len, .int code, .int bits, .int least, .ref (m9 2), .int (nI t4.2), .ref (m9 4), .ref (m9 6), .ref (m9 8), .ref (m9 10), .ref (m9 12), .ref (m9 3), .int held])), (m9 2, .inl (cJ, 160, .inr (.inl t4.1))), (rh, .inr (4, [.ref rd, .int (nI r0.2.1), .int (iI r0.2.2)])), (rd, .inl (cB, 1300, .inl r0.1))] H := hP
                      have hD : va_D A [(m9 0, .inr (5, [.ref (m9 1), .int len, .int code, .int bits, .int least, .ref (m9 2), .int (nI t4.2), .ref (m9 4), .ref (m9 6), .ref (m9 8), .ref (m9 10), .ref (m9 12), .ref (m9 3), .int held])), (m9 2, .inl (cJ, 160, .inr (.inl t4.1))), (rh, .inr (4, [.ref rd, .int (nI r0.2.1), .int (iI r0.2.2)])), (rd, .inl (cB, 1300, .inl r0.1))] := hD
                      rw [e9] at hN4
                      refine lv_iinc (k := 0) (v := nI (i + 1)) hx hb dM_row_144 hl rfl (nI_1 i) (by decide) rfl (fun ls hl => ?_)
                      have hl : lv_has ls 9 [(5, .int (nI (i + 1))), (0, .ref (m9 0)), (3, .int (iI (-(Q9 : Int)))), (4, .ref rh)] := hl
                      refine lv_goto (tgt := 119) hx hb dM_row_147 (by decide) ?_
                      have hl : lv_has ls 9 [(5, .int (nI (i + 1))), (0, .ref (m9 0)), (3, .int (iI (-(Q9 : Int)))), (4, .ref rh)] := lv_sub hl [0, 1, 2, 3] rfl
                      exact ih (i + 1) t4 _ _ _ (by omega) (by omega) (hN4) hP hD hS hl
                exact l3 (_ + 1) 0 t _ _ _ (Nat.lt_succ_self _) (Nat.zero_le _) (hN2) hP hD hS hl
              · have h5 : ¬ Q9 < k + 12 := fun h => hc2 ((nI_ltI (by omega) (by omega)).mpr h)
                have e9 : c9 * 5 ^ k * 244140625 = c9 * 5 ^ (k + 12) := by rw [Nat.mul_assoc, show 244140625 = 5 ^ 12 by decide, ← Nat.pow_add]
                refine lv_aload_n hx hb dM_row_103 rfl (lv_at hl 1 rfl) ?_
                refine lv_ldc2 (v := 244140625) hx hb hown (hts _ kw_3_39) dM_row_104 ?_
                refine tp_l (y := lN 244140625) (rfl) ?_
                refine jnV (Wr := [(rh, .inr (4, [.ref rd, .int (nI r0.2.1), .int (iI r0.2.2)])), (rd, .inl (cB, 1300, .inl r0.1))]) (W2 := fun t2 => [(m9 0, .inr (5, [.ref (m9 1), .int len, .int code, .int bits, .int least, .ref (m9 2), .int (nI t2.2), .ref (m9 4), .ref (m9 6), .ref (m9 8), .ref (m9 10), .ref (m9 12), .ref (m9 3), .int held])), (m9 2, .inl (cJ, 160, .inr (.inl t2.1))), (rh, .inr (4, [.ref rd, .int (nI r0.2.1), .int (iI r0.2.2)])), (rd, .inl (cB, 1300, .inl r0.1))]) (rV (n := 1) (As := [.long (lN 244140625)]) (rest := []) hx hb hml hown hts (c_times m9 len code bits least held t.2 _ 244140625 t.1 hN2 (by decide) (by decide) (row_b (row_b5 hc9 (by omega)) (by decide)) _) kw_3_38 kw_3_35 kw_3_37 kw_0_26 kw_1_5 (by decide +kernel) ⟨Nat.le_of_ble_eq_true rfl, Nat.le_of_ble_eq_true rfl⟩ hK hP hD [0, 1] rfl rfl 0 rfl rfl rfl rfl hl.1 rfl (lv_room (Nat.le_of_ble_eq_true rfl)) dM_row_107 ⟨Nat.le_of_ble_eq_true rfl, Nat.le_of_ble_eq_true rfl⟩) hP hD hS hA [0, 1] [2, 3] [2, 3, 0, 1] rfl rfl rfl (by decide) (fun _ => rfl) rfl (fun t2 H locs hN3 hP hD hS => ?_)
                have hP : va_P G vwCl [(m9 0, .inr (5, [.ref (m9 1), .int len, .int code, .int bits, .int least, .ref (m9 2), .int (nI t2.2), .ref (m9 4), .ref (m9 6), .ref (m9 8), .ref (m9 10), .ref (m9 12), .ref (m9 3), .int held])), (m9 2, .inl (cJ, 160, .inr (.inl t2.1))), (rh, .inr (4, [.ref rd, .int (nI r0.2.1), .int (iI r0.2.2)])), (rd, .inl (cB, 1300, .inl r0.1))] H := hP
                have hD : va_D A [(m9 0, .inr (5, [.ref (m9 1), .int len, .int code, .int bits, .int least, .ref (m9 2), .int (nI t2.2), .ref (m9 4), .ref (m9 6), .ref (m9 8), .ref (m9 10), .ref (m9 12), .ref (m9 3), .int held])), (m9 2, .inl (cJ, 160, .inr (.inl t2.1))), (rh, .inr (4, [.ref rd, .int (nI r0.2.1), .int (iI r0.2.2)])), (rd, .inl (cB, 1300, .inl r0.1))] := hD
                rw [e9] at hN3
                refine lv_iinc (k := 0) (v := nI (k + 12)) hx hb dM_row_110 hl rfl (nI_add k 12) (by decide) rfl (fun ls hl => ?_)
                have hl : lv_has ls 9 [(5, .int (nI (k + 12))), (0, .ref (m9 0)), (3, .int (iI (-(Q9 : Int)))), (4, .ref rh)] := hl
                refine lv_goto (tgt := 93) hx hb dM_row_113 (by decide) ?_
                have hl : lv_has ls 9 [(5, .int (nI (k + 12))), (0, .ref (m9 0)), (3, .int (iI (-(Q9 : Int)))), (4, .ref rh)] := lv_sub hl [0, 1, 2, 3] rfl
                exact ih (k + 12) t2 _ _ _ (by omega) (by omega) (by omega) (hN3) hP hD hS hl
          exact l2 (_ + 1) 0 (f, u) _ _ _ (Nat.lt_succ_self _) (Nat.zero_le _) (rfl) (by rw [Nat.pow_zero, Nat.mul_one]; exact hN) hP hD hS hl
        · have h3 : ¬ x9 ≤ 0 := fun h => hc ((lg_cmp_le _ _).mpr ((pk_lLE (by omega) (by decide)).mpr h))
          have h4 := row_u hs (by omega) (by omega)
          refine lv_aload_n hx hb dM_row_15 rfl (lv_at hl 1 rfl) ?_
          refine va_get (D := G) (ci := 5) (v := .ref (m9 2)) (C := RM) (T := TM) (N := 14) hx hb hts inM hown hK hP 0 rfl rfl 5 (by decide) (hts _ kw_2_159) (fun _ h9 => h9) rfl dM_row_16 ?_
          refine lv_aload_n hx hb dM_row_19 rfl (lv_at hl 1 rfl) ?_
          refine va_get (D := G) (ci := 5) (v := .int (nI u)) (C := RM) (T := TM) (N := 14) hx hb hts inM hown hK hP 0 rfl rfl 6 (by decide) (hts _ kw_2_160) (fun _ h9 => h9) rfl dM_row_20 ?_
          refine lv_lload hx hb dM_row_23 (lv_at hl 0 rfl) ?_
          refine lv_ldc2 (v := 1000000000) hx hb hown (hts _ kw_3_33) dM_row_25 ?_
          refine tp_l (y := lN 1000000000) (rfl) ?_
          refine lv_lrem hx hb dM_row_28 (by decide) ?_
          refine tp_l (y := lN (x9 % 1000000000)) (pk_lRem (by omega) (by decide) (by decide)) ?_
          refine st_l hx hb hK hP hD hS 1 3 rfl rfl u (rfl) (by omega) (by decide) dM_row_29 (fun H locs hP hD hS => ?_)
          have hP : va_P G vwCl [(m9 0, .inr (5, [.ref (m9 1), .int len, .int code, .int bits, .int least, .ref (m9 2), .int (nI u), .ref (m9 4), .ref (m9 6), .ref (m9 8), .ref (m9 10), .ref (m9 12), .ref (m9 3), .int held])), (m9 2, .inl (cJ, 160, .inr (.inl (vp_updL f u (lN (x9 % 1000000000)))))), (rh, .inr (4, [.ref rd, .int (nI r0.2.1), .int (iI r0.2.2)])), (rd, .inl (cB, 1300, .inl r0.1))] H := hP
          have hD : va_D A [(m9 0, .inr (5, [.ref (m9 1), .int len, .int code, .int bits, .int least, .ref (m9 2), .int (nI u), .ref (m9 4), .ref (m9 6), .ref (m9 8), .ref (m9 10), .ref (m9 12), .ref (m9 3), .int held])), (m9 2, .inl (cJ, 160, .inr (.inl (vp_updL f u (lN (x9 % 1000000000)))))), (rh, .inr (4, [.ref rd, .int (nI r0.2.1), .int (iI r0.2.2)])), (rd, .inl (cB, 1300, .inl r0.1))] := hD
          refine lv_aload_n hx hb dM_row_30 rfl (lv_at hl 1 rfl) ?_
          refine lv_dup hx hb dM_row_31 rfl ?_
          refine va_get (D := G) (ci := 5) (v := .int (nI u)) (C := RM) (T := TM) (N := 14) hx hb hts inM hown hK hP 0 rfl rfl 6 (by decide) (hts _ kw_2_160) (fun _ h9 => h9) rfl dM_row_32 ?_
          refine lv_iconst (v := nI 1) hx hb dM_row_35 (by decide) ?_
          refine lv_iadd hx hb dM_row_36 ?_
          refine tp_i (y := nI (u + 1)) (nI_add u 1) ?_
          refine va_put (D := G) (ci := 5) (v := .int (nI (u + 1))) (C := RM) (T := TM) (N := 14) hx hb hts inM tyM tyM_ok nmM hown hK hP hD hS 0 rfl rfl 6 (by decide) (hts _ kw_2_160) (fun _ h9 => h9) rfl (tyM_ok 6 (by decide)) (rfl) (rfl) (Nat.le_of_ble_eq_true rfl) dM_row_37 (fun H locs hP hD hS => ?_)
          have hP : va_P G vwCl [(m9 0, .inr (5, [.ref (m9 1), .int len, .int code, .int bits, .int least, .ref (m9 2), .int (nI (u + 1)), .ref (m9 4), .ref (m9 6), .ref (m9 8), .ref (m9 10), .ref (m9 12), .ref (m9 3), .int held])), (m9 2, .inl (cJ, 160, .inr (.inl (vp_updL f u (lN (x9 % 1000000000)))))), (rh, .inr (4, [.ref rd, .int (nI r0.2.1), .int (iI r0.2.2)])), (rd, .inl (cB, 1300, .inl r0.1))] H := hP
          have hD : va_D A [(m9 0, .inr (5, [.ref (m9 1), .int len, .int code, .int bits, .int least, .ref (m9 2), .int (nI (u + 1)), .ref (m9 4), .ref (m9 6), .ref (m9 8), .ref (m9 10), .ref (m9 12), .ref (m9 3), .int held])), (m9 2, .inl (cJ, 160, .inr (.inl (vp_updL f u (lN (x9 % 1000000000)))))), (rh, .inr (4, [.ref rd, .int (nI r0.2.1), .int (iI r0.2.2)])), (rd, .inl (cB, 1300, .inl r0.1))] := hD
          refine lv_lload hx hb dM_row_40 (lv_at hl 0 rfl) ?_
          refine lv_ldc2 (v := 1000000000) hx hb hown (hts _ kw_3_33) dM_row_42 ?_
          refine tp_l (y := lN 1000000000) (rfl) ?_
          refine lv_ldiv hx hb dM_row_45 (by decide) ?_
          refine tp_l (y := lN (x9 / 1000000000)) (pk_lDiv (by omega) (by decide) (by decide)) ?_
          refine lv_lstore hx hb dM_row_46 hl (by decide) rfl (fun ls hl => ?_)
          have hl : lv_has ls 9 [(5, .long (lN (x9 / 1000000000))), (0, .ref (m9 0)), (3, .int (iI (-(Q9 : Int)))), (4, .ref rh)] := hl
          refine lv_goto (tgt := 8) hx hb dM_row_48 (by decide) ?_
          exact ih (u + 1) (x9 / 1000000000) (vp_updL f u (lN (x9 % 1000000000))) _ _ _ (by omega) (by omega) (row_step hs) (fun j hj => by
              by_cases he : j = u
              · subst he; rw [pk_uLs, lu_lN (by omega)]; omega
              · rw [pk_uLn he]; exact hf9 j (by omega)) (by omega) hP hD hS hl
    exact l1 (_ + 1) 0 c9 f0 _ _ _ (Nat.lt_succ_self _) (by decide) (by show 0 + c9 * 1 = c9; omega) (fun j hj => absurd hj (Nat.not_lt_zero j)) (Nat.le_refl _) hP hD hS hl
end MOROW
