section LWORD
variable {l : Launch} {G : va_G} {cI cB cC cJ : ClassId}
def noE : (Nat → Prop) → State → Heap → Prop := fun _ _ _ => True
theorem noE_ok : EOk noE := ⟨fun _ _ _ _ _ h => h, fun _ _ _ _ _ h => h, fun _ _ _ _ _ h => h, fun _ _ _ _ _ h => h⟩
abbrev rmLW : Room := { frames := 3, cells := 1, slots := 6, locals := 224 }
abbrev rmLT : Room := { frames := 7, cells := 1, slots := 6, locals := 130 }
abbrev hhL : List (Nat × Nat × Nat × Nat) := [(0, 8, 11, 13)]
set_option maxRecDepth 100000 in
set_option maxHeartbeats 1500000 in
theorem c_Lword (hp ht kl a0 ob i : Nat) (f : Nat → Int32) (L : List Nat) (fo : Nat → Int64) (hT : Tx f L) (hi : i < L.length) : CWi noE l G (tyL cI cB cC cJ) yL_word cL_word 4 hhL .int rmLW [.ref hp, .int (nI i), .ref ob] ((hp, .inr (3, [.ref ht, .ref a0])) :: wT cB ht kl f L.length ++ [(ob, .inl (cJ, 1, .inr (.inl fo)))]) (fun r (_ : Unit) => r = nI 0) (fun _ => ((hp, .inr (3, [.ref ht, .ref a0])) :: wT cB ht kl f L.length ++ [(ob, .inl (cJ, 1, .inr (.inl (vp_updL fo 0 (lN (word8 L i 8))))))])) := by
  refine mkIW cL_word 4 hhL "ShortestPrinterLaw" .int (by decide) rfl (Nat.le_of_ble_eq_true rfl) ?_
  intro p e s m args below meth c A Q ls hx hb hml htab hts hown hK hP hD hA hE hl fin
  have hS : va_S A s.heap s.heap [] := va_S.rf
  have hl : lv_has ls 4 [(0, .ref hp), (1, .int (nI i)), (2, .ref ob)] := hl
  have hP : va_P G vwCl [(hp, .inr (3, [.ref ht, .ref a0])), (ht, .inr (2, [.ref kl, .int (nI L.length)])), (kl, .inl (cB, 24, .inl f)), (ob, .inl (cJ, 1, .inr (.inl fo)))] s.heap := hP
  have hD : va_D A [(hp, .inr (3, [.ref ht, .ref a0])), (ht, .inr (2, [.ref kl, .int (nI L.length)])), (kl, .inl (cB, 24, .inl f)), (ob, .inl (cJ, 1, .inr (.inl fo)))] := hD
  have hS0 := hS
  refine lv_aload_n hx hb dL_word_0 rfl (lv_at hl 2 rfl) ?_
  refine lv_iconst (v := nI 0) hx hb dL_word_1 (by decide) ?_
  refine lv_aload_n hx hb dL_word_2 rfl (lv_at hl 0 rfl) ?_
  refine lv_iload_n hx hb dL_word_3 rfl (lv_at hl 1 rfl) ?_
  refine jnL (Wr := [(ob, .inl (cJ, 1, .inr (.inl fo)))]) (W2 := fun y => [(hp, .inr (3, [.ref ht, .ref a0])), (ht, .inr (2, [.ref kl, .int (nI L.length)])), (kl, .inl (cB, 24, .inl f)), (ob, .inl (cJ, 1, .inr (.inl fo)))]) (rV (n := 1) (As := [.int (nI i)]) (rest := [.int (nI 0), .ref ob]) hx hb hml hown hts (c_word hp ht kl a0 i f L hT hi _) kw_2_59 kw_2_56 kw_2_57 kw_2_58 kw_1_1 (by decide +kernel) ⟨Nat.le_of_ble_eq_true rfl, Nat.le_of_ble_eq_true rfl⟩ hK hP hD [0, 1, 2] rfl rfl 0 rfl rfl rfl rfl hl.1 rfl (lv_room (Nat.le_of_ble_eq_true rfl)) dL_word_4 ⟨Nat.le_of_ble_eq_true rfl, Nat.le_of_ble_eq_true rfl⟩) hP hD hS hA [0, 1, 2] [3] [1, 2, 3, 0] rfl rfl rfl (by decide) (fun _ => rfl) rfl (fun o y H locs hq hP hD hS => ?_)
  have hP : va_P G vwCl [(hp, .inr (3, [.ref ht, .ref a0])), (ht, .inr (2, [.ref kl, .int (nI L.length)])), (kl, .inl (cB, 24, .inl f)), (ob, .inl (cJ, 1, .inr (.inl fo)))] H := hP
  have hD : va_D A [(hp, .inr (3, [.ref ht, .ref a0])), (ht, .inr (2, [.ref kl, .int (nI L.length)])), (kl, .inl (cB, 24, .inl f)), (ob, .inl (cJ, 1, .inr (.inl fo)))] := hD
  subst hq
  refine st_l hx hb hK hP hD hS 3 3 rfl rfl 0 (rfl) (by omega) (by decide) dL_word_7 (fun H locs hP hD hS => ?_)
  have hP : va_P G vwCl [(hp, .inr (3, [.ref ht, .ref a0])), (ht, .inr (2, [.ref kl, .int (nI L.length)])), (kl, .inl (cB, 24, .inl f)), (ob, .inl (cJ, 1, .inr (.inl (vp_updL fo 0 (lN (word8 L i 8))))))] H := hP
  have hD : va_D A [(hp, .inr (3, [.ref ht, .ref a0])), (ht, .inr (2, [.ref kl, .int (nI L.length)])), (kl, .inl (cB, 24, .inl f)), (ob, .inl (cJ, 1, .inr (.inl (vp_updL fo 0 (lN (word8 L i 8))))))] := hD
  refine lv_goto (tgt := 14) hx hb dL_word_8 (by decide) ?_
  refine lv_iconst (v := nI 0) hx hb dL_word_14 (by decide) ?_
  exact fin (nI 0) (()) _ _ _ _ dL_word_15 (rfl) (rfl) hP hD hS
set_option maxRecDepth 100000 in
set_option maxHeartbeats 1500000 in
theorem c_LwordT (hfl : l.flags = pinnedFlags ++ [noTraceFlag]) (hp ht kl a0 n ob : Nat) (z : Int) (hz1 : -2 ^ 31 ≤ z) (hz2 : z < 2 ^ 31) (hn : n ≤ 24) (hno : ¬ (0 ≤ z ∧ z < n)) : CWi (wtE G hp ht kl a0 n) l G (tyL cI cB cC cJ) yL_word cL_word 4 hhL .int rmLT [.ref hp, .int (iI z), .ref ob] [] (fun r (_ : Unit) => r = nI 1) (fun _ => []) := by
  refine mkIW cL_word 4 hhL "ShortestPrinterLaw" .int (by decide) rfl (Nat.le_of_ble_eq_true rfl) ?_
  intro p e s m args below meth c A Q ls hx hb hml htab hts hown hK hP hD hA hE hl fin
  have hS : va_S A s.heap s.heap [] := va_S.rf
  have hl : lv_has ls 4 [(0, .ref hp), (1, .int (iI z)), (2, .ref ob)] := hl
  have hP : va_P G vwCl [] s.heap := hP
  have hD : va_D A [] := hD
  have hE : wtE G hp ht kl a0 n A s s.heap := hE
  refine lv_aload_n hx hb dL_word_0 rfl (lv_at hl 2 rfl) ?_
  refine lv_iconst (v := nI 0) hx hb dL_word_1 (by decide) ?_
  refine lv_aload_n hx hb dL_word_2 rfl (lv_at hl 0 rfl) ?_
  refine lv_iload_n hx hb dL_word_3 rfl (lv_at hl 1 rfl) ?_
  obtain ⟨x9, hx9, hxx⟩ : ∃ x9 : ExceptionTableEntry, c.exceptionTable.toList = [x9] ∧ (x9.startPc, x9.endPc, x9.handlerPc, x9.catchType) = ((0 : Nat), (8 : Nat), (11 : Nat), (13 : Nat)) := by
    cases h9 : c.exceptionTable.toList with
    | nil => rw [h9] at htab; cases htab
    | cons a9 t9 =>
      rw [h9] at htab
      cases t9 with
      | nil => exact ⟨a9, rfl, by simpa using htab⟩
      | cons b9 t9 => simp at htab
  obtain ⟨s9, e9, p9, c9⟩ := x9
  simp only [Prod.mk.injEq] at hxx
  obtain ⟨rfl, rfl, rfl, rfl⟩ := hxx
  refine th_W (As := [.int (iI z)]) (rest := [.int (nI 0), .ref ob]) (n := 1) (C := "ShortestPrinter") hx hb hml hown hts (c_wordT (G := G) (cI := cI) (cB := cB) (cC := cC) (cJ := cJ) hfl hp ht kl a0 n z hz1 hz2 hn hno s.heap.size) kw_2_59 kw_2_56 kw_2_57 kw_2_58 kw_1_1 kw_2_55 (by decide +kernel) ⟨Nat.le_of_ble_eq_true rfl, Nat.le_of_ble_eq_true rfl⟩ (preSE (wtE_ok _ _ _ _ _ _) hE hS hA hK hP hD [] rfl rfl) (va_recv (q := (RP, TP, 2)) (ci := 3) (q0 := 0) hK hE.1.1 rfl rfl) hx9 (by decide) (by decide) rfl hl.1 (Nat.le_of_ble_eq_true rfl) dL_word_4 ⟨Nat.le_of_ble_eq_true rfl, Nat.le_of_ble_eq_true rfl⟩ (fun q9 H1 hz9 hk9 => ?_)
  have hS : va_S A s.heap H1 [] := ⟨hz9, fun x h1 _ => hk9 x h1, fun _ h => absurd h List.not_mem_nil⟩
  have hP : va_P G vwCl [] H1 := fun k9 q h => by cases h
  refine lv_astore_n hx hb dL_word_11 rfl hl (by decide) rfl (fun ls hl => ?_)
  have hl : lv_has ls 4 [(3, .ref q9), (0, .ref hp), (1, .int (iI z)), (2, .ref ob)] := hl
  refine lv_iconst (v := nI 1) hx hb dL_word_12 (by decide) ?_
  exact fin (nI 1) (()) _ _ _ _ dL_word_13 (rfl) (rfl) hP hD hS
end LWORD
