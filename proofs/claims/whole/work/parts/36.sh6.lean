section SHC
variable {l : Launch} {G : va_G} {cI cB cC cJ : ClassId}
abbrev rmS_find : Room := { frames := 4, cells := 0, slots := 0, locals := 101 }
set_option maxRecDepth 100000 in
set_option maxHeartbeats 4000000 in
theorem c_find (a : Nat → Nat) (nW nR nB nA nS : Q2) (d : Nat → Int32) (cnt pt : Int32) (c9 B qn : Nat) (cl : Bool) (hB : B ≤ 52) (h1 : 2 ^ B ≤ c9) (h2 : c9 < 2 ^ (B + 1)) (hl9 : qn + B < 2098) (hcl : cl = true → c9 ≤ 2 ^ 52) (hW : okN nW) (hR : okN nR) (hBq : okN nB) (hAq : okN nA) (hSq : okN nS) : CTv l G (tyL cI cB cC cJ) yS_find cS_find 11 rmS_find [.ref (a 0), .long (lN c9), .int (iI ((qn : Nat) - 1074 : Int)), .int (bI cl)] (wS cI cC a nW nR nB nA nS d cnt pt) (fun q : Q2 × Q2 × Q2 × Q2 × Q2 × (Nat → Int32) × (Nat → Nat) × Nat × Int => okN q.1 ∧ okN q.2.1 ∧ okN q.2.2.1 ∧ okN q.2.2.2.1 ∧ okN q.2.2.2.2.1 ∧ Dec qn c9 cl q.2.2.2.2.2.2.1 q.2.2.2.2.2.2.2.1 q.2.2.2.2.2.2.2.2 ∧ q.2.2.2.2.2.2.2.1 ≤ 17 ∧ (∀ j, j < q.2.2.2.2.2.2.2.1 → q.2.2.2.2.2.1 j = nI (48 + q.2.2.2.2.2.2.1 j) ∧ q.2.2.2.2.2.2.1 j < 10) ∧ -500 ≤ q.2.2.2.2.2.2.2.2 ∧ q.2.2.2.2.2.2.2.2 ≤ 500) (fun q => wS cI cC a q.1 q.2.1 q.2.2.1 q.2.2.2.1 q.2.2.2.2.1 q.2.2.2.2.2.1 (nI q.2.2.2.2.2.2.2.1) (iI q.2.2.2.2.2.2.2.2)) := by
  obtain ⟨vW, hW⟩ := hW
  obtain ⟨vR, hR⟩ := hR
  obtain ⟨vB, hBq⟩ := hBq
  obtain ⟨vA, hAq⟩ := hAq
  have hc53 : c9 < 2 ^ 53 := Nat.lt_of_lt_of_le h2 (Nat.pow_le_pow_right (by decide) (by omega))
  have hcp : 0 < c9 := Nat.lt_of_lt_of_le (Nat.pow_pos (by decide)) h1
  refine mkV cS_find 11 RS (by decide) rfl (Nat.le_of_ble_eq_true rfl) ?_
  intro p e s m args below meth c A Q ls hx hb hml hts hown hnm hK hP hD hA hl fin
  have hS : va_S A s.heap s.heap [] := va_S.rf
  have hl : lv_has ls 11 [(0, .ref (a 0)), (1, .long (lN c9)), (3, .int (iI ((qn : Nat) - 1074 : Int))), (4, .int (bI cl))] := hl
  have hP : va_P G vwCl [(a 0, .inr (1, [.ref (a 1), .ref (a 3), .ref (a 5), .ref (a 7), .ref (a 9), .ref (a 11), .int cnt, .int pt])), (a 1, .inr (0, [.ref (a 2), .int (nI nW.2)])), (a 2, .inl (cI, 28, .inl nW.1)), (a 3, .inr (0, [.ref (a 4), .int (nI nR.2)])), (a 4, .inl (cI, 28, .inl nR.1)), (a 5, .inr (0, [.ref (a 6), .int (nI nB.2)])), (a 6, .inl (cI, 28, .inl nB.1)), (a 7, .inr (0, [.ref (a 8), .int (nI nA.2)])), (a 8, .inl (cI, 28, .inl nA.1)), (a 9, .inr (0, [.ref (a 10), .int (nI nS.2)])), (a 10, .inl (cI, 28, .inl nS.1)), (a 11, .inl (cC, 17, .inl d))] s.heap := hP
  have hD : va_D A [(a 0, .inr (1, [.ref (a 1), .ref (a 3), .ref (a 5), .ref (a 7), .ref (a 9), .ref (a 11), .int cnt, .int pt])), (a 1, .inr (0, [.ref (a 2), .int (nI nW.2)])), (a 2, .inl (cI, 28, .inl nW.1)), (a 3, .inr (0, [.ref (a 4), .int (nI nR.2)])), (a 4, .inl (cI, 28, .inl nR.1)), (a 5, .inr (0, [.ref (a 6), .int (nI nB.2)])), (a 6, .inl (cI, 28, .inl nB.1)), (a 7, .inr (0, [.ref (a 8), .int (nI nA.2)])), (a 8, .inl (cI, 28, .inl nA.1)), (a 9, .inr (0, [.ref (a 10), .int (nI nS.2)])), (a 10, .inl (cI, 28, .inl nS.1)), (a 11, .inl (cC, 17, .inl d))] := hD
  refine lv_aload_n hx hb dS_find_0 rfl (lv_at hl 0 rfl) ?_
  refine lv_lload_n hx hb dS_find_1 rfl (lv_at hl 1 rfl) ?_
  refine lv_iload_n hx hb dS_find_2 rfl (lv_at hl 2 rfl) ?_
  refine lv_iload hx hb dS_find_3 (lv_at hl 3 rfl) ?_
  refine jnV (Wr := []) (W2 := fun t => [(a 0, .inr (1, [.ref (a 1), .ref (a 3), .ref (a 5), .ref (a 7), .ref (a 9), .ref (a 11), .int cnt, .int (iI ((t.2.2.2.2.1 : Nat) - 1100 : Int))])), (a 1, .inr (0, [.ref (a 2), .int (nI t.1.2)])), (a 2, .inl (cI, 28, .inl t.1.1)), (a 3, .inr (0, [.ref (a 4), .int (nI t.2.1.2)])), (a 4, .inl (cI, 28, .inl t.2.1.1)), (a 5, .inr (0, [.ref (a 6), .int (nI t.2.2.1.2)])), (a 6, .inl (cI, 28, .inl t.2.2.1.1)), (a 7, .inr (0, [.ref (a 8), .int (nI t.2.2.2.1.2)])), (a 8, .inl (cI, 28, .inl t.2.2.2.1.1)), (a 9, .inr (0, [.ref (a 10), .int (nI nS.2)])), (a 10, .inl (cI, 28, .inl nS.1)), (a 11, .inl (cC, 17, .inl d))]) (rV (n := 3) (As := [.long (lN c9), .int (iI ((qn : Nat) - 1074 : Int)), .int (bI cl)]) (rest := []) hx hb hml hown hts (c_start a nW nR nB nA nS d cnt pt c9 B qn vW vR vB vA cl hB h1 h2 hl9 hW hR hBq hAq _) kw_1_177 kw_1_174 kw_1_176 kw_0_2 kw_1_3 (by decide +kernel) ⟨Nat.le_of_ble_eq_true rfl, Nat.le_of_ble_eq_true rfl⟩ hK hP hD [0, 1, 2, 3, 4, 5, 6, 7, 8, 9, 10, 11] rfl rfl 0 rfl rfl rfl rfl hl.1 rfl (lv_room (Nat.le_of_ble_eq_true rfl)) dS_find_5 ⟨Nat.le_of_ble_eq_true rfl, Nat.le_of_ble_eq_true rfl⟩) hP hD hS hA [0, 1, 2, 3, 4, 5, 6, 7, 8, 9, 10, 11] [] [0, 1, 2, 3, 4, 5, 6, 7, 8, 9, 10, 11] rfl rfl rfl (by decide) (fun _ => rfl) rfl (fun t H locs hst hP hD hS => ?_)
  have hP : va_P G vwCl [(a 0, .inr (1, [.ref (a 1), .ref (a 3), .ref (a 5), .ref (a 7), .ref (a 9), .ref (a 11), .int cnt, .int (iI ((t.2.2.2.2.1 : Nat) - 1100 : Int))])), (a 1, .inr (0, [.ref (a 2), .int (nI t.1.2)])), (a 2, .inl (cI, 28, .inl t.1.1)), (a 3, .inr (0, [.ref (a 4), .int (nI t.2.1.2)])), (a 4, .inl (cI, 28, .inl t.2.1.1)), (a 5, .inr (0, [.ref (a 6), .int (nI t.2.2.1.2)])), (a 6, .inl (cI, 28, .inl t.2.2.1.1)), (a 7, .inr (0, [.ref (a 8), .int (nI t.2.2.2.1.2)])), (a 8, .inl (cI, 28, .inl t.2.2.2.1.1)), (a 9, .inr (0, [.ref (a 10), .int (nI nS.2)])), (a 10, .inl (cI, 28, .inl nS.1)), (a 11, .inl (cC, 17, .inl d))] H := hP
  have hD : va_D A [(a 0, .inr (1, [.ref (a 1), .ref (a 3), .ref (a 5), .ref (a 7), .ref (a 9), .ref (a 11), .int cnt, .int (iI ((t.2.2.2.2.1 : Nat) - 1100 : Int))])), (a 1, .inr (0, [.ref (a 2), .int (nI t.1.2)])), (a 2, .inl (cI, 28, .inl t.1.1)), (a 3, .inr (0, [.ref (a 4), .int (nI t.2.1.2)])), (a 4, .inl (cI, 28, .inl t.2.1.1)), (a 5, .inr (0, [.ref (a 6), .int (nI t.2.2.1.2)])), (a 6, .inl (cI, 28, .inl t.2.2.1.1)), (a 7, .inr (0, [.ref (a 8), .int (nI t.2.2.2.1.2)])), (a 8, .inl (cI, 28, .inl t.2.2.2.1.1)), (a 9, .inr (0, [.ref (a 10), .int (nI nS.2)])), (a 10, .inl (cI, 28, .inl nS.1)), (a 11, .inl (cC, 17, .inl d))] := hD
  obtain ⟨W1, R0, B0, A0, P, u, wv⟩ := t
  have hst : StOk qn c9 cl W1 R0 B0 A0 P u wv := hst
  obtain ⟨nw, nr0, nb0, na0, hw0, hu, hlt, hge, hP1, hP2, big1, big2⟩ := hst
  have hbnd := start_in (c := c9) hw0 hu (by omega) hlt hge
  have hP : va_P G vwCl [(a 0, .inr (1, [.ref (a 1), .ref (a 3), .ref (a 5), .ref (a 7), .ref (a 9), .ref (a 11), .int cnt, .int (iI ((P : Nat) - 1100 : Int))])), (a 1, .inr (0, [.ref (a 2), .int (nI W1.2)])), (a 2, .inl (cI, 28, .inl W1.1)), (a 3, .inr (0, [.ref (a 4), .int (nI R0.2)])), (a 4, .inl (cI, 28, .inl R0.1)), (a 5, .inr (0, [.ref (a 6), .int (nI B0.2)])), (a 6, .inl (cI, 28, .inl B0.1)), (a 7, .inr (0, [.ref (a 8), .int (nI A0.2)])), (a 8, .inl (cI, 28, .inl A0.1)), (a 9, .inr (0, [.ref (a 10), .int (nI nS.2)])), (a 10, .inl (cI, 28, .inl nS.1)), (a 11, .inl (cC, 17, .inl d))] H := hP
  have hD : va_D A [(a 0, .inr (1, [.ref (a 1), .ref (a 3), .ref (a 5), .ref (a 7), .ref (a 9), .ref (a 11), .int cnt, .int (iI ((P : Nat) - 1100 : Int))])), (a 1, .inr (0, [.ref (a 2), .int (nI W1.2)])), (a 2, .inl (cI, 28, .inl W1.1)), (a 3, .inr (0, [.ref (a 4), .int (nI R0.2)])), (a 4, .inl (cI, 28, .inl R0.1)), (a 5, .inr (0, [.ref (a 6), .int (nI B0.2)])), (a 6, .inl (cI, 28, .inl B0.1)), (a 7, .inr (0, [.ref (a 8), .int (nI A0.2)])), (a 8, .inl (cI, 28, .inl A0.1)), (a 9, .inr (0, [.ref (a 10), .int (nI nS.2)])), (a 10, .inl (cI, 28, .inl nS.1)), (a 11, .inl (cC, 17, .inl d))] := hD
  have j119 : ∀ (M : Nat) (nu : Nat) (R1 : Q2) (B1 : Q2) (A1 : Q2) (S1 : Q2) (H : Heap) (locs : List Loc) (ls : Array Slot), 2 ≤ M → M ≤ 17 → ResAt (eU qn) c9 cl P M (nu * sU P M) → 0 < nu → nu ≤ 10 ^ 17 → okN R1 → okN B1 → okN A1 → okN S1 → va_P G vwCl [(a 0, .inr (1, [.ref (a 1), .ref (a 3), .ref (a 5), .ref (a 7), .ref (a 9), .ref (a 11), .int cnt, .int (iI ((P : Nat) - 1100 : Int))])), (a 1, .inr (0, [.ref (a 2), .int (nI W1.2)])), (a 2, .inl (cI, 28, .inl W1.1)), (a 3, .inr (0, [.ref (a 4), .int (nI R1.2)])), (a 4, .inl (cI, 28, .inl R1.1)), (a 5, .inr (0, [.ref (a 6), .int (nI B1.2)])), (a 6, .inl (cI, 28, .inl B1.1)), (a 7, .inr (0, [.ref (a 8), .int (nI A1.2)])), (a 8, .inl (cI, 28, .inl A1.1)), (a 9, .inr (0, [.ref (a 10), .int (nI S1.2)])), (a 10, .inl (cI, 28, .inl S1.1)), (a 11, .inl (cC, 17, .inl d))] H → va_D A [(a 0, .inr (1, [.ref (a 1), .ref (a 3), .ref (a 5), .ref (a 7), .ref (a 9), .ref (a 11), .int cnt, .int (iI ((P : Nat) - 1100 : Int))])), (a 1, .inr (0, [.ref (a 2), .int (nI W1.2)])), (a 2, .inl (cI, 28, .inl W1.1)), (a 3, .inr (0, [.ref (a 4), .int (nI R1.2)])), (a 4, .inl (cI, 28, .inl R1.1)), (a 5, .inr (0, [.ref (a 6), .int (nI B1.2)])), (a 6, .inl (cI, 28, .inl B1.1)), (a 7, .inr (0, [.ref (a 8), .int (nI A1.2)])), (a 8, .inl (cI, 28, .inl A1.1)), (a 9, .inr (0, [.ref (a 10), .int (nI S1.2)])), (a 10, .inl (cI, 28, .inl S1.1)), (a 11, .inl (cC, 17, .inl d))] → va_S A s.heap H locs → lv_has ls 11 [(10, .int (nI M)), (8, .long (lN nu)), (0, .ref (a 0))] → W p l e rmS_find s m args below meth c H locs 0 0 Q (F0 m 119 ls []) := by
    intro M nu R1 B1 A1 S1 H locs ls g1 g2 g3 g4 g5 g6 g7 g8 g9 hP hD hS hl
    refine lv_aload_n hx hb dS_find_119 rfl (lv_at hl 2 rfl) ?_
    refine lv_lload hx hb dS_find_120 (lv_at hl 1 rfl) ?_
    refine lv_aload_n hx hb dS_find_122 rfl (lv_at hl 2 rfl) ?_
    refine va_get (D := G) (ci := 1) (v := .int (iI ((P : Nat) - 1100 : Int))) (C := RS) (T := TS) (N := 8) hx hb hts inS hown hK hP 0 rfl rfl 7 (by decide) (hts _ kw_1_67) (fun _ h9 => h9) rfl dS_find_123 ?_
    refine lv_iload hx hb dS_find_126 (lv_at hl 0 rfl) ?_
    refine lv_isub hx hb dS_find_128 ?_
    refine tp_i (y := iI ((P : Nat) - 1100 - (M : Nat) : Int)) (by rw [iI_snI]) ?_
    refine jnV (Wr := []) (W2 := fun y => [(a 0, .inr (1, [.ref (a 1), .ref (a 3), .ref (a 5), .ref (a 7), .ref (a 9), .ref (a 11), .int (nI y.2.2.2), .int (iI ((P : Nat) - 1100 - (M : Nat) + y.2.2.1 + y.2.2.2 : Int))])), (a 1, .inr (0, [.ref (a 2), .int (nI W1.2)])), (a 2, .inl (cI, 28, .inl W1.1)), (a 3, .inr (0, [.ref (a 4), .int (nI R1.2)])), (a 4, .inl (cI, 28, .inl R1.1)), (a 5, .inr (0, [.ref (a 6), .int (nI B1.2)])), (a 6, .inl (cI, 28, .inl B1.1)), (a 7, .inr (0, [.ref (a 8), .int (nI A1.2)])), (a 8, .inl (cI, 28, .inl A1.1)), (a 9, .inr (0, [.ref (a 10), .int (nI S1.2)])), (a 10, .inl (cI, 28, .inl S1.1)), (a 11, .inl (cC, 17, .inl y.1))]) (rV (n := 2) (As := [.long (lN nu), .int (iI ((P : Nat) - 1100 - (M : Nat) : Int))]) (rest := []) hx hb hml hown hts (c_keep a W1 R1 B1 A1 S1 d cnt (iI ((P : Nat) - 1100 : Int)) nu ((P : Nat) - 1100 - (M : Nat) : Int) g4 g5 _) kw_2_9 kw_2_6 kw_2_8 kw_0_9 kw_1_3 (by decide +kernel) ⟨Nat.le_of_ble_eq_true rfl, Nat.le_of_ble_eq_true rfl⟩ hK hP hD [0, 1, 2, 3, 4, 5, 6, 7, 8, 9, 10, 11] rfl rfl 0 rfl rfl rfl rfl hl.1 rfl (lv_room (Nat.le_of_ble_eq_true rfl)) dS_find_129 ⟨Nat.le_of_ble_eq_true rfl, Nat.le_of_ble_eq_true rfl⟩) hP hD hS hA [0, 1, 2, 3, 4, 5, 6, 7, 8, 9, 10, 11] [] [0, 1, 2, 3, 4, 5, 6, 7, 8, 9, 10, 11] rfl rfl rfl (by decide) (fun _ => rfl) rfl (fun y H locs hy hP hD hS => ?_)
    have hP : va_P G vwCl [(a 0, .inr (1, [.ref (a 1), .ref (a 3), .ref (a 5), .ref (a 7), .ref (a 9), .ref (a 11), .int (nI y.2.2.2), .int (iI ((P : Nat) - 1100 - (M : Nat) + y.2.2.1 + y.2.2.2 : Int))])), (a 1, .inr (0, [.ref (a 2), .int (nI W1.2)])), (a 2, .inl (cI, 28, .inl W1.1)), (a 3, .inr (0, [.ref (a 4), .int (nI R1.2)])), (a 4, .inl (cI, 28, .inl R1.1)), (a 5, .inr (0, [.ref (a 6), .int (nI B1.2)])), (a 6, .inl (cI, 28, .inl B1.1)), (a 7, .inr (0, [.ref (a 8), .int (nI A1.2)])), (a 8, .inl (cI, 28, .inl A1.1)), (a 9, .inr (0, [.ref (a 10), .int (nI S1.2)])), (a 10, .inl (cI, 28, .inl S1.1)), (a 11, .inl (cC, 17, .inl y.1))] H := hP
    have hD : va_D A [(a 0, .inr (1, [.ref (a 1), .ref (a 3), .ref (a 5), .ref (a 7), .ref (a 9), .ref (a 11), .int (nI y.2.2.2), .int (iI ((P : Nat) - 1100 - (M : Nat) + y.2.2.1 + y.2.2.2 : Int))])), (a 1, .inr (0, [.ref (a 2), .int (nI W1.2)])), (a 2, .inl (cI, 28, .inl W1.1)), (a 3, .inr (0, [.ref (a 4), .int (nI R1.2)])), (a 4, .inl (cI, 28, .inl R1.1)), (a 5, .inr (0, [.ref (a 6), .int (nI B1.2)])), (a 6, .inl (cI, 28, .inl B1.1)), (a 7, .inr (0, [.ref (a 8), .int (nI A1.2)])), (a 8, .inl (cI, 28, .inl A1.1)), (a 9, .inr (0, [.ref (a 10), .int (nI S1.2)])), (a 10, .inl (cI, 28, .inl S1.1)), (a 11, .inl (cC, 17, .inl y.1))] := hD
    obtain ⟨k1, k2, k3, k4, k5, k6, k7⟩ := hy
    have hzz := zz_le k1 g4 g5
    exact fin (W1, R1, B1, A1, S1, y.1, dgs y.2.1 y.2.2.2, y.2.2.2, ((P : Nat) - 1100 - (M : Nat) + y.2.2.1 + y.2.2.2 : Int)) _ _ _ _ dS_find_132 (⟨⟨_, nw⟩, g6, g7, g8, g9, keep_dec g3 k1 k2 k3 k5 k6, k4, fun j hj => ⟨k7 j hj, dgs_lt _ _ _⟩, by dsimp only; omega, by dsimp only; omega⟩) hP hD hS
  have j94 : ∀ (n : Nat) (nu : Nat) (dn : Bool) (up : Bool) (R1 : Q2) (B1 : Q2) (A1 : Q2) (S1 : Q2) (H : Heap) (locs : List Loc) (ls : Array Slot), n ≤ 17 → Nt R1.1 R1.2 (10 ^ n * (4 * c9 * u) % wv) → okN B1 → okN A1 → okN S1 → nu = 10 ^ n * (4 * c9 * u) / wv → 2 ≤ n → (dn = true ↔ rdn (eU qn) c9 cl (sU P n)) → (up = true ↔ rup (eU qn) c9 (sU P n)) → (∀ m, 2 ≤ m → m < n → ¬ (rdn (eU qn) c9 cl (sU P m) ∨ rup (eU qn) c9 (sU P m))) → (n = 17 ∨ dn = true ∨ up = true) → va_P G vwCl [(a 0, .inr (1, [.ref (a 1), .ref (a 3), .ref (a 5), .ref (a 7), .ref (a 9), .ref (a 11), .int cnt, .int (iI ((P : Nat) - 1100 : Int))])), (a 1, .inr (0, [.ref (a 2), .int (nI W1.2)])), (a 2, .inl (cI, 28, .inl W1.1)), (a 3, .inr (0, [.ref (a 4), .int (nI R1.2)])), (a 4, .inl (cI, 28, .inl R1.1)), (a 5, .inr (0, [.ref (a 6), .int (nI B1.2)])), (a 6, .inl (cI, 28, .inl B1.1)), (a 7, .inr (0, [.ref (a 8), .int (nI A1.2)])), (a 8, .inl (cI, 28, .inl A1.1)), (a 9, .inr (0, [.ref (a 10), .int (nI S1.2)])), (a 10, .inl (cI, 28, .inl S1.1)), (a 11, .inl (cC, 17, .inl d))] H → va_D A [(a 0, .inr (1, [.ref (a 1), .ref (a 3), .ref (a 5), .ref (a 7), .ref (a 9), .ref (a 11), .int cnt, .int (iI ((P : Nat) - 1100 : Int))])), (a 1, .inr (0, [.ref (a 2), .int (nI W1.2)])), (a 2, .inl (cI, 28, .inl W1.1)), (a 3, .inr (0, [.ref (a 4), .int (nI R1.2)])), (a 4, .inl (cI, 28, .inl R1.1)), (a 5, .inr (0, [.ref (a 6), .int (nI B1.2)])), (a 6, .inl (cI, 28, .inl B1.1)), (a 7, .inr (0, [.ref (a 8), .int (nI A1.2)])), (a 8, .inl (cI, 28, .inl A1.1)), (a 9, .inr (0, [.ref (a 10), .int (nI S1.2)])), (a 10, .inl (cI, 28, .inl S1.1)), (a 11, .inl (cC, 17, .inl d))] → va_S A s.heap H locs → lv_has ls 11 [(7, .int (bI up)), (6, .int (bI dn)), (10, .int (nI n)), (8, .long (lN nu)), (0, .ref (a 0))] → W p l e rmS_find s m args below meth c H locs 0 0 Q (F0 m 94 ls []) := by
    intro n nu dn up R1 B1 A1 S1 H locs ls q1 q2 q3 q4 q5 q6 q7 q8 q9 q10 q11 hP hD hS hl
    have hnl : nu < 10 ^ n := by rw [q6]; exact num_lt hw0 hlt
    have hn17 : 10 ^ n ≤ 10 ^ 17 := Nat.pow_le_pow_right (by decide) q1
    have hst : n = 17 ∨ rdn (eU qn) c9 cl (sU P n) ∨ rup (eU qn) c9 (sU P n) := q11.elim Or.inl (fun h => Or.inr (h.elim (fun h => Or.inl (q8.mp h)) (fun h => Or.inr (q9.mp h))))
    have hpk := cls_pick (c := c9) cl hw0 (by omega : n ≤ P) hu
    have hone : 10 ^ 1 ≤ 10 ^ n := Nat.pow_le_pow_right (by decide) (by omega)
    have hnp : 0 < nu := by
      rw [q6]
      refine Nat.div_pos ?_ hw0
      exact Nat.le_trans hge (Nat.mul_le_mul_right _ hone)
    have hyes : pick (eU qn) c9 cl (sU P n) → ResAt (eU qn) c9 cl P n ((nu + 1) * sU P n) := fun h => by
      rw [q6]
      exact find_res hw0 (eU_pos qn) (by omega) hu hbnd hc53 hcl q7 q1 hst q10 (Or.inl ⟨h, rfl⟩)
    have hno : ¬ pick (eU qn) c9 cl (sU P n) → ResAt (eU qn) c9 cl P n (nu * sU P n) := fun h => by
      rw [q6]
      exact find_res hw0 (eU_pos qn) (by omega) hu hbnd hc53 hcl q7 q1 hst q10 (Or.inr ⟨h, rfl⟩)
    have j113 : ∀ (S1 : Q2) (H : Heap) (locs : List Loc) (ls : Array Slot), okN S1 → pick (eU qn) c9 cl (sU P n) → va_P G vwCl [(a 0, .inr (1, [.ref (a 1), .ref (a 3), .ref (a 5), .ref (a 7), .ref (a 9), .ref (a 11), .int cnt, .int (iI ((P : Nat) - 1100 : Int))])), (a 1, .inr (0, [.ref (a 2), .int (nI W1.2)])), (a 2, .inl (cI, 28, .inl W1.1)), (a 3, .inr (0, [.ref (a 4), .int (nI R1.2)])), (a 4, .inl (cI, 28, .inl R1.1)), (a 5, .inr (0, [.ref (a 6), .int (nI B1.2)])), (a 6, .inl (cI, 28, .inl B1.1)), (a 7, .inr (0, [.ref (a 8), .int (nI A1.2)])), (a 8, .inl (cI, 28, .inl A1.1)), (a 9, .inr (0, [.ref (a 10), .int (nI S1.2)])), (a 10, .inl (cI, 28, .inl S1.1)), (a 11, .inl (cC, 17, .inl d))] H → va_D A [(a 0, .inr (1, [.ref (a 1), .ref (a 3), .ref (a 5), .ref (a 7), .ref (a 9), .ref (a 11), .int cnt, .int (iI ((P : Nat) - 1100 : Int))])), (a 1, .inr (0, [.ref (a 2), .int (nI W1.2)])), (a 2, .inl (cI, 28, .inl W1.1)), (a 3, .inr (0, [.ref (a 4), .int (nI R1.2)])), (a 4, .inl (cI, 28, .inl R1.1)), (a 5, .inr (0, [.ref (a 6), .int (nI B1.2)])), (a 6, .inl (cI, 28, .inl B1.1)), (a 7, .inr (0, [.ref (a 8), .int (nI A1.2)])), (a 8, .inl (cI, 28, .inl A1.1)), (a 9, .inr (0, [.ref (a 10), .int (nI S1.2)])), (a 10, .inl (cI, 28, .inl S1.1)), (a 11, .inl (cC, 17, .inl d))] → va_S A s.heap H locs → lv_has ls 11 [(10, .int (nI n)), (8, .long (lN nu)), (0, .ref (a 0))] → W p l e rmS_find s m args below meth c H locs 0 0 Q (F0 m 113 ls []) := by
      intro S1 H locs ls q5 g1 hP hD hS hl
      refine lv_lload hx hb dS_find_113 (lv_at hl 1 rfl) ?_
      refine lv_lconst (v := lN 1) hx hb dS_find_115 (by decide) ?_
      refine lv_ladd hx hb dS_find_116 ?_
      refine tp_l (y := lN (nu + 1)) (lN_add nu 1) ?_
      refine lv_lstore hx hb dS_find_117 hl (by decide) rfl (fun ls hl => ?_)
      have hl : lv_has ls 11 [(8, .long (lN (nu + 1))), (10, .int (nI n)), (0, .ref (a 0))] := hl
      have hl : lv_has ls 11 [(10, .int (nI n)), (8, .long (lN (nu + 1))), (0, .ref (a 0))] := lv_sub hl [1, 0, 2] rfl
      exact j119 n (nu + 1) R1 B1 A1 S1 _ _ _ (q7) (q1) (hyes g1) (by omega) (by omega) (⟨_, q2⟩) (q3) (q4) (q5) hP hD hS hl
    refine lv_iload hx hb dS_find_94 (lv_at hl 0 rfl) ?_
    refine lv_if_eq (tgt := 119) hx hb dS_find_96 (by decide) (fun hc => ?_) (fun hc => ?_)
    · have hl : lv_has ls 11 [(10, .int (nI n)), (8, .long (lN nu)), (0, .ref (a 0))] := lv_sub hl [2, 3, 4] rfl
      exact j119 n nu R1 B1 A1 S1 _ _ _ (q7) (q1) (hno (fun h => by have h1 := q9.mpr (hpk.mp h).1; rw [bI_eq hc] at h1; cases h1)) (hnp) (by omega) (⟨_, q2⟩) (q3) (q4) (q5) hP hD hS hl
    · have u1 := q9.mp (bI_ne hc)
      refine lv_iload hx hb dS_find_99 (lv_at hl 1 rfl) ?_
      refine lv_if_eq (tgt := 113) hx hb dS_find_101 (by decide) (fun hc2 => ?_) (fun hc2 => ?_)
      · have hl : lv_has ls 11 [(10, .int (nI n)), (8, .long (lN nu)), (0, .ref (a 0))] := lv_sub hl [2, 3, 4] rfl
        exact j113 S1 _ _ _ (q5) (hpk.mpr ⟨u1, Or.inl (fun h => by have h1 := q8.mpr h; rw [bI_eq hc2] at h1; cases h1)⟩) hP hD hS hl
      · have d1 := q8.mp (bI_ne hc2)
        obtain ⟨vS, hS1⟩ := q5
        have hrw := Nat.mod_lt (10 ^ n * (4 * c9 * u)) hw0
        refine lv_aload_n hx hb dS_find_104 rfl (lv_at hl 4 rfl) ?_
        refine lv_lload hx hb dS_find_105 (lv_at hl 3 rfl) ?_
        refine jnI (Wr := []) (W2 := fun S2 => [(a 0, .inr (1, [.ref (a 1), .ref (a 3), .ref (a 5), .ref (a 7), .ref (a 9), .ref (a 11), .int cnt, .int (iI ((P : Nat) - 1100 : Int))])), (a 1, .inr (0, [.ref (a 2), .int (nI W1.2)])), (a 2, .inl (cI, 28, .inl W1.1)), (a 3, .inr (0, [.ref (a 4), .int (nI R1.2)])), (a 4, .inl (cI, 28, .inl R1.1)), (a 5, .inr (0, [.ref (a 6), .int (nI B1.2)])), (a 6, .inl (cI, 28, .inl B1.1)), (a 7, .inr (0, [.ref (a 8), .int (nI A1.2)])), (a 8, .inl (cI, 28, .inl A1.1)), (a 9, .inr (0, [.ref (a 10), .int (nI S2.2)])), (a 10, .inl (cI, 28, .inl S2.1)), (a 11, .inl (cC, 17, .inl d))]) (rV (n := 1) (As := [.long (lN nu)]) (rest := []) hx hb hml hown hts (c_better a W1 R1 B1 A1 S1 d cnt (iI ((P : Nat) - 1100 : Int)) wv _ vS nu nw q2 hS1 (sum_lt hrw big1) (by omega) _) kw_2_5 kw_2_2 kw_2_4 kw_0_8 kw_1_3 (by decide +kernel) ⟨Nat.le_of_ble_eq_true rfl, Nat.le_of_ble_eq_true rfl⟩ hK hP hD [0, 1, 2, 3, 4, 5, 6, 7, 8, 9, 10, 11] rfl rfl 0 rfl rfl rfl rfl hl.1 rfl (lv_room (Nat.le_of_ble_eq_true rfl)) dS_find_107 ⟨Nat.le_of_ble_eq_true rfl, Nat.le_of_ble_eq_true rfl⟩) hP hD hS hA [0, 1, 2, 3, 4, 5, 6, 7, 8, 9, 10, 11] [] [0, 1, 2, 3, 4, 5, 6, 7, 8, 9, 10, 11] rfl rfl rfl (by decide) (fun _ => rfl) rfl (fun y S2 H locs hb2 hP hD hS => ?_)
        have hP : va_P G vwCl [(a 0, .inr (1, [.ref (a 1), .ref (a 3), .ref (a 5), .ref (a 7), .ref (a 9), .ref (a 11), .int cnt, .int (iI ((P : Nat) - 1100 : Int))])), (a 1, .inr (0, [.ref (a 2), .int (nI W1.2)])), (a 2, .inl (cI, 28, .inl W1.1)), (a 3, .inr (0, [.ref (a 4), .int (nI R1.2)])), (a 4, .inl (cI, 28, .inl R1.1)), (a 5, .inr (0, [.ref (a 6), .int (nI B1.2)])), (a 6, .inl (cI, 28, .inl B1.1)), (a 7, .inr (0, [.ref (a 8), .int (nI A1.2)])), (a 8, .inl (cI, 28, .inl A1.1)), (a 9, .inr (0, [.ref (a 10), .int (nI S2.2)])), (a 10, .inl (cI, 28, .inl S2.1)), (a 11, .inl (cC, 17, .inl d))] H := hP
        have hD : va_D A [(a 0, .inr (1, [.ref (a 1), .ref (a 3), .ref (a 5), .ref (a 7), .ref (a 9), .ref (a 11), .int cnt, .int (iI ((P : Nat) - 1100 : Int))])), (a 1, .inr (0, [.ref (a 2), .int (nI W1.2)])), (a 2, .inl (cI, 28, .inl W1.1)), (a 3, .inr (0, [.ref (a 4), .int (nI R1.2)])), (a 4, .inl (cI, 28, .inl R1.1)), (a 5, .inr (0, [.ref (a 6), .int (nI B1.2)])), (a 6, .inl (cI, 28, .inl B1.1)), (a 7, .inr (0, [.ref (a 8), .int (nI A1.2)])), (a 8, .inl (cI, 28, .inl A1.1)), (a 9, .inr (0, [.ref (a 10), .int (nI S2.2)])), (a 10, .inl (cI, 28, .inl S2.1)), (a 11, .inl (cC, 17, .inl d))] := hD
        refine lv_if_eq (tgt := 119) hx hb dS_find_110 (by decide) (fun hc3 => ?_) (fun hc3 => ?_)
        · have e3 := of_decide_eq_false (bI_eq (hb2.1 ▸ hc3))
          have hl : lv_has ls 11 [(10, .int (nI n)), (8, .long (lN nu)), (0, .ref (a 0))] := lv_sub hl [2, 3, 4] rfl
          exact j119 n nu R1 B1 A1 S2 _ _ _ (q7) (q1) (hno (fun h => by
            rcases (hpk.mp h).2 with h3 | h3 | h3
            · exact h3 d1
            · exact e3 (Or.inl (by rw [← Nat.two_mul]; exact h3))
            · exact e3 (Or.inr ⟨by rw [← Nat.two_mul]; exact h3.1, by rw [q6]; exact h3.2⟩))) (hnp) (by omega) (⟨_, q2⟩) (q3) (q4) (⟨_, hb2.2⟩) hP hD hS hl
        · have e3 := of_decide_eq_true (bI_ne (hb2.1 ▸ hc3))
          have hl : lv_has ls 11 [(10, .int (nI n)), (8, .long (lN nu)), (0, .ref (a 0))] := lv_sub hl [2, 3, 4] rfl
          exact j113 S2 _ _ _ (⟨_, hb2.2⟩) (hpk.mpr ⟨u1, Or.inr (e3.elim (fun h => Or.inl (by rw [Nat.two_mul]; exact h)) (fun h => Or.inr ⟨by rw [Nat.two_mul]; exact h.1, by rw [← q6]; exact h.2⟩))⟩) hP hD hS hl
  have j21 : ∀  (H : Heap) (locs : List Loc) (ls : Array Slot), va_P G vwCl [(a 0, .inr (1, [.ref (a 1), .ref (a 3), .ref (a 5), .ref (a 7), .ref (a 9), .ref (a 11), .int cnt, .int (iI ((P : Nat) - 1100 : Int))])), (a 1, .inr (0, [.ref (a 2), .int (nI W1.2)])), (a 2, .inl (cI, 28, .inl W1.1)), (a 3, .inr (0, [.ref (a 4), .int (nI R0.2)])), (a 4, .inl (cI, 28, .inl R0.1)), (a 5, .inr (0, [.ref (a 6), .int (nI B0.2)])), (a 6, .inl (cI, 28, .inl B0.1)), (a 7, .inr (0, [.ref (a 8), .int (nI A0.2)])), (a 8, .inl (cI, 28, .inl A0.1)), (a 9, .inr (0, [.ref (a 10), .int (nI nS.2)])), (a 10, .inl (cI, 28, .inl nS.1)), (a 11, .inl (cC, 17, .inl d))] H → va_D A [(a 0, .inr (1, [.ref (a 1), .ref (a 3), .ref (a 5), .ref (a 7), .ref (a 9), .ref (a 11), .int cnt, .int (iI ((P : Nat) - 1100 : Int))])), (a 1, .inr (0, [.ref (a 2), .int (nI W1.2)])), (a 2, .inl (cI, 28, .inl W1.1)), (a 3, .inr (0, [.ref (a 4), .int (nI R0.2)])), (a 4, .inl (cI, 28, .inl R0.1)), (a 5, .inr (0, [.ref (a 6), .int (nI B0.2)])), (a 6, .inl (cI, 28, .inl B0.1)), (a 7, .inr (0, [.ref (a 8), .int (nI A0.2)])), (a 8, .inl (cI, 28, .inl A0.1)), (a 9, .inr (0, [.ref (a 10), .int (nI nS.2)])), (a 10, .inl (cI, 28, .inl nS.1)), (a 11, .inl (cC, 17, .inl d))] → va_S A s.heap H locs → lv_has ls 11 [(0, .ref (a 0)), (1, .long (lN c9))] → W p l e rmS_find s m args below meth c H locs 0 0 Q (F0 m 21 ls [.int (bI (decide (c9 % 2 = 0)))]) := by
    intro  H locs ls  hP hD hS hl
    refine lv_istore hx hb dS_find_21 hl (by decide) rfl (fun ls hl => ?_)
    have hl : lv_has ls 11 [(5, .int (bI (decide (c9 % 2 = 0)))), (0, .ref (a 0)), (1, .long (lN c9))] := hl
    refine lv_iconst (v := bI false) hx hb dS_find_23 (by decide) ?_
    refine lv_istore hx hb dS_find_24 hl (by decide) rfl (fun ls hl => ?_)
    have hl : lv_has ls 11 [(6, .int (bI false)), (5, .int (bI (decide (c9 % 2 = 0)))), (0, .ref (a 0)), (1, .long (lN c9))] := hl
    refine lv_iconst (v := bI false) hx hb dS_find_26 (by decide) ?_
    refine lv_istore hx hb dS_find_27 hl (by decide) rfl (fun ls hl => ?_)
    have hl : lv_has ls 11 [(7, .int (bI false)), (6, .int (bI false)), (5, .int (bI (decide (c9 % 2 = 0)))), (0, .ref (a 0)), (1, .long (lN c9))] := hl
    refine lv_lconst (v := lN 0) hx hb dS_find_29 (by decide) ?_
    refine lv_lstore hx hb dS_find_30 hl (by decide) rfl (fun ls hl => ?_)
    have hl : lv_has ls 11 [(8, .long (lN 0)), (7, .int (bI false)), (6, .int (bI false)), (5, .int (bI (decide (c9 % 2 = 0)))), (0, .ref (a 0)), (1, .long (lN c9))] := hl
    refine lv_iconst (v := nI 0) hx hb dS_find_32 (by decide) ?_
    refine lv_istore hx hb dS_find_33 hl (by decide) rfl (fun ls hl => ?_)
    have hl : lv_has ls 11 [(10, .int (nI 0)), (8, .long (lN 0)), (7, .int (bI false)), (6, .int (bI false)), (5, .int (bI (decide (c9 % 2 = 0)))), (0, .ref (a 0)), (1, .long (lN c9))] := hl
    have hl : lv_has ls 11 [(10, .int (nI 0)), (8, .long (lN 0)), (7, .int (bI false)), (6, .int (bI false)), (5, .int (bI (decide (c9 % 2 = 0)))), (0, .ref (a 0))] := lv_sub hl [0, 1, 2, 3, 4, 5] rfl
    have lp : ∀ (fu : Nat) (n : Nat) (nu : Nat) (dn : Bool) (up : Bool) (R1 : Q2) (B1 : Q2) (A1 : Q2) (S1 : Q2) (H : Heap) (locs : List Loc) (ls : Array Slot), 17 - n < fu → n ≤ 17 → Nt R1.1 R1.2 (10 ^ n * (4 * c9 * u) % wv) → Nt B1.1 B1.2 (10 ^ n * ((if cl then 1 else 2) * u)) → Nt A1.1 A1.2 (10 ^ n * (2 * u)) → okN S1 → nu = 10 ^ n * (4 * c9 * u) / wv → (n < 2 → dn = false ∧ up = false) → (2 ≤ n → ((dn = true ↔ rdn (eU qn) c9 cl (sU P n)) ∧ (up = true ↔ rup (eU qn) c9 (sU P n)))) → (∀ m, 2 ≤ m → m < n → ¬ (rdn (eU qn) c9 cl (sU P m) ∨ rup (eU qn) c9 (sU P m))) → va_P G vwCl [(a 0, .inr (1, [.ref (a 1), .ref (a 3), .ref (a 5), .ref (a 7), .ref (a 9), .ref (a 11), .int cnt, .int (iI ((P : Nat) - 1100 : Int))])), (a 1, .inr (0, [.ref (a 2), .int (nI W1.2)])), (a 2, .inl (cI, 28, .inl W1.1)), (a 3, .inr (0, [.ref (a 4), .int (nI R1.2)])), (a 4, .inl (cI, 28, .inl R1.1)), (a 5, .inr (0, [.ref (a 6), .int (nI B1.2)])), (a 6, .inl (cI, 28, .inl B1.1)), (a 7, .inr (0, [.ref (a 8), .int (nI A1.2)])), (a 8, .inl (cI, 28, .inl A1.1)), (a 9, .inr (0, [.ref (a 10), .int (nI S1.2)])), (a 10, .inl (cI, 28, .inl S1.1)), (a 11, .inl (cC, 17, .inl d))] H → va_D A [(a 0, .inr (1, [.ref (a 1), .ref (a 3), .ref (a 5), .ref (a 7), .ref (a 9), .ref (a 11), .int cnt, .int (iI ((P : Nat) - 1100 : Int))])), (a 1, .inr (0, [.ref (a 2), .int (nI W1.2)])), (a 2, .inl (cI, 28, .inl W1.1)), (a 3, .inr (0, [.ref (a 4), .int (nI R1.2)])), (a 4, .inl (cI, 28, .inl R1.1)), (a 5, .inr (0, [.ref (a 6), .int (nI B1.2)])), (a 6, .inl (cI, 28, .inl B1.1)), (a 7, .inr (0, [.ref (a 8), .int (nI A1.2)])), (a 8, .inl (cI, 28, .inl A1.1)), (a 9, .inr (0, [.ref (a 10), .int (nI S1.2)])), (a 10, .inl (cI, 28, .inl S1.1)), (a 11, .inl (cC, 17, .inl d))] → va_S A s.heap H locs → lv_has ls 11 [(10, .int (nI n)), (8, .long (lN nu)), (7, .int (bI up)), (6, .int (bI dn)), (5, .int (bI (decide (c9 % 2 = 0)))), (0, .ref (a 0))] → W p l e rmS_find s m args below meth c H locs 0 0 Q (F0 m 35 ls []) := by
      intro fu
      induction fu with
      | zero => intro n nu dn up R1 B1 A1 S1 H locs ls hn; exact absurd hn (Nat.not_lt_zero _)
      | succ fu ih =>
        intro n nu dn up R1 B1 A1 S1 H locs ls hn q1 q2 q3 q4 q5 q6 q7 q8 q10 hP hD hS hl
        refine lv_iload hx hb dS_find_35 (lv_at hl 0 rfl) ?_
        refine lv_bipush (v := nI 17) hx hb dS_find_37 (by decide) ?_
        refine lv_icmp_ge (tgt := 94) hx hb dS_find_39 (by decide) (fun hc => ?_) (fun hc => ?_)
        · have h3 : 17 ≤ n := (nI_leI (by decide) (by omega)).mp hc
          have hn2 : 2 ≤ n := by
            rcases Nat.lt_or_ge n 2 with h | h
            · have h7 := q7 h; omega
            · exact h
          have hl : lv_has ls 11 [(7, .int (bI up)), (6, .int (bI dn)), (10, .int (nI n)), (8, .long (lN nu)), (0, .ref (a 0))] := lv_sub hl [2, 3, 0, 1, 5] rfl
          exact j94 n nu dn up R1 B1 A1 S1 _ _ _ (q1) (q2) (⟨_, q3⟩) (⟨_, q4⟩) (q5) (q6) (hn2) ((q8 hn2).1) ((q8 hn2).2) (q10) (Or.inl (by omega)) hP hD hS hl
        · have h3 : n < 17 := by
            rcases Nat.lt_or_ge n 17 with h | h
            · exact h
            · exact absurd (nI_le h (by omega)) hc
          refine lv_iload hx hb dS_find_42 (lv_at hl 3 rfl) ?_
          refine lv_if_ne (tgt := 94) hx hb dS_find_44 (by decide) (fun hc2 => ?_) (fun hc2 => ?_)
          · have e1 := bI_ne hc2
            have hn2 : 2 ≤ n := by
              rcases Nat.lt_or_ge n 2 with h | h
              · have h7 := q7 h; rw [h7.1] at e1; cases e1
              · exact h
            have hl : lv_has ls 11 [(7, .int (bI up)), (6, .int (bI dn)), (10, .int (nI n)), (8, .long (lN nu)), (0, .ref (a 0))] := lv_sub hl [2, 3, 0, 1, 5] rfl
            exact j94 n nu dn up R1 B1 A1 S1 _ _ _ (q1) (q2) (⟨_, q3⟩) (⟨_, q4⟩) (q5) (q6) (hn2) ((q8 hn2).1) ((q8 hn2).2) (q10) (Or.inr (Or.inl e1)) hP hD hS hl
          · have e1 := bI_eq hc2
            refine lv_iload hx hb dS_find_47 (lv_at hl 2 rfl) ?_
            refine lv_if_ne (tgt := 94) hx hb dS_find_49 (by decide) (fun hc3 => ?_) (fun hc3 => ?_)
            · have e2 := bI_ne hc3
              have hn2 : 2 ≤ n := by
                rcases Nat.lt_or_ge n 2 with h | h
                · have h7 := q7 h; rw [h7.2] at e2; cases e2
                · exact h
              have hl : lv_has ls 11 [(7, .int (bI up)), (6, .int (bI dn)), (10, .int (nI n)), (8, .long (lN nu)), (0, .ref (a 0))] := lv_sub hl [2, 3, 0, 1, 5] rfl
              exact j94 n nu dn up R1 B1 A1 S1 _ _ _ (q1) (q2) (⟨_, q3⟩) (⟨_, q4⟩) (q5) (q6) (hn2) ((q8 hn2).1) ((q8 hn2).2) (q10) (Or.inr (Or.inr e2)) hP hD hS hl
            · have e2 := bI_eq hc3
              have hnl : nu < 10 ^ n := by rw [q6]; exact num_lt hw0 hlt
              have hn16 : 10 ^ n ≤ 10 ^ 16 := Nat.pow_le_pow_right (by decide) (by omega)
              have hrw := Nat.mod_lt (10 ^ n * (4 * c9 * u)) hw0
              have hk2 : (if cl then 1 else 2) ≤ 2 := by split <;> decide
              obtain ⟨vS, hS1⟩ := q5
              have hten := Nat.div_lt_of_lt_mul (show 10 * (10 ^ n * (4 * c9 * u) % wv) < wv * 10 by omega)
              obtain ⟨fs1, fs2⟩ := find_step hw0 rfl q6
              refine lv_lload hx hb dS_find_52 (lv_at hl 1 rfl) ?_
              refine lv_ldc2 (v := 10) hx hb hown (hts _ kw_1_221) dS_find_54 ?_
              refine tp_l (y := lN 10) (rfl) ?_
              refine lv_lmul hx hb dS_find_57 ?_
              refine tp_l (y := lN (nu * 10)) (lN_mul nu 10) ?_
              refine lv_aload_n hx hb dS_find_58 rfl (lv_at hl 5 rfl) ?_
              refine jnI (Wr := []) (W2 := fun y => [(a 0, .inr (1, [.ref (a 1), .ref (a 3), .ref (a 5), .ref (a 7), .ref (a 9), .ref (a 11), .int cnt, .int (iI ((P : Nat) - 1100 : Int))])), (a 1, .inr (0, [.ref (a 2), .int (nI W1.2)])), (a 2, .inl (cI, 28, .inl W1.1)), (a 3, .inr (0, [.ref (a 4), .int (nI y.1.2)])), (a 4, .inl (cI, 28, .inl y.1.1)), (a 5, .inr (0, [.ref (a 6), .int (nI y.2.1.2)])), (a 6, .inl (cI, 28, .inl y.2.1.1)), (a 7, .inr (0, [.ref (a 8), .int (nI y.2.2.2)])), (a 8, .inl (cI, 28, .inl y.2.2.1)), (a 9, .inr (0, [.ref (a 10), .int (nI S1.2)])), (a 10, .inl (cI, 28, .inl S1.1)), (a 11, .inl (cC, 17, .inl d))]) (rV (n := 0) (As := []) (rest := [.long (lN (nu * 10))]) hx hb hml hown hts (c_next a W1 R1 B1 A1 S1 d cnt (iI ((P : Nat) - 1100 : Int)) wv (10 ^ n * (4 * c9 * u) % wv) (10 ^ n * ((if cl then 1 else 2) * u)) (10 ^ n * (2 * u)) nw q2 q3 q4 hrw big1 (big_step hk2 (by omega) big2).1 (big_step (Nat.le_refl 2) (by omega) big2).1 _) kw_1_225 kw_1_222 kw_1_224 kw_0_5 kw_1_3 (by decide +kernel) ⟨Nat.le_of_ble_eq_true rfl, Nat.le_of_ble_eq_true rfl⟩ hK hP hD [0, 1, 2, 3, 4, 5, 6, 7, 8, 9, 10, 11] rfl rfl 0 rfl rfl rfl rfl hl.1 rfl (lv_room (Nat.le_of_ble_eq_true rfl)) dS_find_59 ⟨Nat.le_of_ble_eq_true rfl, Nat.le_of_ble_eq_true rfl⟩) hP hD hS hA [0, 1, 2, 3, 4, 5, 6, 7, 8, 9, 10, 11] [] [0, 1, 2, 3, 4, 5, 6, 7, 8, 9, 10, 11] rfl rfl rfl (by decide) (fun _ => rfl) rfl (fun o y H locs hy hP hD hS => ?_)
              have hP : va_P G vwCl [(a 0, .inr (1, [.ref (a 1), .ref (a 3), .ref (a 5), .ref (a 7), .ref (a 9), .ref (a 11), .int cnt, .int (iI ((P : Nat) - 1100 : Int))])), (a 1, .inr (0, [.ref (a 2), .int (nI W1.2)])), (a 2, .inl (cI, 28, .inl W1.1)), (a 3, .inr (0, [.ref (a 4), .int (nI y.1.2)])), (a 4, .inl (cI, 28, .inl y.1.1)), (a 5, .inr (0, [.ref (a 6), .int (nI y.2.1.2)])), (a 6, .inl (cI, 28, .inl y.2.1.1)), (a 7, .inr (0, [.ref (a 8), .int (nI y.2.2.2)])), (a 8, .inl (cI, 28, .inl y.2.2.1)), (a 9, .inr (0, [.ref (a 10), .int (nI S1.2)])), (a 10, .inl (cI, 28, .inl S1.1)), (a 11, .inl (cC, 17, .inl d))] H := hP
              have hD : va_D A [(a 0, .inr (1, [.ref (a 1), .ref (a 3), .ref (a 5), .ref (a 7), .ref (a 9), .ref (a 11), .int cnt, .int (iI ((P : Nat) - 1100 : Int))])), (a 1, .inr (0, [.ref (a 2), .int (nI W1.2)])), (a 2, .inl (cI, 28, .inl W1.1)), (a 3, .inr (0, [.ref (a 4), .int (nI y.1.2)])), (a 4, .inl (cI, 28, .inl y.1.1)), (a 5, .inr (0, [.ref (a 6), .int (nI y.2.1.2)])), (a 6, .inl (cI, 28, .inl y.2.1.1)), (a 7, .inr (0, [.ref (a 8), .int (nI y.2.2.2)])), (a 8, .inl (cI, 28, .inl y.2.2.1)), (a 9, .inr (0, [.ref (a 10), .int (nI S1.2)])), (a 10, .inl (cI, 28, .inl S1.1)), (a 11, .inl (cC, 17, .inl d))] := hD
              obtain ⟨R2, B2, A2⟩ := y
              have hy : o = nI (10 * (10 ^ n * (4 * c9 * u) % wv) / wv) ∧ Nt R2.1 R2.2 (10 * (10 ^ n * (4 * c9 * u) % wv) % wv) ∧ Nt B2.1 B2.2 (10 * (10 ^ n * ((if cl then 1 else 2) * u))) ∧ Nt A2.1 A2.2 (10 * (10 ^ n * (2 * u))) := hy
              obtain ⟨ho, n2, n3, n4⟩ := hy
              subst ho
              rw [fs2] at n2
              rw [pw_step] at n3 n4
              have hP : va_P G vwCl [(a 0, .inr (1, [.ref (a 1), .ref (a 3), .ref (a 5), .ref (a 7), .ref (a 9), .ref (a 11), .int cnt, .int (iI ((P : Nat) - 1100 : Int))])), (a 1, .inr (0, [.ref (a 2), .int (nI W1.2)])), (a 2, .inl (cI, 28, .inl W1.1)), (a 3, .inr (0, [.ref (a 4), .int (nI R2.2)])), (a 4, .inl (cI, 28, .inl R2.1)), (a 5, .inr (0, [.ref (a 6), .int (nI B2.2)])), (a 6, .inl (cI, 28, .inl B2.1)), (a 7, .inr (0, [.ref (a 8), .int (nI A2.2)])), (a 8, .inl (cI, 28, .inl A2.1)), (a 9, .inr (0, [.ref (a 10), .int (nI S1.2)])), (a 10, .inl (cI, 28, .inl S1.1)), (a 11, .inl (cC, 17, .inl d))] H := hP
              have hD : va_D A [(a 0, .inr (1, [.ref (a 1), .ref (a 3), .ref (a 5), .ref (a 7), .ref (a 9), .ref (a 11), .int cnt, .int (iI ((P : Nat) - 1100 : Int))])), (a 1, .inr (0, [.ref (a 2), .int (nI W1.2)])), (a 2, .inl (cI, 28, .inl W1.1)), (a 3, .inr (0, [.ref (a 4), .int (nI R2.2)])), (a 4, .inl (cI, 28, .inl R2.1)), (a 5, .inr (0, [.ref (a 6), .int (nI B2.2)])), (a 6, .inl (cI, 28, .inl B2.1)), (a 7, .inr (0, [.ref (a 8), .int (nI A2.2)])), (a 8, .inl (cI, 28, .inl A2.1)), (a 9, .inr (0, [.ref (a 10), .int (nI S1.2)])), (a 10, .inl (cI, 28, .inl S1.1)), (a 11, .inl (cC, 17, .inl d))] := hD
              refine lv_i2l (v := lN (10 * (10 ^ n * (4 * c9 * u) % wv) / wv)) hx hb dS_find_62 (nI_l (by omega)) ?_
              refine lv_ladd hx hb dS_find_63 ?_
              refine tp_l (y := lN (10 ^ (n + 1) * (4 * c9 * u) / wv)) (by rw [lN_add, fs1]) ?_
              refine lv_lstore hx hb dS_find_64 hl (by decide) rfl (fun ls hl => ?_)
              have hl : lv_has ls 11 [(8, .long (lN (10 ^ (n + 1) * (4 * c9 * u) / wv))), (10, .int (nI n)), (7, .int (bI up)), (6, .int (bI dn)), (5, .int (bI (decide (c9 % 2 = 0)))), (0, .ref (a 0))] := hl
              refine lv_iinc (k := 1) (v := nI (n + 1)) hx hb dS_find_66 hl rfl (nI_1 n) (by decide) rfl (fun ls hl => ?_)
              have hl : lv_has ls 11 [(10, .int (nI (n + 1))), (8, .long (lN (10 ^ (n + 1) * (4 * c9 * u) / wv))), (7, .int (bI up)), (6, .int (bI dn)), (5, .int (bI (decide (c9 % 2 = 0)))), (0, .ref (a 0))] := hl
              refine lv_iload hx hb dS_find_69 (lv_at hl 0 rfl) ?_
              refine lv_iconst (v := nI 2) hx hb dS_find_71 (by decide) ?_
              have q10b : ∀ m, 2 ≤ m → m < n + 1 → ¬ (rdn (eU qn) c9 cl (sU P m) ∨ rup (eU qn) c9 (sU P m)) := fun m h1 h2 => by
                by_cases hm : m = n
                · subst hm; exact fun h => h.elim (fun h => by have := (q8 h1).1.mpr h; rw [e1] at this; cases this) (fun h => by have := (q8 h1).2.mpr h; rw [e2] at this; cases this)
                · exact q10 m h1 (by omega)
              refine lv_icmp_lt (tgt := 35) hx hb dS_find_72 (by decide) (fun hc4 => ?_) (fun hc4 => ?_)
              · have h4 : n + 1 < 2 := (nI_ltI (by omega) (by decide)).mp hc4
                have hl : lv_has ls 11 [(10, .int (nI (n + 1))), (8, .long (lN (10 ^ (n + 1) * (4 * c9 * u) / wv))), (7, .int (bI up)), (6, .int (bI dn)), (5, .int (bI (decide (c9 % 2 = 0)))), (0, .ref (a 0))] := lv_sub hl [0, 1, 2, 3, 4, 5] rfl
                exact ih (n + 1) (10 ^ (n + 1) * (4 * c9 * u) / wv) dn up R2 B2 A2 S1 _ _ _ (by omega) (by omega) (n2) (n3) (n4) (⟨_, hS1⟩) (rfl) (fun _ => ⟨e1, e2⟩) (fun h => by omega) (q10b) hP hD hS hl
              · have h4 : 2 ≤ n + 1 := by
                  rcases Nat.lt_or_ge (n + 1) 2 with h | h
                  · exact absurd ((nI_ltI (by omega) (by decide)).mpr h) hc4
                  · exact h
                refine lv_aload_n hx hb dS_find_75 rfl (lv_at hl 5 rfl) ?_
                refine lv_iload hx hb dS_find_76 (lv_at hl 4 rfl) ?_
                refine jnI (Wr := []) (W2 := fun y5 => [(a 0, .inr (1, [.ref (a 1), .ref (a 3), .ref (a 5), .ref (a 7), .ref (a 9), .ref (a 11), .int cnt, .int (iI ((P : Nat) - 1100 : Int))])), (a 1, .inr (0, [.ref (a 2), .int (nI W1.2)])), (a 2, .inl (cI, 28, .inl W1.1)), (a 3, .inr (0, [.ref (a 4), .int (nI R2.2)])), (a 4, .inl (cI, 28, .inl R2.1)), (a 5, .inr (0, [.ref (a 6), .int (nI B2.2)])), (a 6, .inl (cI, 28, .inl B2.1)), (a 7, .inr (0, [.ref (a 8), .int (nI A2.2)])), (a 8, .inl (cI, 28, .inl A2.1)), (a 9, .inr (0, [.ref (a 10), .int (nI S1.2)])), (a 10, .inl (cI, 28, .inl S1.1)), (a 11, .inl (cC, 17, .inl d))]) (rV (n := 1) (As := [.int (bI (decide (c9 % 2 = 0)))]) (rest := []) hx hb hml hown hts (c_down a W1 R2 B2 A2 S1 d cnt (iI ((P : Nat) - 1100 : Int)) (10 ^ (n + 1) * (4 * c9 * u) % wv) (10 ^ (n + 1) * ((if cl then 1 else 2) * u)) (decide (c9 % 2 = 0)) n2 n3 _) kw_1_233 kw_1_230 kw_1_232 kw_0_6 kw_1_3 (by decide +kernel) ⟨Nat.le_of_ble_eq_true rfl, Nat.le_of_ble_eq_true rfl⟩ hK hP hD [0, 1, 2, 3, 4, 5, 6, 7, 8, 9, 10, 11] rfl rfl 0 rfl rfl rfl rfl hl.1 rfl (lv_room (Nat.le_of_ble_eq_true rfl)) dS_find_78 ⟨Nat.le_of_ble_eq_true rfl, Nat.le_of_ble_eq_true rfl⟩) hP hD hS hA [0, 1, 2, 3, 4, 5, 6, 7, 8, 9, 10, 11] [] [0, 1, 2, 3, 4, 5, 6, 7, 8, 9, 10, 11] rfl rfl rfl (by decide) (fun _ => rfl) rfl (fun o5 y5 H locs hd5 hP hD hS => ?_)
                have hP : va_P G vwCl [(a 0, .inr (1, [.ref (a 1), .ref (a 3), .ref (a 5), .ref (a 7), .ref (a 9), .ref (a 11), .int cnt, .int (iI ((P : Nat) - 1100 : Int))])), (a 1, .inr (0, [.ref (a 2), .int (nI W1.2)])), (a 2, .inl (cI, 28, .inl W1.1)), (a 3, .inr (0, [.ref (a 4), .int (nI R2.2)])), (a 4, .inl (cI, 28, .inl R2.1)), (a 5, .inr (0, [.ref (a 6), .int (nI B2.2)])), (a 6, .inl (cI, 28, .inl B2.1)), (a 7, .inr (0, [.ref (a 8), .int (nI A2.2)])), (a 8, .inl (cI, 28, .inl A2.1)), (a 9, .inr (0, [.ref (a 10), .int (nI S1.2)])), (a 10, .inl (cI, 28, .inl S1.1)), (a 11, .inl (cC, 17, .inl d))] H := hP
                have hD : va_D A [(a 0, .inr (1, [.ref (a 1), .ref (a 3), .ref (a 5), .ref (a 7), .ref (a 9), .ref (a 11), .int cnt, .int (iI ((P : Nat) - 1100 : Int))])), (a 1, .inr (0, [.ref (a 2), .int (nI W1.2)])), (a 2, .inl (cI, 28, .inl W1.1)), (a 3, .inr (0, [.ref (a 4), .int (nI R2.2)])), (a 4, .inl (cI, 28, .inl R2.1)), (a 5, .inr (0, [.ref (a 6), .int (nI B2.2)])), (a 6, .inl (cI, 28, .inl B2.1)), (a 7, .inr (0, [.ref (a 8), .int (nI A2.2)])), (a 8, .inl (cI, 28, .inl A2.1)), (a 9, .inr (0, [.ref (a 10), .int (nI S1.2)])), (a 10, .inl (cI, 28, .inl S1.1)), (a 11, .inl (cC, 17, .inl d))] := hD
                subst hd5
                refine lv_istore hx hb dS_find_81 hl (by decide) rfl (fun ls hl => ?_)
                have hl : lv_has ls 11 [(6, .int (bI (decide (10 ^ (n + 1) * (4 * c9 * u) % wv < 10 ^ (n + 1) * ((if cl then 1 else 2) * u) ∨ (10 ^ (n + 1) * (4 * c9 * u) % wv = 10 ^ (n + 1) * ((if cl then 1 else 2) * u) ∧ decide (c9 % 2 = 0) = true))))), (10, .int (nI (n + 1))), (8, .long (lN (10 ^ (n + 1) * (4 * c9 * u) / wv))), (7, .int (bI up)), (5, .int (bI (decide (c9 % 2 = 0)))), (0, .ref (a 0))] := hl
                refine lv_aload_n hx hb dS_find_83 rfl (lv_at hl 5 rfl) ?_
                refine lv_iload hx hb dS_find_84 (lv_at hl 4 rfl) ?_
                refine jnI (Wr := []) (W2 := fun S2 => [(a 0, .inr (1, [.ref (a 1), .ref (a 3), .ref (a 5), .ref (a 7), .ref (a 9), .ref (a 11), .int cnt, .int (iI ((P : Nat) - 1100 : Int))])), (a 1, .inr (0, [.ref (a 2), .int (nI W1.2)])), (a 2, .inl (cI, 28, .inl W1.1)), (a 3, .inr (0, [.ref (a 4), .int (nI R2.2)])), (a 4, .inl (cI, 28, .inl R2.1)), (a 5, .inr (0, [.ref (a 6), .int (nI B2.2)])), (a 6, .inl (cI, 28, .inl B2.1)), (a 7, .inr (0, [.ref (a 8), .int (nI A2.2)])), (a 8, .inl (cI, 28, .inl A2.1)), (a 9, .inr (0, [.ref (a 10), .int (nI S2.2)])), (a 10, .inl (cI, 28, .inl S2.1)), (a 11, .inl (cC, 17, .inl d))]) (rV (n := 1) (As := [.int (bI (decide (c9 % 2 = 0)))]) (rest := []) hx hb hml hown hts (c_up a W1 R2 B2 A2 S1 d cnt (iI ((P : Nat) - 1100 : Int)) wv (10 ^ (n + 1) * (4 * c9 * u) % wv) (10 ^ (n + 1) * (2 * u)) vS (decide (c9 % 2 = 0)) nw n2 n4 hS1 (sum_lt2 (Nat.mod_lt _ hw0) big1 (big_step (Nat.le_refl 2) (by omega) big2).2) _) kw_1_237 kw_1_234 kw_1_236 kw_0_7 kw_1_3 (by decide +kernel) ⟨Nat.le_of_ble_eq_true rfl, Nat.le_of_ble_eq_true rfl⟩ hK hP hD [0, 1, 2, 3, 4, 5, 6, 7, 8, 9, 10, 11] rfl rfl 0 rfl rfl rfl rfl hl.1 rfl (lv_room (Nat.le_of_ble_eq_true rfl)) dS_find_86 ⟨Nat.le_of_ble_eq_true rfl, Nat.le_of_ble_eq_true rfl⟩) hP hD hS hA [0, 1, 2, 3, 4, 5, 6, 7, 8, 9, 10, 11] [] [0, 1, 2, 3, 4, 5, 6, 7, 8, 9, 10, 11] rfl rfl rfl (by decide) (fun _ => rfl) rfl (fun o6 S2 H locs hd6 hP hD hS => ?_)
                have hP : va_P G vwCl [(a 0, .inr (1, [.ref (a 1), .ref (a 3), .ref (a 5), .ref (a 7), .ref (a 9), .ref (a 11), .int cnt, .int (iI ((P : Nat) - 1100 : Int))])), (a 1, .inr (0, [.ref (a 2), .int (nI W1.2)])), (a 2, .inl (cI, 28, .inl W1.1)), (a 3, .inr (0, [.ref (a 4), .int (nI R2.2)])), (a 4, .inl (cI, 28, .inl R2.1)), (a 5, .inr (0, [.ref (a 6), .int (nI B2.2)])), (a 6, .inl (cI, 28, .inl B2.1)), (a 7, .inr (0, [.ref (a 8), .int (nI A2.2)])), (a 8, .inl (cI, 28, .inl A2.1)), (a 9, .inr (0, [.ref (a 10), .int (nI S2.2)])), (a 10, .inl (cI, 28, .inl S2.1)), (a 11, .inl (cC, 17, .inl d))] H := hP
                have hD : va_D A [(a 0, .inr (1, [.ref (a 1), .ref (a 3), .ref (a 5), .ref (a 7), .ref (a 9), .ref (a 11), .int cnt, .int (iI ((P : Nat) - 1100 : Int))])), (a 1, .inr (0, [.ref (a 2), .int (nI W1.2)])), (a 2, .inl (cI, 28, .inl W1.1)), (a 3, .inr (0, [.ref (a 4), .int (nI R2.2)])), (a 4, .inl (cI, 28, .inl R2.1)), (a 5, .inr (0, [.ref (a 6), .int (nI B2.2)])), (a 6, .inl (cI, 28, .inl B2.1)), (a 7, .inr (0, [.ref (a 8), .int (nI A2.2)])), (a 8, .inl (cI, 28, .inl A2.1)), (a 9, .inr (0, [.ref (a 10), .int (nI S2.2)])), (a 10, .inl (cI, 28, .inl S2.1)), (a 11, .inl (cC, 17, .inl d))] := hD
                obtain ⟨hd6, nS2⟩ := hd6
                subst hd6
                refine lv_istore hx hb dS_find_89 hl (by decide) rfl (fun ls hl => ?_)
                have hl : lv_has ls 11 [(7, .int (bI (decide (wv < 10 ^ (n + 1) * (4 * c9 * u) % wv + 10 ^ (n + 1) * (2 * u) ∨ (wv = 10 ^ (n + 1) * (4 * c9 * u) % wv + 10 ^ (n + 1) * (2 * u) ∧ decide (c9 % 2 = 0) = true))))), (6, .int (bI (decide (10 ^ (n + 1) * (4 * c9 * u) % wv < 10 ^ (n + 1) * ((if cl then 1 else 2) * u) ∨ (10 ^ (n + 1) * (4 * c9 * u) % wv = 10 ^ (n + 1) * ((if cl then 1 else 2) * u) ∧ decide (c9 % 2 = 0) = true))))), (10, .int (nI (n + 1))), (8, .long (lN (10 ^ (n + 1) * (4 * c9 * u) / wv))), (5, .int (bI (decide (c9 % 2 = 0)))), (0, .ref (a 0))] := hl
                refine lv_goto (tgt := 35) hx hb dS_find_91 (by decide) ?_
                have hl : lv_has ls 11 [(10, .int (nI (n + 1))), (8, .long (lN (10 ^ (n + 1) * (4 * c9 * u) / wv))), (7, .int (bI (decide (wv < 10 ^ (n + 1) * (4 * c9 * u) % wv + 10 ^ (n + 1) * (2 * u) ∨ (wv = 10 ^ (n + 1) * (4 * c9 * u) % wv + 10 ^ (n + 1) * (2 * u) ∧ decide (c9 % 2 = 0) = true))))), (6, .int (bI (decide (10 ^ (n + 1) * (4 * c9 * u) % wv < 10 ^ (n + 1) * ((if cl then 1 else 2) * u) ∨ (10 ^ (n + 1) * (4 * c9 * u) % wv = 10 ^ (n + 1) * ((if cl then 1 else 2) * u) ∧ decide (c9 % 2 = 0) = true))))), (5, .int (bI (decide (c9 % 2 = 0)))), (0, .ref (a 0))] := lv_sub hl [2, 3, 0, 1, 4, 5] rfl
                exact ih (n + 1) (10 ^ (n + 1) * (4 * c9 * u) / wv) (decide (10 ^ (n + 1) * (4 * c9 * u) % wv < 10 ^ (n + 1) * ((if cl then 1 else 2) * u) ∨ (10 ^ (n + 1) * (4 * c9 * u) % wv = 10 ^ (n + 1) * ((if cl then 1 else 2) * u) ∧ decide (c9 % 2 = 0) = true))) (decide (wv < 10 ^ (n + 1) * (4 * c9 * u) % wv + 10 ^ (n + 1) * (2 * u) ∨ (wv = 10 ^ (n + 1) * (4 * c9 * u) % wv + 10 ^ (n + 1) * (2 * u) ∧ decide (c9 % 2 = 0) = true))) R2 B2 A2 S2 _ _ _ (by omega) (by omega) (n2) (n3) (n4) (⟨_, nS2⟩) (rfl) (fun h => by omega) (fun _ => ⟨by rw [cls_rdn cl hw0 (by omega) hu, decide_eq_true_iff, decide_eq_true_iff], by rw [cls_rup hw0 (by omega) hu, decide_eq_true_iff, decide_eq_true_iff]⟩) (q10b) hP hD hS hl
    exact lp (_ + 1) 0 0 false false R0 B0 A0 nS _ _ _ (Nat.lt_succ_self _) (by decide) (by rw [Nat.pow_zero, Nat.one_mul, Nat.mod_eq_of_lt hlt]; exact nr0) (by rw [Nat.pow_zero, Nat.one_mul]; exact nb0) (by rw [Nat.pow_zero, Nat.one_mul]; exact na0) (hSq) (by rw [Nat.pow_zero, Nat.one_mul, Nat.div_eq_of_lt hlt]) (fun _ => ⟨rfl, rfl⟩) (fun h => by omega) (fun m h1 h2 => by omega) hP hD hS hl
  refine lv_lload_n hx hb dS_find_8 rfl (lv_at hl 1 rfl) ?_
  refine lv_lconst (v := lN 1) hx hb dS_find_9 (by decide) ?_
  refine lv_land hx hb dS_find_10 ?_
  refine tp_l (y := lN (c9 % 2)) (wb_a1 (by omega)) ?_
  refine lv_lconst (v := lN 0) hx hb dS_find_11 (by decide) ?_
  refine W.lcmp hx hb dS_find_12 ?_
  refine lv_if_ne (tgt := 20) hx hb dS_find_13 (by decide) (fun hc => ?_) (fun hc => ?_)
  · have h3 : ¬ c9 % 2 = 0 := fun h => hc ((lg_cmp_eq _ _).mpr (by rw [h]))
    refine lv_iconst (v := nI 0) hx hb dS_find_20 (by decide) ?_
    refine tp_i (y := bI (decide (c9 % 2 = 0))) (bI_0 (decide_eq_false h3)) ?_
    have hl : lv_has ls 11 [(0, .ref (a 0)), (1, .long (lN c9))] := lv_sub hl [0, 1] rfl
    exact j21  _ _ _  hP hD hS hl
  · have h3 : c9 % 2 = 0 := (pk_lEQ (by omega) (by decide)).mp ((lg_cmp_eq _ _).mp hc)
    refine lv_iconst (v := nI 1) hx hb dS_find_16 (by decide) ?_
    refine tp_i (y := bI (decide (c9 % 2 = 0))) (bI_1 (decide_eq_true h3)) ?_
    refine lv_goto (tgt := 21) hx hb dS_find_17 (by decide) ?_
    have hl : lv_has ls 11 [(0, .ref (a 0)), (1, .long (lN c9))] := lv_sub hl [0, 1] rfl
    exact j21  _ _ _  hP hD hS hl
end SHC
