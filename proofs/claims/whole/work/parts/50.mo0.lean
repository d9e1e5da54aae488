/-! ShortestPrinterModel: its cells -/
abbrev mO (m : Nat → Nat) (len code bits least used held : Int32) : Nat × va_E := (m 0, .inr (5, [.ref (m 1), .int len, .int code, .int bits, .int least, .ref (m 2), .int used, .ref (m 4), .ref (m 6), .ref (m 8), .ref (m 10), .ref (m 12), .ref (m 3), .int held]))
abbrev R3 : Type := (Nat → Int32) × Nat × Int
abbrev wR (cB : ClassId) (h hd : Nat) (r : R3) : va_W := [(h, .inr (4, [.ref hd, .int (nI r.2.1), .int (iI r.2.2)])), (hd, .inl (cB, 1300, .inl r.1))]
theorem Kd_le {fb lpn ones : Nat} (h : Kd fb lpn ones) : fb ≤ 52 ∧ 23 ≤ fb ∧ lpn ≤ 925 ∧ ones ≤ 2047 ∧ ones * 2 ^ fb < 2 ^ 63 := by
  rcases h with ⟨h1, h2, h3⟩ | ⟨h1, h2, h3⟩ <;> subst h1 <;> subst h2 <;> subst h3 <;> decide
theorem c_eq {fb sz : Nat} (h : fb ≤ 52) : (if 2 ^ fb - 1 < sz then 2 ^ fb + sz % 2 ^ fb else sz % 2 ^ fb) = cOf fb (sz / 2 ^ fb) (sz % 2 ^ fb) := by
  unfold cOf
  have hp : 0 < 2 ^ fb := Nat.pow_pos (by decide)
  by_cases h1 : sz < 2 ^ fb
  · rw [if_neg (by omega), if_pos (Nat.div_eq_of_lt h1)]
  · have : 1 ≤ sz / 2 ^ fb := (Nat.le_div_iff_mul_le hp).mpr (by omega)
    rw [if_pos (by omega), if_neg (by omega)]
theorem sub_l1 {n : Nat} (h : 0 < n) : lN n - lN 1 = lN (n - 1) := lN_sub h
