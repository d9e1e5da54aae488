/-! ShortestPrinter.Shortest: its cells and the numbers behind them -/
abbrev Q2 : Type := (Nat → Int32) × Nat
abbrev wS (cI cC : ClassId) (a : Nat → Nat) (W R B A S : Q2) (d : Nat → Int32) (cnt pt : Int32) : va_W := [(a 0, .inr (1, [.ref (a 1), .ref (a 3), .ref (a 5), .ref (a 7), .ref (a 9), .ref (a 11), .int cnt, .int pt])), (a 1, .inr (0, [.ref (a 2), .int (nI W.2)])), (a 2, .inl (cI, 28, .inl W.1)), (a 3, .inr (0, [.ref (a 4), .int (nI R.2)])), (a 4, .inl (cI, 28, .inl R.1)), (a 5, .inr (0, [.ref (a 6), .int (nI B.2)])), (a 6, .inl (cI, 28, .inl B.1)), (a 7, .inr (0, [.ref (a 8), .int (nI A.2)])), (a 8, .inl (cI, 28, .inl A.1)), (a 9, .inr (0, [.ref (a 10), .int (nI S.2)])), (a 10, .inl (cI, 28, .inl S.1)), (a 11, .inl (cC, 17, .inl d))]
def bI (b : Bool) : Int32 := if b then 1 else 0
theorem cm_neg {a b : Nat} : cm a b < 0 ↔ a < b := by
  unfold cm
  by_cases h1 : a < b
  · simp only [if_pos h1]; exact ⟨fun _ => h1, fun _ => by decide⟩
  · by_cases h2 : a = b
    · simp only [if_neg h1, if_pos h2]; exact ⟨fun h => absurd h (by decide), fun h => absurd h h1⟩
    · simp only [if_neg h1, if_neg h2]; exact ⟨fun h => absurd h (by decide), fun h => absurd h h1⟩
theorem cm_pos {a b : Nat} : 0 < cm a b ↔ b < a := by
  unfold cm
  by_cases h1 : a < b
  · simp only [if_pos h1]; exact ⟨fun h => absurd h (by decide), fun h => by omega⟩
  · by_cases h2 : a = b
    · simp only [if_neg h1, if_pos h2]; exact ⟨fun h => absurd h (by decide), fun h => by omega⟩
    · simp only [if_neg h1, if_neg h2]; exact ⟨fun _ => by omega, fun _ => by decide⟩
theorem cm_zero {a b : Nat} : cm a b = 0 ↔ a = b := ⟨cm_0, fun h => by rw [h, cm_self]⟩
theorem bI_1 {b : Bool} (h : b = true) : nI 1 = bI b := by rw [h]; rfl
theorem bI_0 {b : Bool} (h : b = false) : nI 0 = bI b := by rw [h]; rfl
theorem bI_ne {b : Bool} (h : ¬ bI b = 0) : b = true := by cases b with
  | true => rfl
  | false => exact absurd rfl h
theorem bI_eq {b : Bool} (h : bI b = 0) : b = false := by cases b with
  | true => exact absurd h (by decide)
  | false => rfl
theorem nar_char {q : Nat} (hq : q < 65536) : vp_nar .char (nI q) = nI q := by unfold vp_nar; rw [(pk_charN hq).1]
theorem chr_nI {q : Nat} (hq : q < 65536) : ((nI q).toUInt32 % 65536).toInt32 = nI q := by rw [pk_char, pk_tn (by omega), Nat.mod_eq_of_lt hq]
/-- keep's third loop: a digit more -/
theorem dgs_at {v n k : Nat} (hk : k < n) : v / 10 ^ (n - (k + 1)) % 10 = dgs v n k := by
  unfold dgs
  rw [show n - 1 - k = n - (k + 1) by omega]
theorem div_step (v m : Nat) : v / 10 ^ m / 10 = v / 10 ^ (m + 1) := by rw [Nat.div_div_eq_div_mul, Nat.pow_succ]
theorem iI_nI (z : Int) (n : Nat) : iI z + nI n = iI (z + n) := by rw [← iI_nat, iI_add]
theorem iI_snI (z : Int) (n : Nat) : iI z - nI n = iI (z - n) := by rw [← iI_nat, iI_sub]
theorem imax0 {z : Int} (h1 : -2 ^ 30 ≤ z) (h2 : z < 2 ^ 30) : (if iI z < nI 0 then nI 0 else iI z) = nI z.toNat := by
  rw [show nI 0 = iI 0 from rfl]
  by_cases h : z < 0
  · rw [if_pos ((iI_lt (by omega) (by omega) (by decide) (by decide)).mpr h), show z.toNat = 0 by omega]
    rfl
  · rw [if_neg (fun h3 => h ((iI_lt (by omega) (by omega) (by decide) (by decide)).mp h3)), ← iI_nat, Int.toNat_of_nonneg (by omega)]
theorem lI_shr41 {z : Int} (h1 : -2 ^ 63 ≤ z) (h2 : z < 2 ^ 63) : lI z >>> ((nI 41).toInt64 &&& 63) = lI (z / 2199023255552) := Int64.toInt_inj.mp (by
  have e : (lI z >>> ((nI 41).toInt64 &&& 63)).toInt = (lI z).toInt >>> 41 := BitVec.toInt_sshiftRight ..
  rw [e, lI_toInt h1 h2, Int.shiftRight_eq_div_pow, lI_toInt (by omega) (by omega)]
  rfl)
theorem next_end {r w i : Nat} (hlt : r < w) (hm : i * w ≤ r * 10) (hl : r * 10 - i * w < w) : i = 10 * r / w ∧ 10 * r % w = r * 10 - i * w := by
  have hw : 0 < w := by omega
  have e : 10 * r = (r * 10 - i * w) + w * i := by
    have : w * i = i * w := Nat.mul_comm _ _
    omega
  constructor
  · rw [e, Nat.add_mul_div_left _ _ hw, Nat.div_eq_of_lt hl, Nat.zero_add]
  · rw [e, Nat.add_mul_mod_self_left, Nat.mod_eq_of_lt hl]
