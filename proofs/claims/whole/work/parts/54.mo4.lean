/-! Model: numbers for compare, reads, cut -/
theorem lI_eq {a b : Int} (a1 : -2 ^ 40 ≤ a) (a2 : a < 2 ^ 40) (b1 : -2 ^ 40 ≤ b) (b2 : b < 2 ^ 40) : lI a = lI b ↔ a = b := by rw [← Int64.toInt_inj, lI_toInt (by omega) (by omega), lI_toInt (by omega) (by omega)]
theorem lI_le {a b : Int} (a1 : -2 ^ 40 ≤ a) (a2 : a < 2 ^ 40) (b1 : -2 ^ 40 ≤ b) (b2 : b < 2 ^ 40) : lI a ≤ lI b ↔ a ≤ b := by rw [Int64.le_iff_toInt_le, lI_toInt (by omega) (by omega), lI_toInt (by omega) (by omega)]
theorem cm_le0 {a b : Nat} : cm a b ≤ 0 ↔ a ≤ b := by
  constructor
  · intro h
    rcases Nat.lt_or_ge b a with h1 | h1
    · rw [cm_gt h1] at h; exact absurd h (by decide)
    · exact h1
  · intro h
    rcases Nat.lt_or_ge a b with h1 | h1
    · rw [cm_lt h1]; decide
    · rw [show a = b by omega, cm_self]; decide
theorem cm_ge0 {a b : Nat} : 0 ≤ cm a b ↔ b ≤ a := by
  constructor
  · intro h
    rcases Nat.lt_or_ge a b with h1 | h1
    · rw [cm_lt h1] at h; exact absurd h (by decide)
    · exact h1
  · intro h
    rcases Nat.lt_or_ge b a with h1 | h1
    · rw [cm_gt h1]; decide
    · rw [show a = b by omega, cm_self]; decide
/-- a row that stands for a number -/
def Rw (r : R3) (g : Nat → Nat) (v : Nat) : Prop := Rd r.1 r.2.1 g ∧ Can g r.2.1 ∧ (r.2.1 : Int) ≤ r.2.2 + 1100 ∧ r.2.2 ≤ 1000 ∧ rv g r.2.1 r.2.2 = v
theorem pad_nI {f : Nat → Int32} {n : Nat} {g : Nat → Nat} (h : Rd f n g) {i : Nat} (hi : i < n) : f i = nI (pad g n i) := by rw [show pad g n i = g i from if_pos hi]; exact (h.2 i hi).1
theorem pad_0 {n : Nat} {g : Nat → Nat} {i : Nat} (hi : ¬ i < n) : pad g n i = 0 := if_neg hi
theorem cut_val {g : Nat → Nat} {ne n P : Nat} {z : Int} (h : ∀ j, j < ne → g j < 10) (hP : (P : Int) = z + 1100) (h1 : ne ≤ P) (h2 : n ≤ P) : dv (pad g ne) n * 10 ^ (z + 1100 - n).toNat = rv g ne z / sU P n * sU P n := by
  rw [rv_eq hP, dv_cut h h1 h2]
  unfold sU
  rw [show (z + 1100 - n).toNat = P - n by omega]
theorem strip_val {g : Nat → Nat} {k : Nat} {z : Int} (hk : ((k + 1 : Nat) : Int) ≤ z + 1100) (h0 : g k = 0) : rv g (k + 1) z = rv g k z := by
  unfold rv
  rw [strip_step h0, Nat.mul_assoc, ← Nat.pow_succ', show (z + 1100 - ((k + 1 : Nat) : Int)).toNat.succ = (z + 1100 - (k : Int)).toNat by omega]
theorem more_val {g g' : Nat → Nat} {n e : Nat} {z : Int} (h : dv g' (n + e) = dv g n + 1) (hn : (n : Int) ≤ z + 1100) : rv g' (n + e) (z + e) = rv g n z + 10 ^ (z + 1100 - n).toNat := by
  unfold rv
  rw [h, Nat.add_mul, Nat.one_mul, show (z + e + 1100 - ((n + e : Nat) : Int)).toNat = (z + 1100 - (n : Int)).toNat by omega]
