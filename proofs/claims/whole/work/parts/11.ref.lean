/-! the reference's search in numbers: x = 4 c e, low = x - half gap, high = x + 2 e -/
def rds (c Lo Hi y : Nat) : Prop := if c % 2 = 0 then Lo ≤ y ∧ y ≤ Hi else Lo < y ∧ y < Hi
theorem ref_dn {e c Lo Hi U : Nat} {cl : Bool} (he : 0 < e) (hL : Lo + (if cl then e else 2 * e) = 4 * c * e) (hH : Hi = 4 * c * e + 2 * e) : rds c Lo Hi (4 * c * e / U * U) ↔ rdn e c cl U := by
  have h1 := Nat.div_add_mod (4 * c * e) U
  have h2 : 4 * c * e / U * U = U * (4 * c * e / U) := Nat.mul_comm _ _
  unfold rds rdn
  rw [h2]
  generalize (if cl then e else 2 * e) = g at *
  generalize U * (4 * c * e / U) = k at *
  generalize 4 * c * e % U = r at *
  generalize 4 * c * e = X at *
  by_cases hc : c % 2 = 0
  · rw [if_pos hc]; omega
  · rw [if_neg hc]; omega
theorem ref_up {e c Lo Hi U : Nat} {cl : Bool} (he : 0 < e) (hU : 0 < U) (hL : Lo + (if cl then e else 2 * e) = 4 * c * e) (hH : Hi = 4 * c * e + 2 * e) : rds c Lo Hi ((4 * c * e / U + 1) * U) ↔ rup e c U := by
  have h1 := Nat.div_add_mod (4 * c * e) U
  have h3 := Nat.mod_lt (4 * c * e) hU
  have h2 : (4 * c * e / U + 1) * U = U * (4 * c * e / U) + U := by rw [Nat.add_mul, Nat.one_mul, Nat.mul_comm]
  have h4 : 0 < (if cl then e else 2 * e) := by split <;> omega
  unfold rds rup
  rw [h2]
  generalize (if cl then e else 2 * e) = g at *
  generalize U * (4 * c * e / U) = k at *
  generalize 4 * c * e % U = r at *
  generalize 4 * c * e = X at *
  by_cases hc : c % 2 = 0
  · rw [if_pos hc]; omega
  · rw [if_neg hc]; omega
/-- what the reference keeps at n digits -/
def refPick (e c : Nat) (cl : Bool) (U : Nat) (short : Prop) : Prop := ¬ short ∧ ¬ (rdn e c cl U ∧ (¬ rup e c U ∨ 2 * (4 * c * e % U) < U ∨ (2 * (4 * c * e % U) = U ∧ ¬ 4 * c * e / U % 2 = 1)))
theorem refPick_iff {e c : Nat} {cl : Bool} {U : Nat} {short : Prop} (he : 0 < e) (hU : 0 < U) (hs : short → 4 * c * e % U = 0) (hr : rdn e c cl U ∨ rup e c U) : refPick e c cl U short ↔ pick e c cl U := by
  unfold refPick pick
  have h4 : 0 < (if cl then e else 2 * e) := by split <;> omega
  by_cases h : short
  · have h0 := hs h
    have h1 : rdn e c cl U := by unfold rdn; rw [h0]; exact Or.inl h4
    constructor
    · intro ⟨a, _⟩; exact absurd h a
    · intro ⟨_, b⟩
      rcases b with b | b | b
      · exact absurd h1 b
      · omega
      · omega
  · by_cases a : rdn e c cl U <;> by_cases b : rup e c U
    · simp only [h, a, b, not_true_eq_false, not_false_eq_true, false_or, true_and]
      omega
    · simp [h, a, b]
    · simp [h, a, b]
    · rcases hr with hr | hr
      · exact absurd hr a
      · exact absurd hr b
theorem ref_res {e c P k v : Nat} {cl : Bool} {short : Prop} (he : 0 < e) (hP : 17 ≤ P) (hb : 10 ^ (P - 1) ≤ 4 * c * e ∧ 4 * c * e < 10 ^ P) (hk : 1 ≤ k) (hk17 : k ≤ 17) (hr : rdn e c cl (sU P k) ∨ rup e c (sU P k)) (hmin : ∀ n, 1 ≤ n → n < k → ¬ (rdn e c cl (sU P n) ∨ rup e c (sU P n))) (hs : short → 4 * c * e % sU P (max k 2) = 0) (hv : (refPick e c cl (sU P (max k 2)) short ∧ v = (4 * c * e / sU P (max k 2) + 1) * sU P (max k 2)) ∨ (¬ refPick e c cl (sU P (max k 2)) short ∧ v = 4 * c * e / sU P (max k 2) * sU P (max k 2))) : ResAt e c cl P (max k 2) v := by
  have hr2 : rdn e c cl (sU P (max k 2)) ∨ rup e c (sU P (max k 2)) := by
    have := reads_mono (k := max k 2 - k) (by omega) hr
    rwa [show k + (max k 2 - k) = max k 2 by omega] at this
  rw [refPick_iff he (sU_pos _ _) hs hr2] at hv
  exact ⟨hb.1, hb.2, hP, by omega, by omega, hr2, fun n h1 h2 => hmin n (by omega) (by omega), hv⟩
