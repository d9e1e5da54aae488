/-! the class's start and search in numbers -/
theorem unit_eq (a b P : Nat) : 2 ^ a * 5 ^ b * (5 ^ (P - b) * 2 ^ (P - a)) = 5 ^ (b - P) * 2 ^ (a - P) * 10 ^ P := by
  have h1 : 10 ^ P = 2 ^ P * 5 ^ P := by rw [← Nat.mul_pow]
  have h2 : 2 ^ a * 2 ^ (P - a) = 2 ^ (a - P) * 2 ^ P := by rw [← Nat.pow_add, ← Nat.pow_add]; congr 1; omega
  have h3 : 5 ^ b * 5 ^ (P - b) = 5 ^ (b - P) * 5 ^ P := by rw [← Nat.pow_add, ← Nat.pow_add]; congr 1; omega
  rw [h1]
  generalize 2 ^ a = x1 at *
  generalize 2 ^ (P - a) = x2 at *
  generalize 5 ^ b = y1 at *
  generalize 5 ^ (P - b) = y2 at *
  generalize 2 ^ (a - P) = x3 at *
  generalize 5 ^ (b - P) = y3 at *
  generalize 2 ^ P = x4 at *
  generalize 5 ^ P = y4 at *
  have e1 : x1 * y1 * (y2 * x2) = (x1 * x2) * (y1 * y2) := by grind
  have e2 : y3 * x3 * (x4 * y4) = (x3 * x4) * (y3 * y4) := by grind
  rw [e1, e2, h2, h3]
theorem start_lo {e c u w P : Nat} (hw : 0 < w) (hu : e * w = u * 10 ^ P) (hP : 1 ≤ P) (h : 10 ^ (P - 1) ≤ 4 * c * e) : w ≤ 10 * (4 * c * u) := by
  have h1 : 10 ^ P = 10 ^ (P - 1) * 10 := by rw [← Nat.pow_succ]; congr 1; omega
  have h2 : 10 ^ (P - 1) * w ≤ 4 * c * e * w := Nat.mul_le_mul_right w h
  have h3 : 4 * c * e * w = 4 * c * u * 10 * 10 ^ (P - 1) := by rw [Nat.mul_assoc (4 * c), hu, h1]; grind
  have h4 : 0 < 10 ^ (P - 1) := Nat.pow_pos (by decide)
  refine Nat.le_of_mul_le_mul_left (c := 10 ^ (P - 1)) ?_ h4
  rw [h3] at h2
  have h5 : 10 ^ (P - 1) * (10 * (4 * c * u)) = 4 * c * u * 10 * 10 ^ (P - 1) := by grind
  rw [h5]
  exact h2
theorem start_hi {e c u w P : Nat} (hw : 0 < w) (hu : e * w = u * 10 ^ P) (h : 4 * c * e < 10 ^ (P + 1)) : 4 * c * u < 10 * w := by
  have h2 : 4 * c * e * w < 10 ^ (P + 1) * w := Nat.mul_lt_mul_of_pos_right h hw
  have h3 : 4 * c * e * w = 4 * c * u * 10 ^ P := by rw [Nat.mul_assoc (4 * c), hu]; grind
  refine Nat.lt_of_mul_lt_mul_right (a := 10 ^ P) ?_
  rw [← h3]
  have h4 : 10 * w * 10 ^ P = 10 ^ (P + 1) * w := by rw [Nat.pow_succ]; grind
  rw [h4]
  exact h2
/-- behind the start: x lies from 10^(P-1) to below 10^P -/
theorem start_in {e c u w P : Nat} (hw : 0 < w) (hu : e * w = u * 10 ^ P) (hP : 1 ≤ P) (h1 : 4 * c * u < w) (h2 : w ≤ 10 * (4 * c * u)) : 10 ^ (P - 1) ≤ 4 * c * e ∧ 4 * c * e < 10 ^ P := by
  have h3 : 4 * c * e * w = 4 * c * u * 10 ^ P := by rw [Nat.mul_assoc (4 * c), hu]; grind
  have h4 : 0 < 10 ^ P := Nat.pow_pos (by decide)
  constructor
  · have h5 : 10 ^ P = 10 * 10 ^ (P - 1) := by rw [Nat.mul_comm, ← Nat.pow_succ]; congr 1; omega
    refine Nat.le_of_mul_le_mul_left (c := 10 * w) ?_ (by omega)
    have h6 : 10 * w * 10 ^ (P - 1) = w * 10 ^ P := by rw [h5]; grind
    have h7 : 10 * w * (4 * c * e) = 10 * (4 * c * u) * 10 ^ P := by
      have : 10 * w * (4 * c * e) = 10 * (4 * c * e * w) := by grind
      rw [this, h3]; grind
    rw [h6, h7]
    exact Nat.mul_le_mul_right _ h2
  · refine Nat.lt_of_mul_lt_mul_right (a := w) ?_
    rw [h3, Nat.mul_comm (10 ^ P) w]
    exact Nat.mul_lt_mul_of_pos_right h1 h4
theorem find_res {e c u w P N : Nat} {cl : Bool} {v : Nat} (hw : 0 < w) (he : 0 < e) (hP : 17 ≤ P) (hu : e * w = u * 10 ^ P) (hb : 10 ^ (P - 1) ≤ 4 * c * e ∧ 4 * c * e < 10 ^ P) (hc : c < 2 ^ 53) (hcl : cl = true → c ≤ 2 ^ 52) (h2 : 2 ≤ N) (h17 : N ≤ 17) (hst : N = 17 ∨ rdn e c cl (sU P N) ∨ rup e c (sU P N)) (hmin : ∀ n, 2 ≤ n → n < N → ¬ (rdn e c cl (sU P n) ∨ rup e c (sU P n))) (hv : (pick e c cl (sU P N) ∧ v = (10 ^ N * (4 * c * u) / w + 1) * sU P N) ∨ (¬ pick e c cl (sU P N) ∧ v = 10 ^ N * (4 * c * u) / w * sU P N)) : ResAt e c cl P N v := by
  refine ⟨hb.1, hb.2, hP, h2, h17, ?_, hmin, ?_⟩
  · rcases hst with h | h
    · subst h
      exact reads17 hb.1 hP he hc hcl
    · exact h
  · rw [(cls_at (c := c) hw (by omega : N ≤ P) hu).1]
    exact hv
/-! digits of a number, the first at 0 -/
def dgs (v n : Nat) : Nat → Nat := fun i => v / 10 ^ (n - 1 - i) % 10
theorem dgs_lt (v n i : Nat) : dgs v n i < 10 := Nat.mod_lt _ (by decide)
theorem dv_dgs (v n : Nat) (h : v < 10 ^ n) : ∀ k, k ≤ n → dv (dgs v n) k = v / 10 ^ (n - k)
  | 0, _ => by rw [Nat.sub_zero, Nat.div_eq_of_lt h]; rfl
  | k + 1, hk => by
    show dv (dgs v n) k * 10 + v / 10 ^ (n - 1 - k) % 10 = _
    rw [dv_dgs v n h k (by omega), show n - k = (n - 1 - k) + 1 by omega, show n - (k + 1) = n - 1 - k by omega, Nat.pow_succ, ← Nat.div_div_eq_div_mul]
    omega
theorem can_dgs {v n : Nat} (h1 : v < 10 ^ n) (h2 : 10 ^ (n - 1) ≤ v) (hn : 0 < n) (h3 : v % 10 ≠ 0) : Can (dgs v n) n ∧ dv (dgs v n) n = v := by
  have hv : dv (dgs v n) n = v := by rw [dv_dgs v n h1 n (Nat.le_refl n), Nat.sub_self, Nat.pow_zero, Nat.div_one]
  refine ⟨⟨hn, fun i _ => dgs_lt v n i, ?_, ?_⟩, hv⟩
  · show v / 10 ^ (n - 1 - 0) % 10 ≠ 0
    rw [Nat.sub_zero]
    have a1 : 1 ≤ v / 10 ^ (n - 1) := (Nat.le_div_iff_mul_le (Nat.pow_pos (by decide))).mpr (by rw [Nat.one_mul]; exact h2)
    have a2 : v / 10 ^ (n - 1) < 10 := Nat.div_lt_of_lt_mul (by rw [← Nat.pow_succ, show (n - 1).succ = n by omega]; exact h1)
    omega
  · show v / 10 ^ (n - 1 - (n - 1)) % 10 ≠ 0
    rw [Nat.sub_self, Nat.pow_zero, Nat.div_one]
    exact h3
