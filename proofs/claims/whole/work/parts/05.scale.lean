/-! the class measures in units of its own: X w = R U -/
theorem su_div {X w R U : Nat} (hw : 0 < w) (hU : 0 < U) (h : X * w = R * U) : X / U = R / w ∧ X % U * w = R % w * U := by
  have h1 := Nat.div_add_mod R w
  have h2 := Nat.mod_lt R hw
  have h3 : X * w = (w * (R / w) + R % w) * U := by rw [h1]; exact h
  generalize R / w = k at *
  generalize R % w = s at *
  have h4 : k * U ≤ X := by
    refine Nat.le_of_mul_le_mul_right ?_ hw
    rw [h3, Nat.add_mul]
    have : k * U * w = w * k * U := by grind
    omega
  obtain ⟨t, rfl⟩ : ∃ t, X = k * U + t := ⟨X - k * U, by omega⟩
  have h5 : t * w = s * U := by
    rw [Nat.add_mul, Nat.add_mul] at h3
    have : k * U * w = w * k * U := by grind
    omega
  have h6 : t < U := by
    refine Nat.lt_of_mul_lt_mul_right (a := w) ?_
    rw [h5, Nat.mul_comm U w]
    exact Nat.mul_lt_mul_of_pos_right h2 hU
  have e1 : (k * U + t) / U = k := by rw [Nat.mul_comm, Nat.mul_add_div hU, Nat.div_eq_of_lt h6, Nat.add_zero]
  have e2 : (k * U + t) % U = t := by rw [Nat.mul_comm, Nat.mul_add_mod, Nat.mod_eq_of_lt h6]
  rw [e1, e2]
  exact ⟨rfl, h5⟩
theorem su_lt {t w s U h B : Nat} (hw : 0 < w) (hU : 0 < U) (h1 : t * w = s * U) (h2 : h * w = B * U) : s < B ↔ t < h := by
  constructor
  · intro hs
    refine Nat.lt_of_mul_lt_mul_right (a := w) ?_
    rw [h1, h2]
    exact Nat.mul_lt_mul_of_pos_right hs hU
  · intro ht
    refine Nat.lt_of_mul_lt_mul_right (a := U) ?_
    rw [← h1, ← h2]
    exact Nat.mul_lt_mul_of_pos_right ht hw
theorem su_eq {t w s U h B : Nat} (hw : 0 < w) (hU : 0 < U) (h1 : t * w = s * U) (h2 : h * w = B * U) : s = B ↔ t = h := by
  constructor
  · intro hs
    exact Nat.eq_of_mul_eq_mul_right hw (by rw [h1, h2, hs])
  · intro ht
    exact Nat.eq_of_mul_eq_mul_right hU (by rw [← h1, ← h2, ht])
/-- the class's numbers behind n digits, and what they say of x -/
theorem cls_at {e c u w P n : Nat} (hw : 0 < w) (hn : n ≤ P) (hu : e * w = u * 10 ^ P) : 4 * c * e / sU P n = 10 ^ n * (4 * c * u) / w ∧ 4 * c * e % sU P n * w = 10 ^ n * (4 * c * u) % w * sU P n ∧ ∀ k, k * e * w = 10 ^ n * (k * u) * sU P n := by
  have h0 : 10 ^ P = 10 ^ n * sU P n := by unfold sU; rw [← Nat.pow_add]; congr 1; omega
  have hk : ∀ k, k * e * w = 10 ^ n * (k * u) * sU P n := by
    intro k
    rw [Nat.mul_assoc, hu, h0]
    grind
  have h1 := su_div hw (sU_pos P n) (hk (4 * c))
  exact ⟨h1.1, h1.2, hk⟩
theorem cls_rdn {e c u w P n : Nat} (cl : Bool) (hw : 0 < w) (hn : n ≤ P) (hu : e * w = u * 10 ^ P) : rdn e c cl (sU P n) ↔ (10 ^ n * (4 * c * u) % w < 10 ^ n * ((if cl then 1 else 2) * u) ∨ (10 ^ n * (4 * c * u) % w = 10 ^ n * ((if cl then 1 else 2) * u) ∧ c % 2 = 0)) := by
  obtain ⟨h1, h2, h3⟩ := cls_at (c := c) hw hn hu
  have h4 : (if cl then e else 2 * e) * w = 10 ^ n * ((if cl then 1 else 2) * u) * sU P n := by
    have := h3 (if cl then 1 else 2)
    cases cl
    · exact this
    · rw [← this]; simp
  unfold rdn
  rw [su_lt hw (sU_pos P n) h2 h4, su_eq hw (sU_pos P n) h2 h4]
theorem cls_rup {e c u w P n : Nat} (hw : 0 < w) (hn : n ≤ P) (hu : e * w = u * 10 ^ P) : rup e c (sU P n) ↔ (w < 10 ^ n * (4 * c * u) % w + 10 ^ n * (2 * u) ∨ (w = 10 ^ n * (4 * c * u) % w + 10 ^ n * (2 * u) ∧ c % 2 = 0)) := by
  obtain ⟨h1, h2, h3⟩ := cls_at (c := c) hw hn hu
  have h4 : (4 * c * e % sU P n + 2 * e) * w = (10 ^ n * (4 * c * u) % w + 10 ^ n * (2 * u)) * sU P n := by rw [Nat.add_mul, Nat.add_mul, h2, h3 2]
  unfold rup
  rw [su_lt hw (sU_pos P n) (Nat.mul_comm _ _) h4, su_eq hw (sU_pos P n) (Nat.mul_comm _ _) h4]
theorem cls_pick {e c u w P n : Nat} (cl : Bool) (hw : 0 < w) (hn : n ≤ P) (hu : e * w = u * 10 ^ P) : pick e c cl (sU P n) ↔ (rup e c (sU P n) ∧ (¬ rdn e c cl (sU P n) ∨ w < 2 * (10 ^ n * (4 * c * u) % w) ∨ (w = 2 * (10 ^ n * (4 * c * u) % w) ∧ 10 ^ n * (4 * c * u) / w % 2 = 1))) := by
  obtain ⟨h1, h2, h3⟩ := cls_at (c := c) hw hn hu
  have h4 : 2 * (4 * c * e % sU P n) * w = 2 * (10 ^ n * (4 * c * u) % w) * sU P n := by rw [Nat.mul_assoc 2, h2, ← Nat.mul_assoc 2]
  unfold pick
  rw [su_lt hw (sU_pos P n) (Nat.mul_comm _ _) h4, su_eq hw (sU_pos P n) (Nat.mul_comm _ _) h4, h1]
/-- one more digit -/
theorem dig_step {R w : Nat} (hw : 0 < w) : 10 * (R % w) / w < 10 ∧ 10 * R / w = 10 * (R / w) + 10 * (R % w) / w ∧ 10 * R % w = 10 * (R % w) - 10 * (R % w) / w * w := by
  have h1 := Nat.div_add_mod R w
  have h2 := Nat.mod_lt R hw
  have h3 : 10 * (R % w) / w < 10 := Nat.div_lt_of_lt_mul (by omega)
  have h4 := Nat.div_add_mod (10 * (R % w)) w
  have h5 := Nat.mod_lt (10 * (R % w)) hw
  have h6 : 10 * R = 10 * (R % w) + w * (10 * (R / w)) := by
    have : w * (10 * (R / w)) = 10 * (w * (R / w)) := by rw [Nat.mul_left_comm]
    omega
  refine ⟨h3, ?_, ?_⟩
  · rw [h6, Nat.add_mul_div_left _ _ hw]; omega
  · rw [h6, Nat.add_mul_mod_self_left]
    have h7 : 10 * (R % w) / w * w = w * (10 * (R % w) / w) := Nat.mul_comm _ _
    omega
