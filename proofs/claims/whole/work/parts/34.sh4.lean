/-! Shortest: numbers for find; addresses of what a constructor makes -/
def okN (q : Q2) : Prop := ∃ v, Nt q.1 q.2 v
abbrev adr (h : Nat) (b : Nat → Nat) : Nat → Nat := fun i => match i with
  | 0 => h
  | k + 1 => b k
theorem okN_0 : okN (fun _ => 0, 0) := ⟨0, by decide, fun _ _ _ => rfl, rfl⟩
theorem num_lt {x w n : Nat} (hw : 0 < w) (h : x < w) : 10 ^ n * x / w < 10 ^ n := by
  refine Nat.div_lt_of_lt_mul ?_
  rw [Nat.mul_comm w]
  exact Nat.mul_lt_mul_of_pos_left h (Nat.pow_pos (by decide))
theorem pw_step (n x : Nat) : 10 * (10 ^ n * x) = 10 ^ (n + 1) * x := by rw [Nat.pow_succ, Nat.mul_comm (10 ^ n) 10, Nat.mul_assoc]
theorem big_step {k u n Y : Nat} (hk : k ≤ 2) (hn : n ≤ 16) (h : 2 * u * 10 ^ 18 < Y) : 10 ^ n * (k * u) * 10 < Y ∧ 10 ^ (n + 1) * (k * u) * 10 < Y := by
  have h1 : 10 ^ n ≤ 10 ^ 16 := Nat.pow_le_pow_right (by decide) hn
  have h2 : 10 ^ (n + 1) ≤ 10 ^ 17 := Nat.pow_le_pow_right (by decide) (by omega)
  have h3 : k * u ≤ 2 * u := Nat.mul_le_mul_right u hk
  have h4 : 10 ^ n * (k * u) ≤ 10 ^ 16 * (2 * u) := Nat.mul_le_mul h1 h3
  have h5 : 10 ^ (n + 1) * (k * u) ≤ 10 ^ 17 * (2 * u) := Nat.mul_le_mul h2 h3
  generalize 10 ^ n * (k * u) = p at *
  generalize 10 ^ (n + 1) * (k * u) = q at *
  constructor <;> omega
theorem find_step {X w n num r : Nat} (hw : 0 < w) (hr : r = 10 ^ n * X % w) (hnum : num = 10 ^ n * X / w) : num * 10 + 10 * r / w = 10 ^ (n + 1) * X / w ∧ 10 * r % w = 10 ^ (n + 1) * X % w := by
  obtain ⟨h1, h2, h3⟩ := dig_step (R := 10 ^ n * X) hw
  rw [pw_step, ← hr, ← hnum] at h2
  rw [pw_step, ← hr] at h3
  have h4 := Nat.div_add_mod (10 * r) w
  have h5 : 10 * r / w * w = w * (10 * r / w) := Nat.mul_comm _ _
  constructor
  · omega
  · omega
theorem zz_le {lf zz num : Nat} (h : lf * 10 ^ zz = num) (h0 : 0 < num) (h1 : num ≤ 10 ^ 17) : zz ≤ 17 := by
  rcases Nat.lt_or_ge 17 zz with h2 | h2
  · exfalso
    have h3 : 10 ^ 18 ≤ 10 ^ zz := Nat.pow_le_pow_right (by decide) h2
    have h4 : 0 < lf := by
      rcases Nat.eq_zero_or_pos lf with h5 | h5
      · subst h5; omega
      · exact h5
    have h6 : 1 * 10 ^ zz ≤ lf * 10 ^ zz := Nat.mul_le_mul_right _ h4
    omega
  · exact h2
theorem sum_lt {r w Y : Nat} (h : r < w) (hb : w * 10 < Y) : r + r < Y := by omega
theorem sum_lt2 {r w x Y : Nat} (h : r < w) (hb : w * 10 < Y) (hx : x * 10 < Y) : r + x < Y := by omega
