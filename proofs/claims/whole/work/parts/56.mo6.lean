/-! Model: numbers for row -/
theorem row_step {f : Nat → Int64} {u x c : Nat} (h : nw f u + x * 10 ^ (9 * u) = c) : nw (vp_updL f u (lN (x % 1000000000))) (u + 1) + x / 1000000000 * 10 ^ (9 * (u + 1)) = c := by
  show nw (vp_updL f u (lN (x % 1000000000))) u + lu (vp_updL f u (lN (x % 1000000000)) u) * 10 ^ (9 * u) + _ = c
  rw [nw_upd (Nat.le_refl u), pk_uLs, lu_lN (by omega), pw9]
  generalize 10 ^ (9 * u) = P at *
  have h2 : x % 1000000000 + 1000000000 * (x / 1000000000) = x := Nat.mod_add_div x 1000000000
  have h3 : x * P = (x % 1000000000 + 1000000000 * (x / 1000000000)) * P := by rw [h2]
  rw [h3] at h
  rw [← h]
  grind
theorem row_u {f : Nat → Int64} {u x c : Nat} (h : nw f u + x * 10 ^ (9 * u) = c) (hx : 0 < x) (hc : c < 10 ^ 18) : u < 2 := by
  rcases Nat.lt_or_ge u 2 with h1 | h1
  · exact h1
  · exfalso
    have h2 : 10 ^ 18 ≤ 10 ^ (9 * u) := Nat.pow_le_pow_right (by decide) (by omega)
    have h3 : 1 * 10 ^ (9 * u) ≤ x * 10 ^ (9 * u) := Nat.mul_le_mul_right _ hx
    omega
theorem row_b2 {c Q : Nat} (hc : c < 2 ^ 57) (hQ : Q ≤ 1000) : c * 2 ^ Q < 10 ^ 780 := by
  have h1 : 2 ^ Q ≤ 2 ^ 1000 := Nat.pow_le_pow_right (by decide) hQ
  have h2 : c * 2 ^ Q ≤ 2 ^ 57 * 2 ^ 1000 := Nat.mul_le_mul (Nat.le_of_lt hc) h1
  exact Nat.lt_of_le_of_lt h2 (by decide +kernel)
theorem row_b5 {c Q : Nat} (hc : c < 2 ^ 57) (hQ : Q ≤ 1076) : c * 5 ^ Q < 10 ^ 780 := by
  have h1 : 5 ^ Q ≤ 5 ^ 1076 := Nat.pow_le_pow_right (by decide) hQ
  have h2 : c * 5 ^ Q ≤ 2 ^ 57 * 5 ^ 1076 := Nat.mul_le_mul (Nat.le_of_lt hc) h1
  exact Nat.lt_of_le_of_lt h2 (by decide +kernel)
theorem row_b {v k : Nat} (hv : v < 10 ^ 780) (hk : k ≤ 2 ^ 29) : v * k < 10 ^ 1440 := by
  have h1 : v * k ≤ 10 ^ 780 * 2 ^ 29 := Nat.mul_le_mul (Nat.le_of_lt hv) hk
  exact Nat.lt_of_le_of_lt h1 (by decide +kernel)
/-- the value of a row's number, scaled -/
def xv (c : Nat) (q : Int) : Nat := c * 2 ^ (q + 1100).toNat * 5 ^ 1100
theorem xv_pos (c Q : Nat) : c * 2 ^ Q * 10 ^ 1100 = xv c (Q : Int) := by
  unfold xv
  rw [show ((Q : Int) + 1100).toNat = Q + 1100 by omega, Nat.pow_add, show 10 ^ 1100 = 2 ^ 1100 * 5 ^ 1100 by rw [← Nat.mul_pow], Nat.mul_assoc, Nat.mul_assoc, Nat.mul_assoc]
theorem xv_neg {c Q : Nat} (hQ : Q ≤ 1100) : c * 5 ^ Q * 10 ^ (1100 - Q) = xv c (-(Q : Int)) := by
  unfold xv
  rw [show (-(Q : Int) + 1100).toNat = 1100 - Q by omega, show 10 ^ (1100 - Q) = 2 ^ (1100 - Q) * 5 ^ (1100 - Q) by rw [← Nat.mul_pow]]
  have e : 5 ^ 1100 = 5 ^ Q * 5 ^ (1100 - Q) := by rw [← Nat.pow_add]; congr 1; omega
  rw [e]
  generalize 5 ^ Q = a
  generalize 5 ^ (1100 - Q) = b
  generalize 2 ^ (1100 - Q) = d
  grind
theorem row_n {g : Nat → Nat} {n V : Nat} (h0 : 0 < n → g 0 ≠ 0) (hd : dv g n ≤ V) (hV : V < 10 ^ 780) : n ≤ 780 := by
  rcases Nat.lt_or_ge 780 n with h | h
  · exfalso
    obtain ⟨k, rfl⟩ : ∃ k, n = k + 1 := ⟨n - 1, by omega⟩
    have h1 := dv_ge (h0 (by omega)) (n := k)
    have h2 : 10 ^ 780 ≤ 10 ^ k := Nat.pow_le_pow_right (by decide) (by omega)
    exact absurd (Nat.lt_of_le_of_lt (Nat.le_trans h2 (Nat.le_trans h1 hd)) hV) (Nat.lt_irrefl _)
  · exact h
/-- the limbs from k on -/
def nh (f : Nat → Int64) (k : Nat) : Nat → Nat
  | 0 => 0
  | d + 1 => nh f k d * 1 + lu (f (k + d)) * 10 ^ (9 * d)
theorem top_limb {f : Nat → Int64} {k V A : Nat} (h : V = A * 10 ^ (9 * (k + 1)) + nw f (k + 1)) : V = (A * 10 ^ 9 + lu (f k)) * 10 ^ (9 * k) + nw f k := by
  rw [h]
  show A * 10 ^ (9 * (k + 1)) + (nw f k + lu (f k) * 10 ^ (9 * k)) = _
  rw [pw9]
  generalize 10 ^ (9 * k) = P
  grind
theorem in_limb {A y j V T : Nat} (h : (A * 10 ^ 9 + y) * T ≤ V) (hj : j ≤ 9) (hy : y < 10 ^ 9) (hT : 0 < T) : A * 10 ^ j + y / 10 ^ (9 - j) ≤ V := by
  have h1 : y / 10 ^ (9 - j) ≤ y := Nat.div_le_self _ _
  have h2 : A * 10 ^ j ≤ A * 10 ^ 9 := Nat.mul_le_mul_left A (Nat.pow_le_pow_right (by decide) hj)
  have h3 : (A * 10 ^ 9 + y) * 1 ≤ (A * 10 ^ 9 + y) * T := Nat.mul_le_mul_left _ hT
  omega
theorem dig_limb {A y j : Nat} (hj : j < 9) : A * 10 ^ (j + 1) + y / 10 ^ (9 - (j + 1)) = (A * 10 ^ j + y / 10 ^ (9 - j)) * 10 + y / 10 ^ (8 - j) % 10 := by
  rw [limb_dig y j hj, Nat.pow_succ, Nat.add_mul, Nat.mul_assoc, Nat.add_assoc]
theorem ten_j {j : Nat} (h : j < 9) : 10 ^ 8 / 10 ^ j = 10 ^ (8 - j) := by
  have : ∀ j, j < 9 → 10 ^ 8 / 10 ^ j = 10 ^ (8 - j) := by decide
  exact this j h
theorem Rd_push {f : Nat → Int32} {n : Nat} {g : Nat → Nat} {y : Nat} (h : Rd f n g) (hn : n ≤ 1200) (hy : y < 10) : Rd (upd f n (nI y)) (n + 1) (fun j => if j = n then y else g j) := by
  refine ⟨by omega, fun j hj => ?_⟩
  by_cases he : j = n
  · subst he; rw [pk_us]; dsimp only; rw [if_pos rfl]; exact ⟨rfl, hy⟩
  · rw [pk_un he]; dsimp only; rw [if_neg he]; exact h.2 j (by omega)
theorem dv_push {g : Nat → Nat} {n y : Nat} : dv (fun j => if j = n then y else g j) (n + 1) = dv g n * 10 + y := by
  show dv (fun j => if j = n then y else g j) n * 10 + (if n = n then y else g n) = _
  rw [if_pos rfl, dv_congr (d := fun j => if j = n then y else g j) (d' := g) (fun i hi => if_neg (by omega))]
