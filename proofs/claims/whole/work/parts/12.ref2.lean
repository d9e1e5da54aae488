/-! the reference's limbs, to the base 10^9 -/
def lu (x : Int64) : Nat := x.toBitVec.toNat
theorem lu_lN {n : Nat} (h : n < 2 ^ 64) : lu (lN n) = n := wb_tn h
theorem lN_lu (x : Int64) : lN (lu x) = x := wb_inj (by rw [wb_tb]; simp [lu])
def nw (f : Nat → Int64) : Nat → Nat
  | 0 => 0
  | n + 1 => nw f n + lu (f n) * 10 ^ (9 * n)
theorem pw9 (n : Nat) : 10 ^ (9 * (n + 1)) = 10 ^ (9 * n) * 1000000000 := by rw [Nat.mul_add, Nat.pow_add]
theorem nw_congr {f g : Nat → Int64} : ∀ {n : Nat}, (∀ j, j < n → f j = g j) → nw f n = nw g n
  | 0, _ => rfl
  | n + 1, h => by show nw f n + _ = nw g n + _; rw [nw_congr (fun j hj => h j (by omega)), h n (by omega)]
theorem nw_upd {f : Nat → Int64} {k n : Nat} {x : Int64} (h : n ≤ k) : nw (vp_updL f k x) n = nw f n := nw_congr (fun j hj => pk_uLn (by omega))
theorem nw_lt {f : Nat → Int64} : ∀ {n : Nat}, (∀ j, j < n → lu (f j) < 1000000000) → nw f n < 10 ^ (9 * n)
  | 0, _ => by show 0 < 1; decide
  | n + 1, h => by
    show nw f n + lu (f n) * 10 ^ (9 * n) < _
    have h1 := nw_lt (f := f) (n := n) (fun j hj => h j (by omega))
    have h2 := h n (by omega)
    rw [pw9]
    generalize 10 ^ (9 * n) = P at *
    have h3 : lu (f n) * P ≤ 999999999 * P := Nat.mul_le_mul_right P (by omega)
    omega
theorem times_step {f g : Nat → Int64} {i c k t : Nat} (hi : nw g i + c * 10 ^ (9 * i) = nw f i * k) (ht : t = c + lu (f i) * k) : nw (vp_updL g i (lN (t % 1000000000))) (i + 1) + t / 1000000000 * 10 ^ (9 * (i + 1)) = nw f (i + 1) * k := by
  show nw (vp_updL g i (lN (t % 1000000000))) i + lu (vp_updL g i (lN (t % 1000000000)) i) * 10 ^ (9 * i) + _ = (nw f i + lu (f i) * 10 ^ (9 * i)) * k
  rw [nw_upd (Nat.le_refl i), pk_uLs, lu_lN (by omega), pw9]
  generalize 10 ^ (9 * i) = P at *
  have h1 : t % 1000000000 * P + t / 1000000000 * (P * 1000000000) = t * P := by
    have h2 : t % 1000000000 + 1000000000 * (t / 1000000000) = t := Nat.mod_add_div t 1000000000
    have h3 : t * P = (t % 1000000000 + 1000000000 * (t / 1000000000)) * P := by rw [h2]
    rw [h3]
    grind
  have h4 : t * P = c * P + lu (f i) * k * P := by rw [ht, Nat.add_mul]
  grind
/-- the next digit of a limb -/
theorem limb_dig (y j : Nat) (hj : j < 9) : y / 10 ^ (9 - (j + 1)) = y / 10 ^ (9 - j) * 10 + y / 10 ^ (8 - j) % 10 := by
  rw [show 9 - (j + 1) = 8 - j by omega, show 9 - j = (8 - j) + 1 by omega, Nat.pow_succ, ← Nat.div_div_eq_div_mul]
  omega
/-- one more in the last place -/
theorem more_step {g g' : Nat → Nat} {i k : Nat} (hb : ∀ j, j < i → g' j = g j) (hi : g' i = g i + 1) (h9 : ∀ j, i < j → j < i + 1 + k → g j = 9 ∧ g' j = 0) : dv g' (i + 1 + k) = dv g (i + 1 + k) + 1 := by
  induction k with
  | zero =>
    show dv g' i * 10 + g' i = dv g i * 10 + g i + 1
    rw [dv_congr hb, hi]
    omega
  | succ k ih =>
    have h1 := ih (fun j a b => h9 j a (by omega))
    have h2 := h9 (i + 1 + k) (by omega) (by omega)
    show dv g' (i + 1 + k) * 10 + g' (i + 1 + k) = dv g (i + 1 + k) * 10 + g (i + 1 + k) + 1
    rw [h1, h2.1, h2.2]
    omega
theorem more_nines {g : Nat → Nat} : ∀ {k : Nat}, (∀ j, j < k → g j = 9) → dv g k + 1 = 10 ^ k
  | 0, _ => rfl
  | k + 1, h => by
    have h1 := more_nines (k := k) (fun j hj => h j (by omega))
    have h2 := h k (by omega)
    show dv g k * 10 + g k + 1 = _
    rw [Nat.pow_succ, ← h1, h2]
    omega
theorem one_zeros {g : Nat → Nat} (h0 : g 0 = 1) : ∀ {k : Nat}, (∀ j, 0 < j → j < k + 1 → g j = 0) → dv g (k + 1) = 10 ^ k
  | 0, _ => by show 0 * 10 + g 0 = _; rw [h0]
  | k + 1, h => by
    have h1 := one_zeros h0 (k := k) (fun j a b => h j a (by omega))
    show dv g (k + 1) * 10 + g (k + 1) = _
    rw [h1, h (k + 1) (by omega) (by omega), Nat.pow_succ]
    omega
/-- zeros behind are left out -/
theorem strip_step {g : Nat → Nat} {n : Nat} (h : g n = 0) : dv g (n + 1) = dv g n * 10 := by show dv g n * 10 + g n = _; rw [h, Nat.add_zero]
