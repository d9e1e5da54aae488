/-! rows of digits -/
def pad (d : Nat → Nat) (n : Nat) : Nat → Nat := fun i => if i < n then d i else 0
theorem pad_lt {d : Nat → Nat} {n : Nat} (h : ∀ i, i < n → d i < 10) (i : Nat) : pad d n i < 10 := by
  unfold pad
  split
  · exact h i ‹_›
  · decide
theorem dv_prefix {g : Nat → Nat} (h : ∀ i, g i < 10) (k : Nat) : ∀ j, dv g (k + j) / 10 ^ j = dv g k
  | 0 => by simp
  | j + 1 => by
    rw [Nat.pow_succ, Nat.mul_comm, ← Nat.div_div_eq_div_mul]
    have h1 := h (k + j)
    have h2 : dv g (k + (j + 1)) / 10 = dv g (k + j) := by
      show (dv g (k + j) * 10 + g (k + j)) / 10 = _
      omega
    rw [h2]
    exact dv_prefix h k j
theorem dv_pad0 (d : Nat → Nat) (n : Nat) : dv (pad d n) n = dv d n := dv_congr (fun i hi => if_pos hi)
theorem dv_padn (d : Nat → Nat) (n : Nat) : ∀ j, dv (pad d n) (n + j) = dv d n * 10 ^ j
  | 0 => by rw [Nat.pow_zero, Nat.mul_one]; exact dv_pad0 d n
  | j + 1 => by
    show dv (pad d n) (n + j) * 10 + pad d n (n + j) = _
    rw [dv_padn d n j, show pad d n (n + j) = 0 from if_neg (by omega), Nat.pow_succ, Nat.mul_assoc, Nat.add_zero]
/-- the first k digits of a decimal are its value cut there -/
theorem dv_cut {d : Nat → Nat} {n P : Nat} (h : ∀ i, i < n → d i < 10) (hn : n ≤ P) {k : Nat} (hk : k ≤ P) : dv (pad d n) k = dv d n * 10 ^ (P - n) / 10 ^ (P - k) := by
  have h1 : dv (pad d n) P = dv d n * 10 ^ (P - n) := by
    have := dv_padn d n (P - n)
    rwa [show n + (P - n) = P by omega] at this
  have h2 := dv_prefix (pad_lt h) k (P - k)
  rw [show k + (P - k) = P by omega, h1] at h2
  exact h2.symm
theorem dv_low {d : Nat → Nat} {n P : Nat} (h : ∀ i, i < n → d i < 10) (hn : n ≤ P) {k : Nat} (hk : k < P) : dv d n * 10 ^ (P - n) / 10 ^ (P - (k + 1)) = dv d n * 10 ^ (P - n) / 10 ^ (P - k) * 10 + pad d n k := by
  rw [← dv_cut h hn (show k + 1 ≤ P from hk), ← dv_cut h hn (show k ≤ P by omega)]
  rfl
/-- the first place that differs decides -/
theorem dv_less {a b : Nat → Nat} {i : Nat} (ha : ∀ i, a i < 10) (hb : ∀ i, b i < 10) (he : ∀ j, j < i → a j = b j) (hl : a i < b i) : ∀ k, dv a (i + 1 + k) < dv b (i + 1 + k)
  | 0 => by
    show dv a i * 10 + a i < dv b i * 10 + b i
    rw [dv_congr he]
    omega
  | k + 1 => by
    have h1 := dv_less ha hb he hl k
    have h2 := ha (i + 1 + k)
    show dv a (i + 1 + k) * 10 + a (i + 1 + k) < dv b (i + 1 + k) * 10 + b (i + 1 + k)
    omega
theorem can_bounds {d : Nat → Nat} {n : Nat} (h : Can d n) {P : Nat} (hn : n ≤ P) : 10 ^ (P - 1) ≤ dv d n * 10 ^ (P - n) ∧ dv d n * 10 ^ (P - n) < 10 ^ P := by
  obtain ⟨h1, h2, h3, h4⟩ := h
  obtain ⟨k, rfl⟩ : ∃ k, n = k + 1 := ⟨n - 1, by omega⟩
  have a1 := dv_lt h2
  have a2 := dv_ge h3 (n := k)
  constructor
  · rw [show P - 1 = k + (P - (k + 1)) by omega, Nat.pow_add]
    exact Nat.mul_le_mul_right _ a2
  · have e : 10 ^ P = 10 ^ (k + 1) * 10 ^ (P - (k + 1)) := by rw [← Nat.pow_add]; congr 1; omega
    rw [e]
    exact Nat.mul_lt_mul_of_pos_right a1 (Nat.pow_pos (by decide))
/-- what is left behind the first k digits, against a half -/
theorem half_lt {d : Nat → Nat} {n P k : Nat} (h : ∀ i, i < n → d i < 10) (hn : n ≤ P) (hk : k < P) (h5 : pad d n k < 5) : 2 * (dv d n * 10 ^ (P - n) % 10 ^ (P - k)) < 10 ^ (P - k) := by
  have e : 10 ^ (P - k) = 10 ^ (P - (k + 1)) * 10 := by rw [← Nat.pow_succ]; congr 1; omega
  have h1 := dv_low h hn hk
  have h2 := Nat.div_add_mod (dv d n * 10 ^ (P - n)) (10 ^ (P - k))
  have h3 := Nat.div_add_mod (dv d n * 10 ^ (P - n)) (10 ^ (P - (k + 1)))
  have h4 := Nat.mod_lt (dv d n * 10 ^ (P - n)) (show 0 < 10 ^ (P - (k + 1)) from Nat.pow_pos (by decide))
  rw [h1] at h3
  generalize dv d n * 10 ^ (P - n) / 10 ^ (P - k) = q at *
  generalize dv d n * 10 ^ (P - n) % 10 ^ (P - k) = r at *
  generalize dv d n * 10 ^ (P - n) % 10 ^ (P - (k + 1)) = r1 at *
  generalize dv d n * 10 ^ (P - n) = X at *
  rw [e] at h2 ⊢
  generalize 10 ^ (P - (k + 1)) = U at *
  generalize pad d n k = y at *
  have h6 : U * (q * 10 + y) = U * 10 * q + U * y := by grind
  have h7 : U * y ≤ U * 4 := Nat.mul_le_mul_left U (by omega)
  omega
theorem half_gt {d : Nat → Nat} {n P k : Nat} (h : ∀ i, i < n → d i < 10) (hn : n ≤ P) (hk : k < P) (h5 : 5 < pad d n k) : 10 ^ (P - k) < 2 * (dv d n * 10 ^ (P - n) % 10 ^ (P - k)) := by
  have e : 10 ^ (P - k) = 10 ^ (P - (k + 1)) * 10 := by rw [← Nat.pow_succ]; congr 1; omega
  have h1 := dv_low h hn hk
  have h2 := Nat.div_add_mod (dv d n * 10 ^ (P - n)) (10 ^ (P - k))
  have h3 := Nat.div_add_mod (dv d n * 10 ^ (P - n)) (10 ^ (P - (k + 1)))
  have h4 : 0 < 10 ^ (P - (k + 1)) := Nat.pow_pos (by decide)
  rw [h1] at h3
  generalize dv d n * 10 ^ (P - n) / 10 ^ (P - k) = q at *
  generalize dv d n * 10 ^ (P - n) % 10 ^ (P - k) = r at *
  generalize dv d n * 10 ^ (P - n) % 10 ^ (P - (k + 1)) = r1 at *
  generalize dv d n * 10 ^ (P - n) = X at *
  rw [e] at h2 ⊢
  generalize 10 ^ (P - (k + 1)) = U at *
  generalize pad d n k = y at *
  have h6 : U * (q * 10 + y) = U * 10 * q + U * y := by grind
  have h7 : U * 6 ≤ U * y := Nat.mul_le_mul_left U (by omega)
  omega
/-- the digit is 5: what lies behind it decides -/
theorem half_5 {d : Nat → Nat} {n P k : Nat} (hc : Can d n) (hn : n ≤ P) (hk : k < n) (h5 : d k = 5) : (n ≤ k + 1 → 10 ^ (P - k) = 2 * (dv d n * 10 ^ (P - n) % 10 ^ (P - k))) ∧ (k + 1 < n → 10 ^ (P - k) < 2 * (dv d n * 10 ^ (P - n) % 10 ^ (P - k))) := by
  have h := hc.2.1
  have hp : pad d n k = 5 := by rw [← h5]; exact if_pos hk
  have e : 10 ^ (P - k) = 10 ^ (P - (k + 1)) * 10 := by rw [← Nat.pow_succ]; congr 1; omega
  have h1 := dv_low h hn (show k < P by omega)
  have h2 := Nat.div_add_mod (dv d n * 10 ^ (P - n)) (10 ^ (P - k))
  have h3 := Nat.div_add_mod (dv d n * 10 ^ (P - n)) (10 ^ (P - (k + 1)))
  rw [h1, hp] at h3
  have hz : (n ≤ k + 1 → dv d n * 10 ^ (P - n) % 10 ^ (P - (k + 1)) = 0) ∧ (k + 1 < n → 0 < dv d n * 10 ^ (P - n) % 10 ^ (P - (k + 1))) := by
    constructor
    · intro hle
      rw [show k + 1 = n by omega]
      exact Nat.mul_mod_left _ _
    · intro hlt
      have e2 : 10 ^ (P - (k + 1)) = 10 ^ (n - (k + 1)) * 10 ^ (P - n) := by rw [← Nat.pow_add]; congr 1; omega
      rw [e2, Nat.mul_mod_mul_right]
      refine Nat.mul_pos ?_ (Nat.pow_pos (by decide))
      have h6 := can_mod hc
      have e3 : 10 ^ (n - (k + 1)) = 10 * 10 ^ (n - (k + 1) - 1) := by rw [Nat.mul_comm, ← Nat.pow_succ]; congr 1; omega
      rw [e3]
      have h7 := Nat.mod_mul_right_mod (dv d n) 10 (10 ^ (n - (k + 1) - 1))
      omega
  generalize dv d n * 10 ^ (P - n) / 10 ^ (P - k) = q at *
  generalize dv d n * 10 ^ (P - n) % 10 ^ (P - k) = r at *
  generalize dv d n * 10 ^ (P - n) % 10 ^ (P - (k + 1)) = r1 at *
  generalize dv d n * 10 ^ (P - n) = X at *
  rw [e] at h2 ⊢
  generalize 10 ^ (P - (k + 1)) = U at *
  have h6 : U * (q * 10 + 5) = U * 10 * q + U * 5 := by grind
  constructor
  · intro hle
    have := hz.1 hle
    omega
  · intro hlt
    have := hz.2 hlt
    omega
