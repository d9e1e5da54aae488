/-! Model: numbers for shortest -/
theorem xv_e (c qn : Nat) : xv c ((qn : Nat) - 1074 : Int) = 4 * c * eU qn := by
  unfold xv eU
  rw [show ((qn : Int) - 1074 + 1100).toNat = 2 + (qn + 24) by omega, Nat.pow_add, show (2 : Nat) ^ 2 = 4 by decide]
  grind
theorem xv_h (c qn : Nat) : xv (2 * c + 1) ((qn : Nat) - 1074 - 1 : Int) = 4 * c * eU qn + 2 * eU qn := by
  unfold xv eU
  rw [show ((qn : Int) - 1074 - 1 + 1100).toNat = 1 + (qn + 24) by omega, Nat.pow_add, Nat.pow_one]
  grind
theorem xv_l {c : Nat} (qn : Nat) (hc : 0 < c) : xv (2 * c - 1) ((qn : Nat) - 1074 - 1 : Int) + 2 * eU qn = 4 * c * eU qn := by
  obtain ⟨d, rfl⟩ : ∃ d, c = d + 1 := ⟨c - 1, by omega⟩
  unfold xv eU
  rw [show ((qn : Int) - 1074 - 1 + 1100).toNat = 1 + (qn + 24) by omega, Nat.pow_add, Nat.pow_one, show 2 * (d + 1) - 1 = 2 * d + 1 by omega]
  grind
theorem xv_ll {c : Nat} (qn : Nat) (hc : 0 < c) : xv (4 * c - 1) ((qn : Nat) - 1074 - 2 : Int) + eU qn = 4 * c * eU qn := by
  obtain ⟨d, rfl⟩ : ∃ d, c = d + 1 := ⟨c - 1, by omega⟩
  unfold xv eU
  rw [show ((qn : Int) - 1074 - 2 + 1100).toNat = qn + 24 by omega, show 4 * (d + 1) - 1 = 4 * d + 3 by omega]
  grind
theorem up_val (x U : Nat) : x * U + (if true then U else 0) = (x + 1) * U := by rw [if_pos rfl, Nat.add_mul, Nat.one_mul]
theorem dn_val (x U : Nat) : x * U + (if false then U else 0) = x * U := by rw [if_neg (by decide), Nat.add_zero]
theorem cl_eq {fb lpn ex fr : Nat} (hf : fr < 2 ^ fb) : clOf ex fr = true ↔ (cOf fb ex fr = 2 ^ fb ∧ lpn < qOf lpn ex) := by
  unfold clOf cOf qOf
  rw [decide_eq_true_iff]
  by_cases h : ex = 0
  · rw [if_pos h, if_pos h]; omega
  · rw [if_neg h, if_neg h]; omega
/-- digits of the exact row at and before place N -/
theorem odd_at {gE : Nat → Nat} {nE N P v : Nat} {z : Int} (hP : (P : Int) = z + 1100) (hv : rv gE nE z = v) (h : ∀ j, j < nE → gE j < 10) (hn : nE ≤ P) (hN : N + 1 ≤ nE) : v / sU P (N + 1) % 2 = gE N % 2 := by
  rw [rv_eq hP] at hv
  rw [← hv]
  have h1 := dv_low h hn (k := N) (by omega)
  unfold sU
  rw [h1, show pad gE nE N = gE N from if_pos (by omega)]
  omega
/-- what is left against a half, by the digit at N -/
def Hf (U r : Nat) (x : Int32) : Prop := (x = -1 ∧ 2 * r < U) ∨ (x = nI 0 ∧ 2 * r = U) ∨ (x = nI 1 ∧ U < 2 * r)
theorem hf_at {gE : Nat → Nat} {nE N P v : Nat} {z : Int} (hP : (P : Int) = z + 1100) (hv : rv gE nE z = v) (hc : Can gE nE) (hn : nE ≤ P) (hN : N < nE) : (gE N < 5 → Hf (sU P N) (v % sU P N) (-1)) ∧ (5 < gE N → Hf (sU P N) (v % sU P N) (nI 1)) ∧ (gE N = 5 → N + 1 < nE → Hf (sU P N) (v % sU P N) (nI 1)) ∧ (gE N = 5 → nE ≤ N + 1 → Hf (sU P N) (v % sU P N) (nI 0)) := by
  rw [rv_eq hP] at hv
  subst hv
  have hp : pad gE nE N = gE N := if_pos hN
  refine ⟨fun h => Or.inl ⟨rfl, ?_⟩, fun h => Or.inr (Or.inr ⟨rfl, ?_⟩), fun h h2 => Or.inr (Or.inr ⟨rfl, ?_⟩), fun h h2 => Or.inr (Or.inl ⟨rfl, ?_⟩)⟩
  · exact half_lt hc.2.1 hn (by omega) (by rw [hp]; exact h)
  · exact half_gt hc.2.1 hn (by omega) (by rw [hp]; exact h)
  · exact (half_5 hc hn hN h).2 h2
  · exact ((half_5 hc hn hN h).1 h2).symm
theorem short_mod {gE : Nat → Nat} {nE N P v : Nat} {z : Int} (hP : (P : Int) = z + 1100) (hv : rv gE nE z = v) (hn : nE ≤ P) (hN : nE ≤ N) : v % sU P N = 0 := by
  rw [rv_eq hP] at hv
  rw [← hv]
  unfold sU
  have e : 10 ^ (P - nE) = 10 ^ (N - nE - (N - P)) * 10 ^ (P - N) := by rw [← Nat.pow_add]; congr 1; omega
  rw [e, ← Nat.mul_assoc]
  exact Nat.mul_mod_left _ _
theorem Rw.dec {r : R3} {g : Nat → Nat} {v qn c P M : Nat} {cl : Bool} (h : Rw r g v) (hr : ResAt (eU qn) c cl P M v) : Dec qn c cl g r.2.1 r.2.2 := ⟨P, M, v, hr, h.2.1, h.2.2.1, h.2.2.2.2⟩
theorem P_ge {c qn P : Nat} (hc : 0 < c) (h : 4 * c * eU qn < 10 ^ P) : 17 ≤ P := by
  have h1 : 10 ^ 17 ≤ eU qn := by
    unfold eU
    have h2 : 10 ^ 17 ≤ 5 ^ 1100 := by decide +kernel
    exact Nat.le_trans h2 (Nat.le_mul_of_pos_left _ (Nat.pow_pos (by decide)))
  have h3 : 1 * eU qn ≤ 4 * c * eU qn := Nat.mul_le_mul_right _ (by omega)
  have h4 : 10 ^ 17 < 10 ^ P := by omega
  exact Nat.le_of_lt ((Nat.pow_lt_pow_iff_right (by decide)).mp h4)
theorem nar1 {f : Nat → Int32} {n : Nat} {g : Nat → Nat} (h : Rd f n g) {i : Nat} (hi : i < n) : vp_nar .byte (f i) = f i := by
  have := h.2 i hi
  rw [this.1]
  exact narb (by omega)
