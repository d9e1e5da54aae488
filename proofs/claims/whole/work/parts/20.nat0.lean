abbrev wN (cI : ClassId) (h hL : Nat) (q : (Nat → Int32) × Nat) : va_W := [(h, .inr (0, [.ref hL, .int (nI q.2)])), (hL, .inl (cI, 28, .inl q.1))]
def apd (f : Nat → Int32) (u : Nat) (x : Int32) : (Nat → Int32) × Nat := if x ≠ 0 ∧ u < 28 then (upd f u x, u + 1) else (f, u)
/-- what the carry behind the last limb makes of the row -/
theorem mul_end {f g : Nat → Int32} {u v k c : Nat} (hv : Nt f u v) (hs : nv g u + c * 2 ^ (32 * u) = nv f u * k) (hg : ∀ j, u ≤ j → g j = f j) (hc : c < 2 ^ 32) (hb : v * k < 2 ^ 896) : Nt (apd g u (nI c)).1 (apd g u (nI c)).2 (v * k) := by
  obtain ⟨h1, h2, h3⟩ := hv
  rw [h3] at hs
  unfold apd
  by_cases h0 : c = 0
  · subst h0
    rw [if_neg (fun h => h.1 rfl)]
    refine ⟨h1, fun j (a : u ≤ j) b => by show g j = 0; rw [hg j a]; exact h2 j a b, ?_⟩
    show nv g u = v * k
    omega
  · have hu : u < 28 := by
      rcases Nat.lt_or_ge u 28 with h | h
      · exact h
      · exfalso
        have hu : u = 28 := by omega
        subst hu
        have : 1 * 2 ^ (32 * 28) ≤ c * 2 ^ (32 * 28) := Nat.mul_le_mul_right _ (by omega)
        omega
    have hne : nI c ≠ 0 := fun h => by
      have h5 := ul_nI c
      rw [h, Nat.mod_eq_of_lt hc] at h5
      exact h0 h5.symm
    rw [if_pos ⟨hne, hu⟩]
    refine ⟨hu, fun j (a : u + 1 ≤ j) b => by show upd g u (nI c) j = 0; rw [pk_un (by omega), hg j (by omega)]; exact h2 j (by omega) b, ?_⟩
    show nv (upd g u (nI c)) u + ul (upd g u (nI c) u) * 2 ^ (32 * u) = v * k
    rw [nv_upd (Nat.le_refl u), pk_us, ul_nI, Nat.mod_eq_of_lt hc]
    exact hs
