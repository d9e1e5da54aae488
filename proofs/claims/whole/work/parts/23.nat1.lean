/-! numbers for the rest of Natural -/
theorem apd_end {g : Nat → Int32} {u V c : Nat} (hu : u ≤ 28) (hs : nv g u + c * 2 ^ (32 * u) = V) (hz : ∀ j, u ≤ j → j < 28 → g j = 0) (hc : c < 2 ^ 32) (hb : V < 2 ^ 896) : Nt (apd g u (nI c)).1 (apd g u (nI c)).2 V := by
  have h := mul_end (f := g) (g := g) (u := u) (v := nv g u) (k := 1) (c := 0) ⟨hu, hz, rfl⟩ (by omega) (fun _ _ => rfl) (by decide)
  unfold apd
  by_cases h0 : c = 0
  · subst h0
    rw [if_neg (fun h => h.1 rfl)]
    refine ⟨hu, hz, ?_⟩
    show nv g u = V
    omega
  · have hu2 : u < 28 := by
      rcases Nat.lt_or_ge u 28 with h | h
      · exact h
      · exfalso
        have hu : u = 28 := by omega
        subst hu
        have : 1 * 2 ^ (32 * 28) ≤ c * 2 ^ (32 * 28) := Nat.mul_le_mul_right _ (by omega)
        omega
    have hne : nI c ≠ 0 := fun h => by
      have h5 := ul_nI c
      rw [h, Nat.mod_eq_of_lt hc] at h5
      exact h0 h5.symm
    rw [if_pos ⟨hne, hu2⟩]
    refine ⟨hu2, fun j (a : u + 1 ≤ j) b => by show upd g u (nI c) j = 0; rw [pk_un (by omega)]; exact hz j (by omega) b, ?_⟩
    show nv (upd g u (nI c)) u + ul (upd g u (nI c) u) * 2 ^ (32 * u) = V
    rw [nv_upd (Nat.le_refl u), pk_us, ul_nI, Nat.mod_eq_of_lt hc]
    exact hs
theorem nv_mod (f : Nat → Int32) (n : Nat) : ∀ k, nv f (n + k) % 2 ^ (32 * n) = nv f n
  | 0 => Nat.mod_eq_of_lt (nv_lt f n)
  | k + 1 => by
    show (nv f (n + k) + ul (f (n + k)) * 2 ^ (32 * (n + k))) % 2 ^ (32 * n) = _
    have e : ul (f (n + k)) * 2 ^ (32 * (n + k)) = 2 ^ (32 * n) * (ul (f (n + k)) * 2 ^ (32 * k)) := by
      rw [Nat.mul_add, Nat.pow_add, Nat.mul_left_comm]
    rw [e, Nat.add_mul_mod_self_left]
    exact nv_mod f n k
theorem nv_less {f o : Nat → Int32} {k : Nat} (hl : ul (f k) < ul (o k)) : ∀ d, (∀ j, k < j → j < k + 1 + d → f j = o j) → nv f (k + 1 + d) < nv o (k + 1 + d)
  | 0, _ => by
    show nv f k + ul (f k) * 2 ^ (32 * k) < nv o k + ul (o k) * 2 ^ (32 * k)
    have h1 := nv_lt f k
    have h2 : (ul (f k) + 1) * 2 ^ (32 * k) ≤ ul (o k) * 2 ^ (32 * k) := Nat.mul_le_mul_right _ hl
    rw [Nat.add_mul] at h2
    omega
  | d + 1, h => by
    have h1 := nv_less hl d (fun j a b => h j a (by omega))
    show nv f (k + 1 + d) + ul (f (k + 1 + d)) * 2 ^ (32 * (k + 1 + d)) < nv o (k + 1 + d) + ul (o (k + 1 + d)) * 2 ^ (32 * (k + 1 + d))
    rw [h (k + 1 + d) (by omega) (by omega)]
    omega
theorem cmp_at {f o : Nat → Int32} {u t v w k : Nat} (hv : Nt f u v) (hw : Nt o t w) (hk : k < 28) (he : ∀ j, k + 1 ≤ j → j < 28 → f j = o j) (hne : ¬ cm (ul (f k)) (ul (o k)) = 0) : cm (ul (f k)) (ul (o k)) = cm v w := by
  have e1 := hv.full hv.1 (Nat.le_refl 28)
  have e2 := hw.full hw.1 (Nat.le_refl 28)
  have hd : k + 1 + (27 - k) = 28 := by omega
  unfold cm at *
  by_cases h1 : ul (f k) < ul (o k)
  · have h2 := nv_less h1 (27 - k) (fun j a b => he j (by omega) (by omega))
    rw [hd, e1, e2] at h2
    rw [if_pos h1, if_pos h2]
  · by_cases h3 : ul (f k) = ul (o k)
    · rw [if_neg h1, if_pos h3] at hne
      exact absurd rfl hne
    · have h2 := nv_less (f := o) (o := f) (k := k) (by omega) (27 - k) (fun j a b => (he j (by omega) (by omega)).symm)
      rw [hd, e1, e2] at h2
      rw [if_neg h1, if_neg h3, if_neg (by omega), if_neg (by omega)]
theorem cm_0 {a b : Nat} (h : cm a b = 0) : a = b := by
  unfold cm at h
  by_cases h1 : a < b
  · rw [if_pos h1] at h; exact absurd h (by decide)
  · by_cases h2 : a = b
    · exact h2
    · rw [if_neg h1, if_neg h2] at h; exact absurd h (by decide)
theorem cm_self (a : Nat) : cm a a = 0 := by unfold cm; rw [if_neg (Nat.lt_irrefl a), if_pos rfl]
theorem cm_all {f o : Nat → Int32} {u t v w : Nat} (hv : Nt f u v) (hw : Nt o t w) (he : ∀ j, 0 ≤ j → j < 28 → f j = o j) : cm v w = 0 := by
  have e1 := hv.full hv.1 (Nat.le_refl 28)
  have e2 := hw.full hw.1 (Nat.le_refl 28)
  rw [nv_congr (fun j hj => he j (Nat.zero_le j) hj), e2] at e1
  rw [e1, cm_self]
theorem ul_inj {x y : Int32} (h : ul x = ul y) : x = y := by rw [← nI_ul x, ← nI_ul y, h]
theorem sub_end {g f o : Nat → Int32} {u t v w : Nat} {z : Int} (hv : Nt f u v) (hw : Nt o t w) (hle : w ≤ v) (hs : (nv g u : Int) + z * 2 ^ (32 * u) = nv f u - nv o u) (hz : z = 0 ∨ z = -1) (hg : ∀ j, u ≤ j → g j = f j) : Nt g u (v - w) := by
  obtain ⟨h1, h2, h3⟩ := hv
  have e2 := hw.full hw.1 (Nat.le_refl 28)
  have h4 := nv_lt f u
  have h5 := nv_lt g u
  have h6 := nv_mod o u (28 - u)
  rw [show u + (28 - u) = 28 by omega, e2, Nat.mod_eq_of_lt (by omega)] at h6
  refine ⟨h1, fun j a b => by rw [hg j a]; exact h2 j a b, ?_⟩
  rw [h3, ← h6] at hs
  have hP : ((2 ^ (32 * u) : Nat) : Int) = (2 : Int) ^ (32 * u) := by push_cast; rfl
  rw [← hP] at hs
  generalize 2 ^ (32 * u) = P at *
  rcases hz with hz | hz <;> subst hz <;> omega
theorem max_i {n m : Nat} (h : n ≤ 28) (h2 : m ≤ 28) : (if nI n < nI m then nI m else nI n) - nI 1 = iI ((max n m : Nat) - 1 : Int) := by
  rw [nmax (by omega) (by omega), ← iI_nat, ← iI_nat, iI_sub]
  rfl
theorem dec_i (n : Nat) : iI (((n + 1 : Nat) : Int) - 1) = nI n := by
  rw [← iI_nat]
  congr 1
  omega
theorem shl1 : ∀ k, k < 31 → nI 1 <<< (nI k &&& 31) = nI (2 ^ k) := by decide +kernel
/-- the limbs that setProduct lays -/
theorem set_two {g : Nat → Int32} {a x : Nat} (ha : a ≤ 26) (hx : x < 2 ^ 64) (hz : ∀ j, j < 28 → g j = 0) : Nt (upd (upd g a (nI x)) (a + 1) (nI (x / 2 ^ 32))) (a + 2) (x * 2 ^ (32 * a)) := by
  refine ⟨by omega, fun j h1 h2 => by rw [pk_un (by omega), pk_un (by omega)]; exact hz j h2, ?_⟩
  show nv (upd (upd g a (nI x)) (a + 1) (nI (x / 2 ^ 32))) a + ul (upd (upd g a (nI x)) (a + 1) (nI (x / 2 ^ 32)) a) * 2 ^ (32 * a) + ul (upd (upd g a (nI x)) (a + 1) (nI (x / 2 ^ 32)) (a + 1)) * 2 ^ (32 * (a + 1)) = _
  have h0 : nv g a = 0 := by
    rw [nv_congr (g := fun _ => 0) (fun j hj => hz j (by omega))]
    exact nv_ext (u := 0) (Nat.zero_le _) (fun _ _ _ => rfl)
  rw [nv_upd (by omega), nv_upd (Nat.le_refl a), h0, pk_us, pk_un (by omega), pk_us, ul_nI, ul_nI, pw32]
  generalize 2 ^ (32 * a) = P at *
  rw [Nat.mod_eq_of_lt (show x / 2 ^ 32 < 2 ^ 32 by omega)]
  have h2 : x % 2 ^ 32 + 4294967296 * (x / 2 ^ 32) = x := Nat.mod_add_div x (2 ^ 32)
  have h3 : x * P = (x % 2 ^ 32 + 4294967296 * (x / 2 ^ 32)) * P := by rw [h2]
  rw [h3]
  grind
