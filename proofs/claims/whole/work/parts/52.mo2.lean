/-! Model: numbers for times, more, compare -/
def Nw (f : Nat → Int64) (u v : Nat) : Prop := u ≤ 160 ∧ (∀ j, j < u → lu (f j) < 1000000000) ∧ nw f u = v
theorem times_end0 {f g : Nat → Int64} {u v k : Nat} (hv : Nw f u v) (hg : ∀ j, j < u → lu (g j) < 1000000000) (hs : nw g u + 0 * 10 ^ (9 * u) = nw f u * k) : Nw g u (v * k) := by
  obtain ⟨h1, h2, h3⟩ := hv
  refine ⟨h1, hg, ?_⟩
  rw [h3] at hs
  omega
theorem times_room {f g : Nat → Int64} {u v k c : Nat} (hv : Nw f u v) (hs : nw g u + c * 10 ^ (9 * u) = nw f u * k) (hc : 0 < c) (hb : v * k < 10 ^ 1440) : u < 160 := by
  obtain ⟨h1, h2, h3⟩ := hv
  rw [h3] at hs
  rcases Nat.lt_or_ge u 160 with h | h
  · exact h
  · exfalso
    have hu : u = 160 := by omega
    subst hu
    have h4 : 1 * 10 ^ (9 * 160) ≤ c * 10 ^ (9 * 160) := Nat.mul_le_mul_right _ hc
    have h5 : 1 * 10 ^ (9 * 160) ≤ v * k := by rw [← hs]; exact Nat.le_trans h4 (Nat.le_add_left _ _)
    exact absurd (Nat.lt_of_le_of_lt h5 hb) (by rw [Nat.one_mul]; exact Nat.lt_irrefl _)
theorem times_end {f g : Nat → Int64} {u v k c : Nat} (hv : Nw f u v) (hg : ∀ j, j < u → lu (g j) < 1000000000) (hs : nw g u + c * 10 ^ (9 * u) = nw f u * k) (hc : c < 1000000000) (hu : u < 160) : Nw (vp_updL g u (lN c)) (u + 1) (v * k) := by
  obtain ⟨h1, h2, h3⟩ := hv
  refine ⟨hu, fun j hj => ?_, ?_⟩
  · by_cases he : j = u
    · subst he; rw [pk_uLs, lu_lN (by omega)]; exact hc
    · rw [pk_uLn he]; exact hg j (by omega)
  · show nw (vp_updL g u (lN c)) u + lu (vp_updL g u (lN c) u) * 10 ^ (9 * u) = v * k
    rw [nw_upd (Nat.le_refl u), pk_uLs, lu_lN (by omega), ← h3]
    exact hs
/-- a row's digits -/
def Rd (f : Nat → Int32) (n : Nat) (g : Nat → Nat) : Prop := n ≤ 1290 ∧ ∀ j, j < n → f j = nI (g j) ∧ g j < 10
/-- a row's value, scaled by 10^1100 -/
def rv (g : Nat → Nat) (n : Nat) (z : Int) : Nat := dv g n * 10 ^ (z + 1100 - n).toNat
theorem rv_eq {g : Nat → Nat} {n : Nat} {z : Int} {P : Nat} (hP : (P : Int) = z + 1100) : rv g n z = dv g n * 10 ^ (P - n) := by
  unfold rv
  congr 2
  omega
theorem rv_pad {g : Nat → Nat} {n P : Nat} (hn : n ≤ P) : dv (pad g n) P = dv g n * 10 ^ (P - n) := by
  have := dv_padn g n (P - n)
  rwa [show n + (P - n) = P by omega] at this
theorem cmp_p {g1 g2 : Nat → Nat} {n1 n2 : Nat} {z1 z2 : Int} (h1 : Can g1 n1) (h2 : Can g2 n2) (k1 : (n1 : Int) ≤ z1 + 1100) (k2 : (n2 : Int) ≤ z2 + 1100) (h : z1 < z2) : rv g1 n1 z1 < rv g2 n2 z2 := by
  obtain ⟨P1, hP1⟩ : ∃ P : Nat, (P : Int) = z1 + 1100 := ⟨(z1 + 1100).toNat, by omega⟩
  obtain ⟨P2, hP2⟩ : ∃ P : Nat, (P : Int) = z2 + 1100 := ⟨(z2 + 1100).toNat, by omega⟩
  rw [rv_eq hP1, rv_eq hP2]
  have a := can_bounds h1 (show n1 ≤ P1 by omega)
  have b := can_bounds h2 (show n2 ≤ P2 by omega)
  have c : 10 ^ P1 ≤ 10 ^ (P2 - 1) := Nat.pow_le_pow_right (by decide) (by omega)
  exact Nat.lt_of_lt_of_le a.2 (Nat.le_trans c b.1)
theorem cmp_less {g1 g2 : Nat → Nat} {n1 n2 i : Nat} {z : Int} (h1 : ∀ j, j < n1 → g1 j < 10) (h2 : ∀ j, j < n2 → g2 j < 10) (k1 : (n1 : Int) ≤ z + 1100) (k2 : (n2 : Int) ≤ z + 1100) (hi : i < n1 ∨ i < n2) (he : ∀ j, j < i → pad g1 n1 j = pad g2 n2 j) (hl : pad g1 n1 i < pad g2 n2 i) : rv g1 n1 z < rv g2 n2 z := by
  obtain ⟨P, hP⟩ : ∃ P : Nat, (P : Int) = z + 1100 := ⟨(z + 1100).toNat, by omega⟩
  rw [rv_eq hP, rv_eq hP, ← rv_pad (by omega : n1 ≤ P), ← rv_pad (by omega : n2 ≤ P)]
  have := dv_less (pad_lt h1) (pad_lt h2) he hl (P - (i + 1))
  rwa [show i + 1 + (P - (i + 1)) = P by omega] at this
theorem cmp_same {g1 g2 : Nat → Nat} {n1 n2 i : Nat} {z : Int} (k1 : (n1 : Int) ≤ z + 1100) (k2 : (n2 : Int) ≤ z + 1100) (hi1 : n1 ≤ i) (hi2 : n2 ≤ i) (he : ∀ j, j < i → pad g1 n1 j = pad g2 n2 j) : rv g1 n1 z = rv g2 n2 z := by
  obtain ⟨P, hP⟩ : ∃ P : Nat, (P : Int) = z + 1100 := ⟨(z + 1100).toNat, by omega⟩
  rw [rv_eq hP, rv_eq hP, ← rv_pad (by omega : n1 ≤ P), ← rv_pad (by omega : n2 ≤ P)]
  refine dv_congr (fun j hj => ?_)
  by_cases h : j < i
  · exact he j h
  · rw [show pad g1 n1 j = 0 from if_neg (by omega), show pad g2 n2 j = 0 from if_neg (by omega)]
theorem cm_lt {a b : Nat} (h : a < b) : cm a b = -1 := if_pos h
theorem cm_gt {a b : Nat} (h : b < a) : cm a b = nI 1 := by unfold cm; rw [if_neg (by omega), if_neg (by omega)]; rfl
/-- more: what is behind the last place that isn't 9 -/
def moreB (g : Nat → Nat) (i : Nat) : Nat → Nat := fun j => if j < i then g j else if j = i then g i + 1 else 0
def moreA : Nat → Nat := fun j => if j = 0 then 1 else 0
theorem moreB_ok {g : Nat → Nat} {i n : Nat} (hi : i < n) (h9 : ∀ j, i < j → j < n → g j = 9) : dv (moreB g i) n = dv g n + 1 := by
  have := more_step (g := g) (g' := moreB g i) (i := i) (k := n - (i + 1)) (fun j hj => if_pos hj) (by unfold moreB; rw [if_neg (Nat.lt_irrefl i), if_pos rfl]) (fun j h1 h2 => ⟨h9 j h1 (by omega), by unfold moreB; rw [if_neg (by omega), if_neg (by omega)]⟩)
  rwa [show i + 1 + (n - (i + 1)) = n by omega] at this
theorem moreA_ok {g : Nat → Nat} {n : Nat} (h9 : ∀ j, j < n → g j = 9) : dv moreA (n + 1) = dv g n + 1 := by
  rw [more_nines h9]
  exact one_zeros rfl (fun j h1 h2 => if_neg (by omega))
theorem moreA_rd {f2 : Nat → Int32} {g : Nat → Nat} {n : Nat} (hn9 : n ≤ 100) (h2 : ∀ j, j ≤ n → j ≠ 0 → f2 j = nI 0) (h9 : ∀ j, j < n → g j = 9) : Rd (upd f2 0 (nI 1)) (n + 1) moreA ∧ 1 ≤ 1 ∧ moreA 0 ≠ 0 ∧ dv moreA (n + 1) = dv g n + 1 := by
  refine ⟨⟨by omega, fun j hj => ?_⟩, Nat.le_refl 1, by decide, moreA_ok h9⟩
  by_cases he : j = 0
  · subst he; rw [pk_us]; exact ⟨rfl, by decide⟩
  · rw [pk_un he, show moreA j = 0 from if_neg he]; exact ⟨h2 j (by omega) he, by decide⟩
theorem moreB_rd {f f1 : Nat → Int32} {g : Nat → Nat} {n k : Nat} (hr : Rd f n g) (hk : k < n) (hg0 : g 0 ≠ 0) (hx : g k ≠ 9) (hf : ∀ j, j < k + 1 → f1 j = f j) (h9 : ∀ j, k + 1 ≤ j → j < n → g j = 9 ∧ f1 j = nI 0) : Rd (upd f1 k (nI (g k + 1))) (n + 0) (moreB g k) ∧ 0 ≤ 1 ∧ moreB g k 0 ≠ 0 ∧ dv (moreB g k) (n + 0) = dv g n + 1 := by
  refine ⟨⟨hr.1, fun j hj => ?_⟩, by decide, ?_, moreB_ok hk (fun j h1 h2 => (h9 j (by omega) h2).1)⟩
  · have hj : j < n := hj
    have hkk := hr.2 k hk
    rcases Nat.lt_trichotomy j k with he | he | he
    · rw [pk_un (by omega), hf j (by omega), show moreB g k j = g j from if_pos he]; exact hr.2 j hj
    · subst he; rw [pk_us, show moreB g j j = g j + 1 by unfold moreB; rw [if_neg (Nat.lt_irrefl j), if_pos rfl]]; exact ⟨rfl, by omega⟩
    · rw [pk_un (by omega), show moreB g k j = 0 by unfold moreB; rw [if_neg (by omega), if_neg (by omega)]]; exact ⟨(h9 j (by omega) hj).2, by decide⟩
  · unfold moreB
    split
    · exact hg0
    · split
      · omega
      · omega
