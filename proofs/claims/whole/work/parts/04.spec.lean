/-! what both sides compute: x = 4 c e (in units of a quarter of the last place), 10^(P-1) <= x < 10^P -/
def sU (P n : Nat) : Nat := 10 ^ (P - n)
def rdn (e c : Nat) (cl : Bool) (U : Nat) : Prop := 4 * c * e % U < (if cl then e else 2 * e) ∨ (4 * c * e % U = (if cl then e else 2 * e) ∧ c % 2 = 0)
def rup (e c U : Nat) : Prop := U < 4 * c * e % U + 2 * e ∨ (U = 4 * c * e % U + 2 * e ∧ c % 2 = 0)
def pick (e c : Nat) (cl : Bool) (U : Nat) : Prop := rup e c U ∧ (¬ rdn e c cl U ∨ U < 2 * (4 * c * e % U) ∨ (U = 2 * (4 * c * e % U) ∧ 4 * c * e / U % 2 = 1))
def ResAt (e c : Nat) (cl : Bool) (P N v : Nat) : Prop := 10 ^ (P - 1) ≤ 4 * c * e ∧ 4 * c * e < 10 ^ P ∧ 17 ≤ P ∧ 2 ≤ N ∧ N ≤ 17 ∧ (rdn e c cl (sU P N) ∨ rup e c (sU P N)) ∧ (∀ n, 2 ≤ n → n < N → ¬ (rdn e c cl (sU P n) ∨ rup e c (sU P n))) ∧ ((pick e c cl (sU P N) ∧ v = (4 * c * e / sU P N + 1) * sU P N) ∨ (¬ pick e c cl (sU P N) ∧ v = 4 * c * e / sU P N * sU P N))
theorem sU_pos (P n : Nat) : 0 < sU P n := Nat.pow_pos (by decide)
theorem sU_succ {P n : Nat} (h : n < P) : sU P n = 10 * sU P (n + 1) := by
  unfold sU
  rw [show P - n = (P - (n + 1)) + 1 by omega, Nat.pow_succ, Nat.mul_comm]
theorem res_unique {e c : Nat} {cl : Bool} {P N v P' N' v' : Nat} (h : ResAt e c cl P N v) (h' : ResAt e c cl P' N' v') : P = P' ∧ N = N' ∧ v = v' := by
  obtain ⟨a1, a2, a3, a4, a5, a6, a7, a8⟩ := h
  obtain ⟨b1, b2, b3, b4, b5, b6, b7, b8⟩ := h'
  have p1 : P - 1 < P' := (Nat.pow_lt_pow_iff_right (by decide)).mp (Nat.lt_of_le_of_lt a1 b2)
  have p2 : P' - 1 < P := (Nat.pow_lt_pow_iff_right (by decide)).mp (Nat.lt_of_le_of_lt b1 a2)
  have hp : P = P' := by omega
  subst hp
  have hn : N = N' := by
    rcases Nat.lt_trichotomy N N' with h | h | h
    · exact absurd a6 (b7 N a4 h)
    · exact h
    · exact absurd b6 (a7 N' b4 h)
  subst hn
  refine ⟨rfl, rfl, ?_⟩
  rcases a8 with ⟨x1, x2⟩ | ⟨x1, x2⟩ <;> rcases b8 with ⟨y1, y2⟩ | ⟨y1, y2⟩
  · rw [x2, y2]
  · exact absurd x1 y1
  · exact absurd y1 x1
  · rw [x2, y2]
theorem mod10 (X U : Nat) : X % (10 * U) % U = X % U := Nat.mod_mul_left_mod X 10 U
theorem rdn_mono {e c : Nat} {cl : Bool} {U : Nat} (h : rdn e c cl (10 * U)) : rdn e c cl U := by
  unfold rdn at *
  have h1 := mod10 (4 * c * e) U
  have h2 := Nat.mod_le (4 * c * e % (10 * U)) U
  generalize (if cl then e else 2 * e) = g at *
  omega
theorem rup_mono {e c U : Nat} (hU : 0 < U) (h : rup e c (10 * U)) : rup e c U := by
  unfold rup at *
  have h1 := mod10 (4 * c * e) U
  have h2 := Nat.div_add_mod (4 * c * e % (10 * U)) U
  have h3 : 4 * c * e % (10 * U) / U ≤ 9 := by
    have : 4 * c * e % (10 * U) / U < 10 := Nat.div_lt_of_lt_mul (by rw [Nat.mul_comm U 10]; exact Nat.mod_lt _ (by omega))
    omega
  have h4 : U * (4 * c * e % (10 * U) / U) ≤ U * 9 := Nat.mul_le_mul_left U h3
  generalize U * (4 * c * e % (10 * U) / U) = g at *
  omega
theorem reads_mono {e c : Nat} {cl : Bool} {P n k : Nat} (hk : n + k ≤ P) (h : rdn e c cl (sU P n) ∨ rup e c (sU P n)) : rdn e c cl (sU P (n + k)) ∨ rup e c (sU P (n + k)) := by
  induction k with
  | zero => exact h
  | succ k ih =>
    have h1 := ih (by omega)
    rw [sU_succ (by omega)] at h1
    rcases h1 with h1 | h1
    · exact Or.inl (rdn_mono h1)
    · exact Or.inr (rup_mono (sU_pos _ _) h1)
/-- seventeen digits are enough -/
theorem reads17 {e c : Nat} {cl : Bool} {P : Nat} (h1 : 10 ^ (P - 1) ≤ 4 * c * e) (hP : 17 ≤ P) (he : 0 < e) (hc : c < 2 ^ 53) (hcl : cl = true → c ≤ 2 ^ 52) : rdn e c cl (sU P 17) ∨ rup e c (sU P 17) := by
  have hU : sU P 17 * 10 ^ 16 ≤ 4 * c * e := by
    unfold sU
    rw [← Nat.pow_add, show P - 17 + 16 = P - 1 by omega]
    exact h1
  unfold rdn rup
  have h2 : 4 * c * e % sU P 17 < sU P 17 := Nat.mod_lt _ (sU_pos _ _)
  generalize 4 * c * e % sU P 17 = r at *
  generalize sU P 17 = U at *
  cases cl with
  | false =>
    have h3 : 4 * c * e ≤ 4 * (2 ^ 53 - 1) * e := Nat.mul_le_mul_right e (by omega)
    simp only [Bool.false_eq_true, if_false]
    omega
  | true =>
    have h4 := hcl rfl
    have h3 : 4 * c * e ≤ 4 * 2 ^ 52 * e := Nat.mul_le_mul_right e (by omega)
    simp only [if_true]
    omega
/-! a decimal's digits, the first at 0 -/
def dv (d : Nat → Nat) : Nat → Nat
  | 0 => 0
  | n + 1 => dv d n * 10 + d n
theorem dv_congr {d d' : Nat → Nat} : ∀ {n : Nat}, (∀ i, i < n → d i = d' i) → dv d n = dv d' n
  | 0, _ => rfl
  | n + 1, h => by show dv d n * 10 + d n = dv d' n * 10 + d' n; rw [dv_congr (fun i hi => h i (by omega)), h n (by omega)]
theorem dv_lt {d : Nat → Nat} : ∀ {n : Nat}, (∀ i, i < n → d i < 10) → dv d n < 10 ^ n
  | 0, _ => by show 0 < 1; decide
  | n + 1, h => by
    have h1 := dv_lt (n := n) (fun i hi => h i (by omega))
    have h2 := h n (by omega)
    show dv d n * 10 + d n < 10 ^ (n + 1)
    rw [Nat.pow_succ]
    omega
theorem dv_ge {d : Nat → Nat} (h0 : d 0 ≠ 0) : ∀ {n : Nat}, 10 ^ n ≤ dv d (n + 1)
  | 0 => by show 1 ≤ 0 * 10 + d 0; omega
  | n + 1 => by
    have h1 := dv_ge h0 (n := n)
    show 10 ^ (n + 1) ≤ dv d (n + 1) * 10 + d (n + 1)
    rw [Nat.pow_succ]
    omega
theorem dv_inj {d d' : Nat → Nat} : ∀ {n : Nat}, (∀ i, i < n → d i < 10) → (∀ i, i < n → d' i < 10) → dv d n = dv d' n → ∀ i, i < n → d i = d' i
  | 0, _, _, _, i, hi => by omega
  | n + 1, h, h', he, i, hi => by
    have e1 : dv d n * 10 + d n = dv d' n * 10 + d' n := he
    have a := h n (by omega)
    have b := h' n (by omega)
    by_cases hn : i = n
    · subst hn; omega
    · exact dv_inj (n := n) (fun i hi => h i (by omega)) (fun i hi => h' i (by omega)) (by omega) i (by omega)
def Can (d : Nat → Nat) (n : Nat) : Prop := 0 < n ∧ (∀ i, i < n → d i < 10) ∧ d 0 ≠ 0 ∧ d (n - 1) ≠ 0
theorem can_mod {d : Nat → Nat} {n : Nat} (h : Can d n) : dv d n % 10 ≠ 0 := by
  obtain ⟨h1, h2, h3, h4⟩ := h
  obtain ⟨k, rfl⟩ : ∃ k, n = k + 1 := ⟨n - 1, by omega⟩
  have := h2 k (by omega)
  rw [show k + 1 - 1 = k by omega] at h4
  show (dv d k * 10 + d k) % 10 ≠ 0
  omega
theorem can_exp {a b x y : Nat} (hx : x % 10 ≠ 0) (hy : y % 10 ≠ 0) (h : x * 10 ^ a = y * 10 ^ b) : a = b := by
  rcases Nat.lt_trichotomy a b with h1 | h1 | h1
  · exfalso
    obtain ⟨k, rfl⟩ : ∃ k, b = a + (k + 1) := ⟨b - a - 1, by omega⟩
    rw [Nat.pow_add, Nat.mul_left_comm, Nat.mul_comm (10 ^ a)] at h
    have h2 := Nat.eq_of_mul_eq_mul_right (Nat.pow_pos (by decide)) h
    rw [Nat.pow_succ, ← Nat.mul_assoc] at h2
    omega
  · exact h1
  · exfalso
    obtain ⟨k, rfl⟩ : ∃ k, a = b + (k + 1) := ⟨a - b - 1, by omega⟩
    rw [Nat.pow_add, Nat.mul_left_comm, Nat.mul_comm (10 ^ b)] at h
    have h2 := Nat.eq_of_mul_eq_mul_right (Nat.pow_pos (by decide)) h
    rw [Nat.pow_succ, ← Nat.mul_assoc] at h2
    omega
theorem can_unique {d d' : Nat → Nat} {n n' a a' : Nat} (h : Can d n) (h' : Can d' n') (he : dv d n * 10 ^ a = dv d' n' * 10 ^ a') : a = a' ∧ n = n' ∧ ∀ i, i < n → d i = d' i := by
  have ha := can_exp (can_mod h) (can_mod h') he
  subst ha
  have hv := Nat.eq_of_mul_eq_mul_right (Nat.pow_pos (by decide)) he
  obtain ⟨h1, h2, h3, h4⟩ := h
  obtain ⟨h1', h2', h3', h4'⟩ := h'
  obtain ⟨k, rfl⟩ : ∃ k, n = k + 1 := ⟨n - 1, by omega⟩
  obtain ⟨k', rfl⟩ : ∃ k', n' = k' + 1 := ⟨n' - 1, by omega⟩
  have a1 := dv_lt h2
  have a2 := dv_ge h3 (n := k)
  have b1 := dv_lt h2'
  have b2 := dv_ge h3' (n := k')
  have p1 : k < k' + 1 := (Nat.pow_lt_pow_iff_right (by decide)).mp (Nat.lt_of_le_of_lt a2 (by rw [hv]; exact b1))
  have p2 : k' < k + 1 := (Nat.pow_lt_pow_iff_right (by decide)).mp (Nat.lt_of_le_of_lt b2 (by rw [← hv]; exact a1))
  have hk : k = k' := by omega
  subst hk
  exact ⟨rfl, rfl, dv_inj h2 h2' hv⟩
