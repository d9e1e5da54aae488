/-! ShortestPrinter: its cells, its texts -/
abbrev SS : Type := Q2 × Q2 × Q2 × Q2 × Q2 × (Nat → Int32) × Int32 × Int32
abbrev wSS (cI cC : ClassId) (a : Nat → Nat) (q : SS) : va_W := wS cI cC a q.1 q.2.1 q.2.2.1 q.2.2.2.1 q.2.2.2.2.1 q.2.2.2.2.2.1 q.2.2.2.2.2.2.1 q.2.2.2.2.2.2.2
abbrev wP (cI cB cC : ClassId) (hp ht hl : Nat) (a : Nat → Nat) (f : Nat → Int32) (n : Nat) (q : SS) : va_W := (hp, .inr (3, [.ref ht, .ref (a 0)])) :: (wT cB ht hl f n ++ wSS cI cC a q)
def okS (q : SS) : Prop := okN q.1 ∧ okN q.2.1 ∧ okN q.2.2.1 ∧ okN q.2.2.2.1 ∧ okN q.2.2.2.2.1
theorem dgt_lt {g : Nat → Nat} {n : Nat} (h : ∀ j, j < n → g j < 10) (z : Int) : dgt g n z < 128 := by
  unfold dgt
  split
  · rename_i h1
    have := h z.toNat (by omega)
    omega
  · decide
theorem rng_1 (g : Int → Nat) (a : Int) (k : Nat) : rng g a k ++ [g (a + k)] = rng g a (k + 1) := rfl
theorem imax_n {n : Nat} {y : Int} (hn : n < 2 ^ 30) (h1 : -2 ^ 30 ≤ y) (h2 : y < 2 ^ 30) : (if nI n < iI y then iI y else nI n) = iI (max (n : Int) y) := by
  rw [← iI_nat]
  by_cases h : (n : Int) < y
  · rw [if_pos ((iI_lt (by omega) (by omega) (by omega) (by omega)).mpr h), show max (n : Int) y = y by omega]
  · rw [if_neg (fun h3 => h ((iI_lt (by omega) (by omega) (by omega) (by omega)).mp h3)), show max (n : Int) y = n by omega]
theorem imin0 {z : Int} (h1 : -2 ^ 30 ≤ z) (h2 : z < 2 ^ 30) : (if nI 0 < iI z then nI 0 else iI z) = iI (min z 0) := by
  rw [show nI 0 = iI 0 from rfl]
  by_cases h : 0 < z
  · rw [if_pos ((iI_lt (by decide) (by decide) (by omega) (by omega)).mpr h), show min z 0 = 0 by omega]
  · rw [if_neg (fun h3 => h ((iI_lt (by decide) (by decide) (by omega) (by omega)).mp h3)), show min z 0 = z by omega]
theorem dgt_congr {g g' : Nat → Nat} {n : Nat} (h : ∀ i, i < n → g i = g' i) : dgt g n = dgt g' n := by
  funext z
  unfold dgt
  split
  · rename_i h1
    rw [h z.toNat (by omega)]
  · rfl
theorem clsT_congr {g g' : Nat → Nat} {n : Nat} (h : ∀ i, i < n → g i = g' i) (z : Int) : clsT g n z = clsT g' n z := by
  unfold clsT
  rw [dgt_congr h]
theorem log_ex : ∀ (k c : Nat), 0 < c → c < 2 ^ k → ∃ B, B < k ∧ 2 ^ B ≤ c ∧ c < 2 ^ (B + 1)
  | 0, c, h0, h => by omega
  | k + 1, c, h0, h => by
    by_cases hc : c < 2 ^ k
    · obtain ⟨B, h1, h2, h3⟩ := log_ex k c h0 hc
      exact ⟨B, by omega, h2, h3⟩
    · exact ⟨k, by omega, by omega, h⟩
/-- the two kinds: bits of the fraction, least power + 1074, exponent of all ones -/
def Kd (fb lpn ones : Nat) : Prop := (fb = 52 ∧ lpn = 0 ∧ ones = 2047) ∨ (fb = 23 ∧ lpn = 925 ∧ ones = 255)
def cOf (fb ex fr : Nat) : Nat := if ex = 0 then fr else 2 ^ fb + fr
def qOf (lpn ex : Nat) : Nat := if ex = 0 then lpn else lpn + ex - 1
def clOf (ex fr : Nat) : Bool := decide (fr = 0 ∧ 1 < ex)
theorem find_pre {fb lpn ones ex fr : Nat} (hk : Kd fb lpn ones) (hf : fr < 2 ^ fb) (he : ex < ones) (h0 : ex = 0 → 0 < fr) : ∃ B, B ≤ 52 ∧ 2 ^ B ≤ cOf fb ex fr ∧ cOf fb ex fr < 2 ^ (B + 1) ∧ qOf lpn ex + B < 2098 ∧ (clOf ex fr = true → cOf fb ex fr ≤ 2 ^ 52) := by
  unfold cOf qOf clOf
  by_cases hx : ex = 0
  · rw [if_pos hx, if_pos hx]
    obtain ⟨B, h1, h2, h3⟩ := log_ex fb fr (h0 hx) hf
    exact ⟨B, by rcases hk with h | h <;> omega, h2, h3, by rcases hk with h | h <;> omega, fun h => by have := of_decide_eq_true h; omega⟩
  · rw [if_neg hx, if_neg hx]
    refine ⟨fb, by rcases hk with h | h <;> omega, by omega, by rw [Nat.pow_succ]; omega, by rcases hk with h | h <;> omega, fun h => ?_⟩
    have h1 := of_decide_eq_true h
    have h2 : 2 ^ fb ≤ 2 ^ 52 := Nat.pow_le_pow_right (by decide) (by rcases hk with h | h <;> omega)
    omega
def tNaN : Nat → Nat := fun j => [78, 97, 78].getD j 0
def tInf : Nat → Nat := fun j => [73, 110, 102, 105, 110, 105, 116, 121].getD j 0
def tZero : Nat → Nat := fun j => [48, 46, 48].getD j 0
/-- what is to be printed -/
def Out (fb lpn ones : Nat) (mi : Bool) (ex fr : Nat) (L : List Nat) : Prop :=
  (ex = ones ∧ ¬ fr = 0 ∧ L = pre tNaN 3) ∨ (ex = ones ∧ fr = 0 ∧ L = (if mi then [45] else []) ++ pre tInf 8) ∨ (¬ ex = ones ∧ ex = 0 ∧ fr = 0 ∧ L = (if mi then [45] else []) ++ pre tZero 3) ∨
  (¬ ex = ones ∧ ¬ (ex = 0 ∧ fr = 0) ∧ ∃ g n z, Dec (qOf lpn ex) (cOf fb ex fr) (clOf ex fr) g n z ∧ L = (if mi then [45] else []) ++ clsT g n z)
theorem Out.unique {fb lpn ones : Nat} {mi : Bool} {ex fr : Nat} {L L' : List Nat} (h : Out fb lpn ones mi ex fr L) (h' : Out fb lpn ones mi ex fr L') : L = L' := by
  rcases h with ⟨a, b, c⟩ | ⟨a, b, c⟩ | ⟨a, b, b2, c⟩ | ⟨a, b, g, n, z, d, c⟩ <;> rcases h' with ⟨a', b', c'⟩ | ⟨a', b', c'⟩ | ⟨a', b', b2', c'⟩ | ⟨a', b', g', n', z', d', c'⟩
  · rw [c, c']
  · exact absurd b' b
  · exact absurd a a'
  · exact absurd a a'
  · exact absurd b b'
  · rw [c, c']
  · exact absurd a a'
  · exact absurd a a'
  · exact absurd a' a
  · exact absurd a' a
  · rw [c, c']
  · exact absurd ⟨b, b2⟩ b'
  · exact absurd a' a
  · exact absurd a' a
  · exact absurd ⟨b', b2'⟩ b
  · obtain ⟨e1, e2, e3⟩ := d.unique d'
    subst e1; subst e2
    rw [c, c', clsT_congr e3]
theorem neg_l {b : Nat} (h : b < 2 ^ 64) : (lN 0 ≤ lN b) ↔ b < 2 ^ 63 := by
  rw [Int64.le_iff_toInt_le, pk_lT (by decide)]
  show ((0 : Nat) : Int) ≤ (BitVec.ofNat 64 b).toInt ↔ _
  rw [BitVec.toInt_eq_toNat_cond, BitVec.toNat_ofNat, Nat.mod_eq_of_lt h]
  split <;> omega
theorem neg_i {b : Nat} (h : b < 2 ^ 32) : ((0 : Int32) ≤ nI b) ↔ b < 2 ^ 31 := by
  rw [Int32.le_iff_toInt_le]
  show ((0 : Nat) : Int) ≤ (BitVec.ofNat 32 b).toInt ↔ _
  rw [BitVec.toInt_eq_toNat_cond, BitVec.toNat_ofNat, Nat.mod_eq_of_lt h]
  split <;> omega
theorem lor_1 {k a : Nat} (hk : k ≤ 60) (ha : a < 2 ^ k) : lN (2 ^ k) ||| lN a = lN (2 ^ k + a) := by
  have h := Nat.pow_le_pow_right (show 0 < 2 by decide) hk
  have := g_or (k := k) (p := 2 ^ k) (a := a) (b := 1) rfl ha (by omega)
  rw [Nat.one_mul] at this
  exact this
theorem word8_lt {L : List Nat} (h : ∀ x ∈ L, x < 128) (i : Nat) : ∀ k, word8 L i k < 256 ^ k
  | 0 => by show 0 < 1; decide
  | k + 1 => by
    have h1 := word8_lt h i k
    have h2 := getD_lt h (i + k)
    show word8 L i k * 256 + L.getD (i + k) 0 < 256 ^ (k + 1)
    rw [Nat.pow_succ]
    omega
